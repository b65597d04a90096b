/-! Printed by wip/whole/gen: what each method asks (p..), and its contract under that (k..). -/
def pX2_pieces (p0 : Int32) (S : gS) (Post : Int32 → Prop) : Prop :=
  Post 1
def rX2_pieces : Room := { frames := 0, cells := 0, slots := 0, locals := 0 }
set_option maxHeartbeats 40000000 in
set_option maxRecDepth 100000 in
theorem kX2_pieces (l : Launch) (X : xG) (S : gS) (sz : Nat) (p0 : Int32) (Post : Int32 → Prop) (hf : pX2_pieces p0 S Post) : xMi l yX2_pieces (Cond.code yX2_pieces cX2_pieces 2 (some .int) :: WS) rX2_pieces 34 X (cX X) (eX X) S sz [.ref (xa X 5), .int p0] (fun r S' => Post r ∧ S = S') := by
  refine xMi.of (cc := cX2_pieces) (maxL := 2) (own := RX2) (by decide) rfl rfl (Nat.le_of_ble_eq_true rfl) ?_
  intro p e s m args below meth c ls Q hC hQ hw hl
  obtain ⟨hx, hb, hml, hown, hts, hE, hi⟩ := id hC
  have hK := hE.1
  have hl : lv_has ls 2 [(0, .ref (xa X 5)), (1, .int p0)] := hl
  rw [pX2_pieces] at hf
  refine lv_iconst (v := 1) hx hb dX2_pieces_0 (by decide) ?_
  exact hQ _ _ _ _ _ _ rfl ⟨hf, rfl⟩ hw dX2_pieces_1
def pX2_place (p0 : Int32) (p1 : Int32) (S : gS) (Post : Int32 → Prop) : Prop :=
  Post (p0 - 1)
def rX2_place : Room := { frames := 0, cells := 0, slots := 0, locals := 0 }
set_option maxHeartbeats 40000000 in
set_option maxRecDepth 100000 in
theorem kX2_place (l : Launch) (X : xG) (S : gS) (sz : Nat) (p0 : Int32) (p1 : Int32) (Post : Int32 → Prop) (hf : pX2_place p0 p1 S Post) : xMi l yX2_place (Cond.code yX2_place cX2_place 3 (some .int) :: WS) rX2_place 34 X (cX X) (eX X) S sz [.ref (xa X 5), .int p0, .int p1] (fun r S' => Post r ∧ S = S') := by
  refine xMi.of (cc := cX2_place) (maxL := 3) (own := RX2) (by decide) rfl rfl (Nat.le_of_ble_eq_true rfl) ?_
  intro p e s m args below meth c ls Q hC hQ hw hl
  obtain ⟨hx, hb, hml, hown, hts, hE, hi⟩ := id hC
  have hK := hE.1
  have hl : lv_has ls 3 [(0, .ref (xa X 5)), (1, .int p0), (2, .int p1)] := hl
  rw [pX2_place] at hf
  refine lv_iload_n hx hb dX2_place_0 rfl (lv_at hl 1 rfl) ?_
  refine lv_iconst (v := 1) hx hb dX2_place_1 (by decide) ?_
  refine lv_isub hx hb dX2_place_2 ?_
  exact hQ _ _ _ _ _ _ rfl ⟨hf, rfl⟩ hw dX2_place_3
def pX2_part (p0 : Int32) (p1 : Int32) (S : gS) (Post : Int32 → Prop) : Prop :=
  Post 0
def rX2_part : Room := { frames := 0, cells := 0, slots := 0, locals := 0 }
set_option maxHeartbeats 40000000 in
set_option maxRecDepth 100000 in
theorem kX2_part (l : Launch) (X : xG) (S : gS) (sz : Nat) (p0 : Int32) (p1 : Int32) (Post : Int32 → Prop) (hf : pX2_part p0 p1 S Post) : xMi l yX2_part (Cond.code yX2_part cX2_part 3 (some .int) :: WS) rX2_part 34 X (cX X) (eX X) S sz [.ref (xa X 5), .int p0, .int p1] (fun r S' => Post r ∧ S = S') := by
  refine xMi.of (cc := cX2_part) (maxL := 3) (own := RX2) (by decide) rfl rfl (Nat.le_of_ble_eq_true rfl) ?_
  intro p e s m args below meth c ls Q hC hQ hw hl
  obtain ⟨hx, hb, hml, hown, hts, hE, hi⟩ := id hC
  have hK := hE.1
  have hl : lv_has ls 3 [(0, .ref (xa X 5)), (1, .int p0), (2, .int p1)] := hl
  rw [pX2_part] at hf
  refine lv_iconst (v := 0) hx hb dX2_part_0 (by decide) ?_
  exact hQ _ _ _ _ _ _ rfl ⟨hf, rfl⟩ hw dX2_part_1
def pX2_fits (p0 : Int32) (p1 : Int32) (S : gS) (Post : Int32 → Prop) : Prop :=
  Post 1
def rX2_fits : Room := { frames := 0, cells := 0, slots := 0, locals := 0 }
set_option maxHeartbeats 40000000 in
set_option maxRecDepth 100000 in
theorem kX2_fits (l : Launch) (X : xG) (S : gS) (sz : Nat) (p0 : Int32) (p1 : Int32) (Post : Int32 → Prop) (hf : pX2_fits p0 p1 S Post) : xMi l yX2_fits (Cond.code yX2_fits cX2_fits 3 (some .boolean) :: WS) rX2_fits 34 X (cX X) (eX X) S sz [.ref (xa X 5), .int p0, .int p1] (fun r S' => Post r ∧ S = S') := by
  refine xMi.of (cc := cX2_fits) (maxL := 3) (own := RX2) (by decide) rfl rfl (Nat.le_of_ble_eq_true rfl) ?_
  intro p e s m args below meth c ls Q hC hQ hw hl
  obtain ⟨hx, hb, hml, hown, hts, hE, hi⟩ := id hC
  have hK := hE.1
  have hl : lv_has ls 3 [(0, .ref (xa X 5)), (1, .int p0), (2, .int p1)] := hl
  rw [pX2_fits] at hf
  refine lv_iconst (v := 1) hx hb dX2_fits_0 (by decide) ?_
  exact hQ _ _ _ _ _ _ rfl ⟨hf, rfl⟩ hw dX2_fits_1
def pX4_pieces (p0 : Int32) (S : gS) (Post : Int32 → Prop) : Prop :=
  Post (((gI S 5) - p0) + 1)
def rX4_pieces : Room := { frames := 0, cells := 0, slots := 0, locals := 0 }
set_option maxHeartbeats 40000000 in
set_option maxRecDepth 100000 in
theorem kX4_pieces (l : Launch) (X : xG) (S : gS) (sz : Nat) (p0 : Int32) (Post : Int32 → Prop) (hf : pX4_pieces p0 S Post) : xMi l yX4_pieces (Cond.code yX4_pieces cX4_pieces 2 (some .int) :: WS) rX4_pieces 34 X (cX X) (eX X) S sz [.ref (xa X 6), .int p0] (fun r S' => Post r ∧ S = S') := by
  refine xMi.of (cc := cX4_pieces) (maxL := 2) (own := RX4) (by decide) rfl rfl (Nat.le_of_ble_eq_true rfl) ?_
  intro p e s m args below meth c ls Q hC hQ hw hl
  obtain ⟨hx, hb, hml, hown, hts, hE, hi⟩ := id hC
  have hK := hE.1
  have hl : lv_has ls 2 [(0, .ref (xa X 6)), (1, .int p0)] := hl
  have lf_9 : (Cond.fieldLink RX4 9 "GrammarAmbiguity$SpanCounts" "word" "LGrammarAmbiguity$Word;").before args s = true := hts _ q_74
  have lf_15 : va_Nw (.fieldLinkNest RX4 15 "GrammarAmbiguity$Word" "length" "I" "GrammarAmbiguity") s := hE.2.1 _ (by decide +kernel)
  rw [pX4_pieces] at hf
  refine lv_aload_n hx hb dX4_pieces_0 rfl (lv_at hl 0 rfl) ?_
  refine x_get (k := 6) (v := .ref (xa X 2)) hx hb hts i_X4 hown hK hw (by decide) rfl rfl 3 (by decide) lf_9 (fun _ h9 => h9) rfl dX4_pieces_1 ?_
  refine x_getN (k := 2) (v := .int (gI S 5)) hx hb hts i_X6 hown hK hw (by decide) rfl rfl 0 (by decide) lf_15 (fun _ h9 => h9) rfl dX4_pieces_4 ?_
  refine lv_iload_n hx hb dX4_pieces_7 rfl (lv_at hl 1 rfl) ?_
  refine lv_isub hx hb dX4_pieces_8 ?_
  refine lv_iconst (v := 1) hx hb dX4_pieces_9 (by decide) ?_
  refine lv_iadd hx hb dX4_pieces_10 ?_
  exact hQ _ _ _ _ _ _ rfl ⟨hf, rfl⟩ hw dX4_pieces_11
def pX4_place (p0 : Int32) (p1 : Int32) (S : gS) (Post : Int32 → Prop) : Prop :=
  Post (((p0 - 1) * 8) + p1)
def rX4_place : Room := { frames := 0, cells := 0, slots := 0, locals := 0 }
set_option maxHeartbeats 40000000 in
set_option maxRecDepth 100000 in
theorem kX4_place (l : Launch) (X : xG) (S : gS) (sz : Nat) (p0 : Int32) (p1 : Int32) (Post : Int32 → Prop) (hf : pX4_place p0 p1 S Post) : xMi l yX4_place (Cond.code yX4_place cX4_place 3 (some .int) :: WS) rX4_place 34 X (cX X) (eX X) S sz [.ref (xa X 6), .int p0, .int p1] (fun r S' => Post r ∧ S = S') := by
  refine xMi.of (cc := cX4_place) (maxL := 3) (own := RX4) (by decide) rfl rfl (Nat.le_of_ble_eq_true rfl) ?_
  intro p e s m args below meth c ls Q hC hQ hw hl
  obtain ⟨hx, hb, hml, hown, hts, hE, hi⟩ := id hC
  have hK := hE.1
  have hl : lv_has ls 3 [(0, .ref (xa X 6)), (1, .int p0), (2, .int p1)] := hl
  rw [pX4_place] at hf
  refine lv_iload_n hx hb dX4_place_0 rfl (lv_at hl 1 rfl) ?_
  refine lv_iconst (v := 1) hx hb dX4_place_1 (by decide) ?_
  refine lv_isub hx hb dX4_place_2 ?_
  refine lv_bipush (v := 8) hx hb dX4_place_3 (by decide) ?_
  refine lv_imul hx hb dX4_place_5 ?_
  refine lv_iload_n hx hb dX4_place_6 rfl (lv_at hl 2 rfl) ?_
  refine lv_iadd hx hb dX4_place_7 ?_
  exact hQ _ _ _ _ _ _ rfl ⟨hf, rfl⟩ hw dX4_place_8
def pX4_part (p0 : Int32) (p1 : Int32) (S : gS) (Post : Int32 → Prop) : Prop :=
  Post (p0 + p1)
def rX4_part : Room := { frames := 0, cells := 0, slots := 0, locals := 0 }
set_option maxHeartbeats 40000000 in
set_option maxRecDepth 100000 in
theorem kX4_part (l : Launch) (X : xG) (S : gS) (sz : Nat) (p0 : Int32) (p1 : Int32) (Post : Int32 → Prop) (hf : pX4_part p0 p1 S Post) : xMi l yX4_part (Cond.code yX4_part cX4_part 3 (some .int) :: WS) rX4_part 34 X (cX X) (eX X) S sz [.ref (xa X 6), .int p0, .int p1] (fun r S' => Post r ∧ S = S') := by
  refine xMi.of (cc := cX4_part) (maxL := 3) (own := RX4) (by decide) rfl rfl (Nat.le_of_ble_eq_true rfl) ?_
  intro p e s m args below meth c ls Q hC hQ hw hl
  obtain ⟨hx, hb, hml, hown, hts, hE, hi⟩ := id hC
  have hK := hE.1
  have hl : lv_has ls 3 [(0, .ref (xa X 6)), (1, .int p0), (2, .int p1)] := hl
  rw [pX4_part] at hf
  refine lv_iload_n hx hb dX4_part_0 rfl (lv_at hl 1 rfl) ?_
  refine lv_iload_n hx hb dX4_part_1 rfl (lv_at hl 2 rfl) ?_
  refine lv_iadd hx hb dX4_part_2 ?_
  exact hQ _ _ _ _ _ _ rfl ⟨hf, rfl⟩ hw dX4_part_3
def pX4_fits (p0 : Int32) (p1 : Int32) (S : gS) (Post : Int32 → Prop) : Prop :=
  ((p0 < 0 → Post 0) ∧ (¬ p0 < 0 → ((8 ≤ p0 → Post 0) ∧ (¬ 8 ≤ p0 → (vp_in p0 8 ∧ ((¬ (gA S 13 p0.toNatClampNeg) = p1 → Post 0) ∧ ((gA S 13 p0.toNatClampNeg) = p1 → Post 1)))))))
def rX4_fits : Room := { frames := 0, cells := 0, slots := 0, locals := 0 }
set_option maxHeartbeats 40000000 in
set_option maxRecDepth 100000 in
theorem kX4_fits (l : Launch) (X : xG) (S : gS) (sz : Nat) (p0 : Int32) (p1 : Int32) (Post : Int32 → Prop) (hf : pX4_fits p0 p1 S Post) : xMi l yX4_fits (Cond.code yX4_fits cX4_fits 3 (some .boolean) :: WS) rX4_fits 34 X (cX X) (eX X) S sz [.ref (xa X 6), .int p0, .int p1] (fun r S' => Post r ∧ S = S') := by
  refine xMi.of (cc := cX4_fits) (maxL := 3) (own := RX4) (by decide) rfl rfl (Nat.le_of_ble_eq_true rfl) ?_
  intro p e s m args below meth c ls Q hC hQ hw hl
  obtain ⟨hx, hb, hml, hown, hts, hE, hi⟩ := id hC
  have hK := hE.1
  have hl : lv_has ls 3 [(0, .ref (xa X 6)), (1, .int p0), (2, .int p1)] := hl
  have lf_9 : (Cond.fieldLink RX4 9 "GrammarAmbiguity$SpanCounts" "word" "LGrammarAmbiguity$Word;").before args s = true := hts _ q_74
  have lf_21 : va_Nw (.fieldLinkNest RX4 21 "GrammarAmbiguity$Word" "letters" "[I" "GrammarAmbiguity") s := hE.2.1 _ (by decide +kernel)
  rw [pX4_fits] at hf
  refine lv_iload_n hx hb dX4_fits_0 rfl (lv_at hl 1 rfl) ?_
  refine lv_if_lt (tgt := 27) hx hb dX4_fits_1 (by decide) (fun c_1 => ?_) (fun c_1 => ?_)
  · replace hf := hf.1 c_1
    refine lv_iconst (v := 0) hx hb dX4_fits_27 (by decide) ?_
    exact hQ _ _ _ _ _ _ rfl ⟨hf, rfl⟩ hw dX4_fits_28
  · replace hf := hf.2 c_1
    refine lv_iload_n hx hb dX4_fits_4 rfl (lv_at hl 1 rfl) ?_
    refine lv_bipush (v := 8) hx hb dX4_fits_5 (by decide) ?_
    refine lv_icmp_ge (tgt := 27) hx hb dX4_fits_7 (by decide) (fun c_2 => ?_) (fun c_2 => ?_)
    · replace hf := hf.1 c_2
      refine lv_iconst (v := 0) hx hb dX4_fits_27 (by decide) ?_
      exact hQ _ _ _ _ _ _ rfl ⟨hf, rfl⟩ hw dX4_fits_28
    · replace hf := hf.2 c_2
      refine lv_aload_n hx hb dX4_fits_10 rfl (lv_at hl 0 rfl) ?_
      refine x_get (k := 6) (v := .ref (xa X 2)) hx hb hts i_X4 hown hK hw (by decide) rfl rfl 3 (by decide) lf_9 (fun _ h9 => h9) rfl dX4_fits_11 ?_
      refine x_getN (k := 2) (v := .ref (xa X 13)) hx hb hts i_X6 hown hK hw (by decide) rfl rfl 1 (by decide) lf_21 (fun _ h9 => h9) rfl dX4_fits_14 ?_
      refine lv_iload_n hx hb dX4_fits_17 rfl (lv_at hl 1 rfl) ?_
      refine x_ild (n := 8) hx hb hK hw (by decide) rfl rfl hf.1 dX4_fits_18 ?_
      replace hf := hf.2
      refine lv_iload_n hx hb dX4_fits_19 rfl (lv_at hl 2 rfl) ?_
      refine lv_icmp_ne (tgt := 27) hx hb dX4_fits_20 (by decide) (fun c_3 => ?_) (fun c_3 => ?_)
      · replace hf := hf.1 c_3
        refine lv_iconst (v := 0) hx hb dX4_fits_27 (by decide) ?_
        exact hQ _ _ _ _ _ _ rfl ⟨hf, rfl⟩ hw dX4_fits_28
      · replace hf := hf.2 c_3
        refine lv_iconst (v := 1) hx hb dX4_fits_23 (by decide) ?_
        refine lv_goto (tgt := 28) hx hb dX4_fits_24 (by decide) ?_
        exact hQ _ _ _ _ _ _ rfl ⟨hf, rfl⟩ hw dX4_fits_28
def pX0_forget_5 (S : gS) (Post : gS → Prop) : Prop :=
  (∀ S_1 : gS, S_1 = uI S 11 0 → Post S_1)
def rX0_forget_5 : Room := { frames := 0, cells := 0, slots := 0, locals := 0 }
set_option maxHeartbeats 40000000 in
set_option maxRecDepth 100000 in
theorem kX0_forget_5 (l : Launch) (X : xG) (S : gS) (sz : Nat) (Post : gS → Prop) (hf : pX0_forget_5 S Post) : xMv l yX0_forget (Cond.code yX0_forget cX0_forget 1 none :: WS) rX0_forget_5 34 X (cX X) (eX X) S sz [.ref (xa X 5)] Post := by
  refine xMv.of (cc := cX0_forget) (maxL := 1) (own := RX0) (by decide) rfl rfl (Nat.le_of_ble_eq_true rfl) ?_
  intro p e s m args below meth c ls Q hC hQ hw hl
  obtain ⟨hx, hb, hml, hown, hts, hE, hi⟩ := id hC
  have hK := hE.1
  have hl : lv_has ls 1 [(0, .ref (xa X 5))] := hl
  have lf_19 : (Cond.fieldLink RX0 19 "GrammarAmbiguity$Counts" "filled" "I").before args s = true := hts _ q_71
  rw [pX0_forget_5] at hf
  refine lv_aload_n hx hb dX0_forget_0 rfl (lv_at hl 0 rfl) ?_
  refine lv_iconst (v := 0) hx hb dX0_forget_1 (by decide) ?_
  refine x_put (k := 5) (S' := uI S 11 0) (ty := .int) hx hb hts i_X2 tyX2_ok nmX2 hown hK hw (by decide) rfl rfl 2 (by decide) lf_19 (fun _ h9 => h9) rfl (by decide +kernel) rfl rfl (Nat.le_of_ble_eq_true rfl) dX0_forget_2 (uX_I11 X S _) (fun H locs hw => ?_)
  obtain ⟨S_1, eS_1⟩ : ∃ z : gS, z = uI S 11 0 := ⟨_, rfl⟩
  rw [← eS_1] at hw
  replace hf := hf S_1 eS_1
  exact hQ _ _ _ _ _ hf hw dX0_forget_5
def pX0_put_5 (p0 : Int32) (p1 : Int32) (p2 : Int32) (p3 : Int64) (S : gS) (Post : gS → Prop) : Prop :=
  (pX2_place p1 p2 S (fun r_1 => (∀ x6_3 : Int32, x6_3 = ((r_1 * 6) + p0) → ((x6_3 < 0 → Post S) ∧ (¬ x6_3 < 0 → ((60 ≤ x6_3 → Post S) ∧ (¬ 60 ≤ x6_3 → (vp_in x6_3 60 ∧ (∀ S_6 : gS, S_6 = uB S 18 x6_3.toNatClampNeg p3 → Post S_6)))))))))
def rX0_put_5 : Room := { frames := 1, cells := 0, slots := 0, locals := 22 }
set_option maxHeartbeats 40000000 in
set_option maxRecDepth 100000 in
theorem kX0_put_5 (l : Launch) (X : xG) (S : gS) (sz : Nat) (p0 : Int32) (p1 : Int32) (p2 : Int32) (p3 : Int64) (Post : gS → Prop) (hf : pX0_put_5 p0 p1 p2 p3 S Post) : xMv l yX0_put (Cond.code yX0_put cX0_put 7 none :: WS) rX0_put_5 34 X (cX X) (eX X) S sz [.ref (xa X 5), .int p0, .int p1, .int p2, .long p3] Post := by
  refine xMv.of (cc := cX0_put) (maxL := 7) (own := RX0) (by decide) rfl rfl (Nat.le_of_ble_eq_true rfl) ?_
  intro p e s m args below meth c ls Q hC hQ hw hl
  obtain ⟨hx, hb, hml, hown, hts, hE, hi⟩ := id hC
  have hK := hE.1
  have hl : lv_has ls 7 [(0, .ref (xa X 5)), (1, .int p0), (2, .int p1), (3, .int p2), (4, .long p3)] := hl
  have lz_place : va_Nw (.declares ⟨"GrammarAmbiguity$Counts", "place", "(II)I"⟩) s := hE.2.1 _ (by decide +kernel)
  have lf_15 : (Cond.fieldLink RX0 15 "GrammarAmbiguity$Counts" "rows" "[J").before args s = true := hts _ q_70
  rw [pX0_put_5] at hf
  refine lv_aload_n hx hb dX0_put_0 rfl (lv_at hl 0 rfl) ?_
  refine lv_iload_n hx hb dX0_put_1 rfl (lv_at hl 2 rfl) ?_
  refine lv_iload_n hx hb dX0_put_2 rfl (lv_at hl 3 rfl) ?_
  refine x_ci (x_rU (As := [.int p1, .int p2]) (rest := []) (okX X) hC hw (kX2_place l X S _ p1 p2 _ hf) (va_cwA 2 hts (gU (owner := "GrammarAmbiguity$Counts") (x := ⟨"GrammarAmbiguity$Counts", "place", "(II)I"⟩) q_451 q_452 q_453 q_454 q_27 q_455) rfl rfl rfl lz_place (by decide +kernel) ⟨Nat.le_of_ble_eq_true rfl, Nat.le_of_ble_eq_true rfl⟩) (x_recv hK hw (k := 5) (by decide) rfl rfl) rfl hl.1 rfl (Nat.le_of_ble_eq_true rfl) dX0_put_3) hw hi (fun r_1 S_2 H locs hf hw => ?_)
  obtain ⟨hf, rfl⟩ := hf
  refine lv_bipush (v := 6) hx hb dX0_put_6 (by decide) ?_
  refine lv_imul hx hb dX0_put_8 ?_
  refine lv_iload_n hx hb dX0_put_9 rfl (lv_at hl 1 rfl) ?_
  refine lv_iadd hx hb dX0_put_10 ?_
  refine lv_topi (fun x6_3 ex6_3 => ?_)
  replace hf := hf x6_3 ex6_3
  refine lv_istore (lv' := [(6, .int x6_3), (0, .ref (xa X 5)), (1, .int p0), (2, .int p1), (3, .int p2), (4, .long p3)]) hx hb dX0_put_11 hl (by decide) rfl (fun ls hl => ?_)
  refine lv_iload hx hb dX0_put_13 (lv_at hl 0 rfl) ?_
  refine lv_if_lt (tgt := 37) hx hb dX0_put_15 (by decide) (fun c_4 => ?_) (fun c_4 => ?_)
  · replace hf := hf.1 c_4
    exact hQ _ _ _ _ _ hf hw dX0_put_37
  · replace hf := hf.2 c_4
    refine lv_iload hx hb dX0_put_18 (lv_at hl 0 rfl) ?_
    refine lv_aload_n hx hb dX0_put_20 rfl (lv_at hl 1 rfl) ?_
    refine x_get (k := 5) (v := .ref (xa X 18)) hx hb hts i_X2 hown hK hw (by decide) rfl rfl 1 (by decide) lf_15 (fun _ h9 => h9) rfl dX0_put_21 ?_
    refine x_len (v := 60) hx hb hK hw (by decide) rfl 1 rfl rfl dX0_put_24 ?_
    refine lv_icmp_ge (tgt := 37) hx hb dX0_put_25 (by decide) (fun c_5 => ?_) (fun c_5 => ?_)
    · replace hf := hf.1 c_5
      exact hQ _ _ _ _ _ hf hw dX0_put_37
    · replace hf := hf.2 c_5
      refine lv_aload_n hx hb dX0_put_28 rfl (lv_at hl 1 rfl) ?_
      refine x_get (k := 5) (v := .ref (xa X 18)) hx hb hts i_X2 hown hK hw (by decide) rfl rfl 1 (by decide) lf_15 (fun _ h9 => h9) rfl dX0_put_29 ?_
      refine lv_iload hx hb dX0_put_32 (lv_at hl 0 rfl) ?_
      refine lv_lload hx hb dX0_put_34 (lv_at hl 5 rfl) ?_
      refine x_lst (n := 60) hx hb hK hw (by decide) rfl rfl hf.1 dX0_put_36 (uX_A18 X S _ _) (fun H locs hw => ?_)
      replace hf := hf.2
      obtain ⟨S_6, eS_6⟩ : ∃ z : gS, z = uB S 18 x6_3.toNatClampNeg p3 := ⟨_, rfl⟩
      rw [← eS_6] at hw
      replace hf := hf S_6 eS_6
      exact hQ _ _ _ _ _ hf hw dX0_put_37
def pX0_count_5 (p0 : Int32) (p1 : Int32) (p2 : Int32) (S : gS) (Post : Int64 → Prop) : Prop :=
  ((¬ p0 = (-1) → ((1 ≤ p1 → ((p0 < 10 → (pX2_place p1 p2 S (fun r_4 => (∀ x4_6 : Int32, x4_6 = ((r_4 * 6) + p0) → ((x4_6 < 0 → Post 0) ∧ (¬ x4_6 < 0 → ((60 ≤ x4_6 → Post 0) ∧ (¬ 60 ≤ x4_6 → (vp_in x4_6 60 ∧ Post (gB S 18 x4_6.toNatClampNeg)))))))))) ∧ (¬ p0 < 10 → ((¬ p1 = 1 → Post 0) ∧ (p1 = 1 → (pX2_fits p2 (p0 - 10) S (fun r_10 => ((r_10 = 0 → Post 0) ∧ (¬ r_10 = 0 → Post 1))))))))) ∧ (¬ 1 ≤ p1 → Post 0))) ∧ (p0 = (-1) → ((¬ p1 = 0 → Post 0) ∧ (p1 = 0 → Post 1))))
def rX0_count_5 : Room := { frames := 1, cells := 0, slots := 0, locals := 22 }
set_option maxHeartbeats 40000000 in
set_option maxRecDepth 100000 in
theorem kX0_count_5 (l : Launch) (X : xG) (S : gS) (sz : Nat) (p0 : Int32) (p1 : Int32) (p2 : Int32) (Post : Int64 → Prop) (hf : pX0_count_5 p0 p1 p2 S Post) : xMl l yX0_count (Cond.code yX0_count cX0_count 5 (some .long) :: WS) rX0_count_5 34 X (cX X) (eX X) S sz [.ref (xa X 5), .int p0, .int p1, .int p2] (fun r S' => Post r ∧ S = S') := by
  refine xMl.of (cc := cX0_count) (maxL := 5) (own := RX0) (by decide) rfl rfl (Nat.le_of_ble_eq_true rfl) ?_
  intro p e s m args below meth c ls Q hC hQ hw hl
  obtain ⟨hx, hb, hml, hown, hts, hE, hi⟩ := id hC
  have hK := hE.1
  have hl : lv_has ls 5 [(0, .ref (xa X 5)), (1, .int p0), (2, .int p1), (3, .int p2)] := hl
  have lz_place : va_Nw (.declares ⟨"GrammarAmbiguity$Counts", "place", "(II)I"⟩) s := hE.2.1 _ (by decide +kernel)
  have lf_15 : (Cond.fieldLink RX0 15 "GrammarAmbiguity$Counts" "rows" "[J").before args s = true := hts _ q_70
  have lz_fits : va_Nw (.declares ⟨"GrammarAmbiguity$Counts", "fits", "(II)Z"⟩) s := hE.2.1 _ (by decide +kernel)
  rw [pX0_count_5] at hf
  refine lv_iload_n hx hb dX0_count_0 rfl (lv_at hl 1 rfl) ?_
  refine lv_iconst (v := (-1)) hx hb dX0_count_1 (by decide) ?_
  refine lv_icmp_ne (tgt := 15) hx hb dX0_count_2 (by decide) (fun c_1 => ?_) (fun c_1 => ?_)
  · replace hf := hf.1 c_1
    refine lv_iload_n hx hb dX0_count_15 rfl (lv_at hl 2 rfl) ?_
    refine lv_iconst (v := 1) hx hb dX0_count_16 (by decide) ?_
    refine lv_icmp_ge (tgt := 22) hx hb dX0_count_17 (by decide) (fun c_2 => ?_) (fun c_2 => ?_)
    · replace hf := hf.1 c_2
      refine lv_iload_n hx hb dX0_count_22 rfl (lv_at hl 1 rfl) ?_
      refine lv_bipush (v := 10) hx hb dX0_count_23 (by decide) ?_
      refine lv_icmp_lt (tgt := 51) hx hb dX0_count_25 (by decide) (fun c_3 => ?_) (fun c_3 => ?_)
      · replace hf := hf.1 c_3
        refine lv_aload_n hx hb dX0_count_51 rfl (lv_at hl 0 rfl) ?_
        refine lv_iload_n hx hb dX0_count_52 rfl (lv_at hl 2 rfl) ?_
        refine lv_iload_n hx hb dX0_count_53 rfl (lv_at hl 3 rfl) ?_
        refine x_ci (x_rU (As := [.int p1, .int p2]) (rest := []) (okX X) hC hw (kX2_place l X S _ p1 p2 _ hf) (va_cwA 2 hts (gU (owner := "GrammarAmbiguity$Counts") (x := ⟨"GrammarAmbiguity$Counts", "place", "(II)I"⟩) q_451 q_452 q_453 q_454 q_27 q_455) rfl rfl rfl lz_place (by decide +kernel) ⟨Nat.le_of_ble_eq_true rfl, Nat.le_of_ble_eq_true rfl⟩) (x_recv hK hw (k := 5) (by decide) rfl rfl) rfl hl.1 rfl (Nat.le_of_ble_eq_true rfl) dX0_count_54) hw hi (fun r_4 S_5 H locs hf hw => ?_)
        obtain ⟨hf, rfl⟩ := hf
        refine lv_bipush (v := 6) hx hb dX0_count_57 (by decide) ?_
        refine lv_imul hx hb dX0_count_59 ?_
        refine lv_iload_n hx hb dX0_count_60 rfl (lv_at hl 1 rfl) ?_
        refine lv_iadd hx hb dX0_count_61 ?_
        refine lv_topi (fun x4_6 ex4_6 => ?_)
        replace hf := hf x4_6 ex4_6
        refine lv_istore (lv' := [(4, .int x4_6), (0, .ref (xa X 5)), (1, .int p0), (2, .int p1), (3, .int p2)]) hx hb dX0_count_62 hl (by decide) rfl (fun ls hl => ?_)
        refine lv_iload hx hb dX0_count_64 (lv_at hl 0 rfl) ?_
        refine lv_if_lt (tgt := 89) hx hb dX0_count_66 (by decide) (fun c_7 => ?_) (fun c_7 => ?_)
        · replace hf := hf.1 c_7
          refine lv_lconst (v := 0) hx hb dX0_count_89 (by decide) ?_
          exact hQ _ _ _ _ _ _ ⟨hf, rfl⟩ hw dX0_count_90
        · replace hf := hf.2 c_7
          refine lv_iload hx hb dX0_count_69 (lv_at hl 0 rfl) ?_
          refine lv_aload_n hx hb dX0_count_71 rfl (lv_at hl 1 rfl) ?_
          refine x_get (k := 5) (v := .ref (xa X 18)) hx hb hts i_X2 hown hK hw (by decide) rfl rfl 1 (by decide) lf_15 (fun _ h9 => h9) rfl dX0_count_72 ?_
          refine x_len (v := 60) hx hb hK hw (by decide) rfl 1 rfl rfl dX0_count_75 ?_
          refine lv_icmp_ge (tgt := 89) hx hb dX0_count_76 (by decide) (fun c_8 => ?_) (fun c_8 => ?_)
          · replace hf := hf.1 c_8
            refine lv_lconst (v := 0) hx hb dX0_count_89 (by decide) ?_
            exact hQ _ _ _ _ _ _ ⟨hf, rfl⟩ hw dX0_count_90
          · replace hf := hf.2 c_8
            refine lv_aload_n hx hb dX0_count_79 rfl (lv_at hl 1 rfl) ?_
            refine x_get (k := 5) (v := .ref (xa X 18)) hx hb hts i_X2 hown hK hw (by decide) rfl rfl 1 (by decide) lf_15 (fun _ h9 => h9) rfl dX0_count_80 ?_
            refine lv_iload hx hb dX0_count_83 (lv_at hl 0 rfl) ?_
            refine x_lld (n := 60) hx hb hK hw (by decide) rfl rfl hf.1 dX0_count_85 ?_
            replace hf := hf.2
            refine lv_goto (tgt := 90) hx hb dX0_count_86 (by decide) ?_
            exact hQ _ _ _ _ _ _ ⟨hf, rfl⟩ hw dX0_count_90
      · replace hf := hf.2 c_3
        refine lv_iload_n hx hb dX0_count_28 rfl (lv_at hl 2 rfl) ?_
        refine lv_iconst (v := 1) hx hb dX0_count_29 (by decide) ?_
        refine lv_icmp_ne (tgt := 49) hx hb dX0_count_30 (by decide) (fun c_9 => ?_) (fun c_9 => ?_)
        · replace hf := hf.1 c_9
          refine lv_lconst (v := 0) hx hb dX0_count_49 (by decide) ?_
          exact hQ _ _ _ _ _ _ ⟨hf, rfl⟩ hw dX0_count_50
        · replace hf := hf.2 c_9
          refine lv_aload_n hx hb dX0_count_33 rfl (lv_at hl 0 rfl) ?_
          refine lv_iload_n hx hb dX0_count_34 rfl (lv_at hl 3 rfl) ?_
          refine lv_iload_n hx hb dX0_count_35 rfl (lv_at hl 1 rfl) ?_
          refine lv_bipush (v := 10) hx hb dX0_count_36 (by decide) ?_
          refine lv_isub hx hb dX0_count_38 ?_
          refine x_ci (x_rU (As := [.int p2, .int (p0 - 10)]) (rest := []) (okX X) hC hw (kX2_fits l X S _ p2 (p0 - 10) _ hf) (va_cwA 2 hts (gU (owner := "GrammarAmbiguity$Counts") (x := ⟨"GrammarAmbiguity$Counts", "fits", "(II)Z"⟩) q_443 q_444 q_445 q_446 q_27 q_447) rfl rfl rfl lz_fits (by decide +kernel) ⟨Nat.le_of_ble_eq_true rfl, Nat.le_of_ble_eq_true rfl⟩) (x_recv hK hw (k := 5) (by decide) rfl rfl) rfl hl.1 rfl (Nat.le_of_ble_eq_true rfl) dX0_count_39) hw hi (fun r_10 S_11 H locs hf hw => ?_)
          obtain ⟨hf, rfl⟩ := hf
          refine lv_if_eq (tgt := 49) hx hb dX0_count_42 (by decide) (fun c_12 => ?_) (fun c_12 => ?_)
          · replace hf := hf.1 c_12
            refine lv_lconst (v := 0) hx hb dX0_count_49 (by decide) ?_
            exact hQ _ _ _ _ _ _ ⟨hf, rfl⟩ hw dX0_count_50
          · replace hf := hf.2 c_12
            refine lv_lconst (v := 1) hx hb dX0_count_45 (by decide) ?_
            refine lv_goto (tgt := 50) hx hb dX0_count_46 (by decide) ?_
            exact hQ _ _ _ _ _ _ ⟨hf, rfl⟩ hw dX0_count_50
    · replace hf := hf.2 c_2
      refine lv_lconst (v := 0) hx hb dX0_count_20 (by decide) ?_
      exact hQ _ _ _ _ _ _ ⟨hf, rfl⟩ hw dX0_count_21
  · replace hf := hf.2 c_1
    refine lv_iload_n hx hb dX0_count_5 rfl (lv_at hl 2 rfl) ?_
    refine lv_if_ne (tgt := 13) hx hb dX0_count_6 (by decide) (fun c_13 => ?_) (fun c_13 => ?_)
    · replace hf := hf.1 c_13
      refine lv_lconst (v := 0) hx hb dX0_count_13 (by decide) ?_
      exact hQ _ _ _ _ _ _ ⟨hf, rfl⟩ hw dX0_count_14
    · replace hf := hf.2 c_13
      refine lv_lconst (v := 1) hx hb dX0_count_9 (by decide) ?_
      refine lv_goto (tgt := 14) hx hb dX0_count_10 (by decide) ?_
      exact hQ _ _ _ _ _ _ ⟨hf, rfl⟩ hw dX0_count_14
def pX0_tailsOf_5 (p0 : Int32) (p1 : Int32) (p2 : Int32) (p3 : Int32) (p4 : Int32) (S : gS) (Post : Int64 → Prop) : Prop :=
  (pX1_symbol p0 2 S (fun r_1 => (pX2_part p2 p3 S (fun r_3 => (pX0_count_5 r_1 p4 r_3 S (fun r_5 => ((¬ (lg_cmp r_5 0) = 0 → (∀ x8_8 : Int32, x8_8 = (p3 + p4) → (pX1_symbol p0 3 S (fun r_9 => (pX2_part p2 x8_8 S (fun r_11 => (pX0_count_5 r_9 (p1 - x8_8) r_11 S (fun r_13 => Post (r_5 * r_13))))))))) ∧ ((lg_cmp r_5 0) = 0 → Post 0))))))))
def rX0_tailsOf_5 : Room := { frames := 2, cells := 0, slots := 0, locals := 46 }
set_option maxHeartbeats 40000000 in
set_option maxRecDepth 100000 in
theorem kX0_tailsOf_5 (l : Launch) (X : xG) (S : gS) (sz : Nat) (p0 : Int32) (p1 : Int32) (p2 : Int32) (p3 : Int32) (p4 : Int32) (Post : Int64 → Prop) (hf : pX0_tailsOf_5 p0 p1 p2 p3 p4 S Post) : xMl l yX0_tailsOf (Cond.code yX0_tailsOf cX0_tailsOf 9 (some .long) :: WS) rX0_tailsOf_5 34 X (cX X) (eX X) S sz [.ref (xa X 5), .int p0, .int p1, .int p2, .int p3, .int p4] (fun r S' => Post r ∧ S = S') := by
  refine xMl.of (cc := cX0_tailsOf) (maxL := 9) (own := RX0) (by decide) rfl rfl (Nat.le_of_ble_eq_true rfl) ?_
  intro p e s m args below meth c ls Q hC hQ hw hl
  obtain ⟨hx, hb, hml, hown, hts, hE, hi⟩ := id hC
  have hK := hE.1
  have hl : lv_has ls 9 [(0, .ref (xa X 5)), (1, .int p0), (2, .int p1), (3, .int p2), (4, .int p3), (5, .int p4)] := hl
  have lf_9 : (Cond.fieldLink RX0 9 "GrammarAmbiguity$Counts" "grammar" "LGrammarAmbiguity$Grammar;").before args s = true := hts _ q_69
  have ln_56 : va_Nw (.methodLinkNest RX0 56 yX1_symbol "GrammarAmbiguity") s := hE.2.1 _ (by decide +kernel)
  have lz_part : va_Nw (.declares ⟨"GrammarAmbiguity$Counts", "part", "(II)I"⟩) s := hE.2.1 _ (by decide +kernel)
  rw [pX0_tailsOf_5] at hf
  refine lv_aload_n hx hb dX0_tailsOf_0 rfl (lv_at hl 0 rfl) ?_
  refine lv_aload_n hx hb dX0_tailsOf_1 rfl (lv_at hl 0 rfl) ?_
  refine x_get (k := 5) (v := .ref (xa X 1)) hx hb hts i_X2 hown hK hw (by decide) rfl rfl 0 (by decide) lf_9 (fun _ h9 => h9) rfl dX0_tailsOf_2 ?_
  refine lv_iload_n hx hb dX0_tailsOf_5 rfl (lv_at hl 1 rfl) ?_
  refine lv_iconst (v := 2) hx hb dX0_tailsOf_6 (by decide) ?_
  refine x_ci (x_rN (As := [.int p0, .int 2]) (rest := [.ref (xa X 5)]) (okX X) hC hw (kX1_symbol l X S _ p0 2 _ hf) ⟨va_cnB 2 hts (gN q_202) rfl rfl rfl ln_56 (hts _ q_17) (by decide +kernel) ⟨Nat.le_of_ble_eq_true rfl, Nat.le_of_ble_eq_true rfl⟩, hts _ q_200, hts _ q_201⟩ (x_recv hK hw (k := 1) (by decide) rfl rfl) rfl hl.1 rfl (Nat.le_of_ble_eq_true rfl) dX0_tailsOf_7) hw hi (fun r_1 S_2 H locs hf hw => ?_)
  obtain ⟨hf, rfl⟩ := hf
  refine lv_iload hx hb dX0_tailsOf_10 (lv_at hl 5 rfl) ?_
  refine lv_aload_n hx hb dX0_tailsOf_12 rfl (lv_at hl 0 rfl) ?_
  refine lv_iload_n hx hb dX0_tailsOf_13 rfl (lv_at hl 3 rfl) ?_
  refine lv_iload hx hb dX0_tailsOf_14 (lv_at hl 4 rfl) ?_
  refine x_ci (x_rU (As := [.int p2, .int p3]) (rest := [.int p4, .int r_1, .ref (xa X 5)]) (okX X) hC hw (kX2_part l X S _ p2 p3 _ hf) (va_cwA 2 hts (gU (owner := "GrammarAmbiguity$Counts") (x := ⟨"GrammarAmbiguity$Counts", "part", "(II)I"⟩) q_430 q_431 q_432 q_433 q_27 q_434) rfl rfl rfl lz_part (by decide +kernel) ⟨Nat.le_of_ble_eq_true rfl, Nat.le_of_ble_eq_true rfl⟩) (x_recv hK hw (k := 5) (by decide) rfl rfl) rfl hl.1 rfl (Nat.le_of_ble_eq_true rfl) dX0_tailsOf_16) hw hi (fun r_3 S_4 H locs hf hw => ?_)
  obtain ⟨hf, rfl⟩ := hf
  refine x_cl (x_rU (As := [.int r_1, .int p4, .int r_3]) (rest := []) (okX X) hC hw (kX0_count_5 l X S _ r_1 p4 r_3 _ hf) (va_cwU 3 hts (gU (owner := "GrammarAmbiguity$Counts") (x := ⟨"GrammarAmbiguity$Counts", "count", "(III)J"⟩) q_438 q_439 q_440 q_441 q_66 q_442) rfl rfl rfl rfl (by decide +kernel) ⟨Nat.le_of_ble_eq_true rfl, Nat.le_of_ble_eq_true rfl⟩) (x_recv hK hw (k := 5) (by decide) rfl rfl) rfl hl.1 rfl (Nat.le_of_ble_eq_true rfl) dX0_tailsOf_19) hw hi (fun r_5 S_6 H locs hf hw => ?_)
  obtain ⟨hf, rfl⟩ := hf
  refine lv_lstore (lv' := [(6, .long r_5), (0, .ref (xa X 5)), (1, .int p0), (2, .int p1), (3, .int p2), (4, .int p3), (5, .int p4)]) hx hb dX0_tailsOf_22 hl (by decide) rfl (fun ls hl => ?_)
  refine lv_lload hx hb dX0_tailsOf_24 (lv_at hl 0 rfl) ?_
  refine lv_lconst (v := 0) hx hb dX0_tailsOf_26 (by decide) ?_
  refine W.lcmp hx hb dX0_tailsOf_27 ?_
  refine lv_if_ne (tgt := 33) hx hb dX0_tailsOf_28 (by decide) (fun c_7 => ?_) (fun c_7 => ?_)
  · replace hf := hf.1 c_7
    refine lv_iload hx hb dX0_tailsOf_33 (lv_at hl 5 rfl) ?_
    refine lv_iload hx hb dX0_tailsOf_35 (lv_at hl 6 rfl) ?_
    refine lv_iadd hx hb dX0_tailsOf_37 ?_
    refine lv_topi (fun x8_8 ex8_8 => ?_)
    replace hf := hf x8_8 ex8_8
    refine lv_istore (lv' := [(8, .int x8_8), (6, .long r_5), (0, .ref (xa X 5)), (1, .int p0), (2, .int p1), (3, .int p2), (4, .int p3), (5, .int p4)]) hx hb dX0_tailsOf_38 hl (by decide) rfl (fun ls hl => ?_)
    refine lv_lload hx hb dX0_tailsOf_40 (lv_at hl 1 rfl) ?_
    refine lv_aload_n hx hb dX0_tailsOf_42 rfl (lv_at hl 2 rfl) ?_
    refine lv_aload_n hx hb dX0_tailsOf_43 rfl (lv_at hl 2 rfl) ?_
    refine x_get (k := 5) (v := .ref (xa X 1)) hx hb hts i_X2 hown hK hw (by decide) rfl rfl 0 (by decide) lf_9 (fun _ h9 => h9) rfl dX0_tailsOf_44 ?_
    refine lv_iload_n hx hb dX0_tailsOf_47 rfl (lv_at hl 3 rfl) ?_
    refine lv_iconst (v := 3) hx hb dX0_tailsOf_48 (by decide) ?_
    refine x_ci (x_rN (As := [.int p0, .int 3]) (rest := [.ref (xa X 5), .long r_5]) (okX X) hC hw (kX1_symbol l X S _ p0 3 _ hf) ⟨va_cnB 2 hts (gN q_202) rfl rfl rfl ln_56 (hts _ q_17) (by decide +kernel) ⟨Nat.le_of_ble_eq_true rfl, Nat.le_of_ble_eq_true rfl⟩, hts _ q_200, hts _ q_201⟩ (x_recv hK hw (k := 1) (by decide) rfl rfl) rfl hl.1 rfl (Nat.le_of_ble_eq_true rfl) dX0_tailsOf_49) hw hi (fun r_9 S_10 H locs hf hw => ?_)
    obtain ⟨hf, rfl⟩ := hf
    refine lv_iload_n hx hb dX0_tailsOf_52 rfl (lv_at hl 4 rfl) ?_
    refine lv_iload hx hb dX0_tailsOf_53 (lv_at hl 0 rfl) ?_
    refine lv_isub hx hb dX0_tailsOf_55 ?_
    refine lv_aload_n hx hb dX0_tailsOf_56 rfl (lv_at hl 2 rfl) ?_
    refine lv_iload_n hx hb dX0_tailsOf_57 rfl (lv_at hl 5 rfl) ?_
    refine lv_iload hx hb dX0_tailsOf_58 (lv_at hl 0 rfl) ?_
    refine x_ci (x_rU (As := [.int p2, .int x8_8]) (rest := [.int (p1 - x8_8), .int r_9, .ref (xa X 5), .long r_5]) (okX X) hC hw (kX2_part l X S _ p2 x8_8 _ hf) (va_cwA 2 hts (gU (owner := "GrammarAmbiguity$Counts") (x := ⟨"GrammarAmbiguity$Counts", "part", "(II)I"⟩) q_430 q_431 q_432 q_433 q_27 q_434) rfl rfl rfl lz_part (by decide +kernel) ⟨Nat.le_of_ble_eq_true rfl, Nat.le_of_ble_eq_true rfl⟩) (x_recv hK hw (k := 5) (by decide) rfl rfl) rfl hl.1 rfl (Nat.le_of_ble_eq_true rfl) dX0_tailsOf_60) hw hi (fun r_11 S_12 H locs hf hw => ?_)
    obtain ⟨hf, rfl⟩ := hf
    refine x_cl (x_rU (As := [.int r_9, .int (p1 - x8_8), .int r_11]) (rest := [.long r_5]) (okX X) hC hw (kX0_count_5 l X S _ r_9 (p1 - x8_8) r_11 _ hf) (va_cwU 3 hts (gU (owner := "GrammarAmbiguity$Counts") (x := ⟨"GrammarAmbiguity$Counts", "count", "(III)J"⟩) q_438 q_439 q_440 q_441 q_66 q_442) rfl rfl rfl rfl (by decide +kernel) ⟨Nat.le_of_ble_eq_true rfl, Nat.le_of_ble_eq_true rfl⟩) (x_recv hK hw (k := 5) (by decide) rfl rfl) rfl hl.1 rfl (Nat.le_of_ble_eq_true rfl) dX0_tailsOf_63) hw hi (fun r_13 S_14 H locs hf hw => ?_)
    obtain ⟨hf, rfl⟩ := hf
    refine lv_lmul hx hb dX0_tailsOf_66 ?_
    exact hQ _ _ _ _ _ _ ⟨hf, rfl⟩ hw dX0_tailsOf_67
  · replace hf := hf.2 c_7
    refine lv_lconst (v := 0) hx hb dX0_tailsOf_31 (by decide) ?_
    exact hQ _ _ _ _ _ _ ⟨hf, rfl⟩ hw dX0_tailsOf_32
def pX0_ofSecond_5 (p0 : Int32) (p1 : Int32) (p2 : Int32) (p3 : Int32) (p4 : Int32) (S : gS) (Post : Int64 → Prop) : Prop :=
  (pX1_symbol p0 1 S (fun r_1 => (pX2_part p2 0 S (fun r_3 => (pX0_count_5 r_1 p3 r_3 S (fun r_5 => (pX0_tailsOf_5 p0 p1 p2 p3 p4 S (fun r_7 => Post (r_5 * r_7)))))))))
def rX0_ofSecond_5 : Room := { frames := 3, cells := 0, slots := 0, locals := 74 }
set_option maxHeartbeats 40000000 in
set_option maxRecDepth 100000 in
theorem kX0_ofSecond_5 (l : Launch) (X : xG) (S : gS) (sz : Nat) (p0 : Int32) (p1 : Int32) (p2 : Int32) (p3 : Int32) (p4 : Int32) (Post : Int64 → Prop) (hf : pX0_ofSecond_5 p0 p1 p2 p3 p4 S Post) : xMl l yX0_ofSecond (Cond.code yX0_ofSecond cX0_ofSecond 6 (some .long) :: WS) rX0_ofSecond_5 34 X (cX X) (eX X) S sz [.ref (xa X 5), .int p0, .int p1, .int p2, .int p3, .int p4] (fun r S' => Post r ∧ S = S') := by
  refine xMl.of (cc := cX0_ofSecond) (maxL := 6) (own := RX0) (by decide) rfl rfl (Nat.le_of_ble_eq_true rfl) ?_
  intro p e s m args below meth c ls Q hC hQ hw hl
  obtain ⟨hx, hb, hml, hown, hts, hE, hi⟩ := id hC
  have hK := hE.1
  have hl : lv_has ls 6 [(0, .ref (xa X 5)), (1, .int p0), (2, .int p1), (3, .int p2), (4, .int p3), (5, .int p4)] := hl
  have lf_9 : (Cond.fieldLink RX0 9 "GrammarAmbiguity$Counts" "grammar" "LGrammarAmbiguity$Grammar;").before args s = true := hts _ q_69
  have ln_56 : va_Nw (.methodLinkNest RX0 56 yX1_symbol "GrammarAmbiguity") s := hE.2.1 _ (by decide +kernel)
  have lz_part : va_Nw (.declares ⟨"GrammarAmbiguity$Counts", "part", "(II)I"⟩) s := hE.2.1 _ (by decide +kernel)
  rw [pX0_ofSecond_5] at hf
  refine lv_aload_n hx hb dX0_ofSecond_0 rfl (lv_at hl 0 rfl) ?_
  refine lv_aload_n hx hb dX0_ofSecond_1 rfl (lv_at hl 0 rfl) ?_
  refine x_get (k := 5) (v := .ref (xa X 1)) hx hb hts i_X2 hown hK hw (by decide) rfl rfl 0 (by decide) lf_9 (fun _ h9 => h9) rfl dX0_ofSecond_2 ?_
  refine lv_iload_n hx hb dX0_ofSecond_5 rfl (lv_at hl 1 rfl) ?_
  refine lv_iconst (v := 1) hx hb dX0_ofSecond_6 (by decide) ?_
  refine x_ci (x_rN (As := [.int p0, .int 1]) (rest := [.ref (xa X 5)]) (okX X) hC hw (kX1_symbol l X S _ p0 1 _ hf) ⟨va_cnB 2 hts (gN q_202) rfl rfl rfl ln_56 (hts _ q_17) (by decide +kernel) ⟨Nat.le_of_ble_eq_true rfl, Nat.le_of_ble_eq_true rfl⟩, hts _ q_200, hts _ q_201⟩ (x_recv hK hw (k := 1) (by decide) rfl rfl) rfl hl.1 rfl (Nat.le_of_ble_eq_true rfl) dX0_ofSecond_7) hw hi (fun r_1 S_2 H locs hf hw => ?_)
  obtain ⟨hf, rfl⟩ := hf
  refine lv_iload hx hb dX0_ofSecond_10 (lv_at hl 4 rfl) ?_
  refine lv_aload_n hx hb dX0_ofSecond_12 rfl (lv_at hl 0 rfl) ?_
  refine lv_iload_n hx hb dX0_ofSecond_13 rfl (lv_at hl 3 rfl) ?_
  refine lv_iconst (v := 0) hx hb dX0_ofSecond_14 (by decide) ?_
  refine x_ci (x_rU (As := [.int p2, .int 0]) (rest := [.int p3, .int r_1, .ref (xa X 5)]) (okX X) hC hw (kX2_part l X S _ p2 0 _ hf) (va_cwA 2 hts (gU (owner := "GrammarAmbiguity$Counts") (x := ⟨"GrammarAmbiguity$Counts", "part", "(II)I"⟩) q_430 q_431 q_432 q_433 q_27 q_434) rfl rfl rfl lz_part (by decide +kernel) ⟨Nat.le_of_ble_eq_true rfl, Nat.le_of_ble_eq_true rfl⟩) (x_recv hK hw (k := 5) (by decide) rfl rfl) rfl hl.1 rfl (Nat.le_of_ble_eq_true rfl) dX0_ofSecond_15) hw hi (fun r_3 S_4 H locs hf hw => ?_)
  obtain ⟨hf, rfl⟩ := hf
  refine x_cl (x_rU (As := [.int r_1, .int p3, .int r_3]) (rest := []) (okX X) hC hw (kX0_count_5 l X S _ r_1 p3 r_3 _ hf) (va_cwU 3 hts (gU (owner := "GrammarAmbiguity$Counts") (x := ⟨"GrammarAmbiguity$Counts", "count", "(III)J"⟩) q_438 q_439 q_440 q_441 q_66 q_442) rfl rfl rfl rfl (by decide +kernel) ⟨Nat.le_of_ble_eq_true rfl, Nat.le_of_ble_eq_true rfl⟩) (x_recv hK hw (k := 5) (by decide) rfl rfl) rfl hl.1 rfl (Nat.le_of_ble_eq_true rfl) dX0_ofSecond_18) hw hi (fun r_5 S_6 H locs hf hw => ?_)
  obtain ⟨hf, rfl⟩ := hf
  refine lv_aload_n hx hb dX0_ofSecond_21 rfl (lv_at hl 0 rfl) ?_
  refine lv_iload_n hx hb dX0_ofSecond_22 rfl (lv_at hl 1 rfl) ?_
  refine lv_iload_n hx hb dX0_ofSecond_23 rfl (lv_at hl 2 rfl) ?_
  refine lv_iload_n hx hb dX0_ofSecond_24 rfl (lv_at hl 3 rfl) ?_
  refine lv_iload hx hb dX0_ofSecond_25 (lv_at hl 4 rfl) ?_
  refine lv_iload hx hb dX0_ofSecond_27 (lv_at hl 5 rfl) ?_
  refine x_cl (x_rU (As := [.int p0, .int p1, .int p2, .int p3, .int p4]) (rest := [.long r_5]) (okX X) hC hw (kX0_tailsOf_5 l X S _ p0 p1 p2 p3 p4 _ hf) (va_cwU 5 hts (gU (owner := "GrammarAmbiguity$Counts") (x := ⟨"GrammarAmbiguity$Counts", "tailsOf", "(IIIII)J"⟩) q_460 q_461 q_462 q_463 q_66 q_464) rfl rfl rfl rfl (by decide +kernel) ⟨Nat.le_of_ble_eq_true rfl, Nat.le_of_ble_eq_true rfl⟩) (x_recv hK hw (k := 5) (by decide) rfl rfl) rfl hl.1 rfl (Nat.le_of_ble_eq_true rfl) dX0_ofSecond_29) hw hi (fun r_7 S_8 H locs hf hw => ?_)
  obtain ⟨hf, rfl⟩ := hf
  refine lv_lmul hx hb dX0_ofSecond_32 ?_
  exact hQ _ _ _ _ _ _ ⟨hf, rfl⟩ hw dX0_ofSecond_33
def bX0_ofFirst_5_127 (p0 : Int32) (p1 : Int32) (p2 : Int32) (p3 : Int32) (S : gS) (Post : Int64 → Prop) (r_11 : Int64) (y_17 : Int32) (L_127 : Int64 × Int32 → Prop) (x11_19 : Int64) (x13_20 : Int32) : Prop :=
  ((y_17 < x13_20 → Post (r_11 * x11_19)) ∧ (¬ y_17 < x13_20 → (pX0_tailsOf_5 p0 p1 p2 p3 x13_20 S (fun r_22 => (∀ x11_24 : Int64, x11_24 = (x11_19 + r_22) → (∀ x13_25 : Int32, x13_25 = x13_20 + 1 → L_127 (x11_24, x13_25)))))))
def jX0_ofFirst_5_125 (p0 : Int32) (p1 : Int32) (p2 : Int32) (p3 : Int32) (S : gS) (Post : Int64 → Prop) (r_11 : Int64) (y_17 : Int32) (y_18 : Int32) : Prop :=
  ∃ n, lp (fun L x => bX0_ofFirst_5_127 p0 p1 p2 p3 S Post r_11 y_17 L x.1 x.2) n (0, y_18)
def jX0_ofFirst_5_109 (p0 : Int32) (p1 : Int32) (p2 : Int32) (p3 : Int32) (S : gS) (Post : Int64 → Prop) (x5_1 : Int32) (r_11 : Int64) (y_16 : Int32) (y_17 : Int32) : Prop :=
  ((y_16 = 0 → jX0_ofFirst_5_125 p0 p1 p2 p3 S Post r_11 y_17 x5_1) ∧ (¬ y_16 = 0 → jX0_ofFirst_5_125 p0 p1 p2 p3 S Post r_11 y_17 1))
def jX0_ofFirst_5_93 (p0 : Int32) (p1 : Int32) (p2 : Int32) (p3 : Int32) (S : gS) (Post : Int64 → Prop) (x5_1 : Int32) (r_11 : Int64) (y_16 : Int32) : Prop :=
  ((y_16 = 0 → jX0_ofFirst_5_109 p0 p1 p2 p3 S Post x5_1 r_11 y_16 x5_1) ∧ (¬ y_16 = 0 → jX0_ofFirst_5_109 p0 p1 p2 p3 S Post x5_1 r_11 y_16 (x5_1 - 1)))
def jX0_ofFirst_5_38 (p0 : Int32) (p1 : Int32) (p2 : Int32) (p3 : Int32) (S : gS) (Post : Int64 → Prop) (x5_1 : Int32) (y_4 : Int32) (y_5 : Int32) : Prop :=
  ((y_4 = y_5 → (pX1_symbol p0 1 S (fun r_7 => (pX2_part p2 0 S (fun r_9 => (pX0_count_5 r_7 p3 r_9 S (fun r_11 => ((¬ (lg_cmp r_11 0) = 0 → (pX1_symbol p0 3 S (fun r_14 => ((r_14 = (-1) → jX0_ofFirst_5_93 p0 p1 p2 p3 S Post x5_1 r_11 0) ∧ (¬ r_14 = (-1) → jX0_ofFirst_5_93 p0 p1 p2 p3 S Post x5_1 r_11 1))))) ∧ ((lg_cmp r_11 0) = 0 → Post 0))))))))) ∧ (¬ y_4 = y_5 → Post 0))
def jX0_ofFirst_5_24 (p0 : Int32) (p1 : Int32) (p2 : Int32) (p3 : Int32) (S : gS) (Post : Int64 → Prop) (x5_1 : Int32) (y_4 : Int32) : Prop :=
  ((¬ x5_1 = 0 → jX0_ofFirst_5_38 p0 p1 p2 p3 S Post x5_1 y_4 0) ∧ (x5_1 = 0 → jX0_ofFirst_5_38 p0 p1 p2 p3 S Post x5_1 y_4 1))
def pX0_ofFirst_5 (p0 : Int32) (p1 : Int32) (p2 : Int32) (p3 : Int32) (S : gS) (Post : Int64 → Prop) : Prop :=
  (∀ x5_1 : Int32, x5_1 = (p1 - p3) → (pX1_symbol p0 2 S (fun r_2 => ((¬ r_2 = (-1) → jX0_ofFirst_5_24 p0 p1 p2 p3 S Post x5_1 0) ∧ (r_2 = (-1) → jX0_ofFirst_5_24 p0 p1 p2 p3 S Post x5_1 1)))))
def rX0_ofFirst_5 : Room := { frames := 3, cells := 0, slots := 0, locals := 74 }
set_option maxHeartbeats 40000000 in
set_option maxRecDepth 100000 in
theorem kX0_ofFirst_5 (l : Launch) (X : xG) (S : gS) (sz : Nat) (p0 : Int32) (p1 : Int32) (p2 : Int32) (p3 : Int32) (Post : Int64 → Prop) (hf : pX0_ofFirst_5 p0 p1 p2 p3 S Post) : xMl l yX0_ofFirst (Cond.code yX0_ofFirst cX0_ofFirst 14 (some .long) :: WS) rX0_ofFirst_5 34 X (cX X) (eX X) S sz [.ref (xa X 5), .int p0, .int p1, .int p2, .int p3] (fun r S' => Post r ∧ S = S') := by
  refine xMl.of (cc := cX0_ofFirst) (maxL := 14) (own := RX0) (by decide) rfl rfl (Nat.le_of_ble_eq_true rfl) ?_
  intro p e s m args below meth c ls Q hC hQ hw hl
  obtain ⟨hx, hb, hml, hown, hts, hE, hi⟩ := id hC
  have hK := hE.1
  have hl : lv_has ls 14 [(0, .ref (xa X 5)), (1, .int p0), (2, .int p1), (3, .int p2), (4, .int p3)] := hl
  have lf_9 : (Cond.fieldLink RX0 9 "GrammarAmbiguity$Counts" "grammar" "LGrammarAmbiguity$Grammar;").before args s = true := hts _ q_69
  have ln_56 : va_Nw (.methodLinkNest RX0 56 yX1_symbol "GrammarAmbiguity") s := hE.2.1 _ (by decide +kernel)
  have lz_part : va_Nw (.declares ⟨"GrammarAmbiguity$Counts", "part", "(II)I"⟩) s := hE.2.1 _ (by decide +kernel)
  rw [pX0_ofFirst_5] at hf
  refine lv_iload_n hx hb dX0_ofFirst_0 rfl (lv_at hl 2 rfl) ?_
  refine lv_iload hx hb dX0_ofFirst_1 (lv_at hl 4 rfl) ?_
  refine lv_isub hx hb dX0_ofFirst_3 ?_
  refine lv_topi (fun x5_1 ex5_1 => ?_)
  replace hf := hf x5_1 ex5_1
  refine lv_istore (lv' := [(5, .int x5_1), (0, .ref (xa X 5)), (1, .int p0), (2, .int p1), (3, .int p2), (4, .int p3)]) hx hb dX0_ofFirst_4 hl (by decide) rfl (fun ls hl => ?_)
  refine lv_aload_n hx hb dX0_ofFirst_6 rfl (lv_at hl 1 rfl) ?_
  refine x_get (k := 5) (v := .ref (xa X 1)) hx hb hts i_X2 hown hK hw (by decide) rfl rfl 0 (by decide) lf_9 (fun _ h9 => h9) rfl dX0_ofFirst_7 ?_
  refine lv_iload_n hx hb dX0_ofFirst_10 rfl (lv_at hl 2 rfl) ?_
  refine lv_iconst (v := 2) hx hb dX0_ofFirst_11 (by decide) ?_
  refine x_ci (x_rN (As := [.int p0, .int 2]) (rest := []) (okX X) hC hw (kX1_symbol l X S _ p0 2 _ hf) ⟨va_cnB 2 hts (gN q_202) rfl rfl rfl ln_56 (hts _ q_17) (by decide +kernel) ⟨Nat.le_of_ble_eq_true rfl, Nat.le_of_ble_eq_true rfl⟩, hts _ q_200, hts _ q_201⟩ (x_recv hK hw (k := 1) (by decide) rfl rfl) rfl hl.1 rfl (Nat.le_of_ble_eq_true rfl) dX0_ofFirst_12) hw hi (fun r_2 S_3 H locs hf hw => ?_)
  obtain ⟨hf, rfl⟩ := hf
  refine lv_iconst (v := (-1)) hx hb dX0_ofFirst_15 (by decide) ?_
  have w_24 : ∀ (y_4 : Int32) (H : Heap) (locs : List Loc) (ls : Array Slot), jX0_ofFirst_5_24 p0 p1 p2 p3 S Post x5_1 y_4 → xH 34 X (cX X) (xA 34 X s.heap.size) s.heap S H locs → lv_has ls 14 [(0, .ref (xa X 5)), (1, .int p0), (2, .int p1), (3, .int p2), (4, .int p3), (5, .int x5_1)] → W p l e rX0_ofFirst_5 s m args below meth c H locs 0 0 Q (F0 m 24 ls [.int y_4]) := by
    intro y_4 H locs ls hf hw hl
    rw [jX0_ofFirst_5_24] at hf
    refine lv_istore (lv' := [(6, .int y_4), (0, .ref (xa X 5)), (1, .int p0), (2, .int p1), (3, .int p2), (4, .int p3), (5, .int x5_1)]) hx hb dX0_ofFirst_24 hl (by decide) rfl (fun ls hl => ?_)
    refine lv_iload hx hb dX0_ofFirst_26 (lv_at hl 0 rfl) ?_
    refine lv_iload hx hb dX0_ofFirst_28 (lv_at hl 6 rfl) ?_
    have w_38 : ∀ (y_5 : Int32) (H : Heap) (locs : List Loc) (ls : Array Slot), jX0_ofFirst_5_38 p0 p1 p2 p3 S Post x5_1 y_4 y_5 → xH 34 X (cX X) (xA 34 X s.heap.size) s.heap S H locs → lv_has ls 14 [(0, .ref (xa X 5)), (1, .int p0), (2, .int p1), (3, .int p2), (4, .int p3), (5, .int x5_1)] → W p l e rX0_ofFirst_5 s m args below meth c H locs 0 0 Q (F0 m 38 ls [.int y_5, .int y_4]) := by
      intro y_5 H locs ls hf hw hl
      rw [jX0_ofFirst_5_38] at hf
      refine lv_icmp_eq (tgt := 43) hx hb dX0_ofFirst_38 (by decide) (fun c_6 => ?_) (fun c_6 => ?_)
      · replace hf := hf.1 c_6
        refine lv_aload_n hx hb dX0_ofFirst_43 rfl (lv_at hl 0 rfl) ?_
        refine lv_aload_n hx hb dX0_ofFirst_44 rfl (lv_at hl 0 rfl) ?_
        refine x_get (k := 5) (v := .ref (xa X 1)) hx hb hts i_X2 hown hK hw (by decide) rfl rfl 0 (by decide) lf_9 (fun _ h9 => h9) rfl dX0_ofFirst_45 ?_
        refine lv_iload_n hx hb dX0_ofFirst_48 rfl (lv_at hl 1 rfl) ?_
        refine lv_iconst (v := 1) hx hb dX0_ofFirst_49 (by decide) ?_
        refine x_ci (x_rN (As := [.int p0, .int 1]) (rest := [.ref (xa X 5)]) (okX X) hC hw (kX1_symbol l X S _ p0 1 _ hf) ⟨va_cnB 2 hts (gN q_202) rfl rfl rfl ln_56 (hts _ q_17) (by decide +kernel) ⟨Nat.le_of_ble_eq_true rfl, Nat.le_of_ble_eq_true rfl⟩, hts _ q_200, hts _ q_201⟩ (x_recv hK hw (k := 1) (by decide) rfl rfl) rfl hl.1 rfl (Nat.le_of_ble_eq_true rfl) dX0_ofFirst_50) hw hi (fun r_7 S_8 H locs hf hw => ?_)
        obtain ⟨hf, rfl⟩ := hf
        refine lv_iload hx hb dX0_ofFirst_53 (lv_at hl 4 rfl) ?_
        refine lv_aload_n hx hb dX0_ofFirst_55 rfl (lv_at hl 0 rfl) ?_
        refine lv_iload_n hx hb dX0_ofFirst_56 rfl (lv_at hl 3 rfl) ?_
        refine lv_iconst (v := 0) hx hb dX0_ofFirst_57 (by decide) ?_
        refine x_ci (x_rU (As := [.int p2, .int 0]) (rest := [.int p3, .int r_7, .ref (xa X 5)]) (okX X) hC hw (kX2_part l X S _ p2 0 _ hf) (va_cwA 2 hts (gU (owner := "GrammarAmbiguity$Counts") (x := ⟨"GrammarAmbiguity$Counts", "part", "(II)I"⟩) q_430 q_431 q_432 q_433 q_27 q_434) rfl rfl rfl lz_part (by decide +kernel) ⟨Nat.le_of_ble_eq_true rfl, Nat.le_of_ble_eq_true rfl⟩) (x_recv hK hw (k := 5) (by decide) rfl rfl) rfl hl.1 rfl (Nat.le_of_ble_eq_true rfl) dX0_ofFirst_58) hw hi (fun r_9 S_10 H locs hf hw => ?_)
        obtain ⟨hf, rfl⟩ := hf
        refine x_cl (x_rU (As := [.int r_7, .int p3, .int r_9]) (rest := []) (okX X) hC hw (kX0_count_5 l X S _ r_7 p3 r_9 _ hf) (va_cwU 3 hts (gU (owner := "GrammarAmbiguity$Counts") (x := ⟨"GrammarAmbiguity$Counts", "count", "(III)J"⟩) q_438 q_439 q_440 q_441 q_66 q_442) rfl rfl rfl rfl (by decide +kernel) ⟨Nat.le_of_ble_eq_true rfl, Nat.le_of_ble_eq_true rfl⟩) (x_recv hK hw (k := 5) (by decide) rfl rfl) rfl hl.1 rfl (Nat.le_of_ble_eq_true rfl) dX0_ofFirst_61) hw hi (fun r_11 S_12 H locs hf hw => ?_)
        obtain ⟨hf, rfl⟩ := hf
        refine lv_lstore (lv' := [(7, .long r_11), (0, .ref (xa X 5)), (1, .int p0), (2, .int p1), (3, .int p2), (4, .int p3), (5, .int x5_1)]) hx hb dX0_ofFirst_64 hl (by decide) rfl (fun ls hl => ?_)
        refine lv_lload hx hb dX0_ofFirst_66 (lv_at hl 0 rfl) ?_
        refine lv_lconst (v := 0) hx hb dX0_ofFirst_68 (by decide) ?_
        refine W.lcmp hx hb dX0_ofFirst_69 ?_
        refine lv_if_ne (tgt := 75) hx hb dX0_ofFirst_70 (by decide) (fun c_13 => ?_) (fun c_13 => ?_)
        · replace hf := hf.1 c_13
          refine lv_aload_n hx hb dX0_ofFirst_75 rfl (lv_at hl 1 rfl) ?_
          refine x_get (k := 5) (v := .ref (xa X 1)) hx hb hts i_X2 hown hK hw (by decide) rfl rfl 0 (by decide) lf_9 (fun _ h9 => h9) rfl dX0_ofFirst_76 ?_
          refine lv_iload_n hx hb dX0_ofFirst_79 rfl (lv_at hl 2 rfl) ?_
          refine lv_iconst (v := 3) hx hb dX0_ofFirst_80 (by decide) ?_
          refine x_ci (x_rN (As := [.int p0, .int 3]) (rest := []) (okX X) hC hw (kX1_symbol l X S _ p0 3 _ hf) ⟨va_cnB 2 hts (gN q_202) rfl rfl rfl ln_56 (hts _ q_17) (by decide +kernel) ⟨Nat.le_of_ble_eq_true rfl, Nat.le_of_ble_eq_true rfl⟩, hts _ q_200, hts _ q_201⟩ (x_recv hK hw (k := 1) (by decide) rfl rfl) rfl hl.1 rfl (Nat.le_of_ble_eq_true rfl) dX0_ofFirst_81) hw hi (fun r_14 S_15 H locs hf hw => ?_)
          obtain ⟨hf, rfl⟩ := hf
          refine lv_iconst (v := (-1)) hx hb dX0_ofFirst_84 (by decide) ?_
          have w_93 : ∀ (y_16 : Int32) (H : Heap) (locs : List Loc) (ls : Array Slot), jX0_ofFirst_5_93 p0 p1 p2 p3 S Post x5_1 r_11 y_16 → xH 34 X (cX X) (xA 34 X s.heap.size) s.heap S H locs → lv_has ls 14 [(0, .ref (xa X 5)), (1, .int p0), (2, .int p1), (3, .int p2), (4, .int p3), (5, .int x5_1), (7, .long r_11)] → W p l e rX0_ofFirst_5 s m args below meth c H locs 0 0 Q (F0 m 93 ls [.int y_16]) := by
            intro y_16 H locs ls hf hw hl
            rw [jX0_ofFirst_5_93] at hf
            refine lv_istore (lv' := [(9, .int y_16), (0, .ref (xa X 5)), (1, .int p0), (2, .int p1), (3, .int p2), (4, .int p3), (5, .int x5_1), (7, .long r_11)]) hx hb dX0_ofFirst_93 hl (by decide) rfl (fun ls hl => ?_)
            refine lv_iload hx hb dX0_ofFirst_95 (lv_at hl 0 rfl) ?_
            have w_109 : ∀ (y_17 : Int32) (H : Heap) (locs : List Loc) (ls : Array Slot), jX0_ofFirst_5_109 p0 p1 p2 p3 S Post x5_1 r_11 y_16 y_17 → xH 34 X (cX X) (xA 34 X s.heap.size) s.heap S H locs → lv_has ls 14 [(0, .ref (xa X 5)), (1, .int p0), (2, .int p1), (3, .int p2), (4, .int p3), (5, .int x5_1), (7, .long r_11), (9, .int y_16)] → W p l e rX0_ofFirst_5 s m args below meth c H locs 0 0 Q (F0 m 109 ls [.int y_17]) := by
              intro y_17 H locs ls hf hw hl
              rw [jX0_ofFirst_5_109] at hf
              refine lv_istore (lv' := [(10, .int y_17), (0, .ref (xa X 5)), (1, .int p0), (2, .int p1), (3, .int p2), (4, .int p3), (5, .int x5_1), (7, .long r_11), (9, .int y_16)]) hx hb dX0_ofFirst_109 hl (by decide) rfl (fun ls hl => ?_)
              refine lv_lconst (v := 0) hx hb dX0_ofFirst_111 (by decide) ?_
              refine lv_lstore (lv' := [(11, .long 0), (10, .int y_17), (0, .ref (xa X 5)), (1, .int p0), (2, .int p1), (3, .int p2), (4, .int p3), (5, .int x5_1), (7, .long r_11), (9, .int y_16)]) hx hb dX0_ofFirst_112 hl (by decide) rfl (fun ls hl => ?_)
              refine lv_iload hx hb dX0_ofFirst_114 (lv_at hl 9 rfl) ?_
              have w_125 : ∀ (y_18 : Int32) (H : Heap) (locs : List Loc) (ls : Array Slot), jX0_ofFirst_5_125 p0 p1 p2 p3 S Post r_11 y_17 y_18 → xH 34 X (cX X) (xA 34 X s.heap.size) s.heap S H locs → lv_has ls 14 [(0, .ref (xa X 5)), (1, .int p0), (2, .int p1), (3, .int p2), (4, .int p3), (7, .long r_11), (10, .int y_17), (11, .long 0)] → W p l e rX0_ofFirst_5 s m args below meth c H locs 0 0 Q (F0 m 125 ls [.int y_18]) := by
                intro y_18 H locs ls hf hw hl
                rw [jX0_ofFirst_5_125] at hf
                refine lv_istore (lv' := [(13, .int y_18), (0, .ref (xa X 5)), (1, .int p0), (2, .int p1), (3, .int p2), (4, .int p3), (7, .long r_11), (10, .int y_17), (11, .long 0)]) hx hb dX0_ofFirst_125 hl (by decide) rfl (fun ls hl => ?_)
                obtain ⟨n_127, hf⟩ := hf
                have w_127 : ∀ (n : Nat) (x11_19 : Int64) (x13_20 : Int32) (H : Heap) (locs : List Loc) (ls : Array Slot), lp (fun L x => bX0_ofFirst_5_127 p0 p1 p2 p3 S Post r_11 y_17 L x.1 x.2) n (x11_19, x13_20) → xH 34 X (cX X) (xA 34 X s.heap.size) s.heap S H locs → lv_has ls 14 [(0, .ref (xa X 5)), (1, .int p0), (2, .int p1), (3, .int p2), (4, .int p3), (7, .long r_11), (10, .int y_17), (11, .long x11_19), (13, .int x13_20)] → W p l e rX0_ofFirst_5 s m args below meth c H locs 0 0 Q (F0 m 127 ls []) := by
                  intro n
                  induction n with
                  | zero => intro x11_19 x13_20 H locs ls hf; exact hf.elim
                  | succ n ih_127 =>
                    intro x11_19 x13_20 H locs ls hf hw hl
                    replace hf : bX0_ofFirst_5_127 p0 p1 p2 p3 S Post r_11 y_17 (lp (fun L x => bX0_ofFirst_5_127 p0 p1 p2 p3 S Post r_11 y_17 L x.1 x.2) n) x11_19 x13_20 := hf
                    generalize lp (fun L x => bX0_ofFirst_5_127 p0 p1 p2 p3 S Post r_11 y_17 L x.1 x.2) n = L_127 at hf ih_127
                    rw [bX0_ofFirst_5_127] at hf
                    refine lv_iload hx hb dX0_ofFirst_127 (lv_at hl 8 rfl) ?_
                    refine lv_iload hx hb dX0_ofFirst_129 (lv_at hl 6 rfl) ?_
                    refine lv_icmp_gt (tgt := 156) hx hb dX0_ofFirst_131 (by decide) (fun c_21 => ?_) (fun c_21 => ?_)
                    · replace hf := hf.1 c_21
                      refine lv_lload hx hb dX0_ofFirst_156 (lv_at hl 5 rfl) ?_
                      refine lv_lload hx hb dX0_ofFirst_158 (lv_at hl 7 rfl) ?_
                      refine lv_lmul hx hb dX0_ofFirst_160 ?_
                      exact hQ _ _ _ _ _ _ ⟨hf, rfl⟩ hw dX0_ofFirst_161
                    · replace hf := hf.2 c_21
                      refine lv_lload hx hb dX0_ofFirst_134 (lv_at hl 7 rfl) ?_
                      refine lv_aload_n hx hb dX0_ofFirst_136 rfl (lv_at hl 0 rfl) ?_
                      refine lv_iload_n hx hb dX0_ofFirst_137 rfl (lv_at hl 1 rfl) ?_
                      refine lv_iload_n hx hb dX0_ofFirst_138 rfl (lv_at hl 2 rfl) ?_
                      refine lv_iload_n hx hb dX0_ofFirst_139 rfl (lv_at hl 3 rfl) ?_
                      refine lv_iload hx hb dX0_ofFirst_140 (lv_at hl 4 rfl) ?_
                      refine lv_iload hx hb dX0_ofFirst_142 (lv_at hl 8 rfl) ?_
                      refine x_cl (x_rU (As := [.int p0, .int p1, .int p2, .int p3, .int x13_20]) (rest := [.long x11_19]) (okX X) hC hw (kX0_tailsOf_5 l X S _ p0 p1 p2 p3 x13_20 _ hf) (va_cwU 5 hts (gU (owner := "GrammarAmbiguity$Counts") (x := ⟨"GrammarAmbiguity$Counts", "tailsOf", "(IIIII)J"⟩) q_460 q_461 q_462 q_463 q_66 q_464) rfl rfl rfl rfl (by decide +kernel) ⟨Nat.le_of_ble_eq_true rfl, Nat.le_of_ble_eq_true rfl⟩) (x_recv hK hw (k := 5) (by decide) rfl rfl) rfl hl.1 rfl (Nat.le_of_ble_eq_true rfl) dX0_ofFirst_144) hw hi (fun r_22 S_23 H locs hf hw => ?_)
                      obtain ⟨hf, rfl⟩ := hf
                      refine lv_ladd hx hb dX0_ofFirst_147 ?_
                      refine lv_topl (fun x11_24 ex11_24 => ?_)
                      replace hf := hf x11_24 ex11_24
                      refine lv_lstore (lv' := [(11, .long x11_24), (0, .ref (xa X 5)), (1, .int p0), (2, .int p1), (3, .int p2), (4, .int p3), (7, .long r_11), (10, .int y_17), (13, .int x13_20)]) hx hb dX0_ofFirst_148 hl (by decide) rfl (fun ls hl => ?_)
                      obtain ⟨x13_25, ex13_25⟩ : ∃ y : Int32, y = x13_20 + 1 := ⟨_, rfl⟩
                      replace hf := hf x13_25 ex13_25
                      refine lv_iinc (v := x13_25) (lv' := [(13, .int x13_25), (11, .long x11_24), (0, .ref (xa X 5)), (1, .int p0), (2, .int p1), (3, .int p2), (4, .int p3), (7, .long r_11), (10, .int y_17)]) hx hb dX0_ofFirst_150 hl (k := 8) rfl (by rw [ex13_25]; rfl) (by decide) rfl (fun ls hl => ?_)
                      refine lv_goto (tgt := 127) hx hb dX0_ofFirst_153 (by decide) ?_
                      exact ih_127 x11_24 x13_25 _ _ _ hf hw (lv_sub hl [2, 3, 4, 5, 6, 7, 8, 1, 0] rfl)
                exact w_127 n_127 0 y_18 _ _ _ hf hw (lv_sub hl [1, 2, 3, 4, 5, 6, 7, 8, 0] rfl)
              refine lv_if_eq (tgt := 123) hx hb dX0_ofFirst_116 (by decide) (fun c_26 => ?_) (fun c_26 => ?_)
              · replace hf := hf.1 c_26
                refine lv_iload hx hb dX0_ofFirst_123 (lv_at hl 7 rfl) ?_
                exact w_125 x5_1 _ _ _ hf hw (lv_sub hl [2, 3, 4, 5, 6, 8, 1, 0] rfl)
              · replace hf := hf.2 c_26
                refine lv_iconst (v := 1) hx hb dX0_ofFirst_119 (by decide) ?_
                refine lv_goto (tgt := 125) hx hb dX0_ofFirst_120 (by decide) ?_
                exact w_125 1 _ _ _ hf hw (lv_sub hl [2, 3, 4, 5, 6, 8, 1, 0] rfl)
            refine lv_if_eq (tgt := 107) hx hb dX0_ofFirst_97 (by decide) (fun c_27 => ?_) (fun c_27 => ?_)
            · replace hf := hf.1 c_27
              refine lv_iload hx hb dX0_ofFirst_107 (lv_at hl 6 rfl) ?_
              exact w_109 x5_1 _ _ _ hf hw (lv_sub hl [1, 2, 3, 4, 5, 6, 7, 0] rfl)
            · replace hf := hf.2 c_27
              refine lv_iload hx hb dX0_ofFirst_100 (lv_at hl 6 rfl) ?_
              refine lv_iconst (v := 1) hx hb dX0_ofFirst_102 (by decide) ?_
              refine lv_isub hx hb dX0_ofFirst_103 ?_
              refine lv_goto (tgt := 109) hx hb dX0_ofFirst_104 (by decide) ?_
              exact w_109 (x5_1 - 1) _ _ _ hf hw (lv_sub hl [1, 2, 3, 4, 5, 6, 7, 0] rfl)
          refine lv_icmp_eq (tgt := 92) hx hb dX0_ofFirst_85 (by decide) (fun c_28 => ?_) (fun c_28 => ?_)
          · replace hf := hf.1 c_28
            refine lv_iconst (v := 0) hx hb dX0_ofFirst_92 (by decide) ?_
            exact w_93 0 _ _ _ hf hw (lv_sub hl [1, 2, 3, 4, 5, 6, 0] rfl)
          · replace hf := hf.2 c_28
            refine lv_iconst (v := 1) hx hb dX0_ofFirst_88 (by decide) ?_
            refine lv_goto (tgt := 93) hx hb dX0_ofFirst_89 (by decide) ?_
            exact w_93 1 _ _ _ hf hw (lv_sub hl [1, 2, 3, 4, 5, 6, 0] rfl)
        · replace hf := hf.2 c_13
          refine lv_lconst (v := 0) hx hb dX0_ofFirst_73 (by decide) ?_
          exact hQ _ _ _ _ _ _ ⟨hf, rfl⟩ hw dX0_ofFirst_74
      · replace hf := hf.2 c_6
        refine lv_lconst (v := 0) hx hb dX0_ofFirst_41 (by decide) ?_
        exact hQ _ _ _ _ _ _ ⟨hf, rfl⟩ hw dX0_ofFirst_42
    refine lv_if_ne (tgt := 37) hx hb dX0_ofFirst_30 (by decide) (fun c_29 => ?_) (fun c_29 => ?_)
    · replace hf := hf.1 c_29
      refine lv_iconst (v := 0) hx hb dX0_ofFirst_37 (by decide) ?_
      exact w_38 0 _ _ _ hf hw (lv_sub hl [1, 2, 3, 4, 5, 6] rfl)
    · replace hf := hf.2 c_29
      refine lv_iconst (v := 1) hx hb dX0_ofFirst_33 (by decide) ?_
      refine lv_goto (tgt := 38) hx hb dX0_ofFirst_34 (by decide) ?_
      exact w_38 1 _ _ _ hf hw (lv_sub hl [1, 2, 3, 4, 5, 6] rfl)
  refine lv_icmp_ne (tgt := 23) hx hb dX0_ofFirst_16 (by decide) (fun c_30 => ?_) (fun c_30 => ?_)
  · replace hf := hf.1 c_30
    refine lv_iconst (v := 0) hx hb dX0_ofFirst_23 (by decide) ?_
    exact w_24 0 _ _ _ hf hw (lv_sub hl [1, 2, 3, 4, 5, 0] rfl)
  · replace hf := hf.2 c_30
    refine lv_iconst (v := 1) hx hb dX0_ofFirst_19 (by decide) ?_
    refine lv_goto (tgt := 24) hx hb dX0_ofFirst_20 (by decide) ?_
    exact w_24 1 _ _ _ hf hw (lv_sub hl [1, 2, 3, 4, 5, 0] rfl)
def bX0_ofProduction_5_21 (p1 : Int32) (p2 : Int32) (p3 : Int32) (S : gS) (Post : Int64 → Prop) (L_21 : Int64 × Int32 → Prop) (x5_4 : Int64) (x7_5 : Int32) : Prop :=
  ((p2 < x7_5 → Post x5_4) ∧ (¬ p2 < x7_5 → (pX0_ofFirst_5 p1 p2 p3 x7_5 S (fun r_7 => (∀ x5_9 : Int64, x5_9 = (x5_4 + r_7) → (∀ x7_10 : Int32, x7_10 = x7_5 + 1 → L_21 (x5_9, x7_10)))))))
def pX0_ofProduction_5 (p0 : Int32) (p1 : Int32) (p2 : Int32) (p3 : Int32) (S : gS) (Post : Int64 → Prop) : Prop :=
  (pX1_symbol p1 0 S (fun r_1 => ((r_1 = p0 → ∃ n, lp (fun L x => bX0_ofProduction_5_21 p1 p2 p3 S Post L x.1 x.2) n (0, 1)) ∧ (¬ r_1 = p0 → Post 0))))
def rX0_ofProduction_5 : Room := { frames := 4, cells := 0, slots := 0, locals := 107 }
set_option maxHeartbeats 40000000 in
set_option maxRecDepth 100000 in
theorem kX0_ofProduction_5 (l : Launch) (X : xG) (S : gS) (sz : Nat) (p0 : Int32) (p1 : Int32) (p2 : Int32) (p3 : Int32) (Post : Int64 → Prop) (hf : pX0_ofProduction_5 p0 p1 p2 p3 S Post) : xMl l yX0_ofProduction (Cond.code yX0_ofProduction cX0_ofProduction 8 (some .long) :: WS) rX0_ofProduction_5 34 X (cX X) (eX X) S sz [.ref (xa X 5), .int p0, .int p1, .int p2, .int p3] (fun r S' => Post r ∧ S = S') := by
  refine xMl.of (cc := cX0_ofProduction) (maxL := 8) (own := RX0) (by decide) rfl rfl (Nat.le_of_ble_eq_true rfl) ?_
  intro p e s m args below meth c ls Q hC hQ hw hl
  obtain ⟨hx, hb, hml, hown, hts, hE, hi⟩ := id hC
  have hK := hE.1
  have hl : lv_has ls 8 [(0, .ref (xa X 5)), (1, .int p0), (2, .int p1), (3, .int p2), (4, .int p3)] := hl
  have lf_9 : (Cond.fieldLink RX0 9 "GrammarAmbiguity$Counts" "grammar" "LGrammarAmbiguity$Grammar;").before args s = true := hts _ q_69
  have ln_56 : va_Nw (.methodLinkNest RX0 56 yX1_symbol "GrammarAmbiguity") s := hE.2.1 _ (by decide +kernel)
  rw [pX0_ofProduction_5] at hf
  refine lv_aload_n hx hb dX0_ofProduction_0 rfl (lv_at hl 0 rfl) ?_
  refine x_get (k := 5) (v := .ref (xa X 1)) hx hb hts i_X2 hown hK hw (by decide) rfl rfl 0 (by decide) lf_9 (fun _ h9 => h9) rfl dX0_ofProduction_1 ?_
  refine lv_iload_n hx hb dX0_ofProduction_4 rfl (lv_at hl 2 rfl) ?_
  refine lv_iconst (v := 0) hx hb dX0_ofProduction_5 (by decide) ?_
  refine x_ci (x_rN (As := [.int p1, .int 0]) (rest := []) (okX X) hC hw (kX1_symbol l X S _ p1 0 _ hf) ⟨va_cnB 2 hts (gN q_202) rfl rfl rfl ln_56 (hts _ q_17) (by decide +kernel) ⟨Nat.le_of_ble_eq_true rfl, Nat.le_of_ble_eq_true rfl⟩, hts _ q_200, hts _ q_201⟩ (x_recv hK hw (k := 1) (by decide) rfl rfl) rfl hl.1 rfl (Nat.le_of_ble_eq_true rfl) dX0_ofProduction_6) hw hi (fun r_1 S_2 H locs hf hw => ?_)
  obtain ⟨hf, rfl⟩ := hf
  refine lv_iload_n hx hb dX0_ofProduction_9 rfl (lv_at hl 1 rfl) ?_
  refine lv_icmp_eq (tgt := 15) hx hb dX0_ofProduction_10 (by decide) (fun c_3 => ?_) (fun c_3 => ?_)
  · replace hf := hf.1 c_3
    refine lv_lconst (v := 0) hx hb dX0_ofProduction_15 (by decide) ?_
    refine lv_lstore (lv' := [(5, .long 0), (0, .ref (xa X 5)), (1, .int p0), (2, .int p1), (3, .int p2), (4, .int p3)]) hx hb dX0_ofProduction_16 hl (by decide) rfl (fun ls hl => ?_)
    refine lv_iconst (v := 1) hx hb dX0_ofProduction_18 (by decide) ?_
    refine lv_istore (lv' := [(7, .int 1), (5, .long 0), (0, .ref (xa X 5)), (1, .int p0), (2, .int p1), (3, .int p2), (4, .int p3)]) hx hb dX0_ofProduction_19 hl (by decide) rfl (fun ls hl => ?_)
    obtain ⟨n_21, hf⟩ := hf
    have w_21 : ∀ (n : Nat) (x5_4 : Int64) (x7_5 : Int32) (H : Heap) (locs : List Loc) (ls : Array Slot), lp (fun L x => bX0_ofProduction_5_21 p1 p2 p3 S Post L x.1 x.2) n (x5_4, x7_5) → xH 34 X (cX X) (xA 34 X s.heap.size) s.heap S H locs → lv_has ls 8 [(0, .ref (xa X 5)), (2, .int p1), (3, .int p2), (4, .int p3), (5, .long x5_4), (7, .int x7_5)] → W p l e rX0_ofProduction_5 s m args below meth c H locs 0 0 Q (F0 m 21 ls []) := by
      intro n
      induction n with
      | zero => intro x5_4 x7_5 H locs ls hf; exact hf.elim
      | succ n ih_21 =>
        intro x5_4 x7_5 H locs ls hf hw hl
        replace hf : bX0_ofProduction_5_21 p1 p2 p3 S Post (lp (fun L x => bX0_ofProduction_5_21 p1 p2 p3 S Post L x.1 x.2) n) x5_4 x7_5 := hf
        generalize lp (fun L x => bX0_ofProduction_5_21 p1 p2 p3 S Post L x.1 x.2) n = L_21 at hf ih_21
        rw [bX0_ofProduction_5_21] at hf
        refine lv_iload hx hb dX0_ofProduction_21 (lv_at hl 5 rfl) ?_
        refine lv_iload_n hx hb dX0_ofProduction_23 rfl (lv_at hl 2 rfl) ?_
        refine lv_icmp_gt (tgt := 48) hx hb dX0_ofProduction_24 (by decide) (fun c_6 => ?_) (fun c_6 => ?_)
        · replace hf := hf.1 c_6
          refine lv_lload hx hb dX0_ofProduction_48 (lv_at hl 4 rfl) ?_
          exact hQ _ _ _ _ _ _ ⟨hf, rfl⟩ hw dX0_ofProduction_50
        · replace hf := hf.2 c_6
          refine lv_lload hx hb dX0_ofProduction_27 (lv_at hl 4 rfl) ?_
          refine lv_aload_n hx hb dX0_ofProduction_29 rfl (lv_at hl 0 rfl) ?_
          refine lv_iload_n hx hb dX0_ofProduction_30 rfl (lv_at hl 1 rfl) ?_
          refine lv_iload_n hx hb dX0_ofProduction_31 rfl (lv_at hl 2 rfl) ?_
          refine lv_iload hx hb dX0_ofProduction_32 (lv_at hl 3 rfl) ?_
          refine lv_iload hx hb dX0_ofProduction_34 (lv_at hl 5 rfl) ?_
          refine x_cl (x_rU (As := [.int p1, .int p2, .int p3, .int x7_5]) (rest := [.long x5_4]) (okX X) hC hw (kX0_ofFirst_5 l X S _ p1 p2 p3 x7_5 _ hf) (va_cwU 4 hts (gU (owner := "GrammarAmbiguity$Counts") (x := ⟨"GrammarAmbiguity$Counts", "ofFirst", "(IIII)J"⟩) q_425 q_426 q_427 q_428 q_66 q_429) rfl rfl rfl rfl (by decide +kernel) ⟨Nat.le_of_ble_eq_true rfl, Nat.le_of_ble_eq_true rfl⟩) (x_recv hK hw (k := 5) (by decide) rfl rfl) rfl hl.1 rfl (Nat.le_of_ble_eq_true rfl) dX0_ofProduction_36) hw hi (fun r_7 S_8 H locs hf hw => ?_)
          obtain ⟨hf, rfl⟩ := hf
          refine lv_ladd hx hb dX0_ofProduction_39 ?_
          refine lv_topl (fun x5_9 ex5_9 => ?_)
          replace hf := hf x5_9 ex5_9
          refine lv_lstore (lv' := [(5, .long x5_9), (0, .ref (xa X 5)), (2, .int p1), (3, .int p2), (4, .int p3), (7, .int x7_5)]) hx hb dX0_ofProduction_40 hl (by decide) rfl (fun ls hl => ?_)
          obtain ⟨x7_10, ex7_10⟩ : ∃ y : Int32, y = x7_5 + 1 := ⟨_, rfl⟩
          replace hf := hf x7_10 ex7_10
          refine lv_iinc (v := x7_10) (lv' := [(7, .int x7_10), (5, .long x5_9), (0, .ref (xa X 5)), (2, .int p1), (3, .int p2), (4, .int p3)]) hx hb dX0_ofProduction_42 hl (k := 5) rfl (by rw [ex7_10]; rfl) (by decide) rfl (fun ls hl => ?_)
          refine lv_goto (tgt := 21) hx hb dX0_ofProduction_45 (by decide) ?_
          exact ih_21 x5_9 x7_10 _ _ _ hf hw (lv_sub hl [2, 3, 4, 5, 1, 0] rfl)
    exact w_21 n_21 0 1 _ _ _ hf hw (lv_sub hl [2, 4, 5, 6, 1, 0] rfl)
  · replace hf := hf.2 c_3
    refine lv_lconst (v := 0) hx hb dX0_ofProduction_13 (by decide) ?_
    exact hQ _ _ _ _ _ _ ⟨hf, rfl⟩ hw dX0_ofProduction_14
def bX0_fill_5_48 (x2_2 : Int32) (x4_8 : Int32) (x5_12 : Int32) (S_13 : gS) (L_30 : Int32 × gS → Prop) (L_48 : Int64 × Int32 → Prop) (x6_16 : Int64) (x8_17 : Int32) : Prop :=
  (((gI S_13 4) ≤ x8_17 → (pX0_put_5 x5_12 x2_2 x4_8 x6_16 S_13 (fun S_20 => (∀ x5_21 : Int32, x5_21 = x5_12 + 1 → L_30 (x5_21, S_20))))) ∧ (¬ (gI S_13 4) ≤ x8_17 → (pX0_ofProduction_5 x5_12 x8_17 x2_2 x4_8 S_13 (fun r_22 => (∀ x6_24 : Int64, x6_24 = (x6_16 + r_22) → (∀ x8_25 : Int32, x8_25 = x8_17 + 1 → L_48 (x6_24, x8_25)))))))
def bX0_fill_5_30 (x2_2 : Int32) (x4_8 : Int32) (L_21 : Int32 × gS → Prop) (L_30 : Int32 × gS → Prop) (x5_12 : Int32) (S_13 : gS) : Prop :=
  (((gI S_13 1) ≤ x5_12 → (∀ x4_15 : Int32, x4_15 = x4_8 + 1 → L_21 (x4_15, S_13))) ∧ (¬ (gI S_13 1) ≤ x5_12 → ∃ n, lp (fun L x => bX0_fill_5_48 x2_2 x4_8 x5_12 S_13 L_30 L x.1 x.2) n (0, 0)))
def bX0_fill_5_21 (x2_2 : Int32) (L_7 : Int32 × gS → Prop) (r_6 : Int32) (L_21 : Int32 × gS → Prop) (x4_8 : Int32) (S_9 : gS) : Prop :=
  ((r_6 ≤ x4_8 → (∀ x2_11 : Int32, x2_11 = x2_2 + 1 → L_7 (x2_11, S_9))) ∧ (¬ r_6 ≤ x4_8 → ∃ n, lp (fun L x => bX0_fill_5_30 x2_2 x4_8 L_21 L x.1 x.2) n (0, S_9)))
def bX0_fill_5_7 (p0 : Int32) (Post : gS → Prop) (L_7 : Int32 × gS → Prop) (x2_2 : Int32) (S_3 : gS) : Prop :=
  ((p0 < x2_2 → (∀ S_5 : gS, S_5 = uI S_3 11 (if (gI S_3 11) < p0 then p0 else (gI S_3 11)) → Post S_5)) ∧ (¬ p0 < x2_2 → (pX2_pieces x2_2 S_3 (fun r_6 => ∃ n, lp (fun L x => bX0_fill_5_21 x2_2 L_7 r_6 L x.1 x.2) n (0, S_3)))))
def pX0_fill_5 (p0 : Int32) (S : gS) (Post : gS → Prop) : Prop :=
  (∀ x2_1 : Int32, x2_1 = ((gI S 11) + 1) → ∃ n, lp (fun L x => bX0_fill_5_7 p0 Post L x.1 x.2) n (x2_1, S))
def rX0_fill_5 : Room := { frames := 5, cells := 0, slots := 0, locals := 134 }
set_option maxHeartbeats 40000000 in
set_option maxRecDepth 100000 in
theorem kX0_fill_5 (l : Launch) (X : xG) (S : gS) (sz : Nat) (p0 : Int32) (Post : gS → Prop) (hf : pX0_fill_5 p0 S Post) : xMv l yX0_fill (Cond.code yX0_fill cX0_fill 9 none :: WS) rX0_fill_5 34 X (cX X) (eX X) S sz [.ref (xa X 5), .int p0] Post := by
  refine xMv.of (cc := cX0_fill) (maxL := 9) (own := RX0) (by decide) rfl rfl (Nat.le_of_ble_eq_true rfl) ?_
  intro p e s m args below meth c ls Q hC hQ hw hl
  obtain ⟨hx, hb, hml, hown, hts, hE, hi⟩ := id hC
  have hK := hE.1
  have hl : lv_has ls 9 [(0, .ref (xa X 5)), (1, .int p0)] := hl
  have lf_19 : (Cond.fieldLink RX0 19 "GrammarAmbiguity$Counts" "filled" "I").before args s = true := hts _ q_71
  have lm_43 : (Cond.methodLink RX0 43 Lib.Math.max.name).before args s = true := hts _ q_408
  have lms_43 : (Cond.static Lib.Math.max.name).before args s = true := hts _ q_409
  have lmi : (Cond.initialized "java/lang/Math").before args s = true := hts _ q_410
  have lmc_43 : (Cond.code Lib.Math.max.name Lib.Math.max.code 2 (some .int)).before args s = true := hts _ q_411
  have lz_pieces : va_Nw (.declares ⟨"GrammarAmbiguity$Counts", "pieces", "(I)I"⟩) s := hE.2.1 _ (by decide +kernel)
  have lf_9 : (Cond.fieldLink RX0 9 "GrammarAmbiguity$Counts" "grammar" "LGrammarAmbiguity$Grammar;").before args s = true := hts _ q_69
  have lf_27 : va_Nw (.fieldLinkNest RX0 27 "GrammarAmbiguity$Grammar" "nonterminals" "I" "GrammarAmbiguity") s := hE.2.1 _ (by decide +kernel)
  have lf_32 : va_Nw (.fieldLinkNest RX0 32 "GrammarAmbiguity$Grammar" "productions" "I" "GrammarAmbiguity") s := hE.2.1 _ (by decide +kernel)
  rw [pX0_fill_5] at hf
  refine lv_aload_n hx hb dX0_fill_0 rfl (lv_at hl 0 rfl) ?_
  refine x_get (k := 5) (v := .int (gI S 11)) hx hb hts i_X2 hown hK hw (by decide) rfl rfl 2 (by decide) lf_19 (fun _ h9 => h9) rfl dX0_fill_1 ?_
  refine lv_iconst (v := 1) hx hb dX0_fill_4 (by decide) ?_
  refine lv_iadd hx hb dX0_fill_5 ?_
  refine lv_topi (fun x2_1 ex2_1 => ?_)
  replace hf := hf x2_1 ex2_1
  refine lv_istore_n (lv' := [(2, .int x2_1), (0, .ref (xa X 5)), (1, .int p0)]) hx hb dX0_fill_6 rfl hl (by decide) rfl (fun ls hl => ?_)
  obtain ⟨n_7, hf⟩ := hf
  have w_7 : ∀ (n : Nat) (x2_2 : Int32) (S_3 : gS) (H : Heap) (locs : List Loc) (ls : Array Slot), lp (fun L x => bX0_fill_5_7 p0 Post L x.1 x.2) n (x2_2, S_3) → xH 34 X (cX X) (xA 34 X s.heap.size) s.heap S_3 H locs → lv_has ls 9 [(0, .ref (xa X 5)), (1, .int p0), (2, .int x2_2)] → W p l e rX0_fill_5 s m args below meth c H locs 0 0 Q (F0 m 7 ls []) := by
    intro n
    induction n with
    | zero => intro x2_2 S_3 H locs ls hf; exact hf.elim
    | succ n ih_7 =>
      intro x2_2 S_3 H locs ls hf hw hl
      replace hf : bX0_fill_5_7 p0 Post (lp (fun L x => bX0_fill_5_7 p0 Post L x.1 x.2) n) x2_2 S_3 := hf
      generalize lp (fun L x => bX0_fill_5_7 p0 Post L x.1 x.2) n = L_7 at hf ih_7
      rw [bX0_fill_5_7] at hf
      refine lv_iload_n hx hb dX0_fill_7 rfl (lv_at hl 2 rfl) ?_
      refine lv_iload_n hx hb dX0_fill_8 rfl (lv_at hl 1 rfl) ?_
      refine lv_icmp_gt (tgt := 111) hx hb dX0_fill_9 (by decide) (fun c_4 => ?_) (fun c_4 => ?_)
      · replace hf := hf.1 c_4
        refine lv_aload_n hx hb dX0_fill_111 rfl (lv_at hl 0 rfl) ?_
        refine lv_aload_n hx hb dX0_fill_112 rfl (lv_at hl 0 rfl) ?_
        refine x_get (k := 5) (v := .int (gI S_3 11)) hx hb hts i_X2 hown hK hw (by decide) rfl rfl 2 (by decide) lf_19 (fun _ h9 => h9) rfl dX0_fill_113 ?_
        refine lv_iload_n hx hb dX0_fill_116 rfl (lv_at hl 1 rfl) ?_
        refine va_mmax hx hb (hml.trans hl.1.symm) hown lm_43 lms_43 lmi lmc_43 (Nat.le_of_ble_eq_true rfl) (Nat.le_of_ble_eq_true rfl) (Nat.zero_le _) (Nat.zero_le _) dX0_fill_117 ?_
        refine x_put (k := 5) (S' := uI S_3 11 (if (gI S_3 11) < p0 then p0 else (gI S_3 11))) (ty := .int) hx hb hts i_X2 tyX2_ok nmX2 hown hK hw (by decide) rfl rfl 2 (by decide) lf_19 (fun _ h9 => h9) rfl (by decide +kernel) rfl rfl (Nat.le_of_ble_eq_true rfl) dX0_fill_120 (uX_I11 X S_3 _) (fun H locs hw => ?_)
        obtain ⟨S_5, eS_5⟩ : ∃ z : gS, z = uI S_3 11 (if (gI S_3 11) < p0 then p0 else (gI S_3 11)) := ⟨_, rfl⟩
        rw [← eS_5] at hw
        replace hf := hf S_5 eS_5
        exact hQ _ _ _ _ _ hf hw dX0_fill_123
      · replace hf := hf.2 c_4
        refine lv_aload_n hx hb dX0_fill_12 rfl (lv_at hl 0 rfl) ?_
        refine lv_iload_n hx hb dX0_fill_13 rfl (lv_at hl 2 rfl) ?_
        refine x_ci (x_rU (As := [.int x2_2]) (rest := []) (okX X) hC hw (kX2_pieces l X S_3 _ x2_2 _ hf) (va_cwA 1 hts (gU (owner := "GrammarAmbiguity$Counts") (x := ⟨"GrammarAmbiguity$Counts", "pieces", "(I)I"⟩) q_412 q_413 q_414 q_415 q_27 q_416) rfl rfl rfl lz_pieces (by decide +kernel) ⟨Nat.le_of_ble_eq_true rfl, Nat.le_of_ble_eq_true rfl⟩) (x_recv hK hw (k := 5) (by decide) rfl rfl) rfl hl.1 rfl (Nat.le_of_ble_eq_true rfl) dX0_fill_14) hw hi (fun r_6 S_7 H locs hf hw => ?_)
        obtain ⟨hf, rfl⟩ := hf
        refine lv_istore_n (lv' := [(3, .int r_6), (0, .ref (xa X 5)), (1, .int p0), (2, .int x2_2)]) hx hb dX0_fill_17 rfl hl (by decide) rfl (fun ls hl => ?_)
        refine lv_iconst (v := 0) hx hb dX0_fill_18 (by decide) ?_
        refine lv_istore (lv' := [(4, .int 0), (3, .int r_6), (0, .ref (xa X 5)), (1, .int p0), (2, .int x2_2)]) hx hb dX0_fill_19 hl (by decide) rfl (fun ls hl => ?_)
        obtain ⟨n_21, hf⟩ := hf
        have w_21 : ∀ (n : Nat) (x4_8 : Int32) (S_9 : gS) (H : Heap) (locs : List Loc) (ls : Array Slot), lp (fun L x => bX0_fill_5_21 x2_2 L_7 r_6 L x.1 x.2) n (x4_8, S_9) → xH 34 X (cX X) (xA 34 X s.heap.size) s.heap S_9 H locs → lv_has ls 9 [(0, .ref (xa X 5)), (1, .int p0), (2, .int x2_2), (3, .int r_6), (4, .int x4_8)] → W p l e rX0_fill_5 s m args below meth c H locs 0 0 Q (F0 m 21 ls []) := by
          intro n
          induction n with
          | zero => intro x4_8 S_9 H locs ls hf; exact hf.elim
          | succ n ih_21 =>
            intro x4_8 S_9 H locs ls hf hw hl
            replace hf : bX0_fill_5_21 x2_2 L_7 r_6 (lp (fun L x => bX0_fill_5_21 x2_2 L_7 r_6 L x.1 x.2) n) x4_8 S_9 := hf
            generalize lp (fun L x => bX0_fill_5_21 x2_2 L_7 r_6 L x.1 x.2) n = L_21 at hf ih_21
            rw [bX0_fill_5_21] at hf
            refine lv_iload hx hb dX0_fill_21 (lv_at hl 4 rfl) ?_
            refine lv_iload_n hx hb dX0_fill_23 rfl (lv_at hl 3 rfl) ?_
            refine lv_icmp_ge (tgt := 105) hx hb dX0_fill_24 (by decide) (fun c_10 => ?_) (fun c_10 => ?_)
            · replace hf := hf.1 c_10
              obtain ⟨x2_11, ex2_11⟩ : ∃ y : Int32, y = x2_2 + 1 := ⟨_, rfl⟩
              replace hf := hf x2_11 ex2_11
              refine lv_iinc (v := x2_11) (lv' := [(2, .int x2_11), (0, .ref (xa X 5)), (1, .int p0), (3, .int r_6), (4, .int x4_8)]) hx hb dX0_fill_105 hl (k := 2) rfl (by rw [ex2_11]; rfl) (by decide) rfl (fun ls hl => ?_)
              refine lv_goto (tgt := 7) hx hb dX0_fill_108 (by decide) ?_
              exact ih_7 x2_11 S_9 _ _ _ hf hw (lv_sub hl [1, 2, 0] rfl)
            · replace hf := hf.2 c_10
              refine lv_iconst (v := 0) hx hb dX0_fill_27 (by decide) ?_
              refine lv_istore (lv' := [(5, .int 0), (0, .ref (xa X 5)), (1, .int p0), (2, .int x2_2), (3, .int r_6), (4, .int x4_8)]) hx hb dX0_fill_28 hl (by decide) rfl (fun ls hl => ?_)
              obtain ⟨n_30, hf⟩ := hf
              have w_30 : ∀ (n : Nat) (x5_12 : Int32) (S_13 : gS) (H : Heap) (locs : List Loc) (ls : Array Slot), lp (fun L x => bX0_fill_5_30 x2_2 x4_8 L_21 L x.1 x.2) n (x5_12, S_13) → xH 34 X (cX X) (xA 34 X s.heap.size) s.heap S_13 H locs → lv_has ls 9 [(0, .ref (xa X 5)), (1, .int p0), (2, .int x2_2), (3, .int r_6), (4, .int x4_8), (5, .int x5_12)] → W p l e rX0_fill_5 s m args below meth c H locs 0 0 Q (F0 m 30 ls []) := by
                intro n
                induction n with
                | zero => intro x5_12 S_13 H locs ls hf; exact hf.elim
                | succ n ih_30 =>
                  intro x5_12 S_13 H locs ls hf hw hl
                  replace hf : bX0_fill_5_30 x2_2 x4_8 L_21 (lp (fun L x => bX0_fill_5_30 x2_2 x4_8 L_21 L x.1 x.2) n) x5_12 S_13 := hf
                  generalize lp (fun L x => bX0_fill_5_30 x2_2 x4_8 L_21 L x.1 x.2) n = L_30 at hf ih_30
                  rw [bX0_fill_5_30] at hf
                  refine lv_iload hx hb dX0_fill_30 (lv_at hl 5 rfl) ?_
                  refine lv_aload_n hx hb dX0_fill_32 rfl (lv_at hl 0 rfl) ?_
                  refine x_get (k := 5) (v := .ref (xa X 1)) hx hb hts i_X2 hown hK hw (by decide) rfl rfl 0 (by decide) lf_9 (fun _ h9 => h9) rfl dX0_fill_33 ?_
                  refine x_getN (k := 1) (v := .int (gI S_13 1)) hx hb hts i_X1 hown hK hw (by decide) rfl rfl 0 (by decide) lf_27 (fun _ h9 => h9) rfl dX0_fill_36 ?_
                  refine lv_icmp_ge (tgt := 99) hx hb dX0_fill_39 (by decide) (fun c_14 => ?_) (fun c_14 => ?_)
                  · replace hf := hf.1 c_14
                    obtain ⟨x4_15, ex4_15⟩ : ∃ y : Int32, y = x4_8 + 1 := ⟨_, rfl⟩
                    replace hf := hf x4_15 ex4_15
                    refine lv_iinc (v := x4_15) (lv' := [(4, .int x4_15), (0, .ref (xa X 5)), (1, .int p0), (2, .int x2_2), (3, .int r_6), (5, .int x5_12)]) hx hb dX0_fill_99 hl (k := 4) rfl (by rw [ex4_15]; rfl) (by decide) rfl (fun ls hl => ?_)
                    refine lv_goto (tgt := 21) hx hb dX0_fill_102 (by decide) ?_
                    exact ih_21 x4_15 S_13 _ _ _ hf hw (lv_sub hl [1, 2, 3, 4, 0] rfl)
                  · replace hf := hf.2 c_14
                    refine lv_lconst (v := 0) hx hb dX0_fill_42 (by decide) ?_
                    refine lv_lstore (lv' := [(6, .long 0), (0, .ref (xa X 5)), (1, .int p0), (2, .int x2_2), (3, .int r_6), (4, .int x4_8), (5, .int x5_12)]) hx hb dX0_fill_43 hl (by decide) rfl (fun ls hl => ?_)
                    refine lv_iconst (v := 0) hx hb dX0_fill_45 (by decide) ?_
                    refine lv_istore (lv' := [(8, .int 0), (6, .long 0), (0, .ref (xa X 5)), (1, .int p0), (2, .int x2_2), (3, .int r_6), (4, .int x4_8), (5, .int x5_12)]) hx hb dX0_fill_46 hl (by decide) rfl (fun ls hl => ?_)
                    obtain ⟨n_48, hf⟩ := hf
                    have w_48 : ∀ (n : Nat) (x6_16 : Int64) (x8_17 : Int32) (H : Heap) (locs : List Loc) (ls : Array Slot), lp (fun L x => bX0_fill_5_48 x2_2 x4_8 x5_12 S_13 L_30 L x.1 x.2) n (x6_16, x8_17) → xH 34 X (cX X) (xA 34 X s.heap.size) s.heap S_13 H locs → lv_has ls 9 [(0, .ref (xa X 5)), (1, .int p0), (2, .int x2_2), (3, .int r_6), (4, .int x4_8), (5, .int x5_12), (6, .long x6_16), (8, .int x8_17)] → W p l e rX0_fill_5 s m args below meth c H locs 0 0 Q (F0 m 48 ls []) := by
                      intro n
                      induction n with
                      | zero => intro x6_16 x8_17 H locs ls hf; exact hf.elim
                      | succ n ih_48 =>
                        intro x6_16 x8_17 H locs ls hf hw hl
                        replace hf : bX0_fill_5_48 x2_2 x4_8 x5_12 S_13 L_30 (lp (fun L x => bX0_fill_5_48 x2_2 x4_8 x5_12 S_13 L_30 L x.1 x.2) n) x6_16 x8_17 := hf
                        generalize lp (fun L x => bX0_fill_5_48 x2_2 x4_8 x5_12 S_13 L_30 L x.1 x.2) n = L_48 at hf ih_48
                        rw [bX0_fill_5_48] at hf
                        refine lv_iload hx hb dX0_fill_48 (lv_at hl 7 rfl) ?_
                        refine lv_aload_n hx hb dX0_fill_50 rfl (lv_at hl 0 rfl) ?_
                        refine x_get (k := 5) (v := .ref (xa X 1)) hx hb hts i_X2 hown hK hw (by decide) rfl rfl 0 (by decide) lf_9 (fun _ h9 => h9) rfl dX0_fill_51 ?_
                        refine x_getN (k := 1) (v := .int (gI S_13 4)) hx hb hts i_X1 hown hK hw (by decide) rfl rfl 3 (by decide) lf_32 (fun _ h9 => h9) rfl dX0_fill_54 ?_
                        refine lv_icmp_ge (tgt := 82) hx hb dX0_fill_57 (by decide) (fun c_18 => ?_) (fun c_18 => ?_)
                        · replace hf := hf.1 c_18
                          refine lv_aload_n hx hb dX0_fill_82 rfl (lv_at hl 0 rfl) ?_
                          refine lv_iload hx hb dX0_fill_83 (lv_at hl 5 rfl) ?_
                          refine lv_iload_n hx hb dX0_fill_85 rfl (lv_at hl 2 rfl) ?_
                          refine lv_iload hx hb dX0_fill_86 (lv_at hl 4 rfl) ?_
                          refine lv_lload hx hb dX0_fill_88 (lv_at hl 6 rfl) ?_
                          refine x_cv (x_rU (As := [.int x5_12, .int x2_2, .int x4_8, .long x6_16]) (rest := []) (okX X) hC hw (kX0_put_5 l X S_13 _ x5_12 x2_2 x4_8 x6_16 _ hf) (va_cwU 4 hts (gU (owner := "GrammarAmbiguity$Counts") (x := ⟨"GrammarAmbiguity$Counts", "put", "(IIIJ)V"⟩) q_468 q_469 q_470 q_471 q_66 q_472) rfl rfl rfl rfl (by decide +kernel) ⟨Nat.le_of_ble_eq_true rfl, Nat.le_of_ble_eq_true rfl⟩) (x_recv hK hw (k := 5) (by decide) rfl rfl) rfl hl.1 rfl (Nat.le_of_ble_eq_true rfl) dX0_fill_90) hw hi (fun S_20 H locs hf hw => ?_)
                          obtain ⟨x5_21, ex5_21⟩ : ∃ y : Int32, y = x5_12 + 1 := ⟨_, rfl⟩
                          replace hf := hf x5_21 ex5_21
                          refine lv_iinc (v := x5_21) (lv' := [(5, .int x5_21), (0, .ref (xa X 5)), (1, .int p0), (2, .int x2_2), (3, .int r_6), (4, .int x4_8), (6, .long x6_16), (8, .int x8_17)]) hx hb dX0_fill_93 hl (k := 5) rfl (by rw [ex5_21]; rfl) (by decide) rfl (fun ls hl => ?_)
                          refine lv_goto (tgt := 30) hx hb dX0_fill_96 (by decide) ?_
                          exact ih_30 x5_21 S_20 _ _ _ hf hw (lv_sub hl [1, 2, 3, 4, 5, 0] rfl)
                        · replace hf := hf.2 c_18
                          refine lv_lload hx hb dX0_fill_60 (lv_at hl 6 rfl) ?_
                          refine lv_aload_n hx hb dX0_fill_62 rfl (lv_at hl 0 rfl) ?_
                          refine lv_iload hx hb dX0_fill_63 (lv_at hl 5 rfl) ?_
                          refine lv_iload hx hb dX0_fill_65 (lv_at hl 7 rfl) ?_
                          refine lv_iload_n hx hb dX0_fill_67 rfl (lv_at hl 2 rfl) ?_
                          refine lv_iload hx hb dX0_fill_68 (lv_at hl 4 rfl) ?_
                          refine x_cl (x_rU (As := [.int x5_12, .int x8_17, .int x2_2, .int x4_8]) (rest := [.long x6_16]) (okX X) hC hw (kX0_ofProduction_5 l X S_13 _ x5_12 x8_17 x2_2 x4_8 _ hf) (va_cwU 4 hts (gU (owner := "GrammarAmbiguity$Counts") (x := ⟨"GrammarAmbiguity$Counts", "ofProduction", "(IIII)J"⟩) q_420 q_421 q_422 q_423 q_66 q_424) rfl rfl rfl rfl (by decide +kernel) ⟨Nat.le_of_ble_eq_true rfl, Nat.le_of_ble_eq_true rfl⟩) (x_recv hK hw (k := 5) (by decide) rfl rfl) rfl hl.1 rfl (Nat.le_of_ble_eq_true rfl) dX0_fill_70) hw hi (fun r_22 S_23 H locs hf hw => ?_)
                          obtain ⟨hf, rfl⟩ := hf
                          refine lv_ladd hx hb dX0_fill_73 ?_
                          refine lv_topl (fun x6_24 ex6_24 => ?_)
                          replace hf := hf x6_24 ex6_24
                          refine lv_lstore (lv' := [(6, .long x6_24), (0, .ref (xa X 5)), (1, .int p0), (2, .int x2_2), (3, .int r_6), (4, .int x4_8), (5, .int x5_12), (8, .int x8_17)]) hx hb dX0_fill_74 hl (by decide) rfl (fun ls hl => ?_)
                          obtain ⟨x8_25, ex8_25⟩ : ∃ y : Int32, y = x8_17 + 1 := ⟨_, rfl⟩
                          replace hf := hf x8_25 ex8_25
                          refine lv_iinc (v := x8_25) (lv' := [(8, .int x8_25), (6, .long x6_24), (0, .ref (xa X 5)), (1, .int p0), (2, .int x2_2), (3, .int r_6), (4, .int x4_8), (5, .int x5_12)]) hx hb dX0_fill_76 hl (k := 7) rfl (by rw [ex8_25]; rfl) (by decide) rfl (fun ls hl => ?_)
                          refine lv_goto (tgt := 48) hx hb dX0_fill_79 (by decide) ?_
                          exact ih_48 x6_24 x8_25 _ _ _ hf hw (lv_sub hl [2, 3, 4, 5, 6, 7, 1, 0] rfl)
                    exact w_48 n_48 0 0 _ _ _ hf hw (lv_sub hl [2, 3, 4, 5, 6, 7, 1, 0] rfl)
              exact w_30 n_30 0 S_9 _ _ _ hf hw (lv_sub hl [1, 2, 3, 4, 5, 0] rfl)
        exact w_21 n_21 0 S_3 _ _ _ hf hw (lv_sub hl [2, 3, 4, 1, 0] rfl)
  exact w_7 n_7 x2_1 S _ _ _ hf hw (lv_sub hl [1, 2, 0] rfl)
