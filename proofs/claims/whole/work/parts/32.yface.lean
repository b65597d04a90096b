/-! Printed by wip/whole/gen: what each method asks (p..), and its contract under that (k..). -/
def pX8_checkLength (p0 : Int32) (p1 : Int32) (S : gS) (Post : Prop) (PX : String → gS → Prop) : Prop :=
  ((p0 < 1 → PX "java/lang/IllegalArgumentException" S) ∧ (¬ p0 < 1 → ((p0 ≤ p1 → Post) ∧ (¬ p0 ≤ p1 → PX "java/lang/IllegalArgumentException" S))))
def rX8_checkLength : Room := { frames := 6, cells := 1, slots := 6, locals := 90 }
set_option maxHeartbeats 40000000 in
set_option maxRecDepth 100000 in
theorem kX8_checkLength (l : Launch) (hlt : l.stackTraces = false) (X : xG) (S : gS) (sz : Nat) (p0 : Int32) (p1 : Int32) (Post : Prop) (PX : String → gS → Prop) (hf : pX8_checkLength p0 p1 S Post PX) : yMv l yX8_checkLength (Cond.code yX8_checkLength cX8_checkLength 2 none :: WS) rX8_checkLength X S sz [.int p0, .int p1] (fun S' => Post ∧ S = S') PX 1 6 := by
  refine yMv.of (cc := cX8_checkLength) (maxL := 2) hlt (by decide) rfl rfl (Nat.le_of_ble_eq_true rfl) (Nat.le_of_ble_eq_true rfl) (Nat.le_of_ble_eq_true rfl) rfl rfl ?_
  intro p e s m args below meth c ls Q hC hQ hT hX hw hl
  obtain ⟨hx, hb, hml, hown, hts, hE, hi⟩ := id hC
  have hK := hE.1
  have hl : lv_has ls 2 [(0, .int p0), (1, .int p1)] := hl
  rw [pX8_checkLength] at hf
  refine lv_iload_n hx hb dX8_checkLength_0 rfl (lv_at hl 0 rfl) ?_
  refine lv_iconst (v := 1) hx hb dX8_checkLength_1 (by decide) ?_
  refine lv_icmp_lt (tgt := 10) hx hb dX8_checkLength_2 (by decide) (fun c_1 => ?_) (fun c_1 => ?_)
  · replace hf := hf.1 c_1
    exact hT "java/lang/IllegalArgumentException" "the length is out of range" 74 78 7 277 prog_14_method_2_code S _ _ _ _ [] _ _ ex_A (by decide +kernel) hf hw hl.1 (Nat.le_of_ble_eq_true rfl) (by decide) (by decide) dX8_checkLength_10 dX8_checkLength_13 (Or.inr ⟨dX8_checkLength_14, dX8_checkLength_17, dX8_checkLength_20⟩)
  · replace hf := hf.2 c_1
    refine lv_iload_n hx hb dX8_checkLength_5 rfl (lv_at hl 0 rfl) ?_
    refine lv_iload_n hx hb dX8_checkLength_6 rfl (lv_at hl 1 rfl) ?_
    refine lv_icmp_le (tgt := 21) hx hb dX8_checkLength_7 (by decide) (fun c_2 => ?_) (fun c_2 => ?_)
    · replace hf := hf.1 c_2
      exact hQ _ _ _ _ _ _ _ ⟨hf, rfl⟩ hw dX8_checkLength_21 (by decide) (by decide)
    · replace hf := hf.2 c_2
      exact hT "java/lang/IllegalArgumentException" "the length is out of range" 74 78 7 277 prog_14_method_2_code S _ _ _ _ [] _ _ ex_A (by decide +kernel) hf hw hl.1 (Nat.le_of_ble_eq_true rfl) (by decide) (by decide) dX8_checkLength_10 dX8_checkLength_13 (Or.inr ⟨dX8_checkLength_14, dX8_checkLength_17, dX8_checkLength_20⟩)
def pX8_checkSlot (p0 : Int32) (S : gS) (Post : Prop) (PX : String → gS → Prop) : Prop :=
  ((p0 < 0 → PX "java/lang/IllegalArgumentException" S) ∧ (¬ p0 < 0 → ((p0 < 3 → Post) ∧ (¬ p0 < 3 → PX "java/lang/IllegalArgumentException" S))))
def rX8_checkSlot : Room := { frames := 6, cells := 1, slots := 6, locals := 90 }
set_option maxHeartbeats 40000000 in
set_option maxRecDepth 100000 in
theorem kX8_checkSlot (l : Launch) (hlt : l.stackTraces = false) (X : xG) (S : gS) (sz : Nat) (p0 : Int32) (Post : Prop) (PX : String → gS → Prop) (hf : pX8_checkSlot p0 S Post PX) : yMv l yX8_checkSlot (Cond.code yX8_checkSlot cX8_checkSlot 1 none :: WS) rX8_checkSlot X S sz [.int p0] (fun S' => Post ∧ S = S') PX 1 6 := by
  refine yMv.of (cc := cX8_checkSlot) (maxL := 1) hlt (by decide) rfl rfl (Nat.le_of_ble_eq_true rfl) (Nat.le_of_ble_eq_true rfl) (Nat.le_of_ble_eq_true rfl) rfl rfl ?_
  intro p e s m args below meth c ls Q hC hQ hT hX hw hl
  obtain ⟨hx, hb, hml, hown, hts, hE, hi⟩ := id hC
  have hK := hE.1
  have hl : lv_has ls 1 [(0, .int p0)] := hl
  rw [pX8_checkSlot] at hf
  refine lv_iload_n hx hb dX8_checkSlot_0 rfl (lv_at hl 0 rfl) ?_
  refine lv_if_lt (tgt := 9) hx hb dX8_checkSlot_1 (by decide) (fun c_1 => ?_) (fun c_1 => ?_)
  · replace hf := hf.1 c_1
    exact hT "java/lang/IllegalArgumentException" "the slot is out of range" 74 78 7 329 prog_14_method_2_code S _ _ _ _ [] _ _ ex_A (by decide +kernel) hf hw hl.1 (Nat.le_of_ble_eq_true rfl) (by decide) (by decide) dX8_checkSlot_9 dX8_checkSlot_12 (Or.inr ⟨dX8_checkSlot_13, dX8_checkSlot_16, dX8_checkSlot_19⟩)
  · replace hf := hf.2 c_1
    refine lv_iload_n hx hb dX8_checkSlot_4 rfl (lv_at hl 0 rfl) ?_
    refine lv_iconst (v := 3) hx hb dX8_checkSlot_5 (by decide) ?_
    refine lv_icmp_lt (tgt := 20) hx hb dX8_checkSlot_6 (by decide) (fun c_2 => ?_) (fun c_2 => ?_)
    · replace hf := hf.1 c_2
      exact hQ _ _ _ _ _ _ _ ⟨hf, rfl⟩ hw dX8_checkSlot_20 (by decide) (by decide)
    · replace hf := hf.2 c_2
      exact hT "java/lang/IllegalArgumentException" "the slot is out of range" 74 78 7 329 prog_14_method_2_code S _ _ _ _ [] _ _ ex_A (by decide +kernel) hf hw hl.1 (Nat.le_of_ble_eq_true rfl) (by decide) (by decide) dX8_checkSlot_9 dX8_checkSlot_12 (Or.inr ⟨dX8_checkSlot_13, dX8_checkSlot_16, dX8_checkSlot_19⟩)
def pX8_checkProduction (p0 : Int32) (S : gS) (Post : Prop) (PX : String → gS → Prop) : Prop :=
  ((p0 < 0 → PX "java/lang/IllegalArgumentException" S) ∧ (¬ p0 < 0 → ((p0 < (gI S 4) → Post) ∧ (¬ p0 < (gI S 4) → PX "java/lang/IllegalArgumentException" S))))
def rX8_checkProduction : Room := { frames := 6, cells := 1, slots := 6, locals := 90 }
set_option maxHeartbeats 40000000 in
set_option maxRecDepth 100000 in
theorem kX8_checkProduction (l : Launch) (hlt : l.stackTraces = false) (X : xG) (S : gS) (sz : Nat) (p0 : Int32) (Post : Prop) (PX : String → gS → Prop) (hf : pX8_checkProduction p0 S Post PX) : yMv l yX8_checkProduction (Cond.code yX8_checkProduction cX8_checkProduction 2 none :: WS) rX8_checkProduction X S sz [.ref (xa X 0), .int p0] (fun S' => Post ∧ S = S') PX 1 6 := by
  refine yMv.of (cc := cX8_checkProduction) (maxL := 2) hlt (by decide) rfl rfl (Nat.le_of_ble_eq_true rfl) (Nat.le_of_ble_eq_true rfl) (Nat.le_of_ble_eq_true rfl) rfl rfl ?_
  intro p e s m args below meth c ls Q hC hQ hT hX hw hl
  obtain ⟨hx, hb, hml, hown, hts, hE, hi⟩ := id hC
  have hK := hE.1
  have hl : lv_has ls 2 [(0, .ref (xa X 0)), (1, .int p0)] := hl
  have lf_12 : (Cond.fieldLink RX8 12 "GrammarAmbiguity" "grammar" "LGrammarAmbiguity$Grammar;").before args s = true := hts _ q_18
  have lf_110 : va_Nw (.fieldLinkNest RX8 110 "GrammarAmbiguity$Grammar" "productions" "I" "GrammarAmbiguity") s := hE.2.1 _ (by decide +kernel)
  rw [pX8_checkProduction] at hf
  refine lv_iload_n hx hb dX8_checkProduction_0 rfl (lv_at hl 1 rfl) ?_
  refine lv_if_lt (tgt := 15) hx hb dX8_checkProduction_1 (by decide) (fun c_1 => ?_) (fun c_1 => ?_)
  · replace hf := hf.1 c_1
    exact hT "java/lang/IllegalArgumentException" "there is no such production" 74 78 7 323 prog_14_method_2_code S _ _ _ _ [] _ _ ex_A (by decide +kernel) hf hw hl.1 (Nat.le_of_ble_eq_true rfl) (by decide) (by decide) dX8_checkProduction_15 dX8_checkProduction_18 (Or.inr ⟨dX8_checkProduction_19, dX8_checkProduction_22, dX8_checkProduction_25⟩)
  · replace hf := hf.2 c_1
    refine lv_iload_n hx hb dX8_checkProduction_4 rfl (lv_at hl 1 rfl) ?_
    refine lv_aload_n hx hb dX8_checkProduction_5 rfl (lv_at hl 0 rfl) ?_
    refine x_get (k := 0) (v := .ref (xa X 1)) hx hb hts i_X8 hown hK hw (by decide) rfl rfl 0 (by decide) lf_12 (fun _ h9 => h9) rfl dX8_checkProduction_6 ?_
    refine x_getN (k := 1) (v := .int (gI S 4)) hx hb hts i_X1 hown hK hw (by decide) rfl rfl 3 (by decide) lf_110 (fun _ h9 => h9) rfl dX8_checkProduction_9 ?_
    refine lv_icmp_lt (tgt := 26) hx hb dX8_checkProduction_12 (by decide) (fun c_2 => ?_) (fun c_2 => ?_)
    · replace hf := hf.1 c_2
      exact hQ _ _ _ _ _ _ _ ⟨hf, rfl⟩ hw dX8_checkProduction_26 (by decide) (by decide)
    · replace hf := hf.2 c_2
      exact hT "java/lang/IllegalArgumentException" "there is no such production" 74 78 7 323 prog_14_method_2_code S _ _ _ _ [] _ _ ex_A (by decide +kernel) hf hw hl.1 (Nat.le_of_ble_eq_true rfl) (by decide) (by decide) dX8_checkProduction_15 dX8_checkProduction_18 (Or.inr ⟨dX8_checkProduction_19, dX8_checkProduction_22, dX8_checkProduction_25⟩)
def pX8_checkNonterminal (p0 : Int32) (S : gS) (Post : Prop) (PX : String → gS → Prop) : Prop :=
  (pX1_isNonterminal p0 S (fun r_1 => ((¬ r_1 = 0 → Post) ∧ (r_1 = 0 → PX "java/lang/IllegalArgumentException" S))))
def rX8_checkNonterminal : Room := { frames := 6, cells := 1, slots := 6, locals := 90 }
set_option maxHeartbeats 40000000 in
set_option maxRecDepth 100000 in
theorem kX8_checkNonterminal (l : Launch) (hlt : l.stackTraces = false) (X : xG) (S : gS) (sz : Nat) (p0 : Int32) (Post : Prop) (PX : String → gS → Prop) (hf : pX8_checkNonterminal p0 S Post PX) : yMv l yX8_checkNonterminal (Cond.code yX8_checkNonterminal cX8_checkNonterminal 2 none :: WS) rX8_checkNonterminal X S sz [.ref (xa X 0), .int p0] (fun S' => Post ∧ S = S') PX 1 6 := by
  refine yMv.of (cc := cX8_checkNonterminal) (maxL := 2) hlt (by decide) rfl rfl (Nat.le_of_ble_eq_true rfl) (Nat.le_of_ble_eq_true rfl) (Nat.le_of_ble_eq_true rfl) rfl rfl ?_
  intro p e s m args below meth c ls Q hC hQ hT hX hw hl
  obtain ⟨hx, hb, hml, hown, hts, hE, hi⟩ := id hC
  have hK := hE.1
  have hl : lv_has ls 2 [(0, .ref (xa X 0)), (1, .int p0)] := hl
  have lf_12 : (Cond.fieldLink RX8 12 "GrammarAmbiguity" "grammar" "LGrammarAmbiguity$Grammar;").before args s = true := hts _ q_18
  have ln_94 : va_Nw (.methodLinkNest RX8 94 yX1_isNonterminal "GrammarAmbiguity") s := hE.2.1 _ (by decide +kernel)
  rw [pX8_checkNonterminal] at hf
  refine lv_aload_n hx hb dX8_checkNonterminal_0 rfl (lv_at hl 0 rfl) ?_
  refine x_get (k := 0) (v := .ref (xa X 1)) hx hb hts i_X8 hown hK hw (by decide) rfl rfl 0 (by decide) lf_12 (fun _ h9 => h9) rfl dX8_checkNonterminal_1 ?_
  refine lv_iload_n hx hb dX8_checkNonterminal_4 rfl (lv_at hl 1 rfl) ?_
  refine z_ci (z_rN (As := [.int p0]) (rest := []) (okX X) hC hw (kX1_isNonterminal l X S _ p0 _ hf) ⟨va_cnB 1 hts (gN q_183) rfl rfl rfl ln_94 (hts _ q_17) (by decide +kernel) ⟨Nat.le_of_ble_eq_true rfl, Nat.le_of_ble_eq_true rfl⟩, hts _ q_181, hts _ q_182⟩ (x_recv hK hw (k := 1) (by decide) rfl rfl) rfl hl.1 rfl (Nat.le_of_ble_eq_true rfl) dX8_checkNonterminal_5 ⟨Nat.le_of_ble_eq_true rfl, Nat.le_of_ble_eq_true rfl⟩) hw hi (fun r_1 S_2 H locs hf hw => ?_)
  obtain ⟨hf, rfl⟩ := hf
  refine lv_if_ne (tgt := 22) hx hb dX8_checkNonterminal_8 (by decide) (fun c_3 => ?_) (fun c_3 => ?_)
  · replace hf := hf.1 c_3
    exact hQ _ _ _ _ _ _ _ ⟨hf, rfl⟩ hw dX8_checkNonterminal_22 (by decide) (by decide)
  · replace hf := hf.2 c_3
    exact hT "java/lang/IllegalArgumentException" "there is no such nonterminal" 74 78 7 325 prog_14_method_2_code S _ _ _ _ [] _ _ ex_A (by decide +kernel) hf hw hl.1 (Nat.le_of_ble_eq_true rfl) (by decide) (by decide) dX8_checkNonterminal_11 dX8_checkNonterminal_14 (Or.inr ⟨dX8_checkNonterminal_15, dX8_checkNonterminal_18, dX8_checkNonterminal_21⟩)
def pX8_checkTree (S : gS) (Post : Prop) (PX : String → gS → Prop) : Prop :=
  ((¬ (gI S 14) = 0 → Post) ∧ ((gI S 14) = 0 → PX "java/lang/IllegalStateException" S))
def rX8_checkTree : Room := { frames := 6, cells := 1, slots := 6, locals := 90 }
set_option maxHeartbeats 40000000 in
set_option maxRecDepth 100000 in
theorem kX8_checkTree (l : Launch) (hlt : l.stackTraces = false) (X : xG) (S : gS) (sz : Nat) (Post : Prop) (PX : String → gS → Prop) (hf : pX8_checkTree S Post PX) : yMv l yX8_checkTree (Cond.code yX8_checkTree cX8_checkTree 1 none :: WS) rX8_checkTree X S sz [.ref (xa X 0)] (fun S' => Post ∧ S = S') PX 1 6 := by
  refine yMv.of (cc := cX8_checkTree) (maxL := 1) hlt (by decide) rfl rfl (Nat.le_of_ble_eq_true rfl) (Nat.le_of_ble_eq_true rfl) (Nat.le_of_ble_eq_true rfl) rfl rfl ?_
  intro p e s m args below meth c ls Q hC hQ hT hX hw hl
  obtain ⟨hx, hb, hml, hown, hts, hE, hi⟩ := id hC
  have hK := hE.1
  have hl : lv_has ls 1 [(0, .ref (xa X 0))] := hl
  have lf_59 : (Cond.fieldLink RX8 59 "GrammarAmbiguity" "tree" "LGrammarAmbiguity$Tree;").before args s = true := hts _ q_40
  have lf_148 : va_Nw (.fieldLinkNest RX8 148 "GrammarAmbiguity$Tree" "present" "Z" "GrammarAmbiguity") s := hE.2.1 _ (by decide +kernel)
  rw [pX8_checkTree] at hf
  refine lv_aload_n hx hb dX8_checkTree_0 rfl (lv_at hl 0 rfl) ?_
  refine x_get (k := 0) (v := .ref (xa X 8)) hx hb hts i_X8 hown hK hw (by decide) rfl rfl 7 (by decide) lf_59 (fun _ h9 => h9) rfl dX8_checkTree_1 ?_
  refine x_getN (k := 8) (v := .int (gI S 14)) hx hb hts i_X5 hown hK hw (by decide) rfl rfl 1 (by decide) lf_148 (fun _ h9 => h9) rfl dX8_checkTree_4 ?_
  refine lv_if_ne (tgt := 21) hx hb dX8_checkTree_7 (by decide) (fun c_1 => ?_) (fun c_1 => ?_)
  · replace hf := hf.1 c_1
    exact hQ _ _ _ _ _ _ _ ⟨hf, rfl⟩ hw dX8_checkTree_21 (by decide) (by decide)
  · replace hf := hf.2 c_1
    exact hT "java/lang/IllegalStateException" "there is no current tree" 113 117 7 327 prog_15_method_2_code S _ _ _ _ [] _ _ ex_S (by decide +kernel) hf hw hl.1 (Nat.le_of_ble_eq_true rfl) (by decide) (by decide) dX8_checkTree_10 dX8_checkTree_13 (Or.inr ⟨dX8_checkTree_14, dX8_checkTree_17, dX8_checkTree_20⟩)
def pX8_checkArray (p0 : Int32) (S : gS) (Post : Prop) (PX : String → gS → Prop) : Prop :=
  (pX3_isHeld p0 S (fun r_1 => ((¬ r_1 = 0 → Post) ∧ (r_1 = 0 → PX "java/lang/IllegalStateException" S))))
def rX8_checkArray : Room := { frames := 6, cells := 1, slots := 6, locals := 90 }
set_option maxHeartbeats 40000000 in
set_option maxRecDepth 100000 in
theorem kX8_checkArray (l : Launch) (hlt : l.stackTraces = false) (X : xG) (S : gS) (sz : Nat) (p0 : Int32) (Post : Prop) (PX : String → gS → Prop) (hf : pX8_checkArray p0 S Post PX) : yMv l yX8_checkArray (Cond.code yX8_checkArray cX8_checkArray 2 none :: WS) rX8_checkArray X S sz [.ref (xa X 0), .int p0] (fun S' => Post ∧ S = S') PX 1 6 := by
  refine yMv.of (cc := cX8_checkArray) (maxL := 2) hlt (by decide) rfl rfl (Nat.le_of_ble_eq_true rfl) (Nat.le_of_ble_eq_true rfl) (Nat.le_of_ble_eq_true rfl) rfl rfl ?_
  intro p e s m args below meth c ls Q hC hQ hT hX hw hl
  obtain ⟨hx, hb, hml, hown, hts, hE, hi⟩ := id hC
  have hK := hE.1
  have hl : lv_has ls 2 [(0, .ref (xa X 0)), (1, .int p0)] := hl
  have lf_66 : (Cond.fieldLink RX8 66 "GrammarAmbiguity" "slots" "LGrammarAmbiguity$Slots;").before args s = true := hts _ q_44
  have ln_331 : va_Nw (.methodLinkNest RX8 331 yX3_isHeld "GrammarAmbiguity") s := hE.2.1 _ (by decide +kernel)
  rw [pX8_checkArray] at hf
  refine lv_aload_n hx hb dX8_checkArray_0 rfl (lv_at hl 0 rfl) ?_
  refine x_get (k := 0) (v := .ref (xa X 9)) hx hb hts i_X8 hown hK hw (by decide) rfl rfl 8 (by decide) lf_66 (fun _ h9 => h9) rfl dX8_checkArray_1 ?_
  refine lv_iload_n hx hb dX8_checkArray_4 rfl (lv_at hl 1 rfl) ?_
  refine z_ci (z_rN (As := [.int p0]) (rest := []) (okX X) hC hw (kX3_isHeld l X S _ p0 _ hf) ⟨va_cnB 1 hts (gN q_878) rfl rfl rfl ln_331 (hts _ q_43) (by decide +kernel) ⟨Nat.le_of_ble_eq_true rfl, Nat.le_of_ble_eq_true rfl⟩, hts _ q_876, hts _ q_877⟩ (x_recv hK hw (k := 9) (by decide) rfl rfl) rfl hl.1 rfl (Nat.le_of_ble_eq_true rfl) dX8_checkArray_5 ⟨Nat.le_of_ble_eq_true rfl, Nat.le_of_ble_eq_true rfl⟩) hw hi (fun r_1 S_2 H locs hf hw => ?_)
  obtain ⟨hf, rfl⟩ := hf
  refine lv_if_ne (tgt := 22) hx hb dX8_checkArray_8 (by decide) (fun c_3 => ?_) (fun c_3 => ?_)
  · replace hf := hf.1 c_3
    exact hQ _ _ _ _ _ _ _ ⟨hf, rfl⟩ hw dX8_checkArray_22 (by decide) (by decide)
  · replace hf := hf.2 c_3
    exact hT "java/lang/IllegalStateException" "the slot is empty" 113 117 7 334 prog_15_method_2_code S _ _ _ _ [] _ _ ex_S (by decide +kernel) hf hw hl.1 (Nat.le_of_ble_eq_true rfl) (by decide) (by decide) dX8_checkArray_11 dX8_checkArray_14 (Or.inr ⟨dX8_checkArray_15, dX8_checkArray_18, dX8_checkArray_21⟩)
def pX8_checkIndexes (p0 : Int32) (p1 : Int32) (p2 : Int32) (S : gS) (Post : Prop) (PX : String → gS → Prop) : Prop :=
  ((p1 < 0 → PX "java/lang/IndexOutOfBoundsException" S) ∧ (¬ p1 < 0 → (pX3_length p0 S (fun r_2 => ((p1 ≤ (r_2 - p2) → Post) ∧ (¬ p1 ≤ (r_2 - p2) → PX "java/lang/IndexOutOfBoundsException" S))))))
def rX8_checkIndexes : Room := { frames := 6, cells := 1, slots := 6, locals := 90 }
set_option maxHeartbeats 40000000 in
set_option maxRecDepth 100000 in
theorem kX8_checkIndexes (l : Launch) (hlt : l.stackTraces = false) (X : xG) (S : gS) (sz : Nat) (p0 : Int32) (p1 : Int32) (p2 : Int32) (Post : Prop) (PX : String → gS → Prop) (hf : pX8_checkIndexes p0 p1 p2 S Post PX) : yMv l yX8_checkIndexes (Cond.code yX8_checkIndexes cX8_checkIndexes 4 none :: WS) rX8_checkIndexes X S sz [.ref (xa X 0), .int p0, .int p1, .int p2] (fun S' => Post ∧ S = S') PX 1 6 := by
  refine yMv.of (cc := cX8_checkIndexes) (maxL := 4) hlt (by decide) rfl rfl (Nat.le_of_ble_eq_true rfl) (Nat.le_of_ble_eq_true rfl) (Nat.le_of_ble_eq_true rfl) rfl rfl ?_
  intro p e s m args below meth c ls Q hC hQ hT hX hw hl
  obtain ⟨hx, hb, hml, hown, hts, hE, hi⟩ := id hC
  have hK := hE.1
  have hl : lv_has ls 4 [(0, .ref (xa X 0)), (1, .int p0), (2, .int p1), (3, .int p2)] := hl
  have lf_66 : (Cond.fieldLink RX8 66 "GrammarAmbiguity" "slots" "LGrammarAmbiguity$Slots;").before args s = true := hts _ q_44
  have ln_336 : va_Nw (.methodLinkNest RX8 336 yX3_length "GrammarAmbiguity") s := hE.2.1 _ (by decide +kernel)
  rw [pX8_checkIndexes] at hf
  refine lv_iload_n hx hb dX8_checkIndexes_0 rfl (lv_at hl 2 rfl) ?_
  refine lv_if_lt (tgt := 18) hx hb dX8_checkIndexes_1 (by decide) (fun c_1 => ?_) (fun c_1 => ?_)
  · replace hf := hf.1 c_1
    exact hT "java/lang/IndexOutOfBoundsException" "the array does not have these indexes" 133 137 7 338 prog_16_method_2_code S _ _ _ _ [] _ _ ex_I (by decide +kernel) hf hw hl.1 (Nat.le_of_ble_eq_true rfl) (by decide) (by decide) dX8_checkIndexes_18 dX8_checkIndexes_21 (Or.inr ⟨dX8_checkIndexes_22, dX8_checkIndexes_25, dX8_checkIndexes_28⟩)
  · replace hf := hf.2 c_1
    refine lv_iload_n hx hb dX8_checkIndexes_4 rfl (lv_at hl 2 rfl) ?_
    refine lv_aload_n hx hb dX8_checkIndexes_5 rfl (lv_at hl 0 rfl) ?_
    refine x_get (k := 0) (v := .ref (xa X 9)) hx hb hts i_X8 hown hK hw (by decide) rfl rfl 8 (by decide) lf_66 (fun _ h9 => h9) rfl dX8_checkIndexes_6 ?_
    refine lv_iload_n hx hb dX8_checkIndexes_9 rfl (lv_at hl 1 rfl) ?_
    refine z_ci (z_rN (As := [.int p0]) (rest := [.int p1]) (okX X) hC hw (kX3_length l X S _ p0 _ hf) ⟨va_cnB 1 hts (gN q_885) rfl rfl rfl ln_336 (hts _ q_43) (by decide +kernel) ⟨Nat.le_of_ble_eq_true rfl, Nat.le_of_ble_eq_true rfl⟩, hts _ q_883, hts _ q_884⟩ (x_recv hK hw (k := 9) (by decide) rfl rfl) rfl hl.1 rfl (Nat.le_of_ble_eq_true rfl) dX8_checkIndexes_10 ⟨Nat.le_of_ble_eq_true rfl, Nat.le_of_ble_eq_true rfl⟩) hw hi (fun r_2 S_3 H locs hf hw => ?_)
    obtain ⟨hf, rfl⟩ := hf
    refine lv_iload_n hx hb dX8_checkIndexes_13 rfl (lv_at hl 3 rfl) ?_
    refine lv_isub hx hb dX8_checkIndexes_14 ?_
    refine lv_icmp_le (tgt := 29) hx hb dX8_checkIndexes_15 (by decide) (fun c_4 => ?_) (fun c_4 => ?_)
    · replace hf := hf.1 c_4
      exact hQ _ _ _ _ _ _ _ ⟨hf, rfl⟩ hw dX8_checkIndexes_29 (by decide) (by decide)
    · replace hf := hf.2 c_4
      exact hT "java/lang/IndexOutOfBoundsException" "the array does not have these indexes" 133 137 7 338 prog_16_method_2_code S _ _ _ _ [] _ _ ex_I (by decide +kernel) hf hw hl.1 (Nat.le_of_ble_eq_true rfl) (by decide) (by decide) dX8_checkIndexes_18 dX8_checkIndexes_21 (Or.inr ⟨dX8_checkIndexes_22, dX8_checkIndexes_25, dX8_checkIndexes_28⟩)
def pX8_reset (p0 : Int32) (p1 : Int32) (S : gS) (Post : gS → Prop) (PX : String → gS → Prop) : Prop :=
  ((p0 < 1 → PX "java/lang/IllegalArgumentException" S) ∧ (¬ p0 < 1 → ((p0 ≤ 6 → ((p1 < 1 → PX "java/lang/IllegalArgumentException" S) ∧ (¬ p1 < 1 → ((p1 ≤ 3 → (pX1_begin p0 p1 S (fun S_6 => (∀ S_7 : gS, S_7 = uI S_6 5 0 → (pX8_forgetGrammar  S_7 (fun S_9 => Post S_9)))))) ∧ (¬ p1 ≤ 3 → PX "java/lang/IllegalArgumentException" S))))) ∧ (¬ p0 ≤ 6 → PX "java/lang/IllegalArgumentException" S))))
def rX8_reset : Room := { frames := 6, cells := 1, slots := 6, locals := 90 }
set_option maxHeartbeats 40000000 in
set_option maxRecDepth 100000 in
theorem kX8_reset (l : Launch) (hlt : l.stackTraces = false) (X : xG) (S : gS) (sz : Nat) (p0 : Int32) (p1 : Int32) (Post : gS → Prop) (PX : String → gS → Prop) (hf : pX8_reset p0 p1 S Post PX) : yMv l yX8_reset (Cond.code yX8_reset cX8_reset 3 none :: WS) rX8_reset X S sz [.ref (xa X 0), .int p0, .int p1] Post PX 1 6 := by
  refine yMv.of (cc := cX8_reset) (maxL := 3) hlt (by decide) rfl rfl (Nat.le_of_ble_eq_true rfl) (Nat.le_of_ble_eq_true rfl) (Nat.le_of_ble_eq_true rfl) rfl rfl ?_
  intro p e s m args below meth c ls Q hC hQ hT hX hw hl
  obtain ⟨hx, hb, hml, hown, hts, hE, hi⟩ := id hC
  have hK := hE.1
  have hl : lv_has ls 3 [(0, .ref (xa X 0)), (1, .int p0), (2, .int p1)] := hl
  have lf_12 : (Cond.fieldLink RX8 12 "GrammarAmbiguity" "grammar" "LGrammarAmbiguity$Grammar;").before args s = true := hts _ q_18
  have ln_83 : va_Nw (.methodLinkNest RX8 83 yX1_begin "GrammarAmbiguity") s := hE.2.1 _ (by decide +kernel)
  have lf_19 : (Cond.fieldLink RX8 19 "GrammarAmbiguity" "word" "LGrammarAmbiguity$Word;").before args s = true := hts _ q_22
  have lf_87 : va_Nw (.fieldLinkNest RX8 87 "GrammarAmbiguity$Word" "length" "I" "GrammarAmbiguity") s := hE.2.1 _ (by decide +kernel)
  rw [pX8_reset] at hf
  refine lv_iload_n hx hb dX8_reset_0 rfl (lv_at hl 1 rfl) ?_
  refine lv_iconst (v := 1) hx hb dX8_reset_1 (by decide) ?_
  refine lv_icmp_lt (tgt := 11) hx hb dX8_reset_2 (by decide) (fun c_1 => ?_) (fun c_1 => ?_)
  · replace hf := hf.1 c_1
    exact hT "java/lang/IllegalArgumentException" "the number of nonterminals is out of range" 74 78 7 76 prog_14_method_2_code S _ _ _ _ [] _ _ ex_A (by decide +kernel) hf hw hl.1 (Nat.le_of_ble_eq_true rfl) (by decide) (by decide) dX8_reset_11 dX8_reset_14 (Or.inl ⟨dX8_reset_15, dX8_reset_17, dX8_reset_20⟩)
  · replace hf := hf.2 c_1
    refine lv_iload_n hx hb dX8_reset_5 rfl (lv_at hl 1 rfl) ?_
    refine lv_bipush (v := 6) hx hb dX8_reset_6 (by decide) ?_
    refine lv_icmp_le (tgt := 21) hx hb dX8_reset_8 (by decide) (fun c_2 => ?_) (fun c_2 => ?_)
    · replace hf := hf.1 c_2
      refine lv_iload_n hx hb dX8_reset_21 rfl (lv_at hl 2 rfl) ?_
      refine lv_iconst (v := 1) hx hb dX8_reset_22 (by decide) ?_
      refine lv_icmp_lt (tgt := 31) hx hb dX8_reset_23 (by decide) (fun c_3 => ?_) (fun c_3 => ?_)
      · replace hf := hf.1 c_3
        exact hT "java/lang/IllegalArgumentException" "the number of terminals is out of range" 74 78 7 81 prog_14_method_2_code S _ _ _ _ [] _ _ ex_A (by decide +kernel) hf hw hl.1 (Nat.le_of_ble_eq_true rfl) (by decide) (by decide) dX8_reset_31 dX8_reset_34 (Or.inl ⟨dX8_reset_35, dX8_reset_37, dX8_reset_40⟩)
      · replace hf := hf.2 c_3
        refine lv_iload_n hx hb dX8_reset_26 rfl (lv_at hl 2 rfl) ?_
        refine lv_iconst (v := 3) hx hb dX8_reset_27 (by decide) ?_
        refine lv_icmp_le (tgt := 41) hx hb dX8_reset_28 (by decide) (fun c_4 => ?_) (fun c_4 => ?_)
        · replace hf := hf.1 c_4
          refine lv_aload_n hx hb dX8_reset_41 rfl (lv_at hl 0 rfl) ?_
          refine x_get (k := 0) (v := .ref (xa X 1)) hx hb hts i_X8 hown hK hw (by decide) rfl rfl 0 (by decide) lf_12 (fun _ h9 => h9) rfl dX8_reset_42 ?_
          refine lv_iload_n hx hb dX8_reset_45 rfl (lv_at hl 1 rfl) ?_
          refine lv_iload_n hx hb dX8_reset_46 rfl (lv_at hl 2 rfl) ?_
          refine z_cv (z_rN (As := [.int p0, .int p1]) (rest := []) (okX X) hC hw (kX1_begin l X S _ p0 p1 _ hf) ⟨va_cnB 2 hts (gN q_139) rfl rfl rfl ln_83 (hts _ q_17) (by decide +kernel) ⟨Nat.le_of_ble_eq_true rfl, Nat.le_of_ble_eq_true rfl⟩, hts _ q_137, hts _ q_138⟩ (x_recv hK hw (k := 1) (by decide) rfl rfl) rfl hl.1 rfl (Nat.le_of_ble_eq_true rfl) dX8_reset_47 ⟨Nat.le_of_ble_eq_true rfl, Nat.le_of_ble_eq_true rfl⟩) hw hi (fun S_6 H locs hf hw => ?_)
          refine lv_aload_n hx hb dX8_reset_50 rfl (lv_at hl 0 rfl) ?_
          refine x_get (k := 0) (v := .ref (xa X 2)) hx hb hts i_X8 hown hK hw (by decide) rfl rfl 1 (by decide) lf_19 (fun _ h9 => h9) rfl dX8_reset_51 ?_
          refine lv_iconst (v := 0) hx hb dX8_reset_54 (by decide) ?_
          refine x_putN (k := 2) (S' := uI S_6 5 0) (ty := .int) hx hb hts i_X6 tyX6_ok nmX6 hown hK hw (by decide) rfl rfl 0 (by decide) lf_87 (fun _ h9 => h9) rfl (by decide +kernel) rfl rfl (Nat.le_of_ble_eq_true rfl) dX8_reset_55 (uX_I5 X S_6 _) (fun H locs hw => ?_)
          obtain ⟨S_7, eS_7⟩ : ∃ z : gS, z = uI S_6 5 0 := ⟨_, rfl⟩
          rw [← eS_7] at hw
          replace hf := hf S_7 eS_7
          refine lv_aload_n hx hb dX8_reset_58 rfl (lv_at hl 0 rfl) ?_
          refine z_cv (z_rV (As := []) (rest := []) (okX X) hC hw (kX8_forgetGrammar l X S_7 _  _ hf) (cwV 0 hts (gV q_140 q_141 q_142 q_2 q_143) rfl rfl rfl (by decide +kernel) ⟨Nat.le_of_ble_eq_true rfl, Nat.le_of_ble_eq_true rfl⟩) (x_recv hK hw (k := 0) (by decide) rfl rfl) rfl hl.1 rfl (Nat.le_of_ble_eq_true rfl) dX8_reset_59 ⟨Nat.le_of_ble_eq_true rfl, Nat.le_of_ble_eq_true rfl⟩) hw hi (fun S_9 H locs hf hw => ?_)
          exact hQ _ _ _ _ _ _ _ hf hw dX8_reset_62 (by decide) (by decide)
        · replace hf := hf.2 c_4
          exact hT "java/lang/IllegalArgumentException" "the number of terminals is out of range" 74 78 7 81 prog_14_method_2_code S _ _ _ _ [] _ _ ex_A (by decide +kernel) hf hw hl.1 (Nat.le_of_ble_eq_true rfl) (by decide) (by decide) dX8_reset_31 dX8_reset_34 (Or.inl ⟨dX8_reset_35, dX8_reset_37, dX8_reset_40⟩)
    · replace hf := hf.2 c_2
      exact hT "java/lang/IllegalArgumentException" "the number of nonterminals is out of range" 74 78 7 76 prog_14_method_2_code S _ _ _ _ [] _ _ ex_A (by decide +kernel) hf hw hl.1 (Nat.le_of_ble_eq_true rfl) (by decide) (by decide) dX8_reset_11 dX8_reset_14 (Or.inl ⟨dX8_reset_15, dX8_reset_17, dX8_reset_20⟩)
def pX8_addProduction (p0 : Int32) (p1 : Int32) (p2 : Int32) (p3 : Int32) (S : gS) (Post : Int32 → gS → Prop) (PX : String → gS → Prop) : Prop :=
  (pX1_isNonterminal p0 S (fun r_1 => ((r_1 = 0 → PX "java/lang/IllegalArgumentException" S) ∧ (¬ r_1 = 0 → (pX1_isRightSide p1 p2 p3 S (fun r_4 => ((¬ r_4 = 0 → (pX1_holds p0 p1 p2 p3 S (fun r_7 => ((r_7 = 0 → (((gI S 4) < 24 → (∀ x5_11 : Int32, x5_11 = gI S 4 → (pX1_add p0 p1 p2 p3 S (fun S_13 => (pX8_forgetGrammar  S_13 (fun S_15 => Post x5_11 S_15)))))) ∧ (¬ (gI S 4) < 24 → PX "java/lang/IllegalStateException" S))) ∧ (¬ r_7 = 0 → PX "java/lang/IllegalArgumentException" S))))) ∧ (r_4 = 0 → PX "java/lang/IllegalArgumentException" S))))))))
def rX8_addProduction : Room := { frames := 6, cells := 1, slots := 6, locals := 90 }
set_option maxHeartbeats 40000000 in
set_option maxRecDepth 100000 in
theorem kX8_addProduction (l : Launch) (hlt : l.stackTraces = false) (X : xG) (S : gS) (sz : Nat) (p0 : Int32) (p1 : Int32) (p2 : Int32) (p3 : Int32) (Post : Int32 → gS → Prop) (PX : String → gS → Prop) (hf : pX8_addProduction p0 p1 p2 p3 S Post PX) : yMi l yX8_addProduction (Cond.code yX8_addProduction cX8_addProduction 6 (some .int) :: WS) rX8_addProduction X S sz [.ref (xa X 0), .int p0, .int p1, .int p2, .int p3] Post PX 1 6 := by
  refine yMi.of (cc := cX8_addProduction) (maxL := 6) hlt (by decide) rfl rfl (Nat.le_of_ble_eq_true rfl) (Nat.le_of_ble_eq_true rfl) (Nat.le_of_ble_eq_true rfl) rfl rfl ?_
  intro p e s m args below meth c ls Q hC hQ hT hX hw hl
  obtain ⟨hx, hb, hml, hown, hts, hE, hi⟩ := id hC
  have hK := hE.1
  have hl : lv_has ls 6 [(0, .ref (xa X 0)), (1, .int p0), (2, .int p1), (3, .int p2), (4, .int p3)] := hl
  have lf_12 : (Cond.fieldLink RX8 12 "GrammarAmbiguity" "grammar" "LGrammarAmbiguity$Grammar;").before args s = true := hts _ q_18
  have ln_94 : va_Nw (.methodLinkNest RX8 94 yX1_isNonterminal "GrammarAmbiguity") s := hE.2.1 _ (by decide +kernel)
  have ln_98 : va_Nw (.methodLinkNest RX8 98 yX1_isRightSide "GrammarAmbiguity") s := hE.2.1 _ (by decide +kernel)
  have ln_104 : va_Nw (.methodLinkNest RX8 104 yX1_holds "GrammarAmbiguity") s := hE.2.1 _ (by decide +kernel)
  have lf_110 : va_Nw (.fieldLinkNest RX8 110 "GrammarAmbiguity$Grammar" "productions" "I" "GrammarAmbiguity") s := hE.2.1 _ (by decide +kernel)
  have ln_118 : va_Nw (.methodLinkNest RX8 118 yX1_add "GrammarAmbiguity") s := hE.2.1 _ (by decide +kernel)
  rw [pX8_addProduction] at hf
  refine lv_aload_n hx hb dX8_addProduction_0 rfl (lv_at hl 0 rfl) ?_
  refine x_get (k := 0) (v := .ref (xa X 1)) hx hb hts i_X8 hown hK hw (by decide) rfl rfl 0 (by decide) lf_12 (fun _ h9 => h9) rfl dX8_addProduction_1 ?_
  refine lv_iload_n hx hb dX8_addProduction_4 rfl (lv_at hl 1 rfl) ?_
  refine z_ci (z_rN (As := [.int p0]) (rest := []) (okX X) hC hw (kX1_isNonterminal l X S _ p0 _ hf) ⟨va_cnB 1 hts (gN q_183) rfl rfl rfl ln_94 (hts _ q_17) (by decide +kernel) ⟨Nat.le_of_ble_eq_true rfl, Nat.le_of_ble_eq_true rfl⟩, hts _ q_181, hts _ q_182⟩ (x_recv hK hw (k := 1) (by decide) rfl rfl) rfl hl.1 rfl (Nat.le_of_ble_eq_true rfl) dX8_addProduction_5 ⟨Nat.le_of_ble_eq_true rfl, Nat.le_of_ble_eq_true rfl⟩) hw hi (fun r_1 S_2 H locs hf hw => ?_)
  obtain ⟨hf, rfl⟩ := hf
  refine lv_if_eq (tgt := 25) hx hb dX8_addProduction_8 (by decide) (fun c_3 => ?_) (fun c_3 => ?_)
  · replace hf := hf.1 c_3
    exact hT "java/lang/IllegalArgumentException" "this is no production of the grammar" 74 78 7 102 prog_14_method_2_code S _ _ _ _ [] _ _ ex_A (by decide +kernel) hf hw hl.1 (Nat.le_of_ble_eq_true rfl) (by decide) (by decide) dX8_addProduction_25 dX8_addProduction_28 (Or.inl ⟨dX8_addProduction_29, dX8_addProduction_31, dX8_addProduction_34⟩)
  · replace hf := hf.2 c_3
    refine lv_aload_n hx hb dX8_addProduction_11 rfl (lv_at hl 0 rfl) ?_
    refine x_get (k := 0) (v := .ref (xa X 1)) hx hb hts i_X8 hown hK hw (by decide) rfl rfl 0 (by decide) lf_12 (fun _ h9 => h9) rfl dX8_addProduction_12 ?_
    refine lv_iload_n hx hb dX8_addProduction_15 rfl (lv_at hl 2 rfl) ?_
    refine lv_iload_n hx hb dX8_addProduction_16 rfl (lv_at hl 3 rfl) ?_
    refine lv_iload hx hb dX8_addProduction_17 (lv_at hl 4 rfl) ?_
    refine z_ci (z_rN (As := [.int p1, .int p2, .int p3]) (rest := []) (okX X) hC hw (kX1_isRightSide l X S _ p1 p2 p3 _ hf) ⟨va_cnB 3 hts (gN q_186) rfl rfl rfl ln_98 (hts _ q_17) (by decide +kernel) ⟨Nat.le_of_ble_eq_true rfl, Nat.le_of_ble_eq_true rfl⟩, hts _ q_184, hts _ q_185⟩ (x_recv hK hw (k := 1) (by decide) rfl rfl) rfl hl.1 rfl (Nat.le_of_ble_eq_true rfl) dX8_addProduction_19 ⟨Nat.le_of_ble_eq_true rfl, Nat.le_of_ble_eq_true rfl⟩) hw hi (fun r_4 S_5 H locs hf hw => ?_)
    obtain ⟨hf, rfl⟩ := hf
    refine lv_if_ne (tgt := 35) hx hb dX8_addProduction_22 (by decide) (fun c_6 => ?_) (fun c_6 => ?_)
    · replace hf := hf.1 c_6
      refine lv_aload_n hx hb dX8_addProduction_35 rfl (lv_at hl 0 rfl) ?_
      refine x_get (k := 0) (v := .ref (xa X 1)) hx hb hts i_X8 hown hK hw (by decide) rfl rfl 0 (by decide) lf_12 (fun _ h9 => h9) rfl dX8_addProduction_36 ?_
      refine lv_iload_n hx hb dX8_addProduction_39 rfl (lv_at hl 1 rfl) ?_
      refine lv_iload_n hx hb dX8_addProduction_40 rfl (lv_at hl 2 rfl) ?_
      refine lv_iload_n hx hb dX8_addProduction_41 rfl (lv_at hl 3 rfl) ?_
      refine lv_iload hx hb dX8_addProduction_42 (lv_at hl 4 rfl) ?_
      refine z_ci (z_rN (As := [.int p0, .int p1, .int p2, .int p3]) (rest := []) (okX X) hC hw (kX1_holds l X S _ p0 p1 p2 p3 _ hf) ⟨va_cnB 4 hts (gN q_198) rfl rfl rfl ln_104 (hts _ q_17) (by decide +kernel) ⟨Nat.le_of_ble_eq_true rfl, Nat.le_of_ble_eq_true rfl⟩, hts _ q_196, hts _ q_197⟩ (x_recv hK hw (k := 1) (by decide) rfl rfl) rfl hl.1 rfl (Nat.le_of_ble_eq_true rfl) dX8_addProduction_44 ⟨Nat.le_of_ble_eq_true rfl, Nat.le_of_ble_eq_true rfl⟩) hw hi (fun r_7 S_8 H locs hf hw => ?_)
      obtain ⟨hf, rfl⟩ := hf
      refine lv_if_eq (tgt := 60) hx hb dX8_addProduction_47 (by decide) (fun c_9 => ?_) (fun c_9 => ?_)
      · replace hf := hf.1 c_9
        refine lv_aload_n hx hb dX8_addProduction_60 rfl (lv_at hl 0 rfl) ?_
        refine x_get (k := 0) (v := .ref (xa X 1)) hx hb hts i_X8 hown hK hw (by decide) rfl rfl 0 (by decide) lf_12 (fun _ h9 => h9) rfl dX8_addProduction_61 ?_
        refine x_getN (k := 1) (v := .int (gI S 4)) hx hb hts i_X1 hown hK hw (by decide) rfl rfl 3 (by decide) lf_110 (fun _ h9 => h9) rfl dX8_addProduction_64 ?_
        refine lv_bipush (v := 24) hx hb dX8_addProduction_67 (by decide) ?_
        refine lv_icmp_lt (tgt := 82) hx hb dX8_addProduction_69 (by decide) (fun c_10 => ?_) (fun c_10 => ?_)
        · replace hf := hf.1 c_10
          refine lv_aload_n hx hb dX8_addProduction_82 rfl (lv_at hl 0 rfl) ?_
          refine x_get (k := 0) (v := .ref (xa X 1)) hx hb hts i_X8 hown hK hw (by decide) rfl rfl 0 (by decide) lf_12 (fun _ h9 => h9) rfl dX8_addProduction_83 ?_
          refine x_getN (k := 1) (v := .int (gI S 4)) hx hb hts i_X1 hown hK hw (by decide) rfl rfl 3 (by decide) lf_110 (fun _ h9 => h9) rfl dX8_addProduction_86 ?_
          refine lv_topi (fun x5_11 ex5_11 => ?_)
          replace hf := hf x5_11 ex5_11
          refine lv_istore (lv' := [(5, .int x5_11), (0, .ref (xa X 0)), (1, .int p0), (2, .int p1), (3, .int p2), (4, .int p3)]) hx hb dX8_addProduction_89 hl (by decide) rfl (fun ls hl => ?_)
          refine lv_aload_n hx hb dX8_addProduction_91 rfl (lv_at hl 1 rfl) ?_
          refine x_get (k := 0) (v := .ref (xa X 1)) hx hb hts i_X8 hown hK hw (by decide) rfl rfl 0 (by decide) lf_12 (fun _ h9 => h9) rfl dX8_addProduction_92 ?_
          refine lv_iload_n hx hb dX8_addProduction_95 rfl (lv_at hl 2 rfl) ?_
          refine lv_iload_n hx hb dX8_addProduction_96 rfl (lv_at hl 3 rfl) ?_
          refine lv_iload_n hx hb dX8_addProduction_97 rfl (lv_at hl 4 rfl) ?_
          refine lv_iload hx hb dX8_addProduction_98 (lv_at hl 5 rfl) ?_
          refine z_cv (z_rN (As := [.int p0, .int p1, .int p2, .int p3]) (rest := []) (okX X) hC hw (kX1_add l X S _ p0 p1 p2 p3 _ hf) ⟨va_cnB 4 hts (gN q_205) rfl rfl rfl ln_118 (hts _ q_17) (by decide +kernel) ⟨Nat.le_of_ble_eq_true rfl, Nat.le_of_ble_eq_true rfl⟩, hts _ q_203, hts _ q_204⟩ (x_recv hK hw (k := 1) (by decide) rfl rfl) rfl hl.1 rfl (Nat.le_of_ble_eq_true rfl) dX8_addProduction_100 ⟨Nat.le_of_ble_eq_true rfl, Nat.le_of_ble_eq_true rfl⟩) hw hi (fun S_13 H locs hf hw => ?_)
          refine lv_aload_n hx hb dX8_addProduction_103 rfl (lv_at hl 1 rfl) ?_
          refine z_cv (z_rV (As := []) (rest := []) (okX X) hC hw (kX8_forgetGrammar l X S_13 _  _ hf) (cwV 0 hts (gV q_140 q_141 q_142 q_2 q_143) rfl rfl rfl (by decide +kernel) ⟨Nat.le_of_ble_eq_true rfl, Nat.le_of_ble_eq_true rfl⟩) (x_recv hK hw (k := 0) (by decide) rfl rfl) rfl hl.1 rfl (Nat.le_of_ble_eq_true rfl) dX8_addProduction_104 ⟨Nat.le_of_ble_eq_true rfl, Nat.le_of_ble_eq_true rfl⟩) hw hi (fun S_15 H locs hf hw => ?_)
          refine lv_iload hx hb dX8_addProduction_107 (lv_at hl 0 rfl) ?_
          exact hQ _ _ _ _ _ _ _ _ rfl hf hw dX8_addProduction_109 (by decide) (by decide)
        · replace hf := hf.2 c_10
          exact hT "java/lang/IllegalStateException" "there is no room for a production" 113 117 7 115 prog_15_method_2_code S _ _ _ _ [] _ _ ex_S (by decide +kernel) hf hw hl.1 (Nat.le_of_ble_eq_true rfl) (by decide) (by decide) dX8_addProduction_72 dX8_addProduction_75 (Or.inl ⟨dX8_addProduction_76, dX8_addProduction_78, dX8_addProduction_81⟩)
      · replace hf := hf.2 c_9
        exact hT "java/lang/IllegalArgumentException" "an equal production exists" 74 78 7 108 prog_14_method_2_code S _ _ _ _ [] _ _ ex_A (by decide +kernel) hf hw hl.1 (Nat.le_of_ble_eq_true rfl) (by decide) (by decide) dX8_addProduction_50 dX8_addProduction_53 (Or.inl ⟨dX8_addProduction_54, dX8_addProduction_56, dX8_addProduction_59⟩)
    · replace hf := hf.2 c_6
      exact hT "java/lang/IllegalArgumentException" "this is no production of the grammar" 74 78 7 102 prog_14_method_2_code S _ _ _ _ [] _ _ ex_A (by decide +kernel) hf hw hl.1 (Nat.le_of_ble_eq_true rfl) (by decide) (by decide) dX8_addProduction_25 dX8_addProduction_28 (Or.inl ⟨dX8_addProduction_29, dX8_addProduction_31, dX8_addProduction_34⟩)
def pX8_removeProduction (p0 : Int32) (S : gS) (Post : Int32 → gS → Prop) (PX : String → gS → Prop) : Prop :=
  (pX8_checkProduction p0 S ((pX1_remove p0 S (fun S_3 => (pX8_forgetGrammar  S_3 (fun S_5 => Post (gI S_5 4) S_5))))) PX)
def rX8_removeProduction : Room := { frames := 7, cells := 1, slots := 6, locals := 111 }
set_option maxHeartbeats 40000000 in
set_option maxRecDepth 100000 in
theorem kX8_removeProduction (l : Launch) (hlt : l.stackTraces = false) (X : xG) (S : gS) (sz : Nat) (p0 : Int32) (Post : Int32 → gS → Prop) (PX : String → gS → Prop) (hf : pX8_removeProduction p0 S Post PX) : yMi l yX8_removeProduction (Cond.code yX8_removeProduction cX8_removeProduction 2 (some .int) :: WS) rX8_removeProduction X S sz [.ref (xa X 0), .int p0] Post PX 1 6 := by
  refine yMi.of (cc := cX8_removeProduction) (maxL := 2) hlt (by decide) rfl rfl (Nat.le_of_ble_eq_true rfl) (Nat.le_of_ble_eq_true rfl) (Nat.le_of_ble_eq_true rfl) rfl rfl ?_
  intro p e s m args below meth c ls Q hC hQ hT hX hw hl
  obtain ⟨hx, hb, hml, hown, hts, hE, hi⟩ := id hC
  have hK := hE.1
  have hl : lv_has ls 2 [(0, .ref (xa X 0)), (1, .int p0)] := hl
  have lf_12 : (Cond.fieldLink RX8 12 "GrammarAmbiguity" "grammar" "LGrammarAmbiguity$Grammar;").before args s = true := hts _ q_18
  have ln_126 : va_Nw (.methodLinkNest RX8 126 yX1_remove "GrammarAmbiguity") s := hE.2.1 _ (by decide +kernel)
  have lf_110 : va_Nw (.fieldLinkNest RX8 110 "GrammarAmbiguity$Grammar" "productions" "I" "GrammarAmbiguity") s := hE.2.1 _ (by decide +kernel)
  rw [pX8_removeProduction] at hf
  refine lv_aload_n hx hb dX8_removeProduction_0 rfl (lv_at hl 0 rfl) ?_
  refine lv_iload_n hx hb dX8_removeProduction_1 rfl (lv_at hl 1 rfl) ?_
  refine y_cv (y_rV (As := [.int p0]) (rest := []) hC hw (kX8_checkProduction l hlt X S _ p0 _ _ hf) (cwV 1 hts (gV q_233 q_234 q_235 q_2 q_236) rfl rfl rfl (by decide +kernel) ⟨Nat.le_of_ble_eq_true rfl, Nat.le_of_ble_eq_true rfl⟩) (x_recv hK hw (k := 0) (by decide) rfl rfl) rfl hl.1 rfl (Nat.le_of_ble_eq_true rfl) dX8_removeProduction_2 ⟨Nat.le_of_ble_eq_true rfl, Nat.le_of_ble_eq_true rfl⟩) hw hi (fun E ce q9 S9 H locs hp hw h1 h2 h3 => hX E ce q9 S9 _ _ _ _ _ _ _ hp hw h1 h2 h3 (by decide) (by decide)) (fun S_1 H locs hf hw => ?_)
  obtain ⟨hf, rfl⟩ := hf
  refine W.widen (k := 1) (n := 6) (by decide) (by decide) ?_
  refine lv_aload_n hx hb dX8_removeProduction_5 rfl (lv_at hl 0 rfl) ?_
  refine x_get (k := 0) (v := .ref (xa X 1)) hx hb hts i_X8 hown hK hw (by decide) rfl rfl 0 (by decide) lf_12 (fun _ h9 => h9) rfl dX8_removeProduction_6 ?_
  refine lv_iload_n hx hb dX8_removeProduction_9 rfl (lv_at hl 1 rfl) ?_
  refine z_cv (z_rN (As := [.int p0]) (rest := []) (okX X) hC hw (kX1_remove l X S _ p0 _ hf) ⟨va_cnB 1 hts (gN q_239) rfl rfl rfl ln_126 (hts _ q_17) (by decide +kernel) ⟨Nat.le_of_ble_eq_true rfl, Nat.le_of_ble_eq_true rfl⟩, hts _ q_237, hts _ q_238⟩ (x_recv hK hw (k := 1) (by decide) rfl rfl) rfl hl.1 rfl (Nat.le_of_ble_eq_true rfl) dX8_removeProduction_10 ⟨Nat.le_of_ble_eq_true rfl, Nat.le_of_ble_eq_true rfl⟩) hw hi (fun S_3 H locs hf hw => ?_)
  refine lv_aload_n hx hb dX8_removeProduction_13 rfl (lv_at hl 0 rfl) ?_
  refine z_cv (z_rV (As := []) (rest := []) (okX X) hC hw (kX8_forgetGrammar l X S_3 _  _ hf) (cwV 0 hts (gV q_140 q_141 q_142 q_2 q_143) rfl rfl rfl (by decide +kernel) ⟨Nat.le_of_ble_eq_true rfl, Nat.le_of_ble_eq_true rfl⟩) (x_recv hK hw (k := 0) (by decide) rfl rfl) rfl hl.1 rfl (Nat.le_of_ble_eq_true rfl) dX8_removeProduction_14 ⟨Nat.le_of_ble_eq_true rfl, Nat.le_of_ble_eq_true rfl⟩) hw hi (fun S_5 H locs hf hw => ?_)
  refine lv_aload_n hx hb dX8_removeProduction_17 rfl (lv_at hl 0 rfl) ?_
  refine x_get (k := 0) (v := .ref (xa X 1)) hx hb hts i_X8 hown hK hw (by decide) rfl rfl 0 (by decide) lf_12 (fun _ h9 => h9) rfl dX8_removeProduction_18 ?_
  refine x_getN (k := 1) (v := .int (gI S_5 4)) hx hb hts i_X1 hown hK hw (by decide) rfl rfl 3 (by decide) lf_110 (fun _ h9 => h9) rfl dX8_removeProduction_21 ?_
  exact hQ _ _ _ _ _ _ _ _ rfl hf hw dX8_removeProduction_24 (by decide) (by decide)
def pX8_productionSymbol (p0 : Int32) (p1 : Int32) (S : gS) (Post : Int32 → Prop) (PX : String → gS → Prop) : Prop :=
  (pX8_checkProduction p0 S (((p1 < 0 → PX "java/lang/IndexOutOfBoundsException" S) ∧ (¬ p1 < 0 → ((p1 ≤ 3 → (pX1_symbol p0 p1 S (fun r_4 => Post r_4))) ∧ (¬ p1 ≤ 3 → PX "java/lang/IndexOutOfBoundsException" S))))) PX)
def rX8_productionSymbol : Room := { frames := 7, cells := 2, slots := 12, locals := 111 }
set_option maxHeartbeats 40000000 in
set_option maxRecDepth 100000 in
theorem kX8_productionSymbol (l : Launch) (hlt : l.stackTraces = false) (X : xG) (S : gS) (sz : Nat) (p0 : Int32) (p1 : Int32) (Post : Int32 → Prop) (PX : String → gS → Prop) (hf : pX8_productionSymbol p0 p1 S Post PX) : yMi l yX8_productionSymbol (Cond.code yX8_productionSymbol cX8_productionSymbol 3 (some .int) :: WS) rX8_productionSymbol X S sz [.ref (xa X 0), .int p0, .int p1] (fun r S' => Post r ∧ S = S') PX 2 12 := by
  refine yMi.of (cc := cX8_productionSymbol) (maxL := 3) hlt (by decide) rfl rfl (Nat.le_of_ble_eq_true rfl) (Nat.le_of_ble_eq_true rfl) (Nat.le_of_ble_eq_true rfl) rfl rfl ?_
  intro p e s m args below meth c ls Q hC hQ hT hX hw hl
  obtain ⟨hx, hb, hml, hown, hts, hE, hi⟩ := id hC
  have hK := hE.1
  have hl : lv_has ls 3 [(0, .ref (xa X 0)), (1, .int p0), (2, .int p1)] := hl
  have lf_12 : (Cond.fieldLink RX8 12 "GrammarAmbiguity" "grammar" "LGrammarAmbiguity$Grammar;").before args s = true := hts _ q_18
  have ln_138 : va_Nw (.methodLinkNest RX8 138 yX1_symbol "GrammarAmbiguity") s := hE.2.1 _ (by decide +kernel)
  rw [pX8_productionSymbol] at hf
  refine lv_aload_n hx hb dX8_productionSymbol_0 rfl (lv_at hl 0 rfl) ?_
  refine lv_iload_n hx hb dX8_productionSymbol_1 rfl (lv_at hl 1 rfl) ?_
  refine y_cv (y_rV (As := [.int p0]) (rest := []) hC hw (kX8_checkProduction l hlt X S _ p0 _ _ hf) (cwV 1 hts (gV q_233 q_234 q_235 q_2 q_236) rfl rfl rfl (by decide +kernel) ⟨Nat.le_of_ble_eq_true rfl, Nat.le_of_ble_eq_true rfl⟩) (x_recv hK hw (k := 0) (by decide) rfl rfl) rfl hl.1 rfl (Nat.le_of_ble_eq_true rfl) dX8_productionSymbol_2 ⟨Nat.le_of_ble_eq_true rfl, Nat.le_of_ble_eq_true rfl⟩) hw hi (fun E ce q9 S9 H locs hp hw h1 h2 h3 => hX E ce q9 S9 _ _ _ _ _ _ _ hp hw h1 h2 h3 (by decide) (by decide)) (fun S_1 H locs hf hw => ?_)
  obtain ⟨hf, rfl⟩ := hf
  refine W.widen (k := 1) (n := 6) (by decide) (by decide) ?_
  refine lv_iload_n hx hb dX8_productionSymbol_5 rfl (lv_at hl 2 rfl) ?_
  refine lv_if_lt (tgt := 14) hx hb dX8_productionSymbol_6 (by decide) (fun c_2 => ?_) (fun c_2 => ?_)
  · replace hf := hf.1 c_2
    exact hT "java/lang/IndexOutOfBoundsException" "the position is not from 0 to 3" 133 137 7 135 prog_16_method_2_code S _ _ _ _ [] _ _ ex_I (by decide +kernel) hf hw hl.1 (Nat.le_of_ble_eq_true rfl) (by decide) (by decide) dX8_productionSymbol_14 dX8_productionSymbol_17 (Or.inl ⟨dX8_productionSymbol_18, dX8_productionSymbol_20, dX8_productionSymbol_23⟩)
  · replace hf := hf.2 c_2
    refine lv_iload_n hx hb dX8_productionSymbol_9 rfl (lv_at hl 2 rfl) ?_
    refine lv_iconst (v := 3) hx hb dX8_productionSymbol_10 (by decide) ?_
    refine lv_icmp_le (tgt := 24) hx hb dX8_productionSymbol_11 (by decide) (fun c_3 => ?_) (fun c_3 => ?_)
    · replace hf := hf.1 c_3
      refine lv_aload_n hx hb dX8_productionSymbol_24 rfl (lv_at hl 0 rfl) ?_
      refine x_get (k := 0) (v := .ref (xa X 1)) hx hb hts i_X8 hown hK hw (by decide) rfl rfl 0 (by decide) lf_12 (fun _ h9 => h9) rfl dX8_productionSymbol_25 ?_
      refine lv_iload_n hx hb dX8_productionSymbol_28 rfl (lv_at hl 1 rfl) ?_
      refine lv_iload_n hx hb dX8_productionSymbol_29 rfl (lv_at hl 2 rfl) ?_
      refine z_ci (z_rN (As := [.int p0, .int p1]) (rest := []) (okX X) hC hw (kX1_symbol l X S _ p0 p1 _ hf) ⟨va_cnB 2 hts (gN q_202) rfl rfl rfl ln_138 (hts _ q_17) (by decide +kernel) ⟨Nat.le_of_ble_eq_true rfl, Nat.le_of_ble_eq_true rfl⟩, hts _ q_200, hts _ q_201⟩ (x_recv hK hw (k := 1) (by decide) rfl rfl) rfl hl.1 rfl (Nat.le_of_ble_eq_true rfl) dX8_productionSymbol_30 ⟨Nat.le_of_ble_eq_true rfl, Nat.le_of_ble_eq_true rfl⟩) hw hi (fun r_4 S_5 H locs hf hw => ?_)
      obtain ⟨hf, rfl⟩ := hf
      exact hQ _ _ _ _ _ _ _ _ rfl ⟨hf, rfl⟩ hw dX8_productionSymbol_33 (by decide) (by decide)
    · replace hf := hf.2 c_3
      exact hT "java/lang/IndexOutOfBoundsException" "the position is not from 0 to 3" 133 137 7 135 prog_16_method_2_code S _ _ _ _ [] _ _ ex_I (by decide +kernel) hf hw hl.1 (Nat.le_of_ble_eq_true rfl) (by decide) (by decide) dX8_productionSymbol_14 dX8_productionSymbol_17 (Or.inl ⟨dX8_productionSymbol_18, dX8_productionSymbol_20, dX8_productionSymbol_23⟩)
def pX8_setStart (p0 : Int32) (S : gS) (Post : Int32 → gS → Prop) (PX : String → gS → Prop) : Prop :=
  (pX8_checkNonterminal p0 S ((∀ x2_2 : Int32, x2_2 = gI S 3 → (∀ S_3 : gS, S_3 = uI S 3 p0 → (∀ S_4 : gS, S_4 = uI S_3 14 0 → Post x2_2 S_4)))) PX)
def rX8_setStart : Room := { frames := 7, cells := 1, slots := 6, locals := 111 }
set_option maxHeartbeats 40000000 in
set_option maxRecDepth 100000 in
theorem kX8_setStart (l : Launch) (hlt : l.stackTraces = false) (X : xG) (S : gS) (sz : Nat) (p0 : Int32) (Post : Int32 → gS → Prop) (PX : String → gS → Prop) (hf : pX8_setStart p0 S Post PX) : yMi l yX8_setStart (Cond.code yX8_setStart cX8_setStart 3 (some .int) :: WS) rX8_setStart X S sz [.ref (xa X 0), .int p0] Post PX 1 6 := by
  refine yMi.of (cc := cX8_setStart) (maxL := 3) hlt (by decide) rfl rfl (Nat.le_of_ble_eq_true rfl) (Nat.le_of_ble_eq_true rfl) (Nat.le_of_ble_eq_true rfl) rfl rfl ?_
  intro p e s m args below meth c ls Q hC hQ hT hX hw hl
  obtain ⟨hx, hb, hml, hown, hts, hE, hi⟩ := id hC
  have hK := hE.1
  have hl : lv_has ls 3 [(0, .ref (xa X 0)), (1, .int p0)] := hl
  have lf_12 : (Cond.fieldLink RX8 12 "GrammarAmbiguity" "grammar" "LGrammarAmbiguity$Grammar;").before args s = true := hts _ q_18
  have lf_145 : va_Nw (.fieldLinkNest RX8 145 "GrammarAmbiguity$Grammar" "start" "I" "GrammarAmbiguity") s := hE.2.1 _ (by decide +kernel)
  have lf_59 : (Cond.fieldLink RX8 59 "GrammarAmbiguity" "tree" "LGrammarAmbiguity$Tree;").before args s = true := hts _ q_40
  have lf_148 : va_Nw (.fieldLinkNest RX8 148 "GrammarAmbiguity$Tree" "present" "Z" "GrammarAmbiguity") s := hE.2.1 _ (by decide +kernel)
  rw [pX8_setStart] at hf
  refine lv_aload_n hx hb dX8_setStart_0 rfl (lv_at hl 0 rfl) ?_
  refine lv_iload_n hx hb dX8_setStart_1 rfl (lv_at hl 1 rfl) ?_
  refine y_cv (y_rV (As := [.int p0]) (rest := []) hC hw (kX8_checkNonterminal l hlt X S _ p0 _ _ hf) (cwV 1 hts (gV q_328 q_329 q_330 q_2 q_331) rfl rfl rfl (by decide +kernel) ⟨Nat.le_of_ble_eq_true rfl, Nat.le_of_ble_eq_true rfl⟩) (x_recv hK hw (k := 0) (by decide) rfl rfl) rfl hl.1 rfl (Nat.le_of_ble_eq_true rfl) dX8_setStart_2 ⟨Nat.le_of_ble_eq_true rfl, Nat.le_of_ble_eq_true rfl⟩) hw hi (fun E ce q9 S9 H locs hp hw h1 h2 h3 => hX E ce q9 S9 _ _ _ _ _ _ _ hp hw h1 h2 h3 (by decide) (by decide)) (fun S_1 H locs hf hw => ?_)
  obtain ⟨hf, rfl⟩ := hf
  refine W.widen (k := 1) (n := 6) (by decide) (by decide) ?_
  refine lv_aload_n hx hb dX8_setStart_5 rfl (lv_at hl 0 rfl) ?_
  refine x_get (k := 0) (v := .ref (xa X 1)) hx hb hts i_X8 hown hK hw (by decide) rfl rfl 0 (by decide) lf_12 (fun _ h9 => h9) rfl dX8_setStart_6 ?_
  refine x_getN (k := 1) (v := .int (gI S 3)) hx hb hts i_X1 hown hK hw (by decide) rfl rfl 2 (by decide) lf_145 (fun _ h9 => h9) rfl dX8_setStart_9 ?_
  refine lv_topi (fun x2_2 ex2_2 => ?_)
  replace hf := hf x2_2 ex2_2
  refine lv_istore_n (lv' := [(2, .int x2_2), (0, .ref (xa X 0)), (1, .int p0)]) hx hb dX8_setStart_12 rfl hl (by decide) rfl (fun ls hl => ?_)
  refine lv_aload_n hx hb dX8_setStart_13 rfl (lv_at hl 1 rfl) ?_
  refine x_get (k := 0) (v := .ref (xa X 1)) hx hb hts i_X8 hown hK hw (by decide) rfl rfl 0 (by decide) lf_12 (fun _ h9 => h9) rfl dX8_setStart_14 ?_
  refine lv_iload_n hx hb dX8_setStart_17 rfl (lv_at hl 2 rfl) ?_
  refine x_putN (k := 1) (S' := uI S 3 p0) (ty := .int) hx hb hts i_X1 tyX1_ok nmX1 hown hK hw (by decide) rfl rfl 2 (by decide) lf_145 (fun _ h9 => h9) rfl (by decide +kernel) rfl rfl (Nat.le_of_ble_eq_true rfl) dX8_setStart_18 (uX_I3 X S _) (fun H locs hw => ?_)
  obtain ⟨S_3, eS_3⟩ : ∃ z : gS, z = uI S 3 p0 := ⟨_, rfl⟩
  rw [← eS_3] at hw
  replace hf := hf S_3 eS_3
  refine lv_aload_n hx hb dX8_setStart_21 rfl (lv_at hl 1 rfl) ?_
  refine x_get (k := 0) (v := .ref (xa X 8)) hx hb hts i_X8 hown hK hw (by decide) rfl rfl 7 (by decide) lf_59 (fun _ h9 => h9) rfl dX8_setStart_22 ?_
  refine lv_iconst (v := 0) hx hb dX8_setStart_25 (by decide) ?_
  refine x_putN (k := 8) (S' := uI S_3 14 0) (ty := .boolean) hx hb hts i_X5 tyX5_ok nmX5 hown hK hw (by decide) rfl rfl 1 (by decide) lf_148 (fun _ h9 => h9) rfl (by decide +kernel) rfl rfl (Nat.le_of_ble_eq_true rfl) dX8_setStart_26 (uX_I14 X S_3 _) (fun H locs hw => ?_)
  obtain ⟨S_4, eS_4⟩ : ∃ z : gS, z = uI S_3 14 0 := ⟨_, rfl⟩
  rw [← eS_4] at hw
  replace hf := hf S_4 eS_4
  refine lv_iload_n hx hb dX8_setStart_29 rfl (lv_at hl 0 rfl) ?_
  exact hQ _ _ _ _ _ _ _ _ rfl hf hw dX8_setStart_30 (by decide) (by decide)
def pX8_shortestLength (p0 : Int32) (S : gS) (Post : Int32 → gS → Prop) (PX : String → gS → Prop) : Prop :=
  (pX8_checkNonterminal p0 S ((pX1_measure  S (fun S_3 => (pX1_shortestPart p0 S_3 (fun r_4 => Post r_4 S_3))))) PX)
def rX8_shortestLength : Room := { frames := 7, cells := 1, slots := 6, locals := 111 }
set_option maxHeartbeats 40000000 in
set_option maxRecDepth 100000 in
theorem kX8_shortestLength (l : Launch) (hlt : l.stackTraces = false) (X : xG) (S : gS) (sz : Nat) (p0 : Int32) (Post : Int32 → gS → Prop) (PX : String → gS → Prop) (hf : pX8_shortestLength p0 S Post PX) : yMi l yX8_shortestLength (Cond.code yX8_shortestLength cX8_shortestLength 2 (some .int) :: WS) rX8_shortestLength X S sz [.ref (xa X 0), .int p0] Post PX 1 6 := by
  refine yMi.of (cc := cX8_shortestLength) (maxL := 2) hlt (by decide) rfl rfl (Nat.le_of_ble_eq_true rfl) (Nat.le_of_ble_eq_true rfl) (Nat.le_of_ble_eq_true rfl) rfl rfl ?_
  intro p e s m args below meth c ls Q hC hQ hT hX hw hl
  obtain ⟨hx, hb, hml, hown, hts, hE, hi⟩ := id hC
  have hK := hE.1
  have hl : lv_has ls 2 [(0, .ref (xa X 0)), (1, .int p0)] := hl
  have lf_12 : (Cond.fieldLink RX8 12 "GrammarAmbiguity" "grammar" "LGrammarAmbiguity$Grammar;").before args s = true := hts _ q_18
  have ln_151 : va_Nw (.methodLinkNest RX8 151 yX1_measure "GrammarAmbiguity") s := hE.2.1 _ (by decide +kernel)
  have ln_154 : va_Nw (.methodLinkNest RX8 154 yX1_shortestPart "GrammarAmbiguity") s := hE.2.1 _ (by decide +kernel)
  rw [pX8_shortestLength] at hf
  refine lv_aload_n hx hb dX8_shortestLength_0 rfl (lv_at hl 0 rfl) ?_
  refine lv_iload_n hx hb dX8_shortestLength_1 rfl (lv_at hl 1 rfl) ?_
  refine y_cv (y_rV (As := [.int p0]) (rest := []) hC hw (kX8_checkNonterminal l hlt X S _ p0 _ _ hf) (cwV 1 hts (gV q_328 q_329 q_330 q_2 q_331) rfl rfl rfl (by decide +kernel) ⟨Nat.le_of_ble_eq_true rfl, Nat.le_of_ble_eq_true rfl⟩) (x_recv hK hw (k := 0) (by decide) rfl rfl) rfl hl.1 rfl (Nat.le_of_ble_eq_true rfl) dX8_shortestLength_2 ⟨Nat.le_of_ble_eq_true rfl, Nat.le_of_ble_eq_true rfl⟩) hw hi (fun E ce q9 S9 H locs hp hw h1 h2 h3 => hX E ce q9 S9 _ _ _ _ _ _ _ hp hw h1 h2 h3 (by decide) (by decide)) (fun S_1 H locs hf hw => ?_)
  obtain ⟨hf, rfl⟩ := hf
  refine W.widen (k := 1) (n := 6) (by decide) (by decide) ?_
  refine lv_aload_n hx hb dX8_shortestLength_5 rfl (lv_at hl 0 rfl) ?_
  refine x_get (k := 0) (v := .ref (xa X 1)) hx hb hts i_X8 hown hK hw (by decide) rfl rfl 0 (by decide) lf_12 (fun _ h9 => h9) rfl dX8_shortestLength_6 ?_
  refine z_cv (z_rN (As := []) (rest := []) (okX X) hC hw (kX1_measure l X S _  _ hf) ⟨va_cnB 0 hts (gN q_262) rfl rfl rfl ln_151 (hts _ q_17) (by decide +kernel) ⟨Nat.le_of_ble_eq_true rfl, Nat.le_of_ble_eq_true rfl⟩, hts _ q_260, hts _ q_261⟩ (x_recv hK hw (k := 1) (by decide) rfl rfl) rfl hl.1 rfl (Nat.le_of_ble_eq_true rfl) dX8_shortestLength_9 ⟨Nat.le_of_ble_eq_true rfl, Nat.le_of_ble_eq_true rfl⟩) hw hi (fun S_3 H locs hf hw => ?_)
  refine lv_aload_n hx hb dX8_shortestLength_12 rfl (lv_at hl 0 rfl) ?_
  refine x_get (k := 0) (v := .ref (xa X 1)) hx hb hts i_X8 hown hK hw (by decide) rfl rfl 0 (by decide) lf_12 (fun _ h9 => h9) rfl dX8_shortestLength_13 ?_
  refine lv_iload_n hx hb dX8_shortestLength_16 rfl (lv_at hl 1 rfl) ?_
  refine z_ci (z_rN (As := [.int p0]) (rest := []) (okX X) hC hw (kX1_shortestPart l X S_3 _ p0 _ hf) ⟨va_cnB 1 hts (gN q_270) rfl rfl rfl ln_154 (hts _ q_17) (by decide +kernel) ⟨Nat.le_of_ble_eq_true rfl, Nat.le_of_ble_eq_true rfl⟩, hts _ q_268, hts _ q_269⟩ (x_recv hK hw (k := 1) (by decide) rfl rfl) rfl hl.1 rfl (Nat.le_of_ble_eq_true rfl) dX8_shortestLength_17 ⟨Nat.le_of_ble_eq_true rfl, Nat.le_of_ble_eq_true rfl⟩) hw hi (fun r_4 S_5 H locs hf hw => ?_)
  obtain ⟨hf, rfl⟩ := hf
  exact hQ _ _ _ _ _ _ _ _ rfl hf hw dX8_shortestLength_20 (by decide) (by decide)
def pX8_append (p0 : Int32) (S : gS) (Post : Int32 → gS → Prop) (PX : String → gS → Prop) : Prop :=
  (pX1_isTerminal p0 S (fun r_1 => ((¬ r_1 = 0 → (((gI S 5) < 8 → (∀ S_5 : gS, S_5 = uI S 5 ((gI S 5) + 1) → (pX6_put ((gI S_5 5) - 1) p0 S_5 (fun S_7 => (∀ S_8 : gS, S_8 = uI S_7 14 0 → Post (gI S_8 5) S_8))))) ∧ (¬ (gI S 5) < 8 → PX "java/lang/IllegalStateException" S))) ∧ (r_1 = 0 → PX "java/lang/IllegalArgumentException" S))))
def rX8_append : Room := { frames := 6, cells := 1, slots := 6, locals := 90 }
set_option maxHeartbeats 40000000 in
set_option maxRecDepth 100000 in
theorem kX8_append (l : Launch) (hlt : l.stackTraces = false) (X : xG) (S : gS) (sz : Nat) (p0 : Int32) (Post : Int32 → gS → Prop) (PX : String → gS → Prop) (hf : pX8_append p0 S Post PX) : yMi l yX8_append (Cond.code yX8_append cX8_append 2 (some .int) :: WS) rX8_append X S sz [.ref (xa X 0), .int p0] Post PX 1 6 := by
  refine yMi.of (cc := cX8_append) (maxL := 2) hlt (by decide) rfl rfl (Nat.le_of_ble_eq_true rfl) (Nat.le_of_ble_eq_true rfl) (Nat.le_of_ble_eq_true rfl) rfl rfl ?_
  intro p e s m args below meth c ls Q hC hQ hT hX hw hl
  obtain ⟨hx, hb, hml, hown, hts, hE, hi⟩ := id hC
  have hK := hE.1
  have hl : lv_has ls 2 [(0, .ref (xa X 0)), (1, .int p0)] := hl
  have lf_12 : (Cond.fieldLink RX8 12 "GrammarAmbiguity" "grammar" "LGrammarAmbiguity$Grammar;").before args s = true := hts _ q_18
  have ln_158 : va_Nw (.methodLinkNest RX8 158 yX1_isTerminal "GrammarAmbiguity") s := hE.2.1 _ (by decide +kernel)
  have lf_19 : (Cond.fieldLink RX8 19 "GrammarAmbiguity" "word" "LGrammarAmbiguity$Word;").before args s = true := hts _ q_22
  have lf_87 : va_Nw (.fieldLinkNest RX8 87 "GrammarAmbiguity$Word" "length" "I" "GrammarAmbiguity") s := hE.2.1 _ (by decide +kernel)
  have ln_165 : va_Nw (.methodLinkNest RX8 165 yX6_put "GrammarAmbiguity") s := hE.2.1 _ (by decide +kernel)
  have lf_59 : (Cond.fieldLink RX8 59 "GrammarAmbiguity" "tree" "LGrammarAmbiguity$Tree;").before args s = true := hts _ q_40
  have lf_148 : va_Nw (.fieldLinkNest RX8 148 "GrammarAmbiguity$Tree" "present" "Z" "GrammarAmbiguity") s := hE.2.1 _ (by decide +kernel)
  rw [pX8_append] at hf
  refine lv_aload_n hx hb dX8_append_0 rfl (lv_at hl 0 rfl) ?_
  refine x_get (k := 0) (v := .ref (xa X 1)) hx hb hts i_X8 hown hK hw (by decide) rfl rfl 0 (by decide) lf_12 (fun _ h9 => h9) rfl dX8_append_1 ?_
  refine lv_iload_n hx hb dX8_append_4 rfl (lv_at hl 1 rfl) ?_
  refine z_ci (z_rN (As := [.int p0]) (rest := []) (okX X) hC hw (kX1_isTerminal l X S _ p0 _ hf) ⟨va_cnB 1 hts (gN q_195) rfl rfl rfl ln_158 (hts _ q_17) (by decide +kernel) ⟨Nat.le_of_ble_eq_true rfl, Nat.le_of_ble_eq_true rfl⟩, hts _ q_193, hts _ q_194⟩ (x_recv hK hw (k := 1) (by decide) rfl rfl) rfl hl.1 rfl (Nat.le_of_ble_eq_true rfl) dX8_append_5 ⟨Nat.le_of_ble_eq_true rfl, Nat.le_of_ble_eq_true rfl⟩) hw hi (fun r_1 S_2 H locs hf hw => ?_)
  obtain ⟨hf, rfl⟩ := hf
  refine lv_if_ne (tgt := 21) hx hb dX8_append_8 (by decide) (fun c_3 => ?_) (fun c_3 => ?_)
  · replace hf := hf.1 c_3
    refine lv_aload_n hx hb dX8_append_21 rfl (lv_at hl 0 rfl) ?_
    refine x_get (k := 0) (v := .ref (xa X 2)) hx hb hts i_X8 hown hK hw (by decide) rfl rfl 1 (by decide) lf_19 (fun _ h9 => h9) rfl dX8_append_22 ?_
    refine x_getN (k := 2) (v := .int (gI S 5)) hx hb hts i_X6 hown hK hw (by decide) rfl rfl 0 (by decide) lf_87 (fun _ h9 => h9) rfl dX8_append_25 ?_
    refine lv_bipush (v := 8) hx hb dX8_append_28 (by decide) ?_
    refine lv_icmp_lt (tgt := 43) hx hb dX8_append_30 (by decide) (fun c_4 => ?_) (fun c_4 => ?_)
    · replace hf := hf.1 c_4
      refine lv_aload_n hx hb dX8_append_43 rfl (lv_at hl 0 rfl) ?_
      refine x_get (k := 0) (v := .ref (xa X 2)) hx hb hts i_X8 hown hK hw (by decide) rfl rfl 1 (by decide) lf_19 (fun _ h9 => h9) rfl dX8_append_44 ?_
      refine lv_dup hx hb dX8_append_47 rfl ?_
      refine x_getN (k := 2) (v := .int (gI S 5)) hx hb hts i_X6 hown hK hw (by decide) rfl rfl 0 (by decide) lf_87 (fun _ h9 => h9) rfl dX8_append_48 ?_
      refine lv_iconst (v := 1) hx hb dX8_append_51 (by decide) ?_
      refine lv_iadd hx hb dX8_append_52 ?_
      refine x_putN (k := 2) (S' := uI S 5 ((gI S 5) + 1)) (ty := .int) hx hb hts i_X6 tyX6_ok nmX6 hown hK hw (by decide) rfl rfl 0 (by decide) lf_87 (fun _ h9 => h9) rfl (by decide +kernel) rfl rfl (Nat.le_of_ble_eq_true rfl) dX8_append_53 (uX_I5 X S _) (fun H locs hw => ?_)
      obtain ⟨S_5, eS_5⟩ : ∃ z : gS, z = uI S 5 ((gI S 5) + 1) := ⟨_, rfl⟩
      rw [← eS_5] at hw
      replace hf := hf S_5 eS_5
      refine lv_aload_n hx hb dX8_append_56 rfl (lv_at hl 0 rfl) ?_
      refine x_get (k := 0) (v := .ref (xa X 2)) hx hb hts i_X8 hown hK hw (by decide) rfl rfl 1 (by decide) lf_19 (fun _ h9 => h9) rfl dX8_append_57 ?_
      refine lv_aload_n hx hb dX8_append_60 rfl (lv_at hl 0 rfl) ?_
      refine x_get (k := 0) (v := .ref (xa X 2)) hx hb hts i_X8 hown hK hw (by decide) rfl rfl 1 (by decide) lf_19 (fun _ h9 => h9) rfl dX8_append_61 ?_
      refine x_getN (k := 2) (v := .int (gI S_5 5)) hx hb hts i_X6 hown hK hw (by decide) rfl rfl 0 (by decide) lf_87 (fun _ h9 => h9) rfl dX8_append_64 ?_
      refine lv_iconst (v := 1) hx hb dX8_append_67 (by decide) ?_
      refine lv_isub hx hb dX8_append_68 ?_
      refine lv_iload_n hx hb dX8_append_69 rfl (lv_at hl 1 rfl) ?_
      refine z_cv (z_rN (As := [.int ((gI S_5 5) - 1), .int p0]) (rest := []) (okX X) hC hw (kX6_put l X S_5 _ ((gI S_5 5) - 1) p0 _ hf) ⟨va_cnB 2 hts (gN q_356) rfl rfl rfl ln_165 (hts _ q_21) (by decide +kernel) ⟨Nat.le_of_ble_eq_true rfl, Nat.le_of_ble_eq_true rfl⟩, hts _ q_354, hts _ q_355⟩ (x_recv hK hw (k := 2) (by decide) rfl rfl) rfl hl.1 rfl (Nat.le_of_ble_eq_true rfl) dX8_append_70 ⟨Nat.le_of_ble_eq_true rfl, Nat.le_of_ble_eq_true rfl⟩) hw hi (fun S_7 H locs hf hw => ?_)
      refine lv_aload_n hx hb dX8_append_73 rfl (lv_at hl 0 rfl) ?_
      refine x_get (k := 0) (v := .ref (xa X 8)) hx hb hts i_X8 hown hK hw (by decide) rfl rfl 7 (by decide) lf_59 (fun _ h9 => h9) rfl dX8_append_74 ?_
      refine lv_iconst (v := 0) hx hb dX8_append_77 (by decide) ?_
      refine x_putN (k := 8) (S' := uI S_7 14 0) (ty := .boolean) hx hb hts i_X5 tyX5_ok nmX5 hown hK hw (by decide) rfl rfl 1 (by decide) lf_148 (fun _ h9 => h9) rfl (by decide +kernel) rfl rfl (Nat.le_of_ble_eq_true rfl) dX8_append_78 (uX_I14 X S_7 _) (fun H locs hw => ?_)
      obtain ⟨S_8, eS_8⟩ : ∃ z : gS, z = uI S_7 14 0 := ⟨_, rfl⟩
      rw [← eS_8] at hw
      replace hf := hf S_8 eS_8
      refine lv_aload_n hx hb dX8_append_81 rfl (lv_at hl 0 rfl) ?_
      refine x_get (k := 0) (v := .ref (xa X 2)) hx hb hts i_X8 hown hK hw (by decide) rfl rfl 1 (by decide) lf_19 (fun _ h9 => h9) rfl dX8_append_82 ?_
      refine x_getN (k := 2) (v := .int (gI S_8 5)) hx hb hts i_X6 hown hK hw (by decide) rfl rfl 0 (by decide) lf_87 (fun _ h9 => h9) rfl dX8_append_85 ?_
      exact hQ _ _ _ _ _ _ _ _ rfl hf hw dX8_append_88 (by decide) (by decide)
    · replace hf := hf.2 c_4
      exact hT "java/lang/IllegalStateException" "the word has 8 terminals" 113 117 7 163 prog_15_method_2_code S _ _ _ _ [] _ _ ex_S (by decide +kernel) hf hw hl.1 (Nat.le_of_ble_eq_true rfl) (by decide) (by decide) dX8_append_33 dX8_append_36 (Or.inl ⟨dX8_append_37, dX8_append_39, dX8_append_42⟩)
  · replace hf := hf.2 c_3
    exact hT "java/lang/IllegalArgumentException" "there is no such terminal" 74 78 7 161 prog_14_method_2_code S _ _ _ _ [] _ _ ex_A (by decide +kernel) hf hw hl.1 (Nat.le_of_ble_eq_true rfl) (by decide) (by decide) dX8_append_11 dX8_append_14 (Or.inl ⟨dX8_append_15, dX8_append_17, dX8_append_20⟩)
def pX8_terminalAt (p0 : Int32) (S : gS) (Post : Int32 → Prop) (PX : String → gS → Prop) : Prop :=
  ((p0 < 0 → PX "java/lang/IndexOutOfBoundsException" S) ∧ (¬ p0 < 0 → ((p0 < (gI S 5) → (pX6_letter p0 S (fun r_3 => Post r_3))) ∧ (¬ p0 < (gI S 5) → PX "java/lang/IndexOutOfBoundsException" S))))
def rX8_terminalAt : Room := { frames := 6, cells := 1, slots := 6, locals := 90 }
set_option maxHeartbeats 40000000 in
set_option maxRecDepth 100000 in
theorem kX8_terminalAt (l : Launch) (hlt : l.stackTraces = false) (X : xG) (S : gS) (sz : Nat) (p0 : Int32) (Post : Int32 → Prop) (PX : String → gS → Prop) (hf : pX8_terminalAt p0 S Post PX) : yMi l yX8_terminalAt (Cond.code yX8_terminalAt cX8_terminalAt 2 (some .int) :: WS) rX8_terminalAt X S sz [.ref (xa X 0), .int p0] (fun r S' => Post r ∧ S = S') PX 1 6 := by
  refine yMi.of (cc := cX8_terminalAt) (maxL := 2) hlt (by decide) rfl rfl (Nat.le_of_ble_eq_true rfl) (Nat.le_of_ble_eq_true rfl) (Nat.le_of_ble_eq_true rfl) rfl rfl ?_
  intro p e s m args below meth c ls Q hC hQ hT hX hw hl
  obtain ⟨hx, hb, hml, hown, hts, hE, hi⟩ := id hC
  have hK := hE.1
  have hl : lv_has ls 2 [(0, .ref (xa X 0)), (1, .int p0)] := hl
  have lf_19 : (Cond.fieldLink RX8 19 "GrammarAmbiguity" "word" "LGrammarAmbiguity$Word;").before args s = true := hts _ q_22
  have lf_87 : va_Nw (.fieldLinkNest RX8 87 "GrammarAmbiguity$Word" "length" "I" "GrammarAmbiguity") s := hE.2.1 _ (by decide +kernel)
  have ln_170 : va_Nw (.methodLinkNest RX8 170 yX6_letter "GrammarAmbiguity") s := hE.2.1 _ (by decide +kernel)
  rw [pX8_terminalAt] at hf
  refine lv_iload_n hx hb dX8_terminalAt_0 rfl (lv_at hl 1 rfl) ?_
  refine lv_if_lt (tgt := 15) hx hb dX8_terminalAt_1 (by decide) (fun c_1 => ?_) (fun c_1 => ?_)
  · replace hf := hf.1 c_1
    exact hT "java/lang/IndexOutOfBoundsException" "there is no such position" 133 137 7 168 prog_16_method_2_code S _ _ _ _ [] _ _ ex_I (by decide +kernel) hf hw hl.1 (Nat.le_of_ble_eq_true rfl) (by decide) (by decide) dX8_terminalAt_15 dX8_terminalAt_18 (Or.inl ⟨dX8_terminalAt_19, dX8_terminalAt_21, dX8_terminalAt_24⟩)
  · replace hf := hf.2 c_1
    refine lv_iload_n hx hb dX8_terminalAt_4 rfl (lv_at hl 1 rfl) ?_
    refine lv_aload_n hx hb dX8_terminalAt_5 rfl (lv_at hl 0 rfl) ?_
    refine x_get (k := 0) (v := .ref (xa X 2)) hx hb hts i_X8 hown hK hw (by decide) rfl rfl 1 (by decide) lf_19 (fun _ h9 => h9) rfl dX8_terminalAt_6 ?_
    refine x_getN (k := 2) (v := .int (gI S 5)) hx hb hts i_X6 hown hK hw (by decide) rfl rfl 0 (by decide) lf_87 (fun _ h9 => h9) rfl dX8_terminalAt_9 ?_
    refine lv_icmp_lt (tgt := 25) hx hb dX8_terminalAt_12 (by decide) (fun c_2 => ?_) (fun c_2 => ?_)
    · replace hf := hf.1 c_2
      refine lv_aload_n hx hb dX8_terminalAt_25 rfl (lv_at hl 0 rfl) ?_
      refine x_get (k := 0) (v := .ref (xa X 2)) hx hb hts i_X8 hown hK hw (by decide) rfl rfl 1 (by decide) lf_19 (fun _ h9 => h9) rfl dX8_terminalAt_26 ?_
      refine lv_iload_n hx hb dX8_terminalAt_29 rfl (lv_at hl 1 rfl) ?_
      refine z_ci (z_rN (As := [.int p0]) (rest := []) (okX X) hC hw (kX6_letter l X S _ p0 _ hf) ⟨va_cnB 1 hts (gN q_387) rfl rfl rfl ln_170 (hts _ q_21) (by decide +kernel) ⟨Nat.le_of_ble_eq_true rfl, Nat.le_of_ble_eq_true rfl⟩, hts _ q_385, hts _ q_386⟩ (x_recv hK hw (k := 2) (by decide) rfl rfl) rfl hl.1 rfl (Nat.le_of_ble_eq_true rfl) dX8_terminalAt_30 ⟨Nat.le_of_ble_eq_true rfl, Nat.le_of_ble_eq_true rfl⟩) hw hi (fun r_3 S_4 H locs hf hw => ?_)
      obtain ⟨hf, rfl⟩ := hf
      exact hQ _ _ _ _ _ _ _ _ rfl ⟨hf, rfl⟩ hw dX8_terminalAt_33 (by decide) (by decide)
    · replace hf := hf.2 c_2
      exact hT "java/lang/IndexOutOfBoundsException" "there is no such position" 133 137 7 168 prog_16_method_2_code S _ _ _ _ [] _ _ ex_I (by decide +kernel) hf hw hl.1 (Nat.le_of_ble_eq_true rfl) (by decide) (by decide) dX8_terminalAt_15 dX8_terminalAt_18 (Or.inl ⟨dX8_terminalAt_19, dX8_terminalAt_21, dX8_terminalAt_24⟩)
def pX8_treesOfLength (p0 : Int32) (S : gS) (Post : Int64 → gS → Prop) (PX : String → gS → Prop) : Prop :=
  (pX8_checkLength p0 10 S ((pX8_allTrees p0 S (fun r_2 S_3 => Post r_2 S_3))) PX)
def rX8_treesOfLength : Room := { frames := 7, cells := 1, slots := 6, locals := 183 }
set_option maxHeartbeats 40000000 in
set_option maxRecDepth 100000 in
theorem kX8_treesOfLength (l : Launch) (hlt : l.stackTraces = false) (X : xG) (S : gS) (sz : Nat) (p0 : Int32) (Post : Int64 → gS → Prop) (PX : String → gS → Prop) (hf : pX8_treesOfLength p0 S Post PX) : yMl l yX8_treesOfLength (Cond.code yX8_treesOfLength cX8_treesOfLength 2 (some .long) :: WS) rX8_treesOfLength X S sz [.ref (xa X 0), .int p0] Post PX 1 6 := by
  refine yMl.of (cc := cX8_treesOfLength) (maxL := 2) hlt (by decide) rfl rfl (Nat.le_of_ble_eq_true rfl) (Nat.le_of_ble_eq_true rfl) (Nat.le_of_ble_eq_true rfl) rfl rfl ?_
  intro p e s m args below meth c ls Q hC hQ hT hX hw hl
  obtain ⟨hx, hb, hml, hown, hts, hE, hi⟩ := id hC
  have hK := hE.1
  have hl : lv_has ls 2 [(0, .ref (xa X 0)), (1, .int p0)] := hl
  rw [pX8_treesOfLength] at hf
  refine lv_iload_n hx hb dX8_treesOfLength_0 rfl (lv_at hl 1 rfl) ?_
  refine lv_bipush (v := 10) hx hb dX8_treesOfLength_1 (by decide) ?_
  refine y_cv (y_rS (As := [.int p0, .int 10]) (rest := []) hC hw (kX8_checkLength l hlt X S _ p0 10 _ _ hf) (cwS 2 hts (gSt q_508 q_509 q_2 q_510) rfl rfl rfl (by decide +kernel) ⟨Nat.le_of_ble_eq_true rfl, Nat.le_of_ble_eq_true rfl⟩) rfl hl.1 rfl (Nat.le_of_ble_eq_true rfl) dX8_treesOfLength_3 ⟨Nat.le_of_ble_eq_true rfl, Nat.le_of_ble_eq_true rfl⟩) hw hi (fun E ce q9 S9 H locs hp hw h1 h2 h3 => hX E ce q9 S9 _ _ _ _ _ _ _ hp hw h1 h2 h3 (by decide) (by decide)) (fun S_1 H locs hf hw => ?_)
  obtain ⟨hf, rfl⟩ := hf
  refine W.widen (k := 1) (n := 6) (by decide) (by decide) ?_
  refine lv_aload_n hx hb dX8_treesOfLength_6 rfl (lv_at hl 0 rfl) ?_
  refine lv_iload_n hx hb dX8_treesOfLength_7 rfl (lv_at hl 1 rfl) ?_
  refine z_cl (z_rV (As := [.int p0]) (rest := []) (okX X) hC hw (kX8_allTrees l X S _ p0 _ hf) (cwV 1 hts (gV q_511 q_512 q_513 q_2 q_514) rfl rfl rfl (by decide +kernel) ⟨Nat.le_of_ble_eq_true rfl, Nat.le_of_ble_eq_true rfl⟩) (x_recv hK hw (k := 0) (by decide) rfl rfl) rfl hl.1 rfl (Nat.le_of_ble_eq_true rfl) dX8_treesOfLength_8 ⟨Nat.le_of_ble_eq_true rfl, Nat.le_of_ble_eq_true rfl⟩) hw hi (fun r_2 S_3 H locs hf hw => ?_)
  exact hQ _ _ _ _ _ _ _ _ hf hw dX8_treesOfLength_11 (by decide) (by decide)
