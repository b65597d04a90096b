/-! Printed by wip/whole/gen: what each method asks (p..), and its contract under that (k..). -/
def pX1_isNonterminal (p0 : Int32) (S : gS) (Post : Int32 → Prop) : Prop :=
  ((p0 < 0 → Post 0) ∧ (¬ p0 < 0 → (((gI S 1) ≤ p0 → Post 0) ∧ (¬ (gI S 1) ≤ p0 → ((6 ≤ p0 → Post 0) ∧ (¬ 6 ≤ p0 → Post 1))))))
def rX1_isNonterminal : Room := { frames := 0, cells := 0, slots := 0, locals := 0 }
set_option maxHeartbeats 40000000 in
set_option maxRecDepth 100000 in
theorem kX1_isNonterminal (l : Launch) (X : xG) (S : gS) (sz : Nat) (p0 : Int32) (Post : Int32 → Prop) (hf : pX1_isNonterminal p0 S Post) : xMi l yX1_isNonterminal (Cond.code yX1_isNonterminal cX1_isNonterminal 2 (some .boolean) :: WS) rX1_isNonterminal 34 X (cX X) (eX X) S sz [.ref (xa X 1), .int p0] (fun r S' => Post r ∧ S = S') := by
  refine xMi.of (cc := cX1_isNonterminal) (maxL := 2) (own := RX1) (by decide) rfl rfl (Nat.le_of_ble_eq_true rfl) ?_
  intro p e s m args below meth c ls Q hC hQ hw hl
  obtain ⟨hx, hb, hml, hown, hts, hE, hi⟩ := id hC
  have hK := hE.1
  have hl : lv_has ls 2 [(0, .ref (xa X 1)), (1, .int p0)] := hl
  have lf_9 : (Cond.fieldLink RX1 9 "GrammarAmbiguity$Grammar" "nonterminals" "I").before args s = true := hts _ q_49
  rw [pX1_isNonterminal] at hf
  refine lv_iload_n hx hb dX1_isNonterminal_0 rfl (lv_at hl 1 rfl) ?_
  refine lv_if_lt (tgt := 22) hx hb dX1_isNonterminal_1 (by decide) (fun c_1 => ?_) (fun c_1 => ?_)
  · replace hf := hf.1 c_1
    refine lv_iconst (v := 0) hx hb dX1_isNonterminal_22 (by decide) ?_
    exact hQ _ _ _ _ _ _ rfl ⟨hf, rfl⟩ hw dX1_isNonterminal_23
  · replace hf := hf.2 c_1
    refine lv_iload_n hx hb dX1_isNonterminal_4 rfl (lv_at hl 1 rfl) ?_
    refine lv_aload_n hx hb dX1_isNonterminal_5 rfl (lv_at hl 0 rfl) ?_
    refine x_get (k := 1) (v := .int (gI S 1)) hx hb hts i_X1 hown hK hw (by decide) rfl rfl 0 (by decide) lf_9 (fun _ h9 => h9) rfl dX1_isNonterminal_6 ?_
    refine lv_icmp_ge (tgt := 22) hx hb dX1_isNonterminal_9 (by decide) (fun c_2 => ?_) (fun c_2 => ?_)
    · replace hf := hf.1 c_2
      refine lv_iconst (v := 0) hx hb dX1_isNonterminal_22 (by decide) ?_
      exact hQ _ _ _ _ _ _ rfl ⟨hf, rfl⟩ hw dX1_isNonterminal_23
    · replace hf := hf.2 c_2
      refine lv_iload_n hx hb dX1_isNonterminal_12 rfl (lv_at hl 1 rfl) ?_
      refine lv_bipush (v := 6) hx hb dX1_isNonterminal_13 (by decide) ?_
      refine lv_icmp_ge (tgt := 22) hx hb dX1_isNonterminal_15 (by decide) (fun c_3 => ?_) (fun c_3 => ?_)
      · replace hf := hf.1 c_3
        refine lv_iconst (v := 0) hx hb dX1_isNonterminal_22 (by decide) ?_
        exact hQ _ _ _ _ _ _ rfl ⟨hf, rfl⟩ hw dX1_isNonterminal_23
      · replace hf := hf.2 c_3
        refine lv_iconst (v := 1) hx hb dX1_isNonterminal_18 (by decide) ?_
        refine lv_goto (tgt := 23) hx hb dX1_isNonterminal_19 (by decide) ?_
        exact hQ _ _ _ _ _ _ rfl ⟨hf, rfl⟩ hw dX1_isNonterminal_23
def pX1_isTerminal (p0 : Int32) (S : gS) (Post : Int32 → Prop) : Prop :=
  ((p0 < 0 → Post 0) ∧ (¬ p0 < 0 → (((gI S 2) ≤ p0 → Post 0) ∧ (¬ (gI S 2) ≤ p0 → Post 1))))
def rX1_isTerminal : Room := { frames := 0, cells := 0, slots := 0, locals := 0 }
set_option maxHeartbeats 40000000 in
set_option maxRecDepth 100000 in
theorem kX1_isTerminal (l : Launch) (X : xG) (S : gS) (sz : Nat) (p0 : Int32) (Post : Int32 → Prop) (hf : pX1_isTerminal p0 S Post) : xMi l yX1_isTerminal (Cond.code yX1_isTerminal cX1_isTerminal 2 (some .boolean) :: WS) rX1_isTerminal 34 X (cX X) (eX X) S sz [.ref (xa X 1), .int p0] (fun r S' => Post r ∧ S = S') := by
  refine xMi.of (cc := cX1_isTerminal) (maxL := 2) (own := RX1) (by decide) rfl rfl (Nat.le_of_ble_eq_true rfl) ?_
  intro p e s m args below meth c ls Q hC hQ hw hl
  obtain ⟨hx, hb, hml, hown, hts, hE, hi⟩ := id hC
  have hK := hE.1
  have hl : lv_has ls 2 [(0, .ref (xa X 1)), (1, .int p0)] := hl
  have lf_15 : (Cond.fieldLink RX1 15 "GrammarAmbiguity$Grammar" "terminals" "I").before args s = true := hts _ q_50
  rw [pX1_isTerminal] at hf
  refine lv_iload_n hx hb dX1_isTerminal_0 rfl (lv_at hl 1 rfl) ?_
  refine lv_if_lt (tgt := 16) hx hb dX1_isTerminal_1 (by decide) (fun c_1 => ?_) (fun c_1 => ?_)
  · replace hf := hf.1 c_1
    refine lv_iconst (v := 0) hx hb dX1_isTerminal_16 (by decide) ?_
    exact hQ _ _ _ _ _ _ rfl ⟨hf, rfl⟩ hw dX1_isTerminal_17
  · replace hf := hf.2 c_1
    refine lv_iload_n hx hb dX1_isTerminal_4 rfl (lv_at hl 1 rfl) ?_
    refine lv_aload_n hx hb dX1_isTerminal_5 rfl (lv_at hl 0 rfl) ?_
    refine x_get (k := 1) (v := .int (gI S 2)) hx hb hts i_X1 hown hK hw (by decide) rfl rfl 1 (by decide) lf_15 (fun _ h9 => h9) rfl dX1_isTerminal_6 ?_
    refine lv_icmp_ge (tgt := 16) hx hb dX1_isTerminal_9 (by decide) (fun c_2 => ?_) (fun c_2 => ?_)
    · replace hf := hf.1 c_2
      refine lv_iconst (v := 0) hx hb dX1_isTerminal_16 (by decide) ?_
      exact hQ _ _ _ _ _ _ rfl ⟨hf, rfl⟩ hw dX1_isTerminal_17
    · replace hf := hf.2 c_2
      refine lv_iconst (v := 1) hx hb dX1_isTerminal_12 (by decide) ?_
      refine lv_goto (tgt := 17) hx hb dX1_isTerminal_13 (by decide) ?_
      exact hQ _ _ _ _ _ _ rfl ⟨hf, rfl⟩ hw dX1_isTerminal_17
def pX1_isSymbol (p0 : Int32) (S : gS) (Post : Int32 → Prop) : Prop :=
  (pX1_isNonterminal p0 S (fun r_1 => ((¬ r_1 = 0 → Post 1) ∧ (r_1 = 0 → ((p0 < 10 → Post 0) ∧ (¬ p0 < 10 → (pX1_isTerminal (p0 - 10) S (fun r_5 => ((r_5 = 0 → Post 0) ∧ (¬ r_5 = 0 → Post 1))))))))))
def rX1_isSymbol : Room := { frames := 1, cells := 0, slots := 0, locals := 21 }
set_option maxHeartbeats 40000000 in
set_option maxRecDepth 100000 in
theorem kX1_isSymbol (l : Launch) (X : xG) (S : gS) (sz : Nat) (p0 : Int32) (Post : Int32 → Prop) (hf : pX1_isSymbol p0 S Post) : xMi l yX1_isSymbol (Cond.code yX1_isSymbol cX1_isSymbol 2 (some .boolean) :: WS) rX1_isSymbol 34 X (cX X) (eX X) S sz [.ref (xa X 1), .int p0] (fun r S' => Post r ∧ S = S') := by
  refine xMi.of (cc := cX1_isSymbol) (maxL := 2) (own := RX1) (by decide) rfl rfl (Nat.le_of_ble_eq_true rfl) ?_
  intro p e s m args below meth c ls Q hC hQ hw hl
  obtain ⟨hx, hb, hml, hown, hts, hE, hi⟩ := id hC
  have hK := hE.1
  have hl : lv_has ls 2 [(0, .ref (xa X 1)), (1, .int p0)] := hl
  rw [pX1_isSymbol] at hf
  refine lv_aload_n hx hb dX1_isSymbol_0 rfl (lv_at hl 0 rfl) ?_
  refine lv_iload_n hx hb dX1_isSymbol_1 rfl (lv_at hl 1 rfl) ?_
  refine x_ci (x_rV (As := [.int p0]) (rest := []) (okX X) hC hw (kX1_isNonterminal l X S _ p0 _ hf) (cwV 1 hts (gV q_191 q_181 q_182 q_17 q_183) rfl rfl rfl (by decide +kernel) ⟨Nat.le_of_ble_eq_true rfl, Nat.le_of_ble_eq_true rfl⟩) (x_recv hK hw (k := 1) (by decide) rfl rfl) rfl hl.1 rfl (Nat.le_of_ble_eq_true rfl) dX1_isSymbol_2) hw hi (fun r_1 S_2 H locs hf hw => ?_)
  obtain ⟨hf, rfl⟩ := hf
  refine lv_if_ne (tgt := 25) hx hb dX1_isSymbol_5 (by decide) (fun c_3 => ?_) (fun c_3 => ?_)
  · replace hf := hf.1 c_3
    refine lv_iconst (v := 1) hx hb dX1_isSymbol_25 (by decide) ?_
    refine lv_goto (tgt := 30) hx hb dX1_isSymbol_26 (by decide) ?_
    exact hQ _ _ _ _ _ _ rfl ⟨hf, rfl⟩ hw dX1_isSymbol_30
  · replace hf := hf.2 c_3
    refine lv_iload_n hx hb dX1_isSymbol_8 rfl (lv_at hl 1 rfl) ?_
    refine lv_bipush (v := 10) hx hb dX1_isSymbol_9 (by decide) ?_
    refine lv_icmp_lt (tgt := 29) hx hb dX1_isSymbol_11 (by decide) (fun c_4 => ?_) (fun c_4 => ?_)
    · replace hf := hf.1 c_4
      refine lv_iconst (v := 0) hx hb dX1_isSymbol_29 (by decide) ?_
      exact hQ _ _ _ _ _ _ rfl ⟨hf, rfl⟩ hw dX1_isSymbol_30
    · replace hf := hf.2 c_4
      refine lv_aload_n hx hb dX1_isSymbol_14 rfl (lv_at hl 0 rfl) ?_
      refine lv_iload_n hx hb dX1_isSymbol_15 rfl (lv_at hl 1 rfl) ?_
      refine lv_bipush (v := 10) hx hb dX1_isSymbol_16 (by decide) ?_
      refine lv_isub hx hb dX1_isSymbol_18 ?_
      refine x_ci (x_rV (As := [.int (p0 - 10)]) (rest := []) (okX X) hC hw (kX1_isTerminal l X S _ (p0 - 10) _ hf) (cwV 1 hts (gV q_192 q_193 q_194 q_17 q_195) rfl rfl rfl (by decide +kernel) ⟨Nat.le_of_ble_eq_true rfl, Nat.le_of_ble_eq_true rfl⟩) (x_recv hK hw (k := 1) (by decide) rfl rfl) rfl hl.1 rfl (Nat.le_of_ble_eq_true rfl) dX1_isSymbol_19) hw hi (fun r_5 S_6 H locs hf hw => ?_)
      obtain ⟨hf, rfl⟩ := hf
      refine lv_if_eq (tgt := 29) hx hb dX1_isSymbol_22 (by decide) (fun c_7 => ?_) (fun c_7 => ?_)
      · replace hf := hf.1 c_7
        refine lv_iconst (v := 0) hx hb dX1_isSymbol_29 (by decide) ?_
        exact hQ _ _ _ _ _ _ rfl ⟨hf, rfl⟩ hw dX1_isSymbol_30
      · replace hf := hf.2 c_7
        refine lv_iconst (v := 1) hx hb dX1_isSymbol_25 (by decide) ?_
        refine lv_goto (tgt := 30) hx hb dX1_isSymbol_26 (by decide) ?_
        exact hQ _ _ _ _ _ _ rfl ⟨hf, rfl⟩ hw dX1_isSymbol_30
def pX1_isRightSide (p0 : Int32) (p1 : Int32) (p2 : Int32) (S : gS) (Post : Int32 → Prop) : Prop :=
  (pX1_isSymbol p0 S (fun r_1 => ((¬ r_1 = 0 → ((¬ p1 = (-1) → (pX1_isSymbol p1 S (fun r_5 => ((r_5 = 0 → Post 0) ∧ (¬ r_5 = 0 → ((p2 = (-1) → Post 1) ∧ (¬ p2 = (-1) → (pX1_isSymbol p2 S (fun r_9 => ((r_9 = 0 → Post 0) ∧ (¬ r_9 = 0 → Post 1))))))))))) ∧ (p1 = (-1) → ((¬ p2 = (-1) → Post 0) ∧ (p2 = (-1) → (pX1_isNonterminal p0 S (fun r_13 => ((¬ r_13 = 0 → Post 0) ∧ (r_13 = 0 → Post 1))))))))) ∧ (r_1 = 0 → Post 0))))
def rX1_isRightSide : Room := { frames := 2, cells := 0, slots := 0, locals := 42 }
set_option maxHeartbeats 40000000 in
set_option maxRecDepth 100000 in
theorem kX1_isRightSide (l : Launch) (X : xG) (S : gS) (sz : Nat) (p0 : Int32) (p1 : Int32) (p2 : Int32) (Post : Int32 → Prop) (hf : pX1_isRightSide p0 p1 p2 S Post) : xMi l yX1_isRightSide (Cond.code yX1_isRightSide cX1_isRightSide 4 (some .boolean) :: WS) rX1_isRightSide 34 X (cX X) (eX X) S sz [.ref (xa X 1), .int p0, .int p1, .int p2] (fun r S' => Post r ∧ S = S') := by
  refine xMi.of (cc := cX1_isRightSide) (maxL := 4) (own := RX1) (by decide) rfl rfl (Nat.le_of_ble_eq_true rfl) ?_
  intro p e s m args below meth c ls Q hC hQ hw hl
  obtain ⟨hx, hb, hml, hown, hts, hE, hi⟩ := id hC
  have hK := hE.1
  have hl : lv_has ls 4 [(0, .ref (xa X 1)), (1, .int p0), (2, .int p1), (3, .int p2)] := hl
  rw [pX1_isRightSide] at hf
  refine lv_aload_n hx hb dX1_isRightSide_0 rfl (lv_at hl 0 rfl) ?_
  refine lv_iload_n hx hb dX1_isRightSide_1 rfl (lv_at hl 1 rfl) ?_
  refine x_ci (x_rV (As := [.int p0]) (rest := []) (okX X) hC hw (kX1_isSymbol l X S _ p0 _ hf) (cwV 1 hts (gV q_187 q_188 q_189 q_17 q_190) rfl rfl rfl (by decide +kernel) ⟨Nat.le_of_ble_eq_true rfl, Nat.le_of_ble_eq_true rfl⟩) (x_recv hK hw (k := 1) (by decide) rfl rfl) rfl hl.1 rfl (Nat.le_of_ble_eq_true rfl) dX1_isRightSide_2) hw hi (fun r_1 S_2 H locs hf hw => ?_)
  obtain ⟨hf, rfl⟩ := hf
  refine lv_if_ne (tgt := 10) hx hb dX1_isRightSide_5 (by decide) (fun c_3 => ?_) (fun c_3 => ?_)
  · replace hf := hf.1 c_3
    refine lv_iload_n hx hb dX1_isRightSide_10 rfl (lv_at hl 2 rfl) ?_
    refine lv_iconst (v := (-1)) hx hb dX1_isRightSide_11 (by decide) ?_
    refine lv_icmp_ne (tgt := 34) hx hb dX1_isRightSide_12 (by decide) (fun c_4 => ?_) (fun c_4 => ?_)
    · replace hf := hf.1 c_4
      refine lv_aload_n hx hb dX1_isRightSide_34 rfl (lv_at hl 0 rfl) ?_
      refine lv_iload_n hx hb dX1_isRightSide_35 rfl (lv_at hl 2 rfl) ?_
      refine x_ci (x_rV (As := [.int p1]) (rest := []) (okX X) hC hw (kX1_isSymbol l X S _ p1 _ hf) (cwV 1 hts (gV q_187 q_188 q_189 q_17 q_190) rfl rfl rfl (by decide +kernel) ⟨Nat.le_of_ble_eq_true rfl, Nat.le_of_ble_eq_true rfl⟩) (x_recv hK hw (k := 1) (by decide) rfl rfl) rfl hl.1 rfl (Nat.le_of_ble_eq_true rfl) dX1_isRightSide_36) hw hi (fun r_5 S_6 H locs hf hw => ?_)
      obtain ⟨hf, rfl⟩ := hf
      refine lv_if_eq (tgt := 59) hx hb dX1_isRightSide_39 (by decide) (fun c_7 => ?_) (fun c_7 => ?_)
      · replace hf := hf.1 c_7
        refine lv_iconst (v := 0) hx hb dX1_isRightSide_59 (by decide) ?_
        exact hQ _ _ _ _ _ _ rfl ⟨hf, rfl⟩ hw dX1_isRightSide_60
      · replace hf := hf.2 c_7
        refine lv_iload_n hx hb dX1_isRightSide_42 rfl (lv_at hl 3 rfl) ?_
        refine lv_iconst (v := (-1)) hx hb dX1_isRightSide_43 (by decide) ?_
        refine lv_icmp_eq (tgt := 55) hx hb dX1_isRightSide_44 (by decide) (fun c_8 => ?_) (fun c_8 => ?_)
        · replace hf := hf.1 c_8
          refine lv_iconst (v := 1) hx hb dX1_isRightSide_55 (by decide) ?_
          refine lv_goto (tgt := 60) hx hb dX1_isRightSide_56 (by decide) ?_
          exact hQ _ _ _ _ _ _ rfl ⟨hf, rfl⟩ hw dX1_isRightSide_60
        · replace hf := hf.2 c_8
          refine lv_aload_n hx hb dX1_isRightSide_47 rfl (lv_at hl 0 rfl) ?_
          refine lv_iload_n hx hb dX1_isRightSide_48 rfl (lv_at hl 3 rfl) ?_
          refine x_ci (x_rV (As := [.int p2]) (rest := []) (okX X) hC hw (kX1_isSymbol l X S _ p2 _ hf) (cwV 1 hts (gV q_187 q_188 q_189 q_17 q_190) rfl rfl rfl (by decide +kernel) ⟨Nat.le_of_ble_eq_true rfl, Nat.le_of_ble_eq_true rfl⟩) (x_recv hK hw (k := 1) (by decide) rfl rfl) rfl hl.1 rfl (Nat.le_of_ble_eq_true rfl) dX1_isRightSide_49) hw hi (fun r_9 S_10 H locs hf hw => ?_)
          obtain ⟨hf, rfl⟩ := hf
          refine lv_if_eq (tgt := 59) hx hb dX1_isRightSide_52 (by decide) (fun c_11 => ?_) (fun c_11 => ?_)
          · replace hf := hf.1 c_11
            refine lv_iconst (v := 0) hx hb dX1_isRightSide_59 (by decide) ?_
            exact hQ _ _ _ _ _ _ rfl ⟨hf, rfl⟩ hw dX1_isRightSide_60
          · replace hf := hf.2 c_11
            refine lv_iconst (v := 1) hx hb dX1_isRightSide_55 (by decide) ?_
            refine lv_goto (tgt := 60) hx hb dX1_isRightSide_56 (by decide) ?_
            exact hQ _ _ _ _ _ _ rfl ⟨hf, rfl⟩ hw dX1_isRightSide_60
    · replace hf := hf.2 c_4
      refine lv_iload_n hx hb dX1_isRightSide_15 rfl (lv_at hl 3 rfl) ?_
      refine lv_iconst (v := (-1)) hx hb dX1_isRightSide_16 (by decide) ?_
      refine lv_icmp_ne (tgt := 32) hx hb dX1_isRightSide_17 (by decide) (fun c_12 => ?_) (fun c_12 => ?_)
      · replace hf := hf.1 c_12
        refine lv_iconst (v := 0) hx hb dX1_isRightSide_32 (by decide) ?_
        exact hQ _ _ _ _ _ _ rfl ⟨hf, rfl⟩ hw dX1_isRightSide_33
      · replace hf := hf.2 c_12
        refine lv_aload_n hx hb dX1_isRightSide_20 rfl (lv_at hl 0 rfl) ?_
        refine lv_iload_n hx hb dX1_isRightSide_21 rfl (lv_at hl 1 rfl) ?_
        refine x_ci (x_rV (As := [.int p0]) (rest := []) (okX X) hC hw (kX1_isNonterminal l X S _ p0 _ hf) (cwV 1 hts (gV q_191 q_181 q_182 q_17 q_183) rfl rfl rfl (by decide +kernel) ⟨Nat.le_of_ble_eq_true rfl, Nat.le_of_ble_eq_true rfl⟩) (x_recv hK hw (k := 1) (by decide) rfl rfl) rfl hl.1 rfl (Nat.le_of_ble_eq_true rfl) dX1_isRightSide_22) hw hi (fun r_13 S_14 H locs hf hw => ?_)
        obtain ⟨hf, rfl⟩ := hf
        refine lv_if_ne (tgt := 32) hx hb dX1_isRightSide_25 (by decide) (fun c_15 => ?_) (fun c_15 => ?_)
        · replace hf := hf.1 c_15
          refine lv_iconst (v := 0) hx hb dX1_isRightSide_32 (by decide) ?_
          exact hQ _ _ _ _ _ _ rfl ⟨hf, rfl⟩ hw dX1_isRightSide_33
        · replace hf := hf.2 c_15
          refine lv_iconst (v := 1) hx hb dX1_isRightSide_28 (by decide) ?_
          refine lv_goto (tgt := 33) hx hb dX1_isRightSide_29 (by decide) ?_
          exact hQ _ _ _ _ _ _ rfl ⟨hf, rfl⟩ hw dX1_isRightSide_33
  · replace hf := hf.2 c_3
    refine lv_iconst (v := 0) hx hb dX1_isRightSide_8 (by decide) ?_
    exact hQ _ _ _ _ _ _ rfl ⟨hf, rfl⟩ hw dX1_isRightSide_9
def pX1_symbol (p0 : Int32) (p1 : Int32) (S : gS) (Post : Int32 → Prop) : Prop :=
  ((p0 < 0 → Post (-1)) ∧ (¬ p0 < 0 → (((gI S 4) ≤ p0 → Post (-1)) ∧ (¬ (gI S 4) ≤ p0 → ((24 ≤ p0 → Post (-1)) ∧ (¬ 24 ≤ p0 → ((p1 < 0 → Post (-1)) ∧ (¬ p1 < 0 → ((p1 ≤ 3 → (vp_in ((p0 * 4) + p1) 96 ∧ Post (gA S 10 ((p0 * 4) + p1).toNatClampNeg))) ∧ (¬ p1 ≤ 3 → Post (-1)))))))))))
def rX1_symbol : Room := { frames := 0, cells := 0, slots := 0, locals := 0 }
set_option maxHeartbeats 40000000 in
set_option maxRecDepth 100000 in
theorem kX1_symbol (l : Launch) (X : xG) (S : gS) (sz : Nat) (p0 : Int32) (p1 : Int32) (Post : Int32 → Prop) (hf : pX1_symbol p0 p1 S Post) : xMi l yX1_symbol (Cond.code yX1_symbol cX1_symbol 3 (some .int) :: WS) rX1_symbol 34 X (cX X) (eX X) S sz [.ref (xa X 1), .int p0, .int p1] (fun r S' => Post r ∧ S = S') := by
  refine xMi.of (cc := cX1_symbol) (maxL := 3) (own := RX1) (by decide) rfl rfl (Nat.le_of_ble_eq_true rfl) ?_
  intro p e s m args below meth c ls Q hC hQ hw hl
  obtain ⟨hx, hb, hml, hown, hts, hE, hi⟩ := id hC
  have hK := hE.1
  have hl : lv_has ls 3 [(0, .ref (xa X 1)), (1, .int p0), (2, .int p1)] := hl
  have lf_21 : (Cond.fieldLink RX1 21 "GrammarAmbiguity$Grammar" "productions" "I").before args s = true := hts _ q_52
  have lf_24 : (Cond.fieldLink RX1 24 "GrammarAmbiguity$Grammar" "symbols" "[I").before args s = true := hts _ q_54
  rw [pX1_symbol] at hf
  refine lv_iload_n hx hb dX1_symbol_0 rfl (lv_at hl 1 rfl) ?_
  refine lv_if_lt (tgt := 27) hx hb dX1_symbol_1 (by decide) (fun c_1 => ?_) (fun c_1 => ?_)
  · replace hf := hf.1 c_1
    refine lv_iconst (v := (-1)) hx hb dX1_symbol_27 (by decide) ?_
    exact hQ _ _ _ _ _ _ rfl ⟨hf, rfl⟩ hw dX1_symbol_28
  · replace hf := hf.2 c_1
    refine lv_iload_n hx hb dX1_symbol_4 rfl (lv_at hl 1 rfl) ?_
    refine lv_aload_n hx hb dX1_symbol_5 rfl (lv_at hl 0 rfl) ?_
    refine x_get (k := 1) (v := .int (gI S 4)) hx hb hts i_X1 hown hK hw (by decide) rfl rfl 3 (by decide) lf_21 (fun _ h9 => h9) rfl dX1_symbol_6 ?_
    refine lv_icmp_ge (tgt := 27) hx hb dX1_symbol_9 (by decide) (fun c_2 => ?_) (fun c_2 => ?_)
    · replace hf := hf.1 c_2
      refine lv_iconst (v := (-1)) hx hb dX1_symbol_27 (by decide) ?_
      exact hQ _ _ _ _ _ _ rfl ⟨hf, rfl⟩ hw dX1_symbol_28
    · replace hf := hf.2 c_2
      refine lv_iload_n hx hb dX1_symbol_12 rfl (lv_at hl 1 rfl) ?_
      refine lv_bipush (v := 24) hx hb dX1_symbol_13 (by decide) ?_
      refine lv_icmp_ge (tgt := 27) hx hb dX1_symbol_15 (by decide) (fun c_3 => ?_) (fun c_3 => ?_)
      · replace hf := hf.1 c_3
        refine lv_iconst (v := (-1)) hx hb dX1_symbol_27 (by decide) ?_
        exact hQ _ _ _ _ _ _ rfl ⟨hf, rfl⟩ hw dX1_symbol_28
      · replace hf := hf.2 c_3
        refine lv_iload_n hx hb dX1_symbol_18 rfl (lv_at hl 2 rfl) ?_
        refine lv_if_lt (tgt := 27) hx hb dX1_symbol_19 (by decide) (fun c_4 => ?_) (fun c_4 => ?_)
        · replace hf := hf.1 c_4
          refine lv_iconst (v := (-1)) hx hb dX1_symbol_27 (by decide) ?_
          exact hQ _ _ _ _ _ _ rfl ⟨hf, rfl⟩ hw dX1_symbol_28
        · replace hf := hf.2 c_4
          refine lv_iload_n hx hb dX1_symbol_22 rfl (lv_at hl 2 rfl) ?_
          refine lv_iconst (v := 3) hx hb dX1_symbol_23 (by decide) ?_
          refine lv_icmp_le (tgt := 29) hx hb dX1_symbol_24 (by decide) (fun c_5 => ?_) (fun c_5 => ?_)
          · replace hf := hf.1 c_5
            refine lv_aload_n hx hb dX1_symbol_29 rfl (lv_at hl 0 rfl) ?_
            refine x_get (k := 1) (v := .ref (xa X 10)) hx hb hts i_X1 hown hK hw (by decide) rfl rfl 4 (by decide) lf_24 (fun _ h9 => h9) rfl dX1_symbol_30 ?_
            refine lv_iload_n hx hb dX1_symbol_33 rfl (lv_at hl 1 rfl) ?_
            refine lv_iconst (v := 4) hx hb dX1_symbol_34 (by decide) ?_
            refine lv_imul hx hb dX1_symbol_35 ?_
            refine lv_iload_n hx hb dX1_symbol_36 rfl (lv_at hl 2 rfl) ?_
            refine lv_iadd hx hb dX1_symbol_37 ?_
            refine x_ild (n := 96) hx hb hK hw (by decide) rfl rfl hf.1 dX1_symbol_38 ?_
            replace hf := hf.2
            exact hQ _ _ _ _ _ _ rfl ⟨hf, rfl⟩ hw dX1_symbol_39
          · replace hf := hf.2 c_5
            refine lv_iconst (v := (-1)) hx hb dX1_symbol_27 (by decide) ?_
            exact hQ _ _ _ _ _ _ rfl ⟨hf, rfl⟩ hw dX1_symbol_28
def bX1_holds_3 (p0 : Int32) (p1 : Int32) (p2 : Int32) (p3 : Int32) (S : gS) (Post : Int32 → Prop) (L_3 : Int32 → Prop) (x5_1 : Int32) : Prop :=
  (((gI S 4) ≤ x5_1 → Post 0) ∧ (¬ (gI S 4) ≤ x5_1 → (pX1_symbol x5_1 0 S (fun r_3 => ((¬ r_3 = p0 → (∀ x5_6 : Int32, x5_6 = x5_1 + 1 → L_3 x5_6)) ∧ (r_3 = p0 → (pX1_symbol x5_1 1 S (fun r_7 => ((¬ r_7 = p1 → (∀ x5_10 : Int32, x5_10 = x5_1 + 1 → L_3 x5_10)) ∧ (r_7 = p1 → (pX1_symbol x5_1 2 S (fun r_11 => ((¬ r_11 = p2 → (∀ x5_14 : Int32, x5_14 = x5_1 + 1 → L_3 x5_14)) ∧ (r_11 = p2 → (pX1_symbol x5_1 3 S (fun r_15 => ((¬ r_15 = p3 → (∀ x5_18 : Int32, x5_18 = x5_1 + 1 → L_3 x5_18)) ∧ (r_15 = p3 → Post 1))))))))))))))))))
def pX1_holds (p0 : Int32) (p1 : Int32) (p2 : Int32) (p3 : Int32) (S : gS) (Post : Int32 → Prop) : Prop :=
  ∃ n, lp (fun L x => bX1_holds_3 p0 p1 p2 p3 S Post L x) n 0
def rX1_holds : Room := { frames := 1, cells := 0, slots := 0, locals := 22 }
set_option maxHeartbeats 40000000 in
set_option maxRecDepth 100000 in
theorem kX1_holds (l : Launch) (X : xG) (S : gS) (sz : Nat) (p0 : Int32) (p1 : Int32) (p2 : Int32) (p3 : Int32) (Post : Int32 → Prop) (hf : pX1_holds p0 p1 p2 p3 S Post) : xMi l yX1_holds (Cond.code yX1_holds cX1_holds 6 (some .boolean) :: WS) rX1_holds 34 X (cX X) (eX X) S sz [.ref (xa X 1), .int p0, .int p1, .int p2, .int p3] (fun r S' => Post r ∧ S = S') := by
  refine xMi.of (cc := cX1_holds) (maxL := 6) (own := RX1) (by decide) rfl rfl (Nat.le_of_ble_eq_true rfl) ?_
  intro p e s m args below meth c ls Q hC hQ hw hl
  obtain ⟨hx, hb, hml, hown, hts, hE, hi⟩ := id hC
  have hK := hE.1
  have hl : lv_has ls 6 [(0, .ref (xa X 1)), (1, .int p0), (2, .int p1), (3, .int p2), (4, .int p3)] := hl
  have lf_21 : (Cond.fieldLink RX1 21 "GrammarAmbiguity$Grammar" "productions" "I").before args s = true := hts _ q_52
  rw [pX1_holds] at hf
  refine lv_iconst (v := 0) hx hb dX1_holds_0 (by decide) ?_
  refine lv_istore (lv' := [(5, .int 0), (0, .ref (xa X 1)), (1, .int p0), (2, .int p1), (3, .int p2), (4, .int p3)]) hx hb dX1_holds_1 hl (by decide) rfl (fun ls hl => ?_)
  obtain ⟨n_3, hf⟩ := hf
  have w_3 : ∀ (n : Nat) (x5_1 : Int32) (H : Heap) (locs : List Loc) (ls : Array Slot), lp (fun L x => bX1_holds_3 p0 p1 p2 p3 S Post L x) n x5_1 → xH 34 X (cX X) (xA 34 X s.heap.size) s.heap S H locs → lv_has ls 6 [(0, .ref (xa X 1)), (1, .int p0), (2, .int p1), (3, .int p2), (4, .int p3), (5, .int x5_1)] → W p l e rX1_holds s m args below meth c H locs 0 0 Q (F0 m 3 ls []) := by
    intro n
    induction n with
    | zero => intro x5_1 H locs ls hf; exact hf.elim
    | succ n ih_3 =>
      intro x5_1 H locs ls hf hw hl
      replace hf : bX1_holds_3 p0 p1 p2 p3 S Post (lp (fun L x => bX1_holds_3 p0 p1 p2 p3 S Post L x) n) x5_1 := hf
      generalize lp (fun L x => bX1_holds_3 p0 p1 p2 p3 S Post L x) n = L_3 at hf ih_3
      rw [bX1_holds_3] at hf
      refine lv_iload hx hb dX1_holds_3 (lv_at hl 5 rfl) ?_
      refine lv_aload_n hx hb dX1_holds_5 rfl (lv_at hl 0 rfl) ?_
      refine x_get (k := 1) (v := .int (gI S 4)) hx hb hts i_X1 hown hK hw (by decide) rfl rfl 3 (by decide) lf_21 (fun _ h9 => h9) rfl dX1_holds_6 ?_
      refine lv_icmp_ge (tgt := 65) hx hb dX1_holds_9 (by decide) (fun c_2 => ?_) (fun c_2 => ?_)
      · replace hf := hf.1 c_2
        refine lv_iconst (v := 0) hx hb dX1_holds_65 (by decide) ?_
        exact hQ _ _ _ _ _ _ rfl ⟨hf, rfl⟩ hw dX1_holds_66
      · replace hf := hf.2 c_2
        refine lv_aload_n hx hb dX1_holds_12 rfl (lv_at hl 0 rfl) ?_
        refine lv_iload hx hb dX1_holds_13 (lv_at hl 5 rfl) ?_
        refine lv_iconst (v := 0) hx hb dX1_holds_15 (by decide) ?_
        refine x_ci (x_rV (As := [.int x5_1, .int 0]) (rest := []) (okX X) hC hw (kX1_symbol l X S _ x5_1 0 _ hf) (cwV 2 hts (gV q_199 q_200 q_201 q_17 q_202) rfl rfl rfl (by decide +kernel) ⟨Nat.le_of_ble_eq_true rfl, Nat.le_of_ble_eq_true rfl⟩) (x_recv hK hw (k := 1) (by decide) rfl rfl) rfl hl.1 rfl (Nat.le_of_ble_eq_true rfl) dX1_holds_16) hw hi (fun r_3 S_4 H locs hf hw => ?_)
        obtain ⟨hf, rfl⟩ := hf
        refine lv_iload_n hx hb dX1_holds_19 rfl (lv_at hl 1 rfl) ?_
        refine lv_icmp_ne (tgt := 59) hx hb dX1_holds_20 (by decide) (fun c_5 => ?_) (fun c_5 => ?_)
        · replace hf := hf.1 c_5
          obtain ⟨x5_6, ex5_6⟩ : ∃ y : Int32, y = x5_1 + 1 := ⟨_, rfl⟩
          replace hf := hf x5_6 ex5_6
          refine lv_iinc (v := x5_6) (lv' := [(5, .int x5_6), (0, .ref (xa X 1)), (1, .int p0), (2, .int p1), (3, .int p2), (4, .int p3)]) hx hb dX1_holds_59 hl (k := 5) rfl (by rw [ex5_6]; rfl) (by decide) rfl (fun ls hl => ?_)
          refine lv_goto (tgt := 3) hx hb dX1_holds_62 (by decide) ?_
          exact ih_3 x5_6 _ _ _ hf hw (lv_sub hl [1, 2, 3, 4, 5, 0] rfl)
        · replace hf := hf.2 c_5
          refine lv_aload_n hx hb dX1_holds_23 rfl (lv_at hl 0 rfl) ?_
          refine lv_iload hx hb dX1_holds_24 (lv_at hl 5 rfl) ?_
          refine lv_iconst (v := 1) hx hb dX1_holds_26 (by decide) ?_
          refine x_ci (x_rV (As := [.int x5_1, .int 1]) (rest := []) (okX X) hC hw (kX1_symbol l X S _ x5_1 1 _ hf) (cwV 2 hts (gV q_199 q_200 q_201 q_17 q_202) rfl rfl rfl (by decide +kernel) ⟨Nat.le_of_ble_eq_true rfl, Nat.le_of_ble_eq_true rfl⟩) (x_recv hK hw (k := 1) (by decide) rfl rfl) rfl hl.1 rfl (Nat.le_of_ble_eq_true rfl) dX1_holds_27) hw hi (fun r_7 S_8 H locs hf hw => ?_)
          obtain ⟨hf, rfl⟩ := hf
          refine lv_iload_n hx hb dX1_holds_30 rfl (lv_at hl 2 rfl) ?_
          refine lv_icmp_ne (tgt := 59) hx hb dX1_holds_31 (by decide) (fun c_9 => ?_) (fun c_9 => ?_)
          · replace hf := hf.1 c_9
            obtain ⟨x5_10, ex5_10⟩ : ∃ y : Int32, y = x5_1 + 1 := ⟨_, rfl⟩
            replace hf := hf x5_10 ex5_10
            refine lv_iinc (v := x5_10) (lv' := [(5, .int x5_10), (0, .ref (xa X 1)), (1, .int p0), (2, .int p1), (3, .int p2), (4, .int p3)]) hx hb dX1_holds_59 hl (k := 5) rfl (by rw [ex5_10]; rfl) (by decide) rfl (fun ls hl => ?_)
            refine lv_goto (tgt := 3) hx hb dX1_holds_62 (by decide) ?_
            exact ih_3 x5_10 _ _ _ hf hw (lv_sub hl [1, 2, 3, 4, 5, 0] rfl)
          · replace hf := hf.2 c_9
            refine lv_aload_n hx hb dX1_holds_34 rfl (lv_at hl 0 rfl) ?_
            refine lv_iload hx hb dX1_holds_35 (lv_at hl 5 rfl) ?_
            refine lv_iconst (v := 2) hx hb dX1_holds_37 (by decide) ?_
            refine x_ci (x_rV (As := [.int x5_1, .int 2]) (rest := []) (okX X) hC hw (kX1_symbol l X S _ x5_1 2 _ hf) (cwV 2 hts (gV q_199 q_200 q_201 q_17 q_202) rfl rfl rfl (by decide +kernel) ⟨Nat.le_of_ble_eq_true rfl, Nat.le_of_ble_eq_true rfl⟩) (x_recv hK hw (k := 1) (by decide) rfl rfl) rfl hl.1 rfl (Nat.le_of_ble_eq_true rfl) dX1_holds_38) hw hi (fun r_11 S_12 H locs hf hw => ?_)
            obtain ⟨hf, rfl⟩ := hf
            refine lv_iload_n hx hb dX1_holds_41 rfl (lv_at hl 3 rfl) ?_
            refine lv_icmp_ne (tgt := 59) hx hb dX1_holds_42 (by decide) (fun c_13 => ?_) (fun c_13 => ?_)
            · replace hf := hf.1 c_13
              obtain ⟨x5_14, ex5_14⟩ : ∃ y : Int32, y = x5_1 + 1 := ⟨_, rfl⟩
              replace hf := hf x5_14 ex5_14
              refine lv_iinc (v := x5_14) (lv' := [(5, .int x5_14), (0, .ref (xa X 1)), (1, .int p0), (2, .int p1), (3, .int p2), (4, .int p3)]) hx hb dX1_holds_59 hl (k := 5) rfl (by rw [ex5_14]; rfl) (by decide) rfl (fun ls hl => ?_)
              refine lv_goto (tgt := 3) hx hb dX1_holds_62 (by decide) ?_
              exact ih_3 x5_14 _ _ _ hf hw (lv_sub hl [1, 2, 3, 4, 5, 0] rfl)
            · replace hf := hf.2 c_13
              refine lv_aload_n hx hb dX1_holds_45 rfl (lv_at hl 0 rfl) ?_
              refine lv_iload hx hb dX1_holds_46 (lv_at hl 5 rfl) ?_
              refine lv_iconst (v := 3) hx hb dX1_holds_48 (by decide) ?_
              refine x_ci (x_rV (As := [.int x5_1, .int 3]) (rest := []) (okX X) hC hw (kX1_symbol l X S _ x5_1 3 _ hf) (cwV 2 hts (gV q_199 q_200 q_201 q_17 q_202) rfl rfl rfl (by decide +kernel) ⟨Nat.le_of_ble_eq_true rfl, Nat.le_of_ble_eq_true rfl⟩) (x_recv hK hw (k := 1) (by decide) rfl rfl) rfl hl.1 rfl (Nat.le_of_ble_eq_true rfl) dX1_holds_49) hw hi (fun r_15 S_16 H locs hf hw => ?_)
              obtain ⟨hf, rfl⟩ := hf
              refine lv_iload hx hb dX1_holds_52 (lv_at hl 4 rfl) ?_
              refine lv_icmp_ne (tgt := 59) hx hb dX1_holds_54 (by decide) (fun c_17 => ?_) (fun c_17 => ?_)
              · replace hf := hf.1 c_17
                obtain ⟨x5_18, ex5_18⟩ : ∃ y : Int32, y = x5_1 + 1 := ⟨_, rfl⟩
                replace hf := hf x5_18 ex5_18
                refine lv_iinc (v := x5_18) (lv' := [(5, .int x5_18), (0, .ref (xa X 1)), (1, .int p0), (2, .int p1), (3, .int p2), (4, .int p3)]) hx hb dX1_holds_59 hl (k := 5) rfl (by rw [ex5_18]; rfl) (by decide) rfl (fun ls hl => ?_)
                refine lv_goto (tgt := 3) hx hb dX1_holds_62 (by decide) ?_
                exact ih_3 x5_18 _ _ _ hf hw (lv_sub hl [1, 2, 3, 4, 5, 0] rfl)
              · replace hf := hf.2 c_17
                refine lv_iconst (v := 1) hx hb dX1_holds_57 (by decide) ?_
                exact hQ _ _ _ _ _ _ rfl ⟨hf, rfl⟩ hw dX1_holds_58
  exact w_3 n_3 0 _ _ _ hf hw (lv_sub hl [1, 2, 3, 4, 5, 0] rfl)
def pX1_begin (p0 : Int32) (p1 : Int32) (S : gS) (Post : gS → Prop) : Prop :=
  (∀ S_1 : gS, S_1 = uI S 1 p0 → (∀ S_2 : gS, S_2 = uI S_1 2 p1 → (∀ S_3 : gS, S_3 = uI S_2 3 0 → (∀ S_4 : gS, S_4 = uI S_3 4 0 → Post S_4))))
def rX1_begin : Room := { frames := 0, cells := 0, slots := 0, locals := 0 }
set_option maxHeartbeats 40000000 in
set_option maxRecDepth 100000 in
theorem kX1_begin (l : Launch) (X : xG) (S : gS) (sz : Nat) (p0 : Int32) (p1 : Int32) (Post : gS → Prop) (hf : pX1_begin p0 p1 S Post) : xMv l yX1_begin (Cond.code yX1_begin cX1_begin 3 none :: WS) rX1_begin 34 X (cX X) (eX X) S sz [.ref (xa X 1), .int p0, .int p1] Post := by
  refine xMv.of (cc := cX1_begin) (maxL := 3) (own := RX1) (by decide) rfl rfl (Nat.le_of_ble_eq_true rfl) ?_
  intro p e s m args below meth c ls Q hC hQ hw hl
  obtain ⟨hx, hb, hml, hown, hts, hE, hi⟩ := id hC
  have hK := hE.1
  have hl : lv_has ls 3 [(0, .ref (xa X 1)), (1, .int p0), (2, .int p1)] := hl
  have lf_9 : (Cond.fieldLink RX1 9 "GrammarAmbiguity$Grammar" "nonterminals" "I").before args s = true := hts _ q_49
  have lf_15 : (Cond.fieldLink RX1 15 "GrammarAmbiguity$Grammar" "terminals" "I").before args s = true := hts _ q_50
  have lf_18 : (Cond.fieldLink RX1 18 "GrammarAmbiguity$Grammar" "start" "I").before args s = true := hts _ q_51
  have lf_21 : (Cond.fieldLink RX1 21 "GrammarAmbiguity$Grammar" "productions" "I").before args s = true := hts _ q_52
  rw [pX1_begin] at hf
  refine lv_aload_n hx hb dX1_begin_0 rfl (lv_at hl 0 rfl) ?_
  refine lv_iload_n hx hb dX1_begin_1 rfl (lv_at hl 1 rfl) ?_
  refine x_put (k := 1) (S' := uI S 1 p0) (ty := .int) hx hb hts i_X1 tyX1_ok nmX1 hown hK hw (by decide) rfl rfl 0 (by decide) lf_9 (fun _ h9 => h9) rfl (by decide +kernel) rfl rfl (Nat.le_of_ble_eq_true rfl) dX1_begin_2 (uX_I1 X S _) (fun H locs hw => ?_)
  obtain ⟨S_1, eS_1⟩ : ∃ z : gS, z = uI S 1 p0 := ⟨_, rfl⟩
  rw [← eS_1] at hw
  replace hf := hf S_1 eS_1
  refine lv_aload_n hx hb dX1_begin_5 rfl (lv_at hl 0 rfl) ?_
  refine lv_iload_n hx hb dX1_begin_6 rfl (lv_at hl 2 rfl) ?_
  refine x_put (k := 1) (S' := uI S_1 2 p1) (ty := .int) hx hb hts i_X1 tyX1_ok nmX1 hown hK hw (by decide) rfl rfl 1 (by decide) lf_15 (fun _ h9 => h9) rfl (by decide +kernel) rfl rfl (Nat.le_of_ble_eq_true rfl) dX1_begin_7 (uX_I2 X S_1 _) (fun H locs hw => ?_)
  obtain ⟨S_2, eS_2⟩ : ∃ z : gS, z = uI S_1 2 p1 := ⟨_, rfl⟩
  rw [← eS_2] at hw
  replace hf := hf S_2 eS_2
  refine lv_aload_n hx hb dX1_begin_10 rfl (lv_at hl 0 rfl) ?_
  refine lv_iconst (v := 0) hx hb dX1_begin_11 (by decide) ?_
  refine x_put (k := 1) (S' := uI S_2 3 0) (ty := .int) hx hb hts i_X1 tyX1_ok nmX1 hown hK hw (by decide) rfl rfl 2 (by decide) lf_18 (fun _ h9 => h9) rfl (by decide +kernel) rfl rfl (Nat.le_of_ble_eq_true rfl) dX1_begin_12 (uX_I3 X S_2 _) (fun H locs hw => ?_)
  obtain ⟨S_3, eS_3⟩ : ∃ z : gS, z = uI S_2 3 0 := ⟨_, rfl⟩
  rw [← eS_3] at hw
  replace hf := hf S_3 eS_3
  refine lv_aload_n hx hb dX1_begin_15 rfl (lv_at hl 0 rfl) ?_
  refine lv_iconst (v := 0) hx hb dX1_begin_16 (by decide) ?_
  refine x_put (k := 1) (S' := uI S_3 4 0) (ty := .int) hx hb hts i_X1 tyX1_ok nmX1 hown hK hw (by decide) rfl rfl 3 (by decide) lf_21 (fun _ h9 => h9) rfl (by decide +kernel) rfl rfl (Nat.le_of_ble_eq_true rfl) dX1_begin_17 (uX_I4 X S_3 _) (fun H locs hw => ?_)
  obtain ⟨S_4, eS_4⟩ : ∃ z : gS, z = uI S_3 4 0 := ⟨_, rfl⟩
  rw [← eS_4] at hw
  replace hf := hf S_4 eS_4
  exact hQ _ _ _ _ _ hf hw dX1_begin_20
def pX1_add (p0 : Int32) (p1 : Int32) (p2 : Int32) (p3 : Int32) (S : gS) (Post : gS → Prop) : Prop :=
  (((gI S 4) < 0 → Post S) ∧ (¬ (gI S 4) < 0 → (((gI S 4) < 24 → (∀ x5_3 : Int32, x5_3 = ((gI S 4) * 4) → (vp_in x5_3 96 ∧ (∀ S_4 : gS, S_4 = uA S 10 x5_3.toNatClampNeg p0 → (vp_in (x5_3 + 1) 96 ∧ (∀ S_5 : gS, S_5 = uA S_4 10 (x5_3 + 1).toNatClampNeg p1 → (vp_in (x5_3 + 2) 96 ∧ (∀ S_6 : gS, S_6 = uA S_5 10 (x5_3 + 2).toNatClampNeg p2 → (vp_in (x5_3 + 3) 96 ∧ (∀ S_7 : gS, S_7 = uA S_6 10 (x5_3 + 3).toNatClampNeg p3 → (∀ S_8 : gS, S_8 = uI S_7 4 ((gI S_7 4) + 1) → Post S_8))))))))))) ∧ (¬ (gI S 4) < 24 → Post S))))
def rX1_add : Room := { frames := 0, cells := 0, slots := 0, locals := 0 }
set_option maxHeartbeats 40000000 in
set_option maxRecDepth 100000 in
theorem kX1_add (l : Launch) (X : xG) (S : gS) (sz : Nat) (p0 : Int32) (p1 : Int32) (p2 : Int32) (p3 : Int32) (Post : gS → Prop) (hf : pX1_add p0 p1 p2 p3 S Post) : xMv l yX1_add (Cond.code yX1_add cX1_add 6 none :: WS) rX1_add 34 X (cX X) (eX X) S sz [.ref (xa X 1), .int p0, .int p1, .int p2, .int p3] Post := by
  refine xMv.of (cc := cX1_add) (maxL := 6) (own := RX1) (by decide) rfl rfl (Nat.le_of_ble_eq_true rfl) ?_
  intro p e s m args below meth c ls Q hC hQ hw hl
  obtain ⟨hx, hb, hml, hown, hts, hE, hi⟩ := id hC
  have hK := hE.1
  have hl : lv_has ls 6 [(0, .ref (xa X 1)), (1, .int p0), (2, .int p1), (3, .int p2), (4, .int p3)] := hl
  have lf_21 : (Cond.fieldLink RX1 21 "GrammarAmbiguity$Grammar" "productions" "I").before args s = true := hts _ q_52
  have lf_24 : (Cond.fieldLink RX1 24 "GrammarAmbiguity$Grammar" "symbols" "[I").before args s = true := hts _ q_54
  rw [pX1_add] at hf
  refine lv_aload_n hx hb dX1_add_0 rfl (lv_at hl 0 rfl) ?_
  refine x_get (k := 1) (v := .int (gI S 4)) hx hb hts i_X1 hown hK hw (by decide) rfl rfl 3 (by decide) lf_21 (fun _ h9 => h9) rfl dX1_add_1 ?_
  refine lv_if_lt (tgt := 16) hx hb dX1_add_4 (by decide) (fun c_1 => ?_) (fun c_1 => ?_)
  · replace hf := hf.1 c_1
    exact hQ _ _ _ _ _ hf hw dX1_add_16
  · replace hf := hf.2 c_1
    refine lv_aload_n hx hb dX1_add_7 rfl (lv_at hl 0 rfl) ?_
    refine x_get (k := 1) (v := .int (gI S 4)) hx hb hts i_X1 hown hK hw (by decide) rfl rfl 3 (by decide) lf_21 (fun _ h9 => h9) rfl dX1_add_8 ?_
    refine lv_bipush (v := 24) hx hb dX1_add_11 (by decide) ?_
    refine lv_icmp_lt (tgt := 17) hx hb dX1_add_13 (by decide) (fun c_2 => ?_) (fun c_2 => ?_)
    · replace hf := hf.1 c_2
      refine lv_aload_n hx hb dX1_add_17 rfl (lv_at hl 0 rfl) ?_
      refine x_get (k := 1) (v := .int (gI S 4)) hx hb hts i_X1 hown hK hw (by decide) rfl rfl 3 (by decide) lf_21 (fun _ h9 => h9) rfl dX1_add_18 ?_
      refine lv_iconst (v := 4) hx hb dX1_add_21 (by decide) ?_
      refine lv_imul hx hb dX1_add_22 ?_
      refine lv_topi (fun x5_3 ex5_3 => ?_)
      replace hf := hf x5_3 ex5_3
      refine lv_istore (lv' := [(5, .int x5_3), (0, .ref (xa X 1)), (1, .int p0), (2, .int p1), (3, .int p2), (4, .int p3)]) hx hb dX1_add_23 hl (by decide) rfl (fun ls hl => ?_)
      refine lv_aload_n hx hb dX1_add_25 rfl (lv_at hl 1 rfl) ?_
      refine x_get (k := 1) (v := .ref (xa X 10)) hx hb hts i_X1 hown hK hw (by decide) rfl rfl 4 (by decide) lf_24 (fun _ h9 => h9) rfl dX1_add_26 ?_
      refine lv_iload hx hb dX1_add_29 (lv_at hl 0 rfl) ?_
      refine lv_iload_n hx hb dX1_add_31 rfl (lv_at hl 2 rfl) ?_
      refine x_ist (n := 96) hx hb hK hw (by decide) rfl rfl hf.1 dX1_add_32 (uX_A10 X S _ _) (fun H locs hw => ?_)
      replace hf := hf.2
      obtain ⟨S_4, eS_4⟩ : ∃ z : gS, z = uA S 10 x5_3.toNatClampNeg p0 := ⟨_, rfl⟩
      rw [← eS_4] at hw
      replace hf := hf S_4 eS_4
      refine lv_aload_n hx hb dX1_add_33 rfl (lv_at hl 1 rfl) ?_
      refine x_get (k := 1) (v := .ref (xa X 10)) hx hb hts i_X1 hown hK hw (by decide) rfl rfl 4 (by decide) lf_24 (fun _ h9 => h9) rfl dX1_add_34 ?_
      refine lv_iload hx hb dX1_add_37 (lv_at hl 0 rfl) ?_
      refine lv_iconst (v := 1) hx hb dX1_add_39 (by decide) ?_
      refine lv_iadd hx hb dX1_add_40 ?_
      refine lv_iload_n hx hb dX1_add_41 rfl (lv_at hl 3 rfl) ?_
      refine x_ist (n := 96) hx hb hK hw (by decide) rfl rfl hf.1 dX1_add_42 (uX_A10 X S_4 _ _) (fun H locs hw => ?_)
      replace hf := hf.2
      obtain ⟨S_5, eS_5⟩ : ∃ z : gS, z = uA S_4 10 (x5_3 + 1).toNatClampNeg p1 := ⟨_, rfl⟩
      rw [← eS_5] at hw
      replace hf := hf S_5 eS_5
      refine lv_aload_n hx hb dX1_add_43 rfl (lv_at hl 1 rfl) ?_
      refine x_get (k := 1) (v := .ref (xa X 10)) hx hb hts i_X1 hown hK hw (by decide) rfl rfl 4 (by decide) lf_24 (fun _ h9 => h9) rfl dX1_add_44 ?_
      refine lv_iload hx hb dX1_add_47 (lv_at hl 0 rfl) ?_
      refine lv_iconst (v := 2) hx hb dX1_add_49 (by decide) ?_
      refine lv_iadd hx hb dX1_add_50 ?_
      refine lv_iload_n hx hb dX1_add_51 rfl (lv_at hl 4 rfl) ?_
      refine x_ist (n := 96) hx hb hK hw (by decide) rfl rfl hf.1 dX1_add_52 (uX_A10 X S_5 _ _) (fun H locs hw => ?_)
      replace hf := hf.2
      obtain ⟨S_6, eS_6⟩ : ∃ z : gS, z = uA S_5 10 (x5_3 + 2).toNatClampNeg p2 := ⟨_, rfl⟩
      rw [← eS_6] at hw
      replace hf := hf S_6 eS_6
      refine lv_aload_n hx hb dX1_add_53 rfl (lv_at hl 1 rfl) ?_
      refine x_get (k := 1) (v := .ref (xa X 10)) hx hb hts i_X1 hown hK hw (by decide) rfl rfl 4 (by decide) lf_24 (fun _ h9 => h9) rfl dX1_add_54 ?_
      refine lv_iload hx hb dX1_add_57 (lv_at hl 0 rfl) ?_
      refine lv_iconst (v := 3) hx hb dX1_add_59 (by decide) ?_
      refine lv_iadd hx hb dX1_add_60 ?_
      refine lv_iload hx hb dX1_add_61 (lv_at hl 5 rfl) ?_
      refine x_ist (n := 96) hx hb hK hw (by decide) rfl rfl hf.1 dX1_add_63 (uX_A10 X S_6 _ _) (fun H locs hw => ?_)
      replace hf := hf.2
      obtain ⟨S_7, eS_7⟩ : ∃ z : gS, z = uA S_6 10 (x5_3 + 3).toNatClampNeg p3 := ⟨_, rfl⟩
      rw [← eS_7] at hw
      replace hf := hf S_7 eS_7
      refine lv_aload_n hx hb dX1_add_64 rfl (lv_at hl 1 rfl) ?_
      refine lv_dup hx hb dX1_add_65 rfl ?_
      refine x_get (k := 1) (v := .int (gI S_7 4)) hx hb hts i_X1 hown hK hw (by decide) rfl rfl 3 (by decide) lf_21 (fun _ h9 => h9) rfl dX1_add_66 ?_
      refine lv_iconst (v := 1) hx hb dX1_add_69 (by decide) ?_
      refine lv_iadd hx hb dX1_add_70 ?_
      refine x_put (k := 1) (S' := uI S_7 4 ((gI S_7 4) + 1)) (ty := .int) hx hb hts i_X1 tyX1_ok nmX1 hown hK hw (by decide) rfl rfl 3 (by decide) lf_21 (fun _ h9 => h9) rfl (by decide +kernel) rfl rfl (Nat.le_of_ble_eq_true rfl) dX1_add_71 (uX_I4 X S_7 _) (fun H locs hw => ?_)
      obtain ⟨S_8, eS_8⟩ : ∃ z : gS, z = uI S_7 4 ((gI S_7 4) + 1) := ⟨_, rfl⟩
      rw [← eS_8] at hw
      replace hf := hf S_8 eS_8
      exact hQ _ _ _ _ _ hf hw dX1_add_74
    · replace hf := hf.2 c_2
      exact hQ _ _ _ _ _ hf hw dX1_add_16
def bX1_remove_28 (Post : gS → Prop) (L_28 : Int32 × gS → Prop) (x3_5 : Int32) (S_6 : gS) : Prop :=
  (((((gI S_6 4) - 1) * 4) ≤ x3_5 → (∀ S_8 : gS, S_8 = uI S_6 4 ((gI S_6 4) - 1) → Post S_8)) ∧ (¬ (((gI S_6 4) - 1) * 4) ≤ x3_5 → (vp_in (x3_5 + 4) 96 ∧ (vp_in x3_5 96 ∧ (∀ S_9 : gS, S_9 = uA S_6 10 x3_5.toNatClampNeg (gA S_6 10 (x3_5 + 4).toNatClampNeg) → (∀ x3_10 : Int32, x3_10 = x3_5 + 1 → L_28 (x3_10, S_9)))))))
def pX1_remove (p0 : Int32) (S : gS) (Post : gS → Prop) : Prop :=
  ((p0 < 0 → Post S) ∧ (¬ p0 < 0 → (((gI S 4) ≤ p0 → Post S) ∧ (¬ (gI S 4) ≤ p0 → (((gI S 4) ≤ 24 → (∀ x3_4 : Int32, x3_4 = (p0 * 4) → ∃ n, lp (fun L x => bX1_remove_28 Post L x.1 x.2) n (x3_4, S))) ∧ (¬ (gI S 4) ≤ 24 → Post S))))))
def rX1_remove : Room := { frames := 0, cells := 0, slots := 0, locals := 0 }
set_option maxHeartbeats 40000000 in
set_option maxRecDepth 100000 in
theorem kX1_remove (l : Launch) (X : xG) (S : gS) (sz : Nat) (p0 : Int32) (Post : gS → Prop) (hf : pX1_remove p0 S Post) : xMv l yX1_remove (Cond.code yX1_remove cX1_remove 4 none :: WS) rX1_remove 34 X (cX X) (eX X) S sz [.ref (xa X 1), .int p0] Post := by
  refine xMv.of (cc := cX1_remove) (maxL := 4) (own := RX1) (by decide) rfl rfl (Nat.le_of_ble_eq_true rfl) ?_
  intro p e s m args below meth c ls Q hC hQ hw hl
  obtain ⟨hx, hb, hml, hown, hts, hE, hi⟩ := id hC
  have hK := hE.1
  have hl : lv_has ls 4 [(0, .ref (xa X 1)), (1, .int p0)] := hl
  have lf_21 : (Cond.fieldLink RX1 21 "GrammarAmbiguity$Grammar" "productions" "I").before args s = true := hts _ q_52
  have lf_24 : (Cond.fieldLink RX1 24 "GrammarAmbiguity$Grammar" "symbols" "[I").before args s = true := hts _ q_54
  rw [pX1_remove] at hf
  refine lv_iload_n hx hb dX1_remove_0 rfl (lv_at hl 1 rfl) ?_
  refine lv_if_lt (tgt := 21) hx hb dX1_remove_1 (by decide) (fun c_1 => ?_) (fun c_1 => ?_)
  · replace hf := hf.1 c_1
    exact hQ _ _ _ _ _ hf hw dX1_remove_21
  · replace hf := hf.2 c_1
    refine lv_iload_n hx hb dX1_remove_4 rfl (lv_at hl 1 rfl) ?_
    refine lv_aload_n hx hb dX1_remove_5 rfl (lv_at hl 0 rfl) ?_
    refine x_get (k := 1) (v := .int (gI S 4)) hx hb hts i_X1 hown hK hw (by decide) rfl rfl 3 (by decide) lf_21 (fun _ h9 => h9) rfl dX1_remove_6 ?_
    refine lv_icmp_ge (tgt := 21) hx hb dX1_remove_9 (by decide) (fun c_2 => ?_) (fun c_2 => ?_)
    · replace hf := hf.1 c_2
      exact hQ _ _ _ _ _ hf hw dX1_remove_21
    · replace hf := hf.2 c_2
      refine lv_aload_n hx hb dX1_remove_12 rfl (lv_at hl 0 rfl) ?_
      refine x_get (k := 1) (v := .int (gI S 4)) hx hb hts i_X1 hown hK hw (by decide) rfl rfl 3 (by decide) lf_21 (fun _ h9 => h9) rfl dX1_remove_13 ?_
      refine lv_bipush (v := 24) hx hb dX1_remove_16 (by decide) ?_
      refine lv_icmp_le (tgt := 22) hx hb dX1_remove_18 (by decide) (fun c_3 => ?_) (fun c_3 => ?_)
      · replace hf := hf.1 c_3
        refine lv_iconst (v := 4) hx hb dX1_remove_22 (by decide) ?_
        refine lv_istore_n (lv' := [(2, .int 4), (0, .ref (xa X 1)), (1, .int p0)]) hx hb dX1_remove_23 rfl hl (by decide) rfl (fun ls hl => ?_)
        refine lv_iload_n hx hb dX1_remove_24 rfl (lv_at hl 2 rfl) ?_
        refine lv_iload_n hx hb dX1_remove_25 rfl (lv_at hl 0 rfl) ?_
        refine lv_imul hx hb dX1_remove_26 ?_
        refine lv_topi (fun x3_4 ex3_4 => ?_)
        replace hf := hf x3_4 ex3_4
        refine lv_istore_n (lv' := [(3, .int x3_4), (2, .int 4), (0, .ref (xa X 1)), (1, .int p0)]) hx hb dX1_remove_27 rfl hl (by decide) rfl (fun ls hl => ?_)
        obtain ⟨n_28, hf⟩ := hf
        have w_28 : ∀ (n : Nat) (x3_5 : Int32) (S_6 : gS) (H : Heap) (locs : List Loc) (ls : Array Slot), lp (fun L x => bX1_remove_28 Post L x.1 x.2) n (x3_5, S_6) → xH 34 X (cX X) (xA 34 X s.heap.size) s.heap S_6 H locs → lv_has ls 4 [(0, .ref (xa X 1)), (2, .int 4), (3, .int x3_5)] → W p l e rX1_remove s m args below meth c H locs 0 0 Q (F0 m 28 ls []) := by
          intro n
          induction n with
          | zero => intro x3_5 S_6 H locs ls hf; exact hf.elim
          | succ n ih_28 =>
            intro x3_5 S_6 H locs ls hf hw hl
            replace hf : bX1_remove_28 Post (lp (fun L x => bX1_remove_28 Post L x.1 x.2) n) x3_5 S_6 := hf
            generalize lp (fun L x => bX1_remove_28 Post L x.1 x.2) n = L_28 at hf ih_28
            rw [bX1_remove_28] at hf
            refine lv_iload_n hx hb dX1_remove_28 rfl (lv_at hl 2 rfl) ?_
            refine lv_aload_n hx hb dX1_remove_29 rfl (lv_at hl 0 rfl) ?_
            refine x_get (k := 1) (v := .int (gI S_6 4)) hx hb hts i_X1 hown hK hw (by decide) rfl rfl 3 (by decide) lf_21 (fun _ h9 => h9) rfl dX1_remove_30 ?_
            refine lv_iconst (v := 1) hx hb dX1_remove_33 (by decide) ?_
            refine lv_isub hx hb dX1_remove_34 ?_
            refine lv_iload_n hx hb dX1_remove_35 rfl (lv_at hl 1 rfl) ?_
            refine lv_imul hx hb dX1_remove_36 ?_
            refine lv_icmp_ge (tgt := 60) hx hb dX1_remove_37 (by decide) (fun c_7 => ?_) (fun c_7 => ?_)
            · replace hf := hf.1 c_7
              refine lv_aload_n hx hb dX1_remove_60 rfl (lv_at hl 0 rfl) ?_
              refine lv_dup hx hb dX1_remove_61 rfl ?_
              refine x_get (k := 1) (v := .int (gI S_6 4)) hx hb hts i_X1 hown hK hw (by decide) rfl rfl 3 (by decide) lf_21 (fun _ h9 => h9) rfl dX1_remove_62 ?_
              refine lv_iconst (v := 1) hx hb dX1_remove_65 (by decide) ?_
              refine lv_isub hx hb dX1_remove_66 ?_
              refine x_put (k := 1) (S' := uI S_6 4 ((gI S_6 4) - 1)) (ty := .int) hx hb hts i_X1 tyX1_ok nmX1 hown hK hw (by decide) rfl rfl 3 (by decide) lf_21 (fun _ h9 => h9) rfl (by decide +kernel) rfl rfl (Nat.le_of_ble_eq_true rfl) dX1_remove_67 (uX_I4 X S_6 _) (fun H locs hw => ?_)
              obtain ⟨S_8, eS_8⟩ : ∃ z : gS, z = uI S_6 4 ((gI S_6 4) - 1) := ⟨_, rfl⟩
              rw [← eS_8] at hw
              replace hf := hf S_8 eS_8
              exact hQ _ _ _ _ _ hf hw dX1_remove_70
            · replace hf := hf.2 c_7
              refine lv_aload_n hx hb dX1_remove_40 rfl (lv_at hl 0 rfl) ?_
              refine x_get (k := 1) (v := .ref (xa X 10)) hx hb hts i_X1 hown hK hw (by decide) rfl rfl 4 (by decide) lf_24 (fun _ h9 => h9) rfl dX1_remove_41 ?_
              refine lv_iload_n hx hb dX1_remove_44 rfl (lv_at hl 2 rfl) ?_
              refine lv_aload_n hx hb dX1_remove_45 rfl (lv_at hl 0 rfl) ?_
              refine x_get (k := 1) (v := .ref (xa X 10)) hx hb hts i_X1 hown hK hw (by decide) rfl rfl 4 (by decide) lf_24 (fun _ h9 => h9) rfl dX1_remove_46 ?_
              refine lv_iload_n hx hb dX1_remove_49 rfl (lv_at hl 2 rfl) ?_
              refine lv_iload_n hx hb dX1_remove_50 rfl (lv_at hl 1 rfl) ?_
              refine lv_iadd hx hb dX1_remove_51 ?_
              refine x_ild (n := 96) hx hb hK hw (by decide) rfl rfl hf.1 dX1_remove_52 ?_
              replace hf := hf.2
              refine x_ist (n := 96) hx hb hK hw (by decide) rfl rfl hf.1 dX1_remove_53 (uX_A10 X S_6 _ _) (fun H locs hw => ?_)
              replace hf := hf.2
              obtain ⟨S_9, eS_9⟩ : ∃ z : gS, z = uA S_6 10 x3_5.toNatClampNeg (gA S_6 10 (x3_5 + 4).toNatClampNeg) := ⟨_, rfl⟩
              rw [← eS_9] at hw
              replace hf := hf S_9 eS_9
              obtain ⟨x3_10, ex3_10⟩ : ∃ y : Int32, y = x3_5 + 1 := ⟨_, rfl⟩
              replace hf := hf x3_10 ex3_10
              refine lv_iinc (v := x3_10) (lv' := [(3, .int x3_10), (0, .ref (xa X 1)), (2, .int 4)]) hx hb dX1_remove_54 hl (k := 2) rfl (by rw [ex3_10]; rfl) (by decide) rfl (fun ls hl => ?_)
              refine lv_goto (tgt := 28) hx hb dX1_remove_57 (by decide) ?_
              exact ih_28 x3_10 S_9 _ _ _ hf hw (lv_sub hl [1, 2, 0] rfl)
        exact w_28 n_28 x3_4 S _ _ _ hf hw (lv_sub hl [2, 1, 0] rfl)
      · replace hf := hf.2 c_3
        exact hQ _ _ _ _ _ hf hw dX1_remove_21
def pX1_shortestPart (p0 : Int32) (S : gS) (Post : Int32 → Prop) : Prop :=
  (pX1_isNonterminal p0 S (fun r_1 => ((r_1 = 0 → Post 1) ∧ (¬ r_1 = 0 → (vp_in p0 6 ∧ Post (gA S 11 p0.toNatClampNeg))))))
def rX1_shortestPart : Room := { frames := 1, cells := 0, slots := 0, locals := 21 }
set_option maxHeartbeats 40000000 in
set_option maxRecDepth 100000 in
theorem kX1_shortestPart (l : Launch) (X : xG) (S : gS) (sz : Nat) (p0 : Int32) (Post : Int32 → Prop) (hf : pX1_shortestPart p0 S Post) : xMi l yX1_shortestPart (Cond.code yX1_shortestPart cX1_shortestPart 2 (some .int) :: WS) rX1_shortestPart 34 X (cX X) (eX X) S sz [.ref (xa X 1), .int p0] (fun r S' => Post r ∧ S = S') := by
  refine xMi.of (cc := cX1_shortestPart) (maxL := 2) (own := RX1) (by decide) rfl rfl (Nat.le_of_ble_eq_true rfl) ?_
  intro p e s m args below meth c ls Q hC hQ hw hl
  obtain ⟨hx, hb, hml, hown, hts, hE, hi⟩ := id hC
  have hK := hE.1
  have hl : lv_has ls 2 [(0, .ref (xa X 1)), (1, .int p0)] := hl
  have lf_28 : (Cond.fieldLink RX1 28 "GrammarAmbiguity$Grammar" "shortest" "[I").before args s = true := hts _ q_55
  rw [pX1_shortestPart] at hf
  refine lv_aload_n hx hb dX1_shortestPart_0 rfl (lv_at hl 0 rfl) ?_
  refine lv_iload_n hx hb dX1_shortestPart_1 rfl (lv_at hl 1 rfl) ?_
  refine x_ci (x_rV (As := [.int p0]) (rest := []) (okX X) hC hw (kX1_isNonterminal l X S _ p0 _ hf) (cwV 1 hts (gV q_191 q_181 q_182 q_17 q_183) rfl rfl rfl (by decide +kernel) ⟨Nat.le_of_ble_eq_true rfl, Nat.le_of_ble_eq_true rfl⟩) (x_recv hK hw (k := 1) (by decide) rfl rfl) rfl hl.1 rfl (Nat.le_of_ble_eq_true rfl) dX1_shortestPart_2) hw hi (fun r_1 S_2 H locs hf hw => ?_)
  obtain ⟨hf, rfl⟩ := hf
  refine lv_if_eq (tgt := 17) hx hb dX1_shortestPart_5 (by decide) (fun c_3 => ?_) (fun c_3 => ?_)
  · replace hf := hf.1 c_3
    refine lv_iconst (v := 1) hx hb dX1_shortestPart_17 (by decide) ?_
    exact hQ _ _ _ _ _ _ rfl ⟨hf, rfl⟩ hw dX1_shortestPart_18
  · replace hf := hf.2 c_3
    refine lv_aload_n hx hb dX1_shortestPart_8 rfl (lv_at hl 0 rfl) ?_
    refine x_get (k := 1) (v := .ref (xa X 11)) hx hb hts i_X1 hown hK hw (by decide) rfl rfl 5 (by decide) lf_28 (fun _ h9 => h9) rfl dX1_shortestPart_9 ?_
    refine lv_iload_n hx hb dX1_shortestPart_12 rfl (lv_at hl 1 rfl) ?_
    refine x_ild (n := 6) hx hb hK hw (by decide) rfl rfl hf.1 dX1_shortestPart_13 ?_
    replace hf := hf.2
    refine lv_goto (tgt := 18) hx hb dX1_shortestPart_14 (by decide) ?_
    exact hQ _ _ _ _ _ _ rfl ⟨hf, rfl⟩ hw dX1_shortestPart_18
def pX1_shorten (p0 : Int32) (p1 : Int32) (S : gS) (Post : gS → Prop) : Prop :=
  (pX1_isNonterminal p0 S (fun r_1 => ((r_1 = 0 → Post S) ∧ (¬ r_1 = 0 → ((1 ≤ p1 → (vp_in p0 6 ∧ (((gA S 11 p0.toNatClampNeg) = 0 → (vp_in p0 6 ∧ (∀ S_6 : gS, S_6 = uA S 11 p0.toNatClampNeg p1 → Post S_6))) ∧ (¬ (gA S 11 p0.toNatClampNeg) = 0 → (vp_in p0 6 ∧ (((gA S 11 p0.toNatClampNeg) ≤ p1 → Post S) ∧ (¬ (gA S 11 p0.toNatClampNeg) ≤ p1 → (vp_in p0 6 ∧ (∀ S_8 : gS, S_8 = uA S 11 p0.toNatClampNeg p1 → Post S_8))))))))) ∧ (¬ 1 ≤ p1 → Post S))))))
def rX1_shorten : Room := { frames := 1, cells := 0, slots := 0, locals := 21 }
set_option maxHeartbeats 40000000 in
set_option maxRecDepth 100000 in
theorem kX1_shorten (l : Launch) (X : xG) (S : gS) (sz : Nat) (p0 : Int32) (p1 : Int32) (Post : gS → Prop) (hf : pX1_shorten p0 p1 S Post) : xMv l yX1_shorten (Cond.code yX1_shorten cX1_shorten 3 none :: WS) rX1_shorten 34 X (cX X) (eX X) S sz [.ref (xa X 1), .int p0, .int p1] Post := by
  refine xMv.of (cc := cX1_shorten) (maxL := 3) (own := RX1) (by decide) rfl rfl (Nat.le_of_ble_eq_true rfl) ?_
  intro p e s m args below meth c ls Q hC hQ hw hl
  obtain ⟨hx, hb, hml, hown, hts, hE, hi⟩ := id hC
  have hK := hE.1
  have hl : lv_has ls 3 [(0, .ref (xa X 1)), (1, .int p0), (2, .int p1)] := hl
  have lf_28 : (Cond.fieldLink RX1 28 "GrammarAmbiguity$Grammar" "shortest" "[I").before args s = true := hts _ q_55
  rw [pX1_shorten] at hf
  refine lv_aload_n hx hb dX1_shorten_0 rfl (lv_at hl 0 rfl) ?_
  refine lv_iload_n hx hb dX1_shorten_1 rfl (lv_at hl 1 rfl) ?_
  refine x_ci (x_rV (As := [.int p0]) (rest := []) (okX X) hC hw (kX1_isNonterminal l X S _ p0 _ hf) (cwV 1 hts (gV q_191 q_181 q_182 q_17 q_183) rfl rfl rfl (by decide +kernel) ⟨Nat.le_of_ble_eq_true rfl, Nat.le_of_ble_eq_true rfl⟩) (x_recv hK hw (k := 1) (by decide) rfl rfl) rfl hl.1 rfl (Nat.le_of_ble_eq_true rfl) dX1_shorten_2) hw hi (fun r_1 S_2 H locs hf hw => ?_)
  obtain ⟨hf, rfl⟩ := hf
  refine lv_if_eq (tgt := 13) hx hb dX1_shorten_5 (by decide) (fun c_3 => ?_) (fun c_3 => ?_)
  · replace hf := hf.1 c_3
    exact hQ _ _ _ _ _ hf hw dX1_shorten_13
  · replace hf := hf.2 c_3
    refine lv_iload_n hx hb dX1_shorten_8 rfl (lv_at hl 2 rfl) ?_
    refine lv_iconst (v := 1) hx hb dX1_shorten_9 (by decide) ?_
    refine lv_icmp_ge (tgt := 14) hx hb dX1_shorten_10 (by decide) (fun c_4 => ?_) (fun c_4 => ?_)
    · replace hf := hf.1 c_4
      refine lv_aload_n hx hb dX1_shorten_14 rfl (lv_at hl 0 rfl) ?_
      refine x_get (k := 1) (v := .ref (xa X 11)) hx hb hts i_X1 hown hK hw (by decide) rfl rfl 5 (by decide) lf_28 (fun _ h9 => h9) rfl dX1_shorten_15 ?_
      refine lv_iload_n hx hb dX1_shorten_18 rfl (lv_at hl 1 rfl) ?_
      refine x_ild (n := 6) hx hb hK hw (by decide) rfl rfl hf.1 dX1_shorten_19 ?_
      replace hf := hf.2
      refine lv_if_eq (tgt := 33) hx hb dX1_shorten_20 (by decide) (fun c_5 => ?_) (fun c_5 => ?_)
      · replace hf := hf.1 c_5
        refine lv_aload_n hx hb dX1_shorten_33 rfl (lv_at hl 0 rfl) ?_
        refine x_get (k := 1) (v := .ref (xa X 11)) hx hb hts i_X1 hown hK hw (by decide) rfl rfl 5 (by decide) lf_28 (fun _ h9 => h9) rfl dX1_shorten_34 ?_
        refine lv_iload_n hx hb dX1_shorten_37 rfl (lv_at hl 1 rfl) ?_
        refine lv_iload_n hx hb dX1_shorten_38 rfl (lv_at hl 2 rfl) ?_
        refine x_ist (n := 6) hx hb hK hw (by decide) rfl rfl hf.1 dX1_shorten_39 (uX_A11 X S _ _) (fun H locs hw => ?_)
        replace hf := hf.2
        obtain ⟨S_6, eS_6⟩ : ∃ z : gS, z = uA S 11 p0.toNatClampNeg p1 := ⟨_, rfl⟩
        rw [← eS_6] at hw
        replace hf := hf S_6 eS_6
        exact hQ _ _ _ _ _ hf hw dX1_shorten_40
      · replace hf := hf.2 c_5
        refine lv_iload_n hx hb dX1_shorten_23 rfl (lv_at hl 2 rfl) ?_
        refine lv_aload_n hx hb dX1_shorten_24 rfl (lv_at hl 0 rfl) ?_
        refine x_get (k := 1) (v := .ref (xa X 11)) hx hb hts i_X1 hown hK hw (by decide) rfl rfl 5 (by decide) lf_28 (fun _ h9 => h9) rfl dX1_shorten_25 ?_
        refine lv_iload_n hx hb dX1_shorten_28 rfl (lv_at hl 1 rfl) ?_
        refine x_ild (n := 6) hx hb hK hw (by decide) rfl rfl hf.1 dX1_shorten_29 ?_
        replace hf := hf.2
        refine lv_icmp_ge (tgt := 40) hx hb dX1_shorten_30 (by decide) (fun c_7 => ?_) (fun c_7 => ?_)
        · replace hf := hf.1 c_7
          exact hQ _ _ _ _ _ hf hw dX1_shorten_40
        · replace hf := hf.2 c_7
          refine lv_aload_n hx hb dX1_shorten_33 rfl (lv_at hl 0 rfl) ?_
          refine x_get (k := 1) (v := .ref (xa X 11)) hx hb hts i_X1 hown hK hw (by decide) rfl rfl 5 (by decide) lf_28 (fun _ h9 => h9) rfl dX1_shorten_34 ?_
          refine lv_iload_n hx hb dX1_shorten_37 rfl (lv_at hl 1 rfl) ?_
          refine lv_iload_n hx hb dX1_shorten_38 rfl (lv_at hl 2 rfl) ?_
          refine x_ist (n := 6) hx hb hK hw (by decide) rfl rfl hf.1 dX1_shorten_39 (uX_A11 X S _ _) (fun H locs hw => ?_)
          replace hf := hf.2
          obtain ⟨S_8, eS_8⟩ : ∃ z : gS, z = uA S 11 p0.toNatClampNeg p1 := ⟨_, rfl⟩
          rw [← eS_8] at hw
          replace hf := hf S_8 eS_8
          exact hQ _ _ _ _ _ hf hw dX1_shorten_40
    · replace hf := hf.2 c_4
      exact hQ _ _ _ _ _ hf hw dX1_shorten_13
def bX1_shortestOf_4 (p0 : Int32) (S : gS) (Post : Int32 → Prop) (L_4 : Int32 × Int32 → Prop) (x2_1 : Int32) (x3_2 : Int32) : Prop :=
  ((3 < x3_2 → Post x2_1) ∧ (¬ 3 < x3_2 → (pX1_symbol p0 x3_2 S (fun r_4 => ((r_4 = (-1) → (∀ x3_7 : Int32, x3_7 = x3_2 + 1 → L_4 (x2_1, x3_7))) ∧ (¬ r_4 = (-1) → (pX1_shortestPart r_4 S (fun r_8 => ((¬ r_8 = 0 → (∀ x2_11 : Int32, x2_11 = (x2_1 + r_8) → (∀ x3_12 : Int32, x3_12 = x3_2 + 1 → L_4 (x2_11, x3_12)))) ∧ (r_8 = 0 → Post 0))))))))))
def pX1_shortestOf (p0 : Int32) (S : gS) (Post : Int32 → Prop) : Prop :=
  ∃ n, lp (fun L x => bX1_shortestOf_4 p0 S Post L x.1 x.2) n (0, 1)
def rX1_shortestOf : Room := { frames := 2, cells := 0, slots := 0, locals := 42 }
set_option maxHeartbeats 40000000 in
set_option maxRecDepth 100000 in
theorem kX1_shortestOf (l : Launch) (X : xG) (S : gS) (sz : Nat) (p0 : Int32) (Post : Int32 → Prop) (hf : pX1_shortestOf p0 S Post) : xMi l yX1_shortestOf (Cond.code yX1_shortestOf cX1_shortestOf 6 (some .int) :: WS) rX1_shortestOf 34 X (cX X) (eX X) S sz [.ref (xa X 1), .int p0] (fun r S' => Post r ∧ S = S') := by
  refine xMi.of (cc := cX1_shortestOf) (maxL := 6) (own := RX1) (by decide) rfl rfl (Nat.le_of_ble_eq_true rfl) ?_
  intro p e s m args below meth c ls Q hC hQ hw hl
  obtain ⟨hx, hb, hml, hown, hts, hE, hi⟩ := id hC
  have hK := hE.1
  have hl : lv_has ls 6 [(0, .ref (xa X 1)), (1, .int p0)] := hl
  rw [pX1_shortestOf] at hf
  refine lv_iconst (v := 0) hx hb dX1_shortestOf_0 (by decide) ?_
  refine lv_istore_n (lv' := [(2, .int 0), (0, .ref (xa X 1)), (1, .int p0)]) hx hb dX1_shortestOf_1 rfl hl (by decide) rfl (fun ls hl => ?_)
  refine lv_iconst (v := 1) hx hb dX1_shortestOf_2 (by decide) ?_
  refine lv_istore_n (lv' := [(3, .int 1), (2, .int 0), (0, .ref (xa X 1)), (1, .int p0)]) hx hb dX1_shortestOf_3 rfl hl (by decide) rfl (fun ls hl => ?_)
  obtain ⟨n_4, hf⟩ := hf
  have w_4 : ∀ (n : Nat) (x2_1 : Int32) (x3_2 : Int32) (H : Heap) (locs : List Loc) (ls : Array Slot), lp (fun L x => bX1_shortestOf_4 p0 S Post L x.1 x.2) n (x2_1, x3_2) → xH 34 X (cX X) (xA 34 X s.heap.size) s.heap S H locs → lv_has ls 6 [(0, .ref (xa X 1)), (1, .int p0), (2, .int x2_1), (3, .int x3_2)] → W p l e rX1_shortestOf s m args below meth c H locs 0 0 Q (F0 m 4 ls []) := by
    intro n
    induction n with
    | zero => intro x2_1 x3_2 H locs ls hf; exact hf.elim
    | succ n ih_4 =>
      intro x2_1 x3_2 H locs ls hf hw hl
      replace hf : bX1_shortestOf_4 p0 S Post (lp (fun L x => bX1_shortestOf_4 p0 S Post L x.1 x.2) n) x2_1 x3_2 := hf
      generalize lp (fun L x => bX1_shortestOf_4 p0 S Post L x.1 x.2) n = L_4 at hf ih_4
      rw [bX1_shortestOf_4] at hf
      refine lv_iload_n hx hb dX1_shortestOf_4 rfl (lv_at hl 3 rfl) ?_
      refine lv_iconst (v := 3) hx hb dX1_shortestOf_5 (by decide) ?_
      refine lv_icmp_gt (tgt := 49) hx hb dX1_shortestOf_6 (by decide) (fun c_3 => ?_) (fun c_3 => ?_)
      · replace hf := hf.1 c_3
        refine lv_iload_n hx hb dX1_shortestOf_49 rfl (lv_at hl 2 rfl) ?_
        exact hQ _ _ _ _ _ _ rfl ⟨hf, rfl⟩ hw dX1_shortestOf_50
      · replace hf := hf.2 c_3
        refine lv_aload_n hx hb dX1_shortestOf_9 rfl (lv_at hl 0 rfl) ?_
        refine lv_iload_n hx hb dX1_shortestOf_10 rfl (lv_at hl 1 rfl) ?_
        refine lv_iload_n hx hb dX1_shortestOf_11 rfl (lv_at hl 3 rfl) ?_
        refine x_ci (x_rV (As := [.int p0, .int x3_2]) (rest := []) (okX X) hC hw (kX1_symbol l X S _ p0 x3_2 _ hf) (cwV 2 hts (gV q_199 q_200 q_201 q_17 q_202) rfl rfl rfl (by decide +kernel) ⟨Nat.le_of_ble_eq_true rfl, Nat.le_of_ble_eq_true rfl⟩) (x_recv hK hw (k := 1) (by decide) rfl rfl) rfl hl.1 rfl (Nat.le_of_ble_eq_true rfl) dX1_shortestOf_12) hw hi (fun r_4 S_5 H locs hf hw => ?_)
        obtain ⟨hf, rfl⟩ := hf
        refine lv_istore (lv' := [(4, .int r_4), (0, .ref (xa X 1)), (1, .int p0), (2, .int x2_1), (3, .int x3_2)]) hx hb dX1_shortestOf_15 hl (by decide) rfl (fun ls hl => ?_)
        refine lv_iload hx hb dX1_shortestOf_17 (lv_at hl 0 rfl) ?_
        refine lv_iconst (v := (-1)) hx hb dX1_shortestOf_19 (by decide) ?_
        refine lv_icmp_eq (tgt := 43) hx hb dX1_shortestOf_20 (by decide) (fun c_6 => ?_) (fun c_6 => ?_)
        · replace hf := hf.1 c_6
          obtain ⟨x3_7, ex3_7⟩ : ∃ y : Int32, y = x3_2 + 1 := ⟨_, rfl⟩
          replace hf := hf x3_7 ex3_7
          refine lv_iinc (v := x3_7) (lv' := [(3, .int x3_7), (4, .int r_4), (0, .ref (xa X 1)), (1, .int p0), (2, .int x2_1)]) hx hb dX1_shortestOf_43 hl (k := 4) rfl (by rw [ex3_7]; rfl) (by decide) rfl (fun ls hl => ?_)
          refine lv_goto (tgt := 4) hx hb dX1_shortestOf_46 (by decide) ?_
          exact ih_4 x2_1 x3_7 _ _ _ hf hw (lv_sub hl [2, 3, 4, 0] rfl)
        · replace hf := hf.2 c_6
          refine lv_aload_n hx hb dX1_shortestOf_23 rfl (lv_at hl 1 rfl) ?_
          refine lv_iload hx hb dX1_shortestOf_24 (lv_at hl 0 rfl) ?_
          refine x_ci (x_rV (As := [.int r_4]) (rest := []) (okX X) hC hw (kX1_shortestPart l X S _ r_4 _ hf) (cwV 1 hts (gV q_267 q_268 q_269 q_17 q_270) rfl rfl rfl (by decide +kernel) ⟨Nat.le_of_ble_eq_true rfl, Nat.le_of_ble_eq_true rfl⟩) (x_recv hK hw (k := 1) (by decide) rfl rfl) rfl hl.1 rfl (Nat.le_of_ble_eq_true rfl) dX1_shortestOf_26) hw hi (fun r_8 S_9 H locs hf hw => ?_)
          obtain ⟨hf, rfl⟩ := hf
          refine lv_istore (lv' := [(5, .int r_8), (4, .int r_4), (0, .ref (xa X 1)), (1, .int p0), (2, .int x2_1), (3, .int x3_2)]) hx hb dX1_shortestOf_29 hl (by decide) rfl (fun ls hl => ?_)
          refine lv_iload hx hb dX1_shortestOf_31 (lv_at hl 0 rfl) ?_
          refine lv_if_ne (tgt := 38) hx hb dX1_shortestOf_33 (by decide) (fun c_10 => ?_) (fun c_10 => ?_)
          · replace hf := hf.1 c_10
            refine lv_iload_n hx hb dX1_shortestOf_38 rfl (lv_at hl 4 rfl) ?_
            refine lv_iload hx hb dX1_shortestOf_39 (lv_at hl 0 rfl) ?_
            refine lv_iadd hx hb dX1_shortestOf_41 ?_
            refine lv_topi (fun x2_11 ex2_11 => ?_)
            replace hf := hf x2_11 ex2_11
            refine lv_istore_n (lv' := [(2, .int x2_11), (5, .int r_8), (4, .int r_4), (0, .ref (xa X 1)), (1, .int p0), (3, .int x3_2)]) hx hb dX1_shortestOf_42 rfl hl (by decide) rfl (fun ls hl => ?_)
            obtain ⟨x3_12, ex3_12⟩ : ∃ y : Int32, y = x3_2 + 1 := ⟨_, rfl⟩
            replace hf := hf x3_12 ex3_12
            refine lv_iinc (v := x3_12) (lv' := [(3, .int x3_12), (2, .int x2_11), (5, .int r_8), (4, .int r_4), (0, .ref (xa X 1)), (1, .int p0)]) hx hb dX1_shortestOf_43 hl (k := 5) rfl (by rw [ex3_12]; rfl) (by decide) rfl (fun ls hl => ?_)
            refine lv_goto (tgt := 4) hx hb dX1_shortestOf_46 (by decide) ?_
            exact ih_4 x2_11 x3_12 _ _ _ hf hw (lv_sub hl [4, 5, 1, 0] rfl)
          · replace hf := hf.2 c_10
            refine lv_iconst (v := 0) hx hb dX1_shortestOf_36 (by decide) ?_
            exact hQ _ _ _ _ _ _ rfl ⟨hf, rfl⟩ hw dX1_shortestOf_37
  exact w_4 n_4 0 1 _ _ _ hf hw (lv_sub hl [2, 3, 1, 0] rfl)
def bX1_measure_33 (x1_4 : Int32) (L_23 : Int32 × gS → Prop) (L_33 : Int32 × gS → Prop) (x2_7 : Int32) (S_8 : gS) : Prop :=
  (((gI S_8 4) ≤ x2_7 → (∀ x1_10 : Int32, x1_10 = x1_4 + 1 → L_23 (x1_10, S_8))) ∧ (¬ (gI S_8 4) ≤ x2_7 → (pX1_symbol x2_7 0 S_8 (fun r_11 => (pX1_shortestOf x2_7 S_8 (fun r_13 => (pX1_shorten r_11 r_13 S_8 (fun S_16 => (∀ x2_17 : Int32, x2_17 = x2_7 + 1 → L_33 (x2_17, S_16))))))))))
def bX1_measure_23 (Post : gS → Prop) (L_23 : Int32 × gS → Prop) (x1_4 : Int32) (S_5 : gS) : Prop :=
  (((gI S_5 1) ≤ x1_4 → Post S_5) ∧ (¬ (gI S_5 1) ≤ x1_4 → ∃ n, lp (fun L x => bX1_measure_33 x1_4 L_23 L x.1 x.2) n (0, S_5)))
def bX1_measure_2 (Post : gS → Prop) (L_2 : Int32 × gS → Prop) (x1_1 : Int32) (S_2 : gS) : Prop :=
  ((6 ≤ x1_1 → ∃ n, lp (fun L x => bX1_measure_23 Post L x.1 x.2) n (0, S_2)) ∧ (¬ 6 ≤ x1_1 → (vp_in x1_1 6 ∧ (∀ S_18 : gS, S_18 = uA S_2 11 x1_1.toNatClampNeg 0 → (∀ x1_19 : Int32, x1_19 = x1_1 + 1 → L_2 (x1_19, S_18))))))
def pX1_measure (S : gS) (Post : gS → Prop) : Prop :=
  ∃ n, lp (fun L x => bX1_measure_2 Post L x.1 x.2) n (0, S)
def rX1_measure : Room := { frames := 3, cells := 0, slots := 0, locals := 67 }
set_option maxHeartbeats 40000000 in
set_option maxRecDepth 100000 in
theorem kX1_measure (l : Launch) (X : xG) (S : gS) (sz : Nat) (Post : gS → Prop) (hf : pX1_measure S Post) : xMv l yX1_measure (Cond.code yX1_measure cX1_measure 3 none :: WS) rX1_measure 34 X (cX X) (eX X) S sz [.ref (xa X 1)] Post := by
  refine xMv.of (cc := cX1_measure) (maxL := 3) (own := RX1) (by decide) rfl rfl (Nat.le_of_ble_eq_true rfl) ?_
  intro p e s m args below meth c ls Q hC hQ hw hl
  obtain ⟨hx, hb, hml, hown, hts, hE, hi⟩ := id hC
  have hK := hE.1
  have hl : lv_has ls 3 [(0, .ref (xa X 1))] := hl
  have lf_9 : (Cond.fieldLink RX1 9 "GrammarAmbiguity$Grammar" "nonterminals" "I").before args s = true := hts _ q_49
  have lf_21 : (Cond.fieldLink RX1 21 "GrammarAmbiguity$Grammar" "productions" "I").before args s = true := hts _ q_52
  have lf_28 : (Cond.fieldLink RX1 28 "GrammarAmbiguity$Grammar" "shortest" "[I").before args s = true := hts _ q_55
  rw [pX1_measure] at hf
  refine lv_iconst (v := 0) hx hb dX1_measure_0 (by decide) ?_
  refine lv_istore_n (lv' := [(1, .int 0), (0, .ref (xa X 1))]) hx hb dX1_measure_1 rfl hl (by decide) rfl (fun ls hl => ?_)
  obtain ⟨n_2, hf⟩ := hf
  have w_2 : ∀ (n : Nat) (x1_1 : Int32) (S_2 : gS) (H : Heap) (locs : List Loc) (ls : Array Slot), lp (fun L x => bX1_measure_2 Post L x.1 x.2) n (x1_1, S_2) → xH 34 X (cX X) (xA 34 X s.heap.size) s.heap S_2 H locs → lv_has ls 3 [(0, .ref (xa X 1)), (1, .int x1_1)] → W p l e rX1_measure s m args below meth c H locs 0 0 Q (F0 m 2 ls []) := by
    intro n
    induction n with
    | zero => intro x1_1 S_2 H locs ls hf; exact hf.elim
    | succ n ih_2 =>
      intro x1_1 S_2 H locs ls hf hw hl
      replace hf : bX1_measure_2 Post (lp (fun L x => bX1_measure_2 Post L x.1 x.2) n) x1_1 S_2 := hf
      generalize lp (fun L x => bX1_measure_2 Post L x.1 x.2) n = L_2 at hf ih_2
      rw [bX1_measure_2] at hf
      refine lv_iload_n hx hb dX1_measure_2 rfl (lv_at hl 1 rfl) ?_
      refine lv_bipush (v := 6) hx hb dX1_measure_3 (by decide) ?_
      refine lv_icmp_ge (tgt := 21) hx hb dX1_measure_5 (by decide) (fun c_3 => ?_) (fun c_3 => ?_)
      · replace hf := hf.1 c_3
        refine lv_iconst (v := 0) hx hb dX1_measure_21 (by decide) ?_
        refine lv_istore_n (lv' := [(1, .int 0), (0, .ref (xa X 1))]) hx hb dX1_measure_22 rfl hl (by decide) rfl (fun ls hl => ?_)
        obtain ⟨n_23, hf⟩ := hf
        have w_23 : ∀ (n : Nat) (x1_4 : Int32) (S_5 : gS) (H : Heap) (locs : List Loc) (ls : Array Slot), lp (fun L x => bX1_measure_23 Post L x.1 x.2) n (x1_4, S_5) → xH 34 X (cX X) (xA 34 X s.heap.size) s.heap S_5 H locs → lv_has ls 3 [(0, .ref (xa X 1)), (1, .int x1_4)] → W p l e rX1_measure s m args below meth c H locs 0 0 Q (F0 m 23 ls []) := by
          intro n
          induction n with
          | zero => intro x1_4 S_5 H locs ls hf; exact hf.elim
          | succ n ih_23 =>
            intro x1_4 S_5 H locs ls hf hw hl
            replace hf : bX1_measure_23 Post (lp (fun L x => bX1_measure_23 Post L x.1 x.2) n) x1_4 S_5 := hf
            generalize lp (fun L x => bX1_measure_23 Post L x.1 x.2) n = L_23 at hf ih_23
            rw [bX1_measure_23] at hf
            refine lv_iload_n hx hb dX1_measure_23 rfl (lv_at hl 1 rfl) ?_
            refine lv_aload_n hx hb dX1_measure_24 rfl (lv_at hl 0 rfl) ?_
            refine x_get (k := 1) (v := .int (gI S_5 1)) hx hb hts i_X1 hown hK hw (by decide) rfl rfl 0 (by decide) lf_9 (fun _ h9 => h9) rfl dX1_measure_25 ?_
            refine lv_icmp_ge (tgt := 68) hx hb dX1_measure_28 (by decide) (fun c_6 => ?_) (fun c_6 => ?_)
            · replace hf := hf.1 c_6
              exact hQ _ _ _ _ _ hf hw dX1_measure_68
            · replace hf := hf.2 c_6
              refine lv_iconst (v := 0) hx hb dX1_measure_31 (by decide) ?_
              refine lv_istore_n (lv' := [(2, .int 0), (0, .ref (xa X 1)), (1, .int x1_4)]) hx hb dX1_measure_32 rfl hl (by decide) rfl (fun ls hl => ?_)
              obtain ⟨n_33, hf⟩ := hf
              have w_33 : ∀ (n : Nat) (x2_7 : Int32) (S_8 : gS) (H : Heap) (locs : List Loc) (ls : Array Slot), lp (fun L x => bX1_measure_33 x1_4 L_23 L x.1 x.2) n (x2_7, S_8) → xH 34 X (cX X) (xA 34 X s.heap.size) s.heap S_8 H locs → lv_has ls 3 [(0, .ref (xa X 1)), (1, .int x1_4), (2, .int x2_7)] → W p l e rX1_measure s m args below meth c H locs 0 0 Q (F0 m 33 ls []) := by
                intro n
                induction n with
                | zero => intro x2_7 S_8 H locs ls hf; exact hf.elim
                | succ n ih_33 =>
                  intro x2_7 S_8 H locs ls hf hw hl
                  replace hf : bX1_measure_33 x1_4 L_23 (lp (fun L x => bX1_measure_33 x1_4 L_23 L x.1 x.2) n) x2_7 S_8 := hf
                  generalize lp (fun L x => bX1_measure_33 x1_4 L_23 L x.1 x.2) n = L_33 at hf ih_33
                  rw [bX1_measure_33] at hf
                  refine lv_iload_n hx hb dX1_measure_33 rfl (lv_at hl 2 rfl) ?_
                  refine lv_aload_n hx hb dX1_measure_34 rfl (lv_at hl 0 rfl) ?_
                  refine x_get (k := 1) (v := .int (gI S_8 4)) hx hb hts i_X1 hown hK hw (by decide) rfl rfl 3 (by decide) lf_21 (fun _ h9 => h9) rfl dX1_measure_35 ?_
                  refine lv_icmp_ge (tgt := 62) hx hb dX1_measure_38 (by decide) (fun c_9 => ?_) (fun c_9 => ?_)
                  · replace hf := hf.1 c_9
                    obtain ⟨x1_10, ex1_10⟩ : ∃ y : Int32, y = x1_4 + 1 := ⟨_, rfl⟩
                    replace hf := hf x1_10 ex1_10
                    refine lv_iinc (v := x1_10) (lv' := [(1, .int x1_10), (0, .ref (xa X 1)), (2, .int x2_7)]) hx hb dX1_measure_62 hl (k := 1) rfl (by rw [ex1_10]; rfl) (by decide) rfl (fun ls hl => ?_)
                    refine lv_goto (tgt := 23) hx hb dX1_measure_65 (by decide) ?_
                    exact ih_23 x1_10 S_8 _ _ _ hf hw (lv_sub hl [1, 0] rfl)
                  · replace hf := hf.2 c_9
                    refine lv_aload_n hx hb dX1_measure_41 rfl (lv_at hl 0 rfl) ?_
                    refine lv_aload_n hx hb dX1_measure_42 rfl (lv_at hl 0 rfl) ?_
                    refine lv_iload_n hx hb dX1_measure_43 rfl (lv_at hl 2 rfl) ?_
                    refine lv_iconst (v := 0) hx hb dX1_measure_44 (by decide) ?_
                    refine x_ci (x_rV (As := [.int x2_7, .int 0]) (rest := [.ref (xa X 1)]) (okX X) hC hw (kX1_symbol l X S_8 _ x2_7 0 _ hf) (cwV 2 hts (gV q_199 q_200 q_201 q_17 q_202) rfl rfl rfl (by decide +kernel) ⟨Nat.le_of_ble_eq_true rfl, Nat.le_of_ble_eq_true rfl⟩) (x_recv hK hw (k := 1) (by decide) rfl rfl) rfl hl.1 rfl (Nat.le_of_ble_eq_true rfl) dX1_measure_45) hw hi (fun r_11 S_12 H locs hf hw => ?_)
                    obtain ⟨hf, rfl⟩ := hf
                    refine lv_aload_n hx hb dX1_measure_48 rfl (lv_at hl 0 rfl) ?_
                    refine lv_iload_n hx hb dX1_measure_49 rfl (lv_at hl 2 rfl) ?_
                    refine x_ci (x_rV (As := [.int x2_7]) (rest := [.int r_11, .ref (xa X 1)]) (okX X) hC hw (kX1_shortestOf l X S_8 _ x2_7 _ hf) (cwV 1 hts (gV q_263 q_264 q_265 q_17 q_266) rfl rfl rfl (by decide +kernel) ⟨Nat.le_of_ble_eq_true rfl, Nat.le_of_ble_eq_true rfl⟩) (x_recv hK hw (k := 1) (by decide) rfl rfl) rfl hl.1 rfl (Nat.le_of_ble_eq_true rfl) dX1_measure_50) hw hi (fun r_13 S_14 H locs hf hw => ?_)
                    obtain ⟨hf, rfl⟩ := hf
                    refine x_cv (x_rV (As := [.int r_11, .int r_13]) (rest := []) (okX X) hC hw (kX1_shorten l X S_8 _ r_11 r_13 _ hf) (cwV 2 hts (gV q_271 q_272 q_273 q_17 q_274) rfl rfl rfl (by decide +kernel) ⟨Nat.le_of_ble_eq_true rfl, Nat.le_of_ble_eq_true rfl⟩) (x_recv hK hw (k := 1) (by decide) rfl rfl) rfl hl.1 rfl (Nat.le_of_ble_eq_true rfl) dX1_measure_53) hw hi (fun S_16 H locs hf hw => ?_)
                    obtain ⟨x2_17, ex2_17⟩ : ∃ y : Int32, y = x2_7 + 1 := ⟨_, rfl⟩
                    replace hf := hf x2_17 ex2_17
                    refine lv_iinc (v := x2_17) (lv' := [(2, .int x2_17), (0, .ref (xa X 1)), (1, .int x1_4)]) hx hb dX1_measure_56 hl (k := 2) rfl (by rw [ex2_17]; rfl) (by decide) rfl (fun ls hl => ?_)
                    refine lv_goto (tgt := 33) hx hb dX1_measure_59 (by decide) ?_
                    exact ih_33 x2_17 S_16 _ _ _ hf hw (lv_sub hl [1, 2, 0] rfl)
              exact w_33 n_33 0 S_5 _ _ _ hf hw (lv_sub hl [1, 2, 0] rfl)
        exact w_23 n_23 0 S_2 _ _ _ hf hw (lv_sub hl [1, 0] rfl)
      · replace hf := hf.2 c_3
        refine lv_aload_n hx hb dX1_measure_8 rfl (lv_at hl 0 rfl) ?_
        refine x_get (k := 1) (v := .ref (xa X 11)) hx hb hts i_X1 hown hK hw (by decide) rfl rfl 5 (by decide) lf_28 (fun _ h9 => h9) rfl dX1_measure_9 ?_
        refine lv_iload_n hx hb dX1_measure_12 rfl (lv_at hl 1 rfl) ?_
        refine lv_iconst (v := 0) hx hb dX1_measure_13 (by decide) ?_
        refine x_ist (n := 6) hx hb hK hw (by decide) rfl rfl hf.1 dX1_measure_14 (uX_A11 X S_2 _ _) (fun H locs hw => ?_)
        replace hf := hf.2
        obtain ⟨S_18, eS_18⟩ : ∃ z : gS, z = uA S_2 11 x1_1.toNatClampNeg 0 := ⟨_, rfl⟩
        rw [← eS_18] at hw
        replace hf := hf S_18 eS_18
        obtain ⟨x1_19, ex1_19⟩ : ∃ y : Int32, y = x1_1 + 1 := ⟨_, rfl⟩
        replace hf := hf x1_19 ex1_19
        refine lv_iinc (v := x1_19) (lv' := [(1, .int x1_19), (0, .ref (xa X 1))]) hx hb dX1_measure_15 hl (k := 1) rfl (by rw [ex1_19]; rfl) (by decide) rfl (fun ls hl => ?_)
        refine lv_goto (tgt := 2) hx hb dX1_measure_18 (by decide) ?_
        exact ih_2 x1_19 S_18 _ _ _ hf hw (lv_sub hl [1, 0] rfl)
  exact w_2 n_2 0 S _ _ _ hf hw (lv_sub hl [1, 0] rfl)
def pX1_isUsed (p0 : Int32) (S : gS) (Post : Int32 → Prop) : Prop :=
  (pX1_symbol p0 0 S (fun r_1 => (pX1_isNonterminal r_1 S (fun r_3 => ((r_3 = 0 → Post 0) ∧ (¬ r_3 = 0 → (vp_in r_1 6 ∧ (((gA S 12 r_1.toNatClampNeg) = 0 → Post 0) ∧ (¬ (gA S 12 r_1.toNatClampNeg) = 0 → (pX1_shortestOf p0 S (fun r_7 => ((r_7 ≤ 0 → Post 0) ∧ (¬ r_7 ≤ 0 → Post 1)))))))))))))
def rX1_isUsed : Room := { frames := 3, cells := 0, slots := 0, locals := 67 }
set_option maxHeartbeats 40000000 in
set_option maxRecDepth 100000 in
theorem kX1_isUsed (l : Launch) (X : xG) (S : gS) (sz : Nat) (p0 : Int32) (Post : Int32 → Prop) (hf : pX1_isUsed p0 S Post) : xMi l yX1_isUsed (Cond.code yX1_isUsed cX1_isUsed 3 (some .boolean) :: WS) rX1_isUsed 34 X (cX X) (eX X) S sz [.ref (xa X 1), .int p0] (fun r S' => Post r ∧ S = S') := by
  refine xMi.of (cc := cX1_isUsed) (maxL := 3) (own := RX1) (by decide) rfl rfl (Nat.le_of_ble_eq_true rfl) ?_
  intro p e s m args below meth c ls Q hC hQ hw hl
  obtain ⟨hx, hb, hml, hown, hts, hE, hi⟩ := id hC
  have hK := hE.1
  have hl : lv_has ls 3 [(0, .ref (xa X 1)), (1, .int p0)] := hl
  have lf_31 : (Cond.fieldLink RX1 31 "GrammarAmbiguity$Grammar" "reached" "[Z").before args s = true := hts _ q_57
  rw [pX1_isUsed] at hf
  refine lv_aload_n hx hb dX1_isUsed_0 rfl (lv_at hl 0 rfl) ?_
  refine lv_iload_n hx hb dX1_isUsed_1 rfl (lv_at hl 1 rfl) ?_
  refine lv_iconst (v := 0) hx hb dX1_isUsed_2 (by decide) ?_
  refine x_ci (x_rV (As := [.int p0, .int 0]) (rest := []) (okX X) hC hw (kX1_symbol l X S _ p0 0 _ hf) (cwV 2 hts (gV q_199 q_200 q_201 q_17 q_202) rfl rfl rfl (by decide +kernel) ⟨Nat.le_of_ble_eq_true rfl, Nat.le_of_ble_eq_true rfl⟩) (x_recv hK hw (k := 1) (by decide) rfl rfl) rfl hl.1 rfl (Nat.le_of_ble_eq_true rfl) dX1_isUsed_3) hw hi (fun r_1 S_2 H locs hf hw => ?_)
  obtain ⟨hf, rfl⟩ := hf
  refine lv_istore_n (lv' := [(2, .int r_1), (0, .ref (xa X 1)), (1, .int p0)]) hx hb dX1_isUsed_6 rfl hl (by decide) rfl (fun ls hl => ?_)
  refine lv_aload_n hx hb dX1_isUsed_7 rfl (lv_at hl 1 rfl) ?_
  refine lv_iload_n hx hb dX1_isUsed_8 rfl (lv_at hl 0 rfl) ?_
  refine x_ci (x_rV (As := [.int r_1]) (rest := []) (okX X) hC hw (kX1_isNonterminal l X S _ r_1 _ hf) (cwV 1 hts (gV q_191 q_181 q_182 q_17 q_183) rfl rfl rfl (by decide +kernel) ⟨Nat.le_of_ble_eq_true rfl, Nat.le_of_ble_eq_true rfl⟩) (x_recv hK hw (k := 1) (by decide) rfl rfl) rfl hl.1 rfl (Nat.le_of_ble_eq_true rfl) dX1_isUsed_9) hw hi (fun r_3 S_4 H locs hf hw => ?_)
  obtain ⟨hf, rfl⟩ := hf
  refine lv_if_eq (tgt := 36) hx hb dX1_isUsed_12 (by decide) (fun c_5 => ?_) (fun c_5 => ?_)
  · replace hf := hf.1 c_5
    refine lv_iconst (v := 0) hx hb dX1_isUsed_36 (by decide) ?_
    exact hQ _ _ _ _ _ _ rfl ⟨hf, rfl⟩ hw dX1_isUsed_37
  · replace hf := hf.2 c_5
    refine lv_aload_n hx hb dX1_isUsed_15 rfl (lv_at hl 1 rfl) ?_
    refine x_get (k := 1) (v := .ref (xa X 12)) hx hb hts i_X1 hown hK hw (by decide) rfl rfl 6 (by decide) lf_31 (fun _ h9 => h9) rfl dX1_isUsed_16 ?_
    refine lv_iload_n hx hb dX1_isUsed_19 rfl (lv_at hl 0 rfl) ?_
    refine x_zld (n := 6) hx hb hK hw (by decide) rfl rfl hf.1 dX1_isUsed_20 ?_
    replace hf := hf.2
    refine lv_if_eq (tgt := 36) hx hb dX1_isUsed_21 (by decide) (fun c_6 => ?_) (fun c_6 => ?_)
    · replace hf := hf.1 c_6
      refine lv_iconst (v := 0) hx hb dX1_isUsed_36 (by decide) ?_
      exact hQ _ _ _ _ _ _ rfl ⟨hf, rfl⟩ hw dX1_isUsed_37
    · replace hf := hf.2 c_6
      refine lv_aload_n hx hb dX1_isUsed_24 rfl (lv_at hl 1 rfl) ?_
      refine lv_iload_n hx hb dX1_isUsed_25 rfl (lv_at hl 2 rfl) ?_
      refine x_ci (x_rV (As := [.int p0]) (rest := []) (okX X) hC hw (kX1_shortestOf l X S _ p0 _ hf) (cwV 1 hts (gV q_263 q_264 q_265 q_17 q_266) rfl rfl rfl (by decide +kernel) ⟨Nat.le_of_ble_eq_true rfl, Nat.le_of_ble_eq_true rfl⟩) (x_recv hK hw (k := 1) (by decide) rfl rfl) rfl hl.1 rfl (Nat.le_of_ble_eq_true rfl) dX1_isUsed_26) hw hi (fun r_7 S_8 H locs hf hw => ?_)
      obtain ⟨hf, rfl⟩ := hf
      refine lv_if_le (tgt := 36) hx hb dX1_isUsed_29 (by decide) (fun c_9 => ?_) (fun c_9 => ?_)
      · replace hf := hf.1 c_9
        refine lv_iconst (v := 0) hx hb dX1_isUsed_36 (by decide) ?_
        exact hQ _ _ _ _ _ _ rfl ⟨hf, rfl⟩ hw dX1_isUsed_37
      · replace hf := hf.2 c_9
        refine lv_iconst (v := 1) hx hb dX1_isUsed_32 (by decide) ?_
        refine lv_goto (tgt := 37) hx hb dX1_isUsed_33 (by decide) ?_
        exact hQ _ _ _ _ _ _ rfl ⟨hf, rfl⟩ hw dX1_isUsed_37
def bX1_reachParts_2 (p0 : Int32) (Post : gS → Prop) (L_2 : Int32 × gS → Prop) (x2_1 : Int32) (S_2 : gS) : Prop :=
  ((3 < x2_1 → Post S_2) ∧ (¬ 3 < x2_1 → (pX1_symbol p0 x2_1 S_2 (fun r_4 => (pX1_isNonterminal r_4 S_2 (fun r_6 => ((r_6 = 0 → (∀ x2_9 : Int32, x2_9 = x2_1 + 1 → L_2 (x2_9, S_2))) ∧ (¬ r_6 = 0 → (vp_in r_4 6 ∧ (∀ S_10 : gS, S_10 = uA S_2 12 r_4.toNatClampNeg (vp_nar .boolean 1) → (∀ x2_11 : Int32, x2_11 = x2_1 + 1 → L_2 (x2_11, S_10))))))))))))
def pX1_reachParts (p0 : Int32) (S : gS) (Post : gS → Prop) : Prop :=
  ∃ n, lp (fun L x => bX1_reachParts_2 p0 Post L x.1 x.2) n (1, S)
def rX1_reachParts : Room := { frames := 1, cells := 0, slots := 0, locals := 22 }
set_option maxHeartbeats 40000000 in
set_option maxRecDepth 100000 in
theorem kX1_reachParts (l : Launch) (X : xG) (S : gS) (sz : Nat) (p0 : Int32) (Post : gS → Prop) (hf : pX1_reachParts p0 S Post) : xMv l yX1_reachParts (Cond.code yX1_reachParts cX1_reachParts 4 none :: WS) rX1_reachParts 34 X (cX X) (eX X) S sz [.ref (xa X 1), .int p0] Post := by
  refine xMv.of (cc := cX1_reachParts) (maxL := 4) (own := RX1) (by decide) rfl rfl (Nat.le_of_ble_eq_true rfl) ?_
  intro p e s m args below meth c ls Q hC hQ hw hl
  obtain ⟨hx, hb, hml, hown, hts, hE, hi⟩ := id hC
  have hK := hE.1
  have hl : lv_has ls 4 [(0, .ref (xa X 1)), (1, .int p0)] := hl
  have lf_31 : (Cond.fieldLink RX1 31 "GrammarAmbiguity$Grammar" "reached" "[Z").before args s = true := hts _ q_57
  rw [pX1_reachParts] at hf
  refine lv_iconst (v := 1) hx hb dX1_reachParts_0 (by decide) ?_
  refine lv_istore_n (lv' := [(2, .int 1), (0, .ref (xa X 1)), (1, .int p0)]) hx hb dX1_reachParts_1 rfl hl (by decide) rfl (fun ls hl => ?_)
  obtain ⟨n_2, hf⟩ := hf
  have w_2 : ∀ (n : Nat) (x2_1 : Int32) (S_2 : gS) (H : Heap) (locs : List Loc) (ls : Array Slot), lp (fun L x => bX1_reachParts_2 p0 Post L x.1 x.2) n (x2_1, S_2) → xH 34 X (cX X) (xA 34 X s.heap.size) s.heap S_2 H locs → lv_has ls 4 [(0, .ref (xa X 1)), (1, .int p0), (2, .int x2_1)] → W p l e rX1_reachParts s m args below meth c H locs 0 0 Q (F0 m 2 ls []) := by
    intro n
    induction n with
    | zero => intro x2_1 S_2 H locs ls hf; exact hf.elim
    | succ n ih_2 =>
      intro x2_1 S_2 H locs ls hf hw hl
      replace hf : bX1_reachParts_2 p0 Post (lp (fun L x => bX1_reachParts_2 p0 Post L x.1 x.2) n) x2_1 S_2 := hf
      generalize lp (fun L x => bX1_reachParts_2 p0 Post L x.1 x.2) n = L_2 at hf ih_2
      rw [bX1_reachParts_2] at hf
      refine lv_iload_n hx hb dX1_reachParts_2 rfl (lv_at hl 2 rfl) ?_
      refine lv_iconst (v := 3) hx hb dX1_reachParts_3 (by decide) ?_
      refine lv_icmp_gt (tgt := 35) hx hb dX1_reachParts_4 (by decide) (fun c_3 => ?_) (fun c_3 => ?_)
      · replace hf := hf.1 c_3
        exact hQ _ _ _ _ _ hf hw dX1_reachParts_35
      · replace hf := hf.2 c_3
        refine lv_aload_n hx hb dX1_reachParts_7 rfl (lv_at hl 0 rfl) ?_
        refine lv_iload_n hx hb dX1_reachParts_8 rfl (lv_at hl 1 rfl) ?_
        refine lv_iload_n hx hb dX1_reachParts_9 rfl (lv_at hl 2 rfl) ?_
        refine x_ci (x_rV (As := [.int p0, .int x2_1]) (rest := []) (okX X) hC hw (kX1_symbol l X S_2 _ p0 x2_1 _ hf) (cwV 2 hts (gV q_199 q_200 q_201 q_17 q_202) rfl rfl rfl (by decide +kernel) ⟨Nat.le_of_ble_eq_true rfl, Nat.le_of_ble_eq_true rfl⟩) (x_recv hK hw (k := 1) (by decide) rfl rfl) rfl hl.1 rfl (Nat.le_of_ble_eq_true rfl) dX1_reachParts_10) hw hi (fun r_4 S_5 H locs hf hw => ?_)
        obtain ⟨hf, rfl⟩ := hf
        refine lv_istore_n (lv' := [(3, .int r_4), (0, .ref (xa X 1)), (1, .int p0), (2, .int x2_1)]) hx hb dX1_reachParts_13 rfl hl (by decide) rfl (fun ls hl => ?_)
        refine lv_aload_n hx hb dX1_reachParts_14 rfl (lv_at hl 1 rfl) ?_
        refine lv_iload_n hx hb dX1_reachParts_15 rfl (lv_at hl 0 rfl) ?_
        refine x_ci (x_rV (As := [.int r_4]) (rest := []) (okX X) hC hw (kX1_isNonterminal l X S_2 _ r_4 _ hf) (cwV 1 hts (gV q_191 q_181 q_182 q_17 q_183) rfl rfl rfl (by decide +kernel) ⟨Nat.le_of_ble_eq_true rfl, Nat.le_of_ble_eq_true rfl⟩) (x_recv hK hw (k := 1) (by decide) rfl rfl) rfl hl.1 rfl (Nat.le_of_ble_eq_true rfl) dX1_reachParts_16) hw hi (fun r_6 S_7 H locs hf hw => ?_)
        obtain ⟨hf, rfl⟩ := hf
        refine lv_if_eq (tgt := 29) hx hb dX1_reachParts_19 (by decide) (fun c_8 => ?_) (fun c_8 => ?_)
        · replace hf := hf.1 c_8
          obtain ⟨x2_9, ex2_9⟩ : ∃ y : Int32, y = x2_1 + 1 := ⟨_, rfl⟩
          replace hf := hf x2_9 ex2_9
          refine lv_iinc (v := x2_9) (lv' := [(2, .int x2_9), (3, .int r_4), (0, .ref (xa X 1)), (1, .int p0)]) hx hb dX1_reachParts_29 hl (k := 3) rfl (by rw [ex2_9]; rfl) (by decide) rfl (fun ls hl => ?_)
          refine lv_goto (tgt := 2) hx hb dX1_reachParts_32 (by decide) ?_
          exact ih_2 x2_9 S_2 _ _ _ hf hw (lv_sub hl [2, 3, 0] rfl)
        · replace hf := hf.2 c_8
          refine lv_aload_n hx hb dX1_reachParts_22 rfl (lv_at hl 1 rfl) ?_
          refine x_get (k := 1) (v := .ref (xa X 12)) hx hb hts i_X1 hown hK hw (by decide) rfl rfl 6 (by decide) lf_31 (fun _ h9 => h9) rfl dX1_reachParts_23 ?_
          refine lv_iload_n hx hb dX1_reachParts_26 rfl (lv_at hl 0 rfl) ?_
          refine lv_iconst (v := 1) hx hb dX1_reachParts_27 (by decide) ?_
          refine x_zst (n := 6) hx hb hK hw (by decide) rfl rfl hf.1 dX1_reachParts_28 (uX_A12 X S_2 _ _) (fun H locs hw => ?_)
          replace hf := hf.2
          obtain ⟨S_10, eS_10⟩ : ∃ z : gS, z = uA S_2 12 r_4.toNatClampNeg (vp_nar .boolean 1) := ⟨_, rfl⟩
          rw [← eS_10] at hw
          replace hf := hf S_10 eS_10
          obtain ⟨x2_11, ex2_11⟩ : ∃ y : Int32, y = x2_1 + 1 := ⟨_, rfl⟩
          replace hf := hf x2_11 ex2_11
          refine lv_iinc (v := x2_11) (lv' := [(2, .int x2_11), (3, .int r_4), (0, .ref (xa X 1)), (1, .int p0)]) hx hb dX1_reachParts_29 hl (k := 3) rfl (by rw [ex2_11]; rfl) (by decide) rfl (fun ls hl => ?_)
          refine lv_goto (tgt := 2) hx hb dX1_reachParts_32 (by decide) ?_
          exact ih_2 x2_11 S_10 _ _ _ hf hw (lv_sub hl [2, 3, 0] rfl)
  exact w_2 n_2 1 S _ _ _ hf hw (lv_sub hl [1, 2, 0] rfl)
def bX1_reach_45 (x1_4 : Int32) (L_35 : Int32 × gS → Prop) (L_45 : Int32 × gS → Prop) (x2_7 : Int32) (S_8 : gS) : Prop :=
  (((gI S_8 4) ≤ x2_7 → (∀ x1_10 : Int32, x1_10 = x1_4 + 1 → L_35 (x1_10, S_8))) ∧ (¬ (gI S_8 4) ≤ x2_7 → (pX1_isUsed x2_7 S_8 (fun r_11 => ((r_11 = 0 → (∀ x2_14 : Int32, x2_14 = x2_7 + 1 → L_45 (x2_14, S_8))) ∧ (¬ r_11 = 0 → (pX1_reachParts x2_7 S_8 (fun S_16 => (∀ x2_17 : Int32, x2_17 = x2_7 + 1 → L_45 (x2_17, S_16))))))))))
def bX1_reach_35 (Post : gS → Prop) (L_35 : Int32 × gS → Prop) (x1_4 : Int32) (S_5 : gS) : Prop :=
  (((gI S_5 1) ≤ x1_4 → Post S_5) ∧ (¬ (gI S_5 1) ≤ x1_4 → ∃ n, lp (fun L x => bX1_reach_45 x1_4 L_35 L x.1 x.2) n (0, S_5)))
def bX1_reach_2 (Post : gS → Prop) (L_2 : Int32 × gS → Prop) (x1_1 : Int32) (S_2 : gS) : Prop :=
  ((6 ≤ x1_1 → ∃ n, lp (fun L x => bX1_reach_35 Post L x.1 x.2) n (0, S_2)) ∧ (¬ 6 ≤ x1_1 → ((¬ x1_1 = (gI S_2 3) → (vp_in x1_1 6 ∧ (∀ S_19 : gS, S_19 = uA S_2 12 x1_1.toNatClampNeg (vp_nar .boolean 0) → (∀ x1_20 : Int32, x1_20 = x1_1 + 1 → L_2 (x1_20, S_19))))) ∧ (x1_1 = (gI S_2 3) → (vp_in x1_1 6 ∧ (∀ S_21 : gS, S_21 = uA S_2 12 x1_1.toNatClampNeg (vp_nar .boolean 1) → (∀ x1_22 : Int32, x1_22 = x1_1 + 1 → L_2 (x1_22, S_21))))))))
def pX1_reach (S : gS) (Post : gS → Prop) : Prop :=
  ∃ n, lp (fun L x => bX1_reach_2 Post L x.1 x.2) n (0, S)
def rX1_reach : Room := { frames := 4, cells := 0, slots := 0, locals := 89 }
set_option maxHeartbeats 40000000 in
set_option maxRecDepth 100000 in
theorem kX1_reach (l : Launch) (X : xG) (S : gS) (sz : Nat) (Post : gS → Prop) (hf : pX1_reach S Post) : xMv l yX1_reach (Cond.code yX1_reach cX1_reach 3 none :: WS) rX1_reach 34 X (cX X) (eX X) S sz [.ref (xa X 1)] Post := by
  refine xMv.of (cc := cX1_reach) (maxL := 3) (own := RX1) (by decide) rfl rfl (Nat.le_of_ble_eq_true rfl) ?_
  intro p e s m args below meth c ls Q hC hQ hw hl
  obtain ⟨hx, hb, hml, hown, hts, hE, hi⟩ := id hC
  have hK := hE.1
  have hl : lv_has ls 3 [(0, .ref (xa X 1))] := hl
  have lf_9 : (Cond.fieldLink RX1 9 "GrammarAmbiguity$Grammar" "nonterminals" "I").before args s = true := hts _ q_49
  have lf_21 : (Cond.fieldLink RX1 21 "GrammarAmbiguity$Grammar" "productions" "I").before args s = true := hts _ q_52
  have lf_31 : (Cond.fieldLink RX1 31 "GrammarAmbiguity$Grammar" "reached" "[Z").before args s = true := hts _ q_57
  have lf_18 : (Cond.fieldLink RX1 18 "GrammarAmbiguity$Grammar" "start" "I").before args s = true := hts _ q_51
  rw [pX1_reach] at hf
  refine lv_iconst (v := 0) hx hb dX1_reach_0 (by decide) ?_
  refine lv_istore_n (lv' := [(1, .int 0), (0, .ref (xa X 1))]) hx hb dX1_reach_1 rfl hl (by decide) rfl (fun ls hl => ?_)
  obtain ⟨n_2, hf⟩ := hf
  have w_2 : ∀ (n : Nat) (x1_1 : Int32) (S_2 : gS) (H : Heap) (locs : List Loc) (ls : Array Slot), lp (fun L x => bX1_reach_2 Post L x.1 x.2) n (x1_1, S_2) → xH 34 X (cX X) (xA 34 X s.heap.size) s.heap S_2 H locs → lv_has ls 3 [(0, .ref (xa X 1)), (1, .int x1_1)] → W p l e rX1_reach s m args below meth c H locs 0 0 Q (F0 m 2 ls []) := by
    intro n
    induction n with
    | zero => intro x1_1 S_2 H locs ls hf; exact hf.elim
    | succ n ih_2 =>
      intro x1_1 S_2 H locs ls hf hw hl
      replace hf : bX1_reach_2 Post (lp (fun L x => bX1_reach_2 Post L x.1 x.2) n) x1_1 S_2 := hf
      generalize lp (fun L x => bX1_reach_2 Post L x.1 x.2) n = L_2 at hf ih_2
      rw [bX1_reach_2] at hf
      refine lv_iload_n hx hb dX1_reach_2 rfl (lv_at hl 1 rfl) ?_
      refine lv_bipush (v := 6) hx hb dX1_reach_3 (by decide) ?_
      refine lv_icmp_ge (tgt := 33) hx hb dX1_reach_5 (by decide) (fun c_3 => ?_) (fun c_3 => ?_)
      · replace hf := hf.1 c_3
        refine lv_iconst (v := 0) hx hb dX1_reach_33 (by decide) ?_
        refine lv_istore_n (lv' := [(1, .int 0), (0, .ref (xa X 1))]) hx hb dX1_reach_34 rfl hl (by decide) rfl (fun ls hl => ?_)
        obtain ⟨n_35, hf⟩ := hf
        have w_35 : ∀ (n : Nat) (x1_4 : Int32) (S_5 : gS) (H : Heap) (locs : List Loc) (ls : Array Slot), lp (fun L x => bX1_reach_35 Post L x.1 x.2) n (x1_4, S_5) → xH 34 X (cX X) (xA 34 X s.heap.size) s.heap S_5 H locs → lv_has ls 3 [(0, .ref (xa X 1)), (1, .int x1_4)] → W p l e rX1_reach s m args below meth c H locs 0 0 Q (F0 m 35 ls []) := by
          intro n
          induction n with
          | zero => intro x1_4 S_5 H locs ls hf; exact hf.elim
          | succ n ih_35 =>
            intro x1_4 S_5 H locs ls hf hw hl
            replace hf : bX1_reach_35 Post (lp (fun L x => bX1_reach_35 Post L x.1 x.2) n) x1_4 S_5 := hf
            generalize lp (fun L x => bX1_reach_35 Post L x.1 x.2) n = L_35 at hf ih_35
            rw [bX1_reach_35] at hf
            refine lv_iload_n hx hb dX1_reach_35 rfl (lv_at hl 1 rfl) ?_
            refine lv_aload_n hx hb dX1_reach_36 rfl (lv_at hl 0 rfl) ?_
            refine x_get (k := 1) (v := .int (gI S_5 1)) hx hb hts i_X1 hown hK hw (by decide) rfl rfl 0 (by decide) lf_9 (fun _ h9 => h9) rfl dX1_reach_37 ?_
            refine lv_icmp_ge (tgt := 78) hx hb dX1_reach_40 (by decide) (fun c_6 => ?_) (fun c_6 => ?_)
            · replace hf := hf.1 c_6
              exact hQ _ _ _ _ _ hf hw dX1_reach_78
            · replace hf := hf.2 c_6
              refine lv_iconst (v := 0) hx hb dX1_reach_43 (by decide) ?_
              refine lv_istore_n (lv' := [(2, .int 0), (0, .ref (xa X 1)), (1, .int x1_4)]) hx hb dX1_reach_44 rfl hl (by decide) rfl (fun ls hl => ?_)
              obtain ⟨n_45, hf⟩ := hf
              have w_45 : ∀ (n : Nat) (x2_7 : Int32) (S_8 : gS) (H : Heap) (locs : List Loc) (ls : Array Slot), lp (fun L x => bX1_reach_45 x1_4 L_35 L x.1 x.2) n (x2_7, S_8) → xH 34 X (cX X) (xA 34 X s.heap.size) s.heap S_8 H locs → lv_has ls 3 [(0, .ref (xa X 1)), (1, .int x1_4), (2, .int x2_7)] → W p l e rX1_reach s m args below meth c H locs 0 0 Q (F0 m 45 ls []) := by
                intro n
                induction n with
                | zero => intro x2_7 S_8 H locs ls hf; exact hf.elim
                | succ n ih_45 =>
                  intro x2_7 S_8 H locs ls hf hw hl
                  replace hf : bX1_reach_45 x1_4 L_35 (lp (fun L x => bX1_reach_45 x1_4 L_35 L x.1 x.2) n) x2_7 S_8 := hf
                  generalize lp (fun L x => bX1_reach_45 x1_4 L_35 L x.1 x.2) n = L_45 at hf ih_45
                  rw [bX1_reach_45] at hf
                  refine lv_iload_n hx hb dX1_reach_45 rfl (lv_at hl 2 rfl) ?_
                  refine lv_aload_n hx hb dX1_reach_46 rfl (lv_at hl 0 rfl) ?_
                  refine x_get (k := 1) (v := .int (gI S_8 4)) hx hb hts i_X1 hown hK hw (by decide) rfl rfl 3 (by decide) lf_21 (fun _ h9 => h9) rfl dX1_reach_47 ?_
                  refine lv_icmp_ge (tgt := 72) hx hb dX1_reach_50 (by decide) (fun c_9 => ?_) (fun c_9 => ?_)
                  · replace hf := hf.1 c_9
                    obtain ⟨x1_10, ex1_10⟩ : ∃ y : Int32, y = x1_4 + 1 := ⟨_, rfl⟩
                    replace hf := hf x1_10 ex1_10
                    refine lv_iinc (v := x1_10) (lv' := [(1, .int x1_10), (0, .ref (xa X 1)), (2, .int x2_7)]) hx hb dX1_reach_72 hl (k := 1) rfl (by rw [ex1_10]; rfl) (by decide) rfl (fun ls hl => ?_)
                    refine lv_goto (tgt := 35) hx hb dX1_reach_75 (by decide) ?_
                    exact ih_35 x1_10 S_8 _ _ _ hf hw (lv_sub hl [1, 0] rfl)
                  · replace hf := hf.2 c_9
                    refine lv_aload_n hx hb dX1_reach_53 rfl (lv_at hl 0 rfl) ?_
                    refine lv_iload_n hx hb dX1_reach_54 rfl (lv_at hl 2 rfl) ?_
                    refine x_ci (x_rV (As := [.int x2_7]) (rest := []) (okX X) hC hw (kX1_isUsed l X S_8 _ x2_7 _ hf) (cwV 1 hts (gV q_279 q_280 q_281 q_17 q_282) rfl rfl rfl (by decide +kernel) ⟨Nat.le_of_ble_eq_true rfl, Nat.le_of_ble_eq_true rfl⟩) (x_recv hK hw (k := 1) (by decide) rfl rfl) rfl hl.1 rfl (Nat.le_of_ble_eq_true rfl) dX1_reach_55) hw hi (fun r_11 S_12 H locs hf hw => ?_)
                    obtain ⟨hf, rfl⟩ := hf
                    refine lv_if_eq (tgt := 66) hx hb dX1_reach_58 (by decide) (fun c_13 => ?_) (fun c_13 => ?_)
                    · replace hf := hf.1 c_13
                      obtain ⟨x2_14, ex2_14⟩ : ∃ y : Int32, y = x2_7 + 1 := ⟨_, rfl⟩
                      replace hf := hf x2_14 ex2_14
                      refine lv_iinc (v := x2_14) (lv' := [(2, .int x2_14), (0, .ref (xa X 1)), (1, .int x1_4)]) hx hb dX1_reach_66 hl (k := 2) rfl (by rw [ex2_14]; rfl) (by decide) rfl (fun ls hl => ?_)
                      refine lv_goto (tgt := 45) hx hb dX1_reach_69 (by decide) ?_
                      exact ih_45 x2_14 S_8 _ _ _ hf hw (lv_sub hl [1, 2, 0] rfl)
                    · replace hf := hf.2 c_13
                      refine lv_aload_n hx hb dX1_reach_61 rfl (lv_at hl 0 rfl) ?_
                      refine lv_iload_n hx hb dX1_reach_62 rfl (lv_at hl 2 rfl) ?_
                      refine x_cv (x_rV (As := [.int x2_7]) (rest := []) (okX X) hC hw (kX1_reachParts l X S_8 _ x2_7 _ hf) (cwV 1 hts (gV q_283 q_284 q_285 q_17 q_286) rfl rfl rfl (by decide +kernel) ⟨Nat.le_of_ble_eq_true rfl, Nat.le_of_ble_eq_true rfl⟩) (x_recv hK hw (k := 1) (by decide) rfl rfl) rfl hl.1 rfl (Nat.le_of_ble_eq_true rfl) dX1_reach_63) hw hi (fun S_16 H locs hf hw => ?_)
                      obtain ⟨x2_17, ex2_17⟩ : ∃ y : Int32, y = x2_7 + 1 := ⟨_, rfl⟩
                      replace hf := hf x2_17 ex2_17
                      refine lv_iinc (v := x2_17) (lv' := [(2, .int x2_17), (0, .ref (xa X 1)), (1, .int x1_4)]) hx hb dX1_reach_66 hl (k := 2) rfl (by rw [ex2_17]; rfl) (by decide) rfl (fun ls hl => ?_)
                      refine lv_goto (tgt := 45) hx hb dX1_reach_69 (by decide) ?_
                      exact ih_45 x2_17 S_16 _ _ _ hf hw (lv_sub hl [1, 2, 0] rfl)
              exact w_45 n_45 0 S_5 _ _ _ hf hw (lv_sub hl [1, 2, 0] rfl)
        exact w_35 n_35 0 S_2 _ _ _ hf hw (lv_sub hl [1, 0] rfl)
      · replace hf := hf.2 c_3
        refine lv_aload_n hx hb dX1_reach_8 rfl (lv_at hl 0 rfl) ?_
        refine x_get (k := 1) (v := .ref (xa X 12)) hx hb hts i_X1 hown hK hw (by decide) rfl rfl 6 (by decide) lf_31 (fun _ h9 => h9) rfl dX1_reach_9 ?_
        refine lv_iload_n hx hb dX1_reach_12 rfl (lv_at hl 1 rfl) ?_
        refine lv_iload_n hx hb dX1_reach_13 rfl (lv_at hl 1 rfl) ?_
        refine lv_aload_n hx hb dX1_reach_14 rfl (lv_at hl 0 rfl) ?_
        refine x_get (k := 1) (v := .int (gI S_2 3)) hx hb hts i_X1 hown hK hw (by decide) rfl rfl 2 (by decide) lf_18 (fun _ h9 => h9) rfl dX1_reach_15 ?_
        refine lv_icmp_ne (tgt := 25) hx hb dX1_reach_18 (by decide) (fun c_18 => ?_) (fun c_18 => ?_)
        · replace hf := hf.1 c_18
          refine lv_iconst (v := 0) hx hb dX1_reach_25 (by decide) ?_
          refine x_zst (n := 6) hx hb hK hw (by decide) rfl rfl hf.1 dX1_reach_26 (uX_A12 X S_2 _ _) (fun H locs hw => ?_)
          replace hf := hf.2
          obtain ⟨S_19, eS_19⟩ : ∃ z : gS, z = uA S_2 12 x1_1.toNatClampNeg (vp_nar .boolean 0) := ⟨_, rfl⟩
          rw [← eS_19] at hw
          replace hf := hf S_19 eS_19
          obtain ⟨x1_20, ex1_20⟩ : ∃ y : Int32, y = x1_1 + 1 := ⟨_, rfl⟩
          replace hf := hf x1_20 ex1_20
          refine lv_iinc (v := x1_20) (lv' := [(1, .int x1_20), (0, .ref (xa X 1))]) hx hb dX1_reach_27 hl (k := 1) rfl (by rw [ex1_20]; rfl) (by decide) rfl (fun ls hl => ?_)
          refine lv_goto (tgt := 2) hx hb dX1_reach_30 (by decide) ?_
          exact ih_2 x1_20 S_19 _ _ _ hf hw (lv_sub hl [1, 0] rfl)
        · replace hf := hf.2 c_18
          refine lv_iconst (v := 1) hx hb dX1_reach_21 (by decide) ?_
          refine lv_goto (tgt := 26) hx hb dX1_reach_22 (by decide) ?_
          refine x_zst (n := 6) hx hb hK hw (by decide) rfl rfl hf.1 dX1_reach_26 (uX_A12 X S_2 _ _) (fun H locs hw => ?_)
          replace hf := hf.2
          obtain ⟨S_21, eS_21⟩ : ∃ z : gS, z = uA S_2 12 x1_1.toNatClampNeg (vp_nar .boolean 1) := ⟨_, rfl⟩
          rw [← eS_21] at hw
          replace hf := hf S_21 eS_21
          obtain ⟨x1_22, ex1_22⟩ : ∃ y : Int32, y = x1_1 + 1 := ⟨_, rfl⟩
          replace hf := hf x1_22 ex1_22
          refine lv_iinc (v := x1_22) (lv' := [(1, .int x1_22), (0, .ref (xa X 1))]) hx hb dX1_reach_27 hl (k := 1) rfl (by rw [ex1_22]; rfl) (by decide) rfl (fun ls hl => ?_)
          refine lv_goto (tgt := 2) hx hb dX1_reach_30 (by decide) ?_
          exact ih_2 x1_22 S_21 _ _ _ hf hw (lv_sub hl [1, 0] rfl)
  exact w_2 n_2 0 S _ _ _ hf hw (lv_sub hl [1, 0] rfl)
def bX1_removeUnused_17 (Post : Int32 → gS → Prop) (L_17 : Int32 × Int32 × gS → Prop) (x1_6 : Int32) (x2_7 : Int32) (S_8 : gS) : Prop :=
  ((x2_7 < 0 → Post x1_6 S_8) ∧ (¬ x2_7 < 0 → (pX1_isUsed x2_7 S_8 (fun r_10 => ((¬ r_10 = 0 → (∀ x2_13 : Int32, x2_13 = x2_7 + (-1) → L_17 (x1_6, x2_13, S_8))) ∧ (r_10 = 0 → (pX1_remove x2_7 S_8 (fun S_15 => (∀ x1_16 : Int32, x1_16 = x1_6 + 1 → (∀ x2_17 : Int32, x2_17 = x2_7 + (-1) → L_17 (x1_16, x2_17, S_15)))))))))))
def pX1_removeUnused (S : gS) (Post : Int32 → gS → Prop) : Prop :=
  (pX1_measure  S (fun S_2 => (pX1_reach  S_2 (fun S_4 => (∀ x2_5 : Int32, x2_5 = ((gI S_4 4) - 1) → ∃ n, lp (fun L x => bX1_removeUnused_17 Post L x.1 x.2.1 x.2.2) n (0, x2_5, S_4))))))
def rX1_removeUnused : Room := { frames := 5, cells := 0, slots := 0, locals := 111 }
set_option maxHeartbeats 40000000 in
set_option maxRecDepth 100000 in
theorem kX1_removeUnused (l : Launch) (X : xG) (S : gS) (sz : Nat) (Post : Int32 → gS → Prop) (hf : pX1_removeUnused S Post) : xMi l yX1_removeUnused (Cond.code yX1_removeUnused cX1_removeUnused 3 (some .int) :: WS) rX1_removeUnused 34 X (cX X) (eX X) S sz [.ref (xa X 1)] Post := by
  refine xMi.of (cc := cX1_removeUnused) (maxL := 3) (own := RX1) (by decide) rfl rfl (Nat.le_of_ble_eq_true rfl) ?_
  intro p e s m args below meth c ls Q hC hQ hw hl
  obtain ⟨hx, hb, hml, hown, hts, hE, hi⟩ := id hC
  have hK := hE.1
  have hl : lv_has ls 3 [(0, .ref (xa X 1))] := hl
  have lf_21 : (Cond.fieldLink RX1 21 "GrammarAmbiguity$Grammar" "productions" "I").before args s = true := hts _ q_52
  rw [pX1_removeUnused] at hf
  refine lv_aload_n hx hb dX1_removeUnused_0 rfl (lv_at hl 0 rfl) ?_
  refine x_cv (x_rV (As := []) (rest := []) (okX X) hC hw (kX1_measure l X S _  _ hf) (cwV 0 hts (gV q_259 q_260 q_261 q_17 q_262) rfl rfl rfl (by decide +kernel) ⟨Nat.le_of_ble_eq_true rfl, Nat.le_of_ble_eq_true rfl⟩) (x_recv hK hw (k := 1) (by decide) rfl rfl) rfl hl.1 rfl (Nat.le_of_ble_eq_true rfl) dX1_removeUnused_1) hw hi (fun S_2 H locs hf hw => ?_)
  refine lv_aload_n hx hb dX1_removeUnused_4 rfl (lv_at hl 0 rfl) ?_
  refine x_cv (x_rV (As := []) (rest := []) (okX X) hC hw (kX1_reach l X S_2 _  _ hf) (cwV 0 hts (gV q_275 q_276 q_277 q_17 q_278) rfl rfl rfl (by decide +kernel) ⟨Nat.le_of_ble_eq_true rfl, Nat.le_of_ble_eq_true rfl⟩) (x_recv hK hw (k := 1) (by decide) rfl rfl) rfl hl.1 rfl (Nat.le_of_ble_eq_true rfl) dX1_removeUnused_5) hw hi (fun S_4 H locs hf hw => ?_)
  refine lv_iconst (v := 0) hx hb dX1_removeUnused_8 (by decide) ?_
  refine lv_istore_n (lv' := [(1, .int 0), (0, .ref (xa X 1))]) hx hb dX1_removeUnused_9 rfl hl (by decide) rfl (fun ls hl => ?_)
  refine lv_aload_n hx hb dX1_removeUnused_10 rfl (lv_at hl 1 rfl) ?_
  refine x_get (k := 1) (v := .int (gI S_4 4)) hx hb hts i_X1 hown hK hw (by decide) rfl rfl 3 (by decide) lf_21 (fun _ h9 => h9) rfl dX1_removeUnused_11 ?_
  refine lv_iconst (v := 1) hx hb dX1_removeUnused_14 (by decide) ?_
  refine lv_isub hx hb dX1_removeUnused_15 ?_
  refine lv_topi (fun x2_5 ex2_5 => ?_)
  replace hf := hf x2_5 ex2_5
  refine lv_istore_n (lv' := [(2, .int x2_5), (1, .int 0), (0, .ref (xa X 1))]) hx hb dX1_removeUnused_16 rfl hl (by decide) rfl (fun ls hl => ?_)
  obtain ⟨n_17, hf⟩ := hf
  have w_17 : ∀ (n : Nat) (x1_6 : Int32) (x2_7 : Int32) (S_8 : gS) (H : Heap) (locs : List Loc) (ls : Array Slot), lp (fun L x => bX1_removeUnused_17 Post L x.1 x.2.1 x.2.2) n (x1_6, x2_7, S_8) → xH 34 X (cX X) (xA 34 X s.heap.size) s.heap S_8 H locs → lv_has ls 3 [(0, .ref (xa X 1)), (1, .int x1_6), (2, .int x2_7)] → W p l e rX1_removeUnused s m args below meth c H locs 0 0 Q (F0 m 17 ls []) := by
    intro n
    induction n with
    | zero => intro x1_6 x2_7 S_8 H locs ls hf; exact hf.elim
    | succ n ih_17 =>
      intro x1_6 x2_7 S_8 H locs ls hf hw hl
      replace hf : bX1_removeUnused_17 Post (lp (fun L x => bX1_removeUnused_17 Post L x.1 x.2.1 x.2.2) n) x1_6 x2_7 S_8 := hf
      generalize lp (fun L x => bX1_removeUnused_17 Post L x.1 x.2.1 x.2.2) n = L_17 at hf ih_17
      rw [bX1_removeUnused_17] at hf
      refine lv_iload_n hx hb dX1_removeUnused_17 rfl (lv_at hl 2 rfl) ?_
      refine lv_if_lt (tgt := 43) hx hb dX1_removeUnused_18 (by decide) (fun c_9 => ?_) (fun c_9 => ?_)
      · replace hf := hf.1 c_9
        refine lv_iload_n hx hb dX1_removeUnused_43 rfl (lv_at hl 1 rfl) ?_
        exact hQ _ _ _ _ _ _ rfl hf hw dX1_removeUnused_44
      · replace hf := hf.2 c_9
        refine lv_aload_n hx hb dX1_removeUnused_21 rfl (lv_at hl 0 rfl) ?_
        refine lv_iload_n hx hb dX1_removeUnused_22 rfl (lv_at hl 2 rfl) ?_
        refine x_ci (x_rV (As := [.int x2_7]) (rest := []) (okX X) hC hw (kX1_isUsed l X S_8 _ x2_7 _ hf) (cwV 1 hts (gV q_279 q_280 q_281 q_17 q_282) rfl rfl rfl (by decide +kernel) ⟨Nat.le_of_ble_eq_true rfl, Nat.le_of_ble_eq_true rfl⟩) (x_recv hK hw (k := 1) (by decide) rfl rfl) rfl hl.1 rfl (Nat.le_of_ble_eq_true rfl) dX1_removeUnused_23) hw hi (fun r_10 S_11 H locs hf hw => ?_)
        obtain ⟨hf, rfl⟩ := hf
        refine lv_if_ne (tgt := 37) hx hb dX1_removeUnused_26 (by decide) (fun c_12 => ?_) (fun c_12 => ?_)
        · replace hf := hf.1 c_12
          obtain ⟨x2_13, ex2_13⟩ : ∃ y : Int32, y = x2_7 + (-1) := ⟨_, rfl⟩
          replace hf := hf x2_13 ex2_13
          refine lv_iinc (v := x2_13) (lv' := [(2, .int x2_13), (0, .ref (xa X 1)), (1, .int x1_6)]) hx hb dX1_removeUnused_37 hl (k := 2) rfl (by rw [ex2_13]; rfl) (by decide) rfl (fun ls hl => ?_)
          refine lv_goto (tgt := 17) hx hb dX1_removeUnused_40 (by decide) ?_
          exact ih_17 x1_6 x2_13 S_8 _ _ _ hf hw (lv_sub hl [1, 2, 0] rfl)
        · replace hf := hf.2 c_12
          refine lv_aload_n hx hb dX1_removeUnused_29 rfl (lv_at hl 0 rfl) ?_
          refine lv_iload_n hx hb dX1_removeUnused_30 rfl (lv_at hl 2 rfl) ?_
          refine x_cv (x_rV (As := [.int x2_7]) (rest := []) (okX X) hC hw (kX1_remove l X S_8 _ x2_7 _ hf) (cwV 1 hts (gV q_287 q_237 q_238 q_17 q_239) rfl rfl rfl (by decide +kernel) ⟨Nat.le_of_ble_eq_true rfl, Nat.le_of_ble_eq_true rfl⟩) (x_recv hK hw (k := 1) (by decide) rfl rfl) rfl hl.1 rfl (Nat.le_of_ble_eq_true rfl) dX1_removeUnused_31) hw hi (fun S_15 H locs hf hw => ?_)
          obtain ⟨x1_16, ex1_16⟩ : ∃ y : Int32, y = x1_6 + 1 := ⟨_, rfl⟩
          replace hf := hf x1_16 ex1_16
          refine lv_iinc (v := x1_16) (lv' := [(1, .int x1_16), (0, .ref (xa X 1)), (2, .int x2_7)]) hx hb dX1_removeUnused_34 hl (k := 1) rfl (by rw [ex1_16]; rfl) (by decide) rfl (fun ls hl => ?_)
          obtain ⟨x2_17, ex2_17⟩ : ∃ y : Int32, y = x2_7 + (-1) := ⟨_, rfl⟩
          replace hf := hf x2_17 ex2_17
          refine lv_iinc (v := x2_17) (lv' := [(2, .int x2_17), (1, .int x1_16), (0, .ref (xa X 1))]) hx hb dX1_removeUnused_37 hl (k := 2) rfl (by rw [ex2_17]; rfl) (by decide) rfl (fun ls hl => ?_)
          refine lv_goto (tgt := 17) hx hb dX1_removeUnused_40 (by decide) ?_
          exact ih_17 x1_16 x2_17 S_15 _ _ _ hf hw (lv_sub hl [2, 1, 0] rfl)
  exact w_17 n_17 0 x2_5 S_4 _ _ _ hf hw (lv_sub hl [2, 1, 0] rfl)
def bX1_copy_13_34 (Post : gS → Prop) (L_34 : Int32 × gS → Prop) (x2_5 : Int32) (S_6 : gS) : Prop :=
  ((96 ≤ x2_5 → Post S_6) ∧ (¬ 96 ≤ x2_5 → ((96 ≤ x2_5 → Post S_6) ∧ (¬ 96 ≤ x2_5 → (vp_in x2_5 96 ∧ (vp_in x2_5 96 ∧ (∀ S_9 : gS, S_9 = uA S_6 10 x2_5.toNatClampNeg (gA S_6 14 x2_5.toNatClampNeg) → (∀ x2_10 : Int32, x2_10 = x2_5 + 1 → L_34 (x2_10, S_9)))))))))
def pX1_copy_13 (S : gS) (Post : gS → Prop) : Prop :=
  (∀ S_1 : gS, S_1 = uI S 1 (gI S 6) → (∀ S_2 : gS, S_2 = uI S_1 2 (gI S_1 7) → (∀ S_3 : gS, S_3 = uI S_2 3 (gI S_2 8) → (∀ S_4 : gS, S_4 = uI S_3 4 (gI S_3 9) → ∃ n, lp (fun L x => bX1_copy_13_34 Post L x.1 x.2) n (0, S_4)))))
def rX1_copy_13 : Room := { frames := 0, cells := 0, slots := 0, locals := 0 }
set_option maxHeartbeats 40000000 in
set_option maxRecDepth 100000 in
theorem kX1_copy_13 (l : Launch) (X : xG) (S : gS) (sz : Nat) (Post : gS → Prop) (hf : pX1_copy_13 S Post) : xMv l yX1_copy (Cond.code yX1_copy cX1_copy 3 none :: WS) rX1_copy_13 34 X (cX X) (eX X) S sz [.ref (xa X 1), .ref (xa X 3)] Post := by
  refine xMv.of (cc := cX1_copy) (maxL := 3) (own := RX1) (by decide) rfl rfl (Nat.le_of_ble_eq_true rfl) ?_
  intro p e s m args below meth c ls Q hC hQ hw hl
  obtain ⟨hx, hb, hml, hown, hts, hE, hi⟩ := id hC
  have hK := hE.1
  have hl : lv_has ls 3 [(0, .ref (xa X 1)), (1, .ref (xa X 3))] := hl
  have lf_9 : (Cond.fieldLink RX1 9 "GrammarAmbiguity$Grammar" "nonterminals" "I").before args s = true := hts _ q_49
  have lf_15 : (Cond.fieldLink RX1 15 "GrammarAmbiguity$Grammar" "terminals" "I").before args s = true := hts _ q_50
  have lf_18 : (Cond.fieldLink RX1 18 "GrammarAmbiguity$Grammar" "start" "I").before args s = true := hts _ q_51
  have lf_21 : (Cond.fieldLink RX1 21 "GrammarAmbiguity$Grammar" "productions" "I").before args s = true := hts _ q_52
  have lf_24 : (Cond.fieldLink RX1 24 "GrammarAmbiguity$Grammar" "symbols" "[I").before args s = true := hts _ q_54
  rw [pX1_copy_13] at hf
  refine lv_aload_n hx hb dX1_copy_0 rfl (lv_at hl 0 rfl) ?_
  refine lv_aload_n hx hb dX1_copy_1 rfl (lv_at hl 1 rfl) ?_
  refine x_get (k := 3) (v := .int (gI S 6)) hx hb hts i_X1 hown hK hw (by decide) rfl rfl 0 (by decide) lf_9 (fun _ h9 => h9) rfl dX1_copy_2 ?_
  refine x_put (k := 1) (S' := uI S 1 (gI S 6)) (ty := .int) hx hb hts i_X1 tyX1_ok nmX1 hown hK hw (by decide) rfl rfl 0 (by decide) lf_9 (fun _ h9 => h9) rfl (by decide +kernel) rfl rfl (Nat.le_of_ble_eq_true rfl) dX1_copy_5 (uX_I1 X S _) (fun H locs hw => ?_)
  obtain ⟨S_1, eS_1⟩ : ∃ z : gS, z = uI S 1 (gI S 6) := ⟨_, rfl⟩
  rw [← eS_1] at hw
  replace hf := hf S_1 eS_1
  refine lv_aload_n hx hb dX1_copy_8 rfl (lv_at hl 0 rfl) ?_
  refine lv_aload_n hx hb dX1_copy_9 rfl (lv_at hl 1 rfl) ?_
  refine x_get (k := 3) (v := .int (gI S_1 7)) hx hb hts i_X1 hown hK hw (by decide) rfl rfl 1 (by decide) lf_15 (fun _ h9 => h9) rfl dX1_copy_10 ?_
  refine x_put (k := 1) (S' := uI S_1 2 (gI S_1 7)) (ty := .int) hx hb hts i_X1 tyX1_ok nmX1 hown hK hw (by decide) rfl rfl 1 (by decide) lf_15 (fun _ h9 => h9) rfl (by decide +kernel) rfl rfl (Nat.le_of_ble_eq_true rfl) dX1_copy_13 (uX_I2 X S_1 _) (fun H locs hw => ?_)
  obtain ⟨S_2, eS_2⟩ : ∃ z : gS, z = uI S_1 2 (gI S_1 7) := ⟨_, rfl⟩
  rw [← eS_2] at hw
  replace hf := hf S_2 eS_2
  refine lv_aload_n hx hb dX1_copy_16 rfl (lv_at hl 0 rfl) ?_
  refine lv_aload_n hx hb dX1_copy_17 rfl (lv_at hl 1 rfl) ?_
  refine x_get (k := 3) (v := .int (gI S_2 8)) hx hb hts i_X1 hown hK hw (by decide) rfl rfl 2 (by decide) lf_18 (fun _ h9 => h9) rfl dX1_copy_18 ?_
  refine x_put (k := 1) (S' := uI S_2 3 (gI S_2 8)) (ty := .int) hx hb hts i_X1 tyX1_ok nmX1 hown hK hw (by decide) rfl rfl 2 (by decide) lf_18 (fun _ h9 => h9) rfl (by decide +kernel) rfl rfl (Nat.le_of_ble_eq_true rfl) dX1_copy_21 (uX_I3 X S_2 _) (fun H locs hw => ?_)
  obtain ⟨S_3, eS_3⟩ : ∃ z : gS, z = uI S_2 3 (gI S_2 8) := ⟨_, rfl⟩
  rw [← eS_3] at hw
  replace hf := hf S_3 eS_3
  refine lv_aload_n hx hb dX1_copy_24 rfl (lv_at hl 0 rfl) ?_
  refine lv_aload_n hx hb dX1_copy_25 rfl (lv_at hl 1 rfl) ?_
  refine x_get (k := 3) (v := .int (gI S_3 9)) hx hb hts i_X1 hown hK hw (by decide) rfl rfl 3 (by decide) lf_21 (fun _ h9 => h9) rfl dX1_copy_26 ?_
  refine x_put (k := 1) (S' := uI S_3 4 (gI S_3 9)) (ty := .int) hx hb hts i_X1 tyX1_ok nmX1 hown hK hw (by decide) rfl rfl 3 (by decide) lf_21 (fun _ h9 => h9) rfl (by decide +kernel) rfl rfl (Nat.le_of_ble_eq_true rfl) dX1_copy_29 (uX_I4 X S_3 _) (fun H locs hw => ?_)
  obtain ⟨S_4, eS_4⟩ : ∃ z : gS, z = uI S_3 4 (gI S_3 9) := ⟨_, rfl⟩
  rw [← eS_4] at hw
  replace hf := hf S_4 eS_4
  refine lv_iconst (v := 0) hx hb dX1_copy_32 (by decide) ?_
  refine lv_istore_n (lv' := [(2, .int 0), (0, .ref (xa X 1)), (1, .ref (xa X 3))]) hx hb dX1_copy_33 rfl hl (by decide) rfl (fun ls hl => ?_)
  obtain ⟨n_34, hf⟩ := hf
  have w_34 : ∀ (n : Nat) (x2_5 : Int32) (S_6 : gS) (H : Heap) (locs : List Loc) (ls : Array Slot), lp (fun L x => bX1_copy_13_34 Post L x.1 x.2) n (x2_5, S_6) → xH 34 X (cX X) (xA 34 X s.heap.size) s.heap S_6 H locs → lv_has ls 3 [(0, .ref (xa X 1)), (1, .ref (xa X 3)), (2, .int x2_5)] → W p l e rX1_copy_13 s m args below meth c H locs 0 0 Q (F0 m 34 ls []) := by
    intro n
    induction n with
    | zero => intro x2_5 S_6 H locs ls hf; exact hf.elim
    | succ n ih_34 =>
      intro x2_5 S_6 H locs ls hf hw hl
      replace hf : bX1_copy_13_34 Post (lp (fun L x => bX1_copy_13_34 Post L x.1 x.2) n) x2_5 S_6 := hf
      generalize lp (fun L x => bX1_copy_13_34 Post L x.1 x.2) n = L_34 at hf ih_34
      rw [bX1_copy_13_34] at hf
      refine lv_iload_n hx hb dX1_copy_34 rfl (lv_at hl 2 rfl) ?_
      refine lv_aload_n hx hb dX1_copy_35 rfl (lv_at hl 0 rfl) ?_
      refine x_get (k := 1) (v := .ref (xa X 10)) hx hb hts i_X1 hown hK hw (by decide) rfl rfl 4 (by decide) lf_24 (fun _ h9 => h9) rfl dX1_copy_36 ?_
      refine x_len (v := 96) hx hb hK hw (by decide) rfl 0 rfl rfl dX1_copy_39 ?_
      refine lv_icmp_ge (tgt := 70) hx hb dX1_copy_40 (by decide) (fun c_7 => ?_) (fun c_7 => ?_)
      · replace hf := hf.1 c_7
        exact hQ _ _ _ _ _ hf hw dX1_copy_70
      · replace hf := hf.2 c_7
        refine lv_iload_n hx hb dX1_copy_43 rfl (lv_at hl 2 rfl) ?_
        refine lv_aload_n hx hb dX1_copy_44 rfl (lv_at hl 1 rfl) ?_
        refine x_get (k := 3) (v := .ref (xa X 14)) hx hb hts i_X1 hown hK hw (by decide) rfl rfl 4 (by decide) lf_24 (fun _ h9 => h9) rfl dX1_copy_45 ?_
        refine x_len (v := 96) hx hb hK hw (by decide) rfl 0 rfl rfl dX1_copy_48 ?_
        refine lv_icmp_ge (tgt := 70) hx hb dX1_copy_49 (by decide) (fun c_8 => ?_) (fun c_8 => ?_)
        · replace hf := hf.1 c_8
          exact hQ _ _ _ _ _ hf hw dX1_copy_70
        · replace hf := hf.2 c_8
          refine lv_aload_n hx hb dX1_copy_52 rfl (lv_at hl 0 rfl) ?_
          refine x_get (k := 1) (v := .ref (xa X 10)) hx hb hts i_X1 hown hK hw (by decide) rfl rfl 4 (by decide) lf_24 (fun _ h9 => h9) rfl dX1_copy_53 ?_
          refine lv_iload_n hx hb dX1_copy_56 rfl (lv_at hl 2 rfl) ?_
          refine lv_aload_n hx hb dX1_copy_57 rfl (lv_at hl 1 rfl) ?_
          refine x_get (k := 3) (v := .ref (xa X 14)) hx hb hts i_X1 hown hK hw (by decide) rfl rfl 4 (by decide) lf_24 (fun _ h9 => h9) rfl dX1_copy_58 ?_
          refine lv_iload_n hx hb dX1_copy_61 rfl (lv_at hl 2 rfl) ?_
          refine x_ild (n := 96) hx hb hK hw (by decide) rfl rfl hf.1 dX1_copy_62 ?_
          replace hf := hf.2
          refine x_ist (n := 96) hx hb hK hw (by decide) rfl rfl hf.1 dX1_copy_63 (uX_A10 X S_6 _ _) (fun H locs hw => ?_)
          replace hf := hf.2
          obtain ⟨S_9, eS_9⟩ : ∃ z : gS, z = uA S_6 10 x2_5.toNatClampNeg (gA S_6 14 x2_5.toNatClampNeg) := ⟨_, rfl⟩
          rw [← eS_9] at hw
          replace hf := hf S_9 eS_9
          obtain ⟨x2_10, ex2_10⟩ : ∃ y : Int32, y = x2_5 + 1 := ⟨_, rfl⟩
          replace hf := hf x2_10 ex2_10
          refine lv_iinc (v := x2_10) (lv' := [(2, .int x2_10), (0, .ref (xa X 1)), (1, .ref (xa X 3))]) hx hb dX1_copy_64 hl (k := 2) rfl (by rw [ex2_10]; rfl) (by decide) rfl (fun ls hl => ?_)
          refine lv_goto (tgt := 34) hx hb dX1_copy_67 (by decide) ?_
          exact ih_34 x2_10 S_9 _ _ _ hf hw (lv_sub hl [1, 2, 0] rfl)
  exact w_34 n_34 0 S_4 _ _ _ hf hw (lv_sub hl [1, 2, 0] rfl)
def bX1_copy_31_34 (Post : gS → Prop) (L_34 : Int32 × gS → Prop) (x2_5 : Int32) (S_6 : gS) : Prop :=
  ((96 ≤ x2_5 → Post S_6) ∧ (¬ 96 ≤ x2_5 → ((96 ≤ x2_5 → Post S_6) ∧ (¬ 96 ≤ x2_5 → (vp_in x2_5 96 ∧ (vp_in x2_5 96 ∧ (∀ S_9 : gS, S_9 = uA S_6 14 x2_5.toNatClampNeg (gA S_6 10 x2_5.toNatClampNeg) → (∀ x2_10 : Int32, x2_10 = x2_5 + 1 → L_34 (x2_10, S_9)))))))))
def pX1_copy_31 (S : gS) (Post : gS → Prop) : Prop :=
  (∀ S_1 : gS, S_1 = uI S 6 (gI S 1) → (∀ S_2 : gS, S_2 = uI S_1 7 (gI S_1 2) → (∀ S_3 : gS, S_3 = uI S_2 8 (gI S_2 3) → (∀ S_4 : gS, S_4 = uI S_3 9 (gI S_3 4) → ∃ n, lp (fun L x => bX1_copy_31_34 Post L x.1 x.2) n (0, S_4)))))
def rX1_copy_31 : Room := { frames := 0, cells := 0, slots := 0, locals := 0 }
set_option maxHeartbeats 40000000 in
set_option maxRecDepth 100000 in
theorem kX1_copy_31 (l : Launch) (X : xG) (S : gS) (sz : Nat) (Post : gS → Prop) (hf : pX1_copy_31 S Post) : xMv l yX1_copy (Cond.code yX1_copy cX1_copy 3 none :: WS) rX1_copy_31 34 X (cX X) (eX X) S sz [.ref (xa X 3), .ref (xa X 1)] Post := by
  refine xMv.of (cc := cX1_copy) (maxL := 3) (own := RX1) (by decide) rfl rfl (Nat.le_of_ble_eq_true rfl) ?_
  intro p e s m args below meth c ls Q hC hQ hw hl
  obtain ⟨hx, hb, hml, hown, hts, hE, hi⟩ := id hC
  have hK := hE.1
  have hl : lv_has ls 3 [(0, .ref (xa X 3)), (1, .ref (xa X 1))] := hl
  have lf_9 : (Cond.fieldLink RX1 9 "GrammarAmbiguity$Grammar" "nonterminals" "I").before args s = true := hts _ q_49
  have lf_15 : (Cond.fieldLink RX1 15 "GrammarAmbiguity$Grammar" "terminals" "I").before args s = true := hts _ q_50
  have lf_18 : (Cond.fieldLink RX1 18 "GrammarAmbiguity$Grammar" "start" "I").before args s = true := hts _ q_51
  have lf_21 : (Cond.fieldLink RX1 21 "GrammarAmbiguity$Grammar" "productions" "I").before args s = true := hts _ q_52
  have lf_24 : (Cond.fieldLink RX1 24 "GrammarAmbiguity$Grammar" "symbols" "[I").before args s = true := hts _ q_54
  rw [pX1_copy_31] at hf
  refine lv_aload_n hx hb dX1_copy_0 rfl (lv_at hl 0 rfl) ?_
  refine lv_aload_n hx hb dX1_copy_1 rfl (lv_at hl 1 rfl) ?_
  refine x_get (k := 1) (v := .int (gI S 1)) hx hb hts i_X1 hown hK hw (by decide) rfl rfl 0 (by decide) lf_9 (fun _ h9 => h9) rfl dX1_copy_2 ?_
  refine x_put (k := 3) (S' := uI S 6 (gI S 1)) (ty := .int) hx hb hts i_X1 tyX1_ok nmX1 hown hK hw (by decide) rfl rfl 0 (by decide) lf_9 (fun _ h9 => h9) rfl (by decide +kernel) rfl rfl (Nat.le_of_ble_eq_true rfl) dX1_copy_5 (uX_I6 X S _) (fun H locs hw => ?_)
  obtain ⟨S_1, eS_1⟩ : ∃ z : gS, z = uI S 6 (gI S 1) := ⟨_, rfl⟩
  rw [← eS_1] at hw
  replace hf := hf S_1 eS_1
  refine lv_aload_n hx hb dX1_copy_8 rfl (lv_at hl 0 rfl) ?_
  refine lv_aload_n hx hb dX1_copy_9 rfl (lv_at hl 1 rfl) ?_
  refine x_get (k := 1) (v := .int (gI S_1 2)) hx hb hts i_X1 hown hK hw (by decide) rfl rfl 1 (by decide) lf_15 (fun _ h9 => h9) rfl dX1_copy_10 ?_
  refine x_put (k := 3) (S' := uI S_1 7 (gI S_1 2)) (ty := .int) hx hb hts i_X1 tyX1_ok nmX1 hown hK hw (by decide) rfl rfl 1 (by decide) lf_15 (fun _ h9 => h9) rfl (by decide +kernel) rfl rfl (Nat.le_of_ble_eq_true rfl) dX1_copy_13 (uX_I7 X S_1 _) (fun H locs hw => ?_)
  obtain ⟨S_2, eS_2⟩ : ∃ z : gS, z = uI S_1 7 (gI S_1 2) := ⟨_, rfl⟩
  rw [← eS_2] at hw
  replace hf := hf S_2 eS_2
  refine lv_aload_n hx hb dX1_copy_16 rfl (lv_at hl 0 rfl) ?_
  refine lv_aload_n hx hb dX1_copy_17 rfl (lv_at hl 1 rfl) ?_
  refine x_get (k := 1) (v := .int (gI S_2 3)) hx hb hts i_X1 hown hK hw (by decide) rfl rfl 2 (by decide) lf_18 (fun _ h9 => h9) rfl dX1_copy_18 ?_
  refine x_put (k := 3) (S' := uI S_2 8 (gI S_2 3)) (ty := .int) hx hb hts i_X1 tyX1_ok nmX1 hown hK hw (by decide) rfl rfl 2 (by decide) lf_18 (fun _ h9 => h9) rfl (by decide +kernel) rfl rfl (Nat.le_of_ble_eq_true rfl) dX1_copy_21 (uX_I8 X S_2 _) (fun H locs hw => ?_)
  obtain ⟨S_3, eS_3⟩ : ∃ z : gS, z = uI S_2 8 (gI S_2 3) := ⟨_, rfl⟩
  rw [← eS_3] at hw
  replace hf := hf S_3 eS_3
  refine lv_aload_n hx hb dX1_copy_24 rfl (lv_at hl 0 rfl) ?_
  refine lv_aload_n hx hb dX1_copy_25 rfl (lv_at hl 1 rfl) ?_
  refine x_get (k := 1) (v := .int (gI S_3 4)) hx hb hts i_X1 hown hK hw (by decide) rfl rfl 3 (by decide) lf_21 (fun _ h9 => h9) rfl dX1_copy_26 ?_
  refine x_put (k := 3) (S' := uI S_3 9 (gI S_3 4)) (ty := .int) hx hb hts i_X1 tyX1_ok nmX1 hown hK hw (by decide) rfl rfl 3 (by decide) lf_21 (fun _ h9 => h9) rfl (by decide +kernel) rfl rfl (Nat.le_of_ble_eq_true rfl) dX1_copy_29 (uX_I9 X S_3 _) (fun H locs hw => ?_)
  obtain ⟨S_4, eS_4⟩ : ∃ z : gS, z = uI S_3 9 (gI S_3 4) := ⟨_, rfl⟩
  rw [← eS_4] at hw
  replace hf := hf S_4 eS_4
  refine lv_iconst (v := 0) hx hb dX1_copy_32 (by decide) ?_
  refine lv_istore_n (lv' := [(2, .int 0), (0, .ref (xa X 3)), (1, .ref (xa X 1))]) hx hb dX1_copy_33 rfl hl (by decide) rfl (fun ls hl => ?_)
  obtain ⟨n_34, hf⟩ := hf
  have w_34 : ∀ (n : Nat) (x2_5 : Int32) (S_6 : gS) (H : Heap) (locs : List Loc) (ls : Array Slot), lp (fun L x => bX1_copy_31_34 Post L x.1 x.2) n (x2_5, S_6) → xH 34 X (cX X) (xA 34 X s.heap.size) s.heap S_6 H locs → lv_has ls 3 [(0, .ref (xa X 3)), (1, .ref (xa X 1)), (2, .int x2_5)] → W p l e rX1_copy_31 s m args below meth c H locs 0 0 Q (F0 m 34 ls []) := by
    intro n
    induction n with
    | zero => intro x2_5 S_6 H locs ls hf; exact hf.elim
    | succ n ih_34 =>
      intro x2_5 S_6 H locs ls hf hw hl
      replace hf : bX1_copy_31_34 Post (lp (fun L x => bX1_copy_31_34 Post L x.1 x.2) n) x2_5 S_6 := hf
      generalize lp (fun L x => bX1_copy_31_34 Post L x.1 x.2) n = L_34 at hf ih_34
      rw [bX1_copy_31_34] at hf
      refine lv_iload_n hx hb dX1_copy_34 rfl (lv_at hl 2 rfl) ?_
      refine lv_aload_n hx hb dX1_copy_35 rfl (lv_at hl 0 rfl) ?_
      refine x_get (k := 3) (v := .ref (xa X 14)) hx hb hts i_X1 hown hK hw (by decide) rfl rfl 4 (by decide) lf_24 (fun _ h9 => h9) rfl dX1_copy_36 ?_
      refine x_len (v := 96) hx hb hK hw (by decide) rfl 0 rfl rfl dX1_copy_39 ?_
      refine lv_icmp_ge (tgt := 70) hx hb dX1_copy_40 (by decide) (fun c_7 => ?_) (fun c_7 => ?_)
      · replace hf := hf.1 c_7
        exact hQ _ _ _ _ _ hf hw dX1_copy_70
      · replace hf := hf.2 c_7
        refine lv_iload_n hx hb dX1_copy_43 rfl (lv_at hl 2 rfl) ?_
        refine lv_aload_n hx hb dX1_copy_44 rfl (lv_at hl 1 rfl) ?_
        refine x_get (k := 1) (v := .ref (xa X 10)) hx hb hts i_X1 hown hK hw (by decide) rfl rfl 4 (by decide) lf_24 (fun _ h9 => h9) rfl dX1_copy_45 ?_
        refine x_len (v := 96) hx hb hK hw (by decide) rfl 0 rfl rfl dX1_copy_48 ?_
        refine lv_icmp_ge (tgt := 70) hx hb dX1_copy_49 (by decide) (fun c_8 => ?_) (fun c_8 => ?_)
        · replace hf := hf.1 c_8
          exact hQ _ _ _ _ _ hf hw dX1_copy_70
        · replace hf := hf.2 c_8
          refine lv_aload_n hx hb dX1_copy_52 rfl (lv_at hl 0 rfl) ?_
          refine x_get (k := 3) (v := .ref (xa X 14)) hx hb hts i_X1 hown hK hw (by decide) rfl rfl 4 (by decide) lf_24 (fun _ h9 => h9) rfl dX1_copy_53 ?_
          refine lv_iload_n hx hb dX1_copy_56 rfl (lv_at hl 2 rfl) ?_
          refine lv_aload_n hx hb dX1_copy_57 rfl (lv_at hl 1 rfl) ?_
          refine x_get (k := 1) (v := .ref (xa X 10)) hx hb hts i_X1 hown hK hw (by decide) rfl rfl 4 (by decide) lf_24 (fun _ h9 => h9) rfl dX1_copy_58 ?_
          refine lv_iload_n hx hb dX1_copy_61 rfl (lv_at hl 2 rfl) ?_
          refine x_ild (n := 96) hx hb hK hw (by decide) rfl rfl hf.1 dX1_copy_62 ?_
          replace hf := hf.2
          refine x_ist (n := 96) hx hb hK hw (by decide) rfl rfl hf.1 dX1_copy_63 (uX_A14 X S_6 _ _) (fun H locs hw => ?_)
          replace hf := hf.2
          obtain ⟨S_9, eS_9⟩ : ∃ z : gS, z = uA S_6 14 x2_5.toNatClampNeg (gA S_6 10 x2_5.toNatClampNeg) := ⟨_, rfl⟩
          rw [← eS_9] at hw
          replace hf := hf S_9 eS_9
          obtain ⟨x2_10, ex2_10⟩ : ∃ y : Int32, y = x2_5 + 1 := ⟨_, rfl⟩
          replace hf := hf x2_10 ex2_10
          refine lv_iinc (v := x2_10) (lv' := [(2, .int x2_10), (0, .ref (xa X 3)), (1, .ref (xa X 1))]) hx hb dX1_copy_64 hl (k := 2) rfl (by rw [ex2_10]; rfl) (by decide) rfl (fun ls hl => ?_)
          refine lv_goto (tgt := 34) hx hb dX1_copy_67 (by decide) ?_
          exact ih_34 x2_10 S_9 _ _ _ hf hw (lv_sub hl [1, 2, 0] rfl)
  exact w_34 n_34 0 S_4 _ _ _ hf hw (lv_sub hl [1, 2, 0] rfl)
