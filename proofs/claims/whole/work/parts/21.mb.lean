/-! Printed by wip/whole/gen: what each method asks (p..), and its contract under that (k..). -/
def jX9_shortestOf_40 (S : gS) (x2_1 : Int32) (x3_2 : Int32) (L_4 : Int32 × Int32 → Prop) (x4_5 : Int32) : Prop :=
  ((0 ≤ x4_5 → (pX9_isNonterminal x4_5 S (fun r_9 => ((r_9 = 0 → (∀ x2_12 : Int32, x2_12 = (x2_1 + 1) → (∀ x3_13 : Int32, x3_13 = x3_2 + 1 → L_4 (x2_12, x3_13)))) ∧ (¬ r_9 = 0 → (vp_in x4_5 6 ∧ (∀ x2_14 : Int32, x2_14 = (x2_1 + (gA S 3 x4_5.toNatClampNeg)) → (∀ x3_15 : Int32, x3_15 = x3_2 + 1 → L_4 (x2_14, x3_15))))))))) ∧ (¬ 0 ≤ x4_5 → (∀ x2_16 : Int32, x2_16 = (x2_1 + 0) → (∀ x3_17 : Int32, x3_17 = x3_2 + 1 → L_4 (x2_16, x3_17)))))
def bX9_shortestOf_4 (p0 : Int32) (S : gS) (Post : Int32 → Prop) (L_4 : Int32 × Int32 → Prop) (x2_1 : Int32) (x3_2 : Int32) : Prop :=
  ((4 ≤ x3_2 → Post x2_1) ∧ (¬ 4 ≤ x3_2 → (vp_in p0 24 ∧ (vp_in x3_2 4 ∧ (∀ x4_5 : Int32, x4_5 = gA S (16 + p0.toNatClampNeg) x3_2.toNatClampNeg → (pX9_isNonterminal x4_5 S (fun r_6 => ((r_6 = 0 → jX9_shortestOf_40 S x2_1 x3_2 L_4 x4_5) ∧ (¬ r_6 = 0 → (vp_in x4_5 6 ∧ ((¬ (gA S 3 x4_5.toNatClampNeg) = 0 → jX9_shortestOf_40 S x2_1 x3_2 L_4 x4_5) ∧ ((gA S 3 x4_5.toNatClampNeg) = 0 → Post 0))))))))))))
def pX9_shortestOf (p0 : Int32) (S : gS) (Post : Int32 → Prop) : Prop :=
  ∃ n, lp (fun L x => bX9_shortestOf_4 p0 S Post L x.1 x.2) n (0, 1)
def rX9_shortestOf : Room := { frames := 2, cells := 0, slots := 0, locals := 43 }
set_option maxHeartbeats 40000000 in
set_option maxRecDepth 100000 in
theorem kX9_shortestOf (l : Launch) (X : xG) (S : gS) (sz : Nat) (p0 : Int32) (Post : Int32 → Prop) (hf : pX9_shortestOf p0 S Post) : xMi l yX9_shortestOf (Cond.code yX9_shortestOf cX9_shortestOf 5 (some .int) :: WS) rX9_shortestOf 133 X (cM X) (eM X) S sz [.ref (xa X 0), .int p0] (fun r S' => Post r ∧ S = S') := by
  refine xMi.of (cc := cX9_shortestOf) (maxL := 5) (own := RX9) (by decide) rfl rfl (Nat.le_of_ble_eq_true rfl) ?_
  intro p e s m args below meth c ls Q hC hQ hw hl
  obtain ⟨hx, hb, hml, hown, hts, hE, hi⟩ := id hC
  have hK := hE.1
  have hl : lv_has ls 5 [(0, .ref (xa X 0)), (1, .int p0)] := hl
  have lf_18 : (Cond.fieldLink RX9 18 "GrammarAmbiguityModel" "symbols" "[[I").before args s = true := hts _ q_110
  have lf_25 : (Cond.fieldLink RX9 25 "GrammarAmbiguityModel" "shortest" "[I").before args s = true := hts _ q_112
  rw [pX9_shortestOf] at hf
  refine lv_iconst (v := 0) hx hb dX9_shortestOf_0 (by decide) ?_
  refine lv_istore_n (lv' := [(2, .int 0), (0, .ref (xa X 0)), (1, .int p0)]) hx hb dX9_shortestOf_1 rfl hl (by decide) rfl (fun ls hl => ?_)
  refine lv_iconst (v := 1) hx hb dX9_shortestOf_2 (by decide) ?_
  refine lv_istore_n (lv' := [(3, .int 1), (2, .int 0), (0, .ref (xa X 0)), (1, .int p0)]) hx hb dX9_shortestOf_3 rfl hl (by decide) rfl (fun ls hl => ?_)
  obtain ⟨n_4, hf⟩ := hf
  have w_4 : ∀ (n : Nat) (x2_1 : Int32) (x3_2 : Int32) (H : Heap) (locs : List Loc) (ls : Array Slot), lp (fun L x => bX9_shortestOf_4 p0 S Post L x.1 x.2) n (x2_1, x3_2) → xH 133 X (cM X) (xA 133 X s.heap.size) s.heap S H locs → lv_has ls 5 [(0, .ref (xa X 0)), (1, .int p0), (2, .int x2_1), (3, .int x3_2)] → W p l e rX9_shortestOf s m args below meth c H locs 0 0 Q (F0 m 4 ls []) := by
    intro n
    induction n with
    | zero => intro x2_1 x3_2 H locs ls hf; exact hf.elim
    | succ n ih_4 =>
      intro x2_1 x3_2 H locs ls hf hw hl
      replace hf : bX9_shortestOf_4 p0 S Post (lp (fun L x => bX9_shortestOf_4 p0 S Post L x.1 x.2) n) x2_1 x3_2 := hf
      generalize lp (fun L x => bX9_shortestOf_4 p0 S Post L x.1 x.2) n = L_4 at hf ih_4
      rw [bX9_shortestOf_4] at hf
      refine lv_iload_n hx hb dX9_shortestOf_4 rfl (lv_at hl 3 rfl) ?_
      refine lv_iconst (v := 4) hx hb dX9_shortestOf_5 (by decide) ?_
      refine lv_icmp_ge (tgt := 78) hx hb dX9_shortestOf_6 (by decide) (fun c_3 => ?_) (fun c_3 => ?_)
      · replace hf := hf.1 c_3
        refine lv_iload_n hx hb dX9_shortestOf_78 rfl (lv_at hl 2 rfl) ?_
        exact hQ _ _ _ _ _ _ rfl ⟨hf, rfl⟩ hw dX9_shortestOf_79
      · replace hf := hf.2 c_3
        refine lv_aload_n hx hb dX9_shortestOf_9 rfl (lv_at hl 0 rfl) ?_
        refine x_get (k := 0) (v := .ref (xa X 1)) hx hb hts i_X9 hown hK hw (by decide) rfl rfl 5 (by decide) lf_18 (fun _ h9 => h9) rfl dX9_shortestOf_10 ?_
        refine lv_iload_n hx hb dX9_shortestOf_13 rfl (lv_at hl 1 rfl) ?_
        have hb_4 := vp_lt hf.1
        refine x_ald (n := 24) (v := .ref (xa X (16 + p0.toNatClampNeg))) hx hb hK hw (by decide) rfl 3 rfl rfl hf.1 (rf_lt hb_4) dX9_shortestOf_14 ?_
        replace hf := hf.2
        refine lv_iload_n hx hb dX9_shortestOf_15 rfl (lv_at hl 3 rfl) ?_
        refine x_ild (n := 4) hx hb hK hw (by omega) (cM_sy hb_4) rfl hf.1 dX9_shortestOf_16 ?_
        replace hf := hf.2
        refine lv_topi (fun x4_5 ex4_5 => ?_)
        replace hf := hf x4_5 ex4_5
        refine lv_istore (lv' := [(4, .int x4_5), (0, .ref (xa X 0)), (1, .int p0), (2, .int x2_1), (3, .int x3_2)]) hx hb dX9_shortestOf_17 hl (by decide) rfl (fun ls hl => ?_)
        refine lv_aload_n hx hb dX9_shortestOf_19 rfl (lv_at hl 1 rfl) ?_
        refine lv_iload hx hb dX9_shortestOf_20 (lv_at hl 0 rfl) ?_
        refine x_ci (x_rV (As := [.int x4_5]) (rest := []) (okM X) hC hw (kX9_isNonterminal l X S _ x4_5 _ hf) (cwV 1 hts (gV q_214 q_215 q_216 q_5 q_217) rfl rfl rfl (by decide +kernel) ⟨Nat.le_of_ble_eq_true rfl, Nat.le_of_ble_eq_true rfl⟩) (x_recv hK hw (k := 0) (by decide) rfl rfl) rfl hl.1 rfl (Nat.le_of_ble_eq_true rfl) dX9_shortestOf_22) hw hi (fun r_6 S_7 H locs hf hw => ?_)
        obtain ⟨hf, rfl⟩ := hf
        have w_40 : ∀ (H : Heap) (locs : List Loc) (ls : Array Slot), jX9_shortestOf_40 S x2_1 x3_2 L_4 x4_5 → xH 133 X (cM X) (xA 133 X s.heap.size) s.heap S H locs → lv_has ls 5 [(0, .ref (xa X 0)), (1, .int p0), (2, .int x2_1), (3, .int x3_2), (4, .int x4_5)] → W p l e rX9_shortestOf s m args below meth c H locs 0 0 Q (F0 m 40 ls []) := by
          intro H locs ls hf hw hl
          rw [jX9_shortestOf_40] at hf
          refine lv_iload_n hx hb dX9_shortestOf_40 rfl (lv_at hl 2 rfl) ?_
          refine lv_iload hx hb dX9_shortestOf_41 (lv_at hl 4 rfl) ?_
          refine lv_if_ge (tgt := 50) hx hb dX9_shortestOf_43 (by decide) (fun c_8 => ?_) (fun c_8 => ?_)
          · replace hf := hf.1 c_8
            refine lv_aload_n hx hb dX9_shortestOf_50 rfl (lv_at hl 0 rfl) ?_
            refine lv_iload hx hb dX9_shortestOf_51 (lv_at hl 4 rfl) ?_
            refine x_ci (x_rV (As := [.int x4_5]) (rest := [.int x2_1]) (okM X) hC hw (kX9_isNonterminal l X S _ x4_5 _ hf) (cwV 1 hts (gV q_214 q_215 q_216 q_5 q_217) rfl rfl rfl (by decide +kernel) ⟨Nat.le_of_ble_eq_true rfl, Nat.le_of_ble_eq_true rfl⟩) (x_recv hK hw (k := 0) (by decide) rfl rfl) rfl hl.1 rfl (Nat.le_of_ble_eq_true rfl) dX9_shortestOf_53) hw hi (fun r_9 S_10 H locs hf hw => ?_)
            obtain ⟨hf, rfl⟩ := hf
            refine lv_if_eq (tgt := 69) hx hb dX9_shortestOf_56 (by decide) (fun c_11 => ?_) (fun c_11 => ?_)
            · replace hf := hf.1 c_11
              refine lv_iconst (v := 1) hx hb dX9_shortestOf_69 (by decide) ?_
              refine lv_iadd hx hb dX9_shortestOf_70 ?_
              refine lv_topi (fun x2_12 ex2_12 => ?_)
              replace hf := hf x2_12 ex2_12
              refine lv_istore_n (lv' := [(2, .int x2_12), (0, .ref (xa X 0)), (1, .int p0), (3, .int x3_2), (4, .int x4_5)]) hx hb dX9_shortestOf_71 rfl hl (by decide) rfl (fun ls hl => ?_)
              obtain ⟨x3_13, ex3_13⟩ : ∃ y : Int32, y = x3_2 + 1 := ⟨_, rfl⟩
              replace hf := hf x3_13 ex3_13
              refine lv_iinc (v := x3_13) (lv' := [(3, .int x3_13), (2, .int x2_12), (0, .ref (xa X 0)), (1, .int p0), (4, .int x4_5)]) hx hb dX9_shortestOf_72 hl (k := 3) rfl (by rw [ex3_13]; rfl) (by decide) rfl (fun ls hl => ?_)
              refine lv_goto (tgt := 4) hx hb dX9_shortestOf_75 (by decide) ?_
              exact ih_4 x2_12 x3_13 _ _ _ hf hw (lv_sub hl [2, 3, 1, 0] rfl)
            · replace hf := hf.2 c_11
              refine lv_aload_n hx hb dX9_shortestOf_59 rfl (lv_at hl 0 rfl) ?_
              refine x_get (k := 0) (v := .ref (xa X 3)) hx hb hts i_X9 hown hK hw (by decide) rfl rfl 8 (by decide) lf_25 (fun _ h9 => h9) rfl dX9_shortestOf_60 ?_
              refine lv_iload hx hb dX9_shortestOf_63 (lv_at hl 4 rfl) ?_
              refine x_ild (n := 6) hx hb hK hw (by decide) rfl rfl hf.1 dX9_shortestOf_65 ?_
              replace hf := hf.2
              refine lv_goto (tgt := 70) hx hb dX9_shortestOf_66 (by decide) ?_
              refine lv_iadd hx hb dX9_shortestOf_70 ?_
              refine lv_topi (fun x2_14 ex2_14 => ?_)
              replace hf := hf x2_14 ex2_14
              refine lv_istore_n (lv' := [(2, .int x2_14), (0, .ref (xa X 0)), (1, .int p0), (3, .int x3_2), (4, .int x4_5)]) hx hb dX9_shortestOf_71 rfl hl (by decide) rfl (fun ls hl => ?_)
              obtain ⟨x3_15, ex3_15⟩ : ∃ y : Int32, y = x3_2 + 1 := ⟨_, rfl⟩
              replace hf := hf x3_15 ex3_15
              refine lv_iinc (v := x3_15) (lv' := [(3, .int x3_15), (2, .int x2_14), (0, .ref (xa X 0)), (1, .int p0), (4, .int x4_5)]) hx hb dX9_shortestOf_72 hl (k := 3) rfl (by rw [ex3_15]; rfl) (by decide) rfl (fun ls hl => ?_)
              refine lv_goto (tgt := 4) hx hb dX9_shortestOf_75 (by decide) ?_
              exact ih_4 x2_14 x3_15 _ _ _ hf hw (lv_sub hl [2, 3, 1, 0] rfl)
          · replace hf := hf.2 c_8
            refine lv_iconst (v := 0) hx hb dX9_shortestOf_46 (by decide) ?_
            refine lv_goto (tgt := 70) hx hb dX9_shortestOf_47 (by decide) ?_
            refine lv_iadd hx hb dX9_shortestOf_70 ?_
            refine lv_topi (fun x2_16 ex2_16 => ?_)
            replace hf := hf x2_16 ex2_16
            refine lv_istore_n (lv' := [(2, .int x2_16), (0, .ref (xa X 0)), (1, .int p0), (3, .int x3_2), (4, .int x4_5)]) hx hb dX9_shortestOf_71 rfl hl (by decide) rfl (fun ls hl => ?_)
            obtain ⟨x3_17, ex3_17⟩ : ∃ y : Int32, y = x3_2 + 1 := ⟨_, rfl⟩
            replace hf := hf x3_17 ex3_17
            refine lv_iinc (v := x3_17) (lv' := [(3, .int x3_17), (2, .int x2_16), (0, .ref (xa X 0)), (1, .int p0), (4, .int x4_5)]) hx hb dX9_shortestOf_72 hl (k := 3) rfl (by rw [ex3_17]; rfl) (by decide) rfl (fun ls hl => ?_)
            refine lv_goto (tgt := 4) hx hb dX9_shortestOf_75 (by decide) ?_
            exact ih_4 x2_16 x3_17 _ _ _ hf hw (lv_sub hl [2, 3, 1, 0] rfl)
        refine lv_if_eq (tgt := 40) hx hb dX9_shortestOf_25 (by decide) (fun c_18 => ?_) (fun c_18 => ?_)
        · replace hf := hf.1 c_18
          exact w_40  _ _ _ hf hw (lv_sub hl [1, 2, 3, 4, 0] rfl)
        · replace hf := hf.2 c_18
          refine lv_aload_n hx hb dX9_shortestOf_28 rfl (lv_at hl 1 rfl) ?_
          refine x_get (k := 0) (v := .ref (xa X 3)) hx hb hts i_X9 hown hK hw (by decide) rfl rfl 8 (by decide) lf_25 (fun _ h9 => h9) rfl dX9_shortestOf_29 ?_
          refine lv_iload hx hb dX9_shortestOf_32 (lv_at hl 0 rfl) ?_
          refine x_ild (n := 6) hx hb hK hw (by decide) rfl rfl hf.1 dX9_shortestOf_34 ?_
          replace hf := hf.2
          refine lv_if_ne (tgt := 40) hx hb dX9_shortestOf_35 (by decide) (fun c_19 => ?_) (fun c_19 => ?_)
          · replace hf := hf.1 c_19
            exact w_40  _ _ _ hf hw (lv_sub hl [1, 2, 3, 4, 0] rfl)
          · replace hf := hf.2 c_19
            refine lv_iconst (v := 0) hx hb dX9_shortestOf_38 (by decide) ?_
            exact hQ _ _ _ _ _ _ rfl ⟨hf, rfl⟩ hw dX9_shortestOf_39
  exact w_4 n_4 0 1 _ _ _ hf hw (lv_sub hl [2, 3, 1, 0] rfl)
def bX9_findShortest_31 (L_23 : Int32 × gS → Prop) (L_31 : Int32 × Int32 × gS → Prop) (x1_7 : Int32) (x2_8 : Int32) (S_9 : gS) : Prop :=
  (((gI S_9 4) ≤ x2_8 → L_23 (x1_7, S_9)) ∧ (¬ (gI S_9 4) ≤ x2_8 → (pX9_shortestOf x2_8 S_9 (fun r_11 => (vp_in x2_8 24 ∧ (vp_in (0 : Int32) 4 ∧ (∀ x4_14 : Int32, x4_14 = gA S_9 (16 + x2_8.toNatClampNeg) (0 : Int32).toNatClampNeg → ((r_11 ≤ 0 → (∀ x2_16 : Int32, x2_16 = x2_8 + 1 → L_31 (x1_7, x2_16, S_9))) ∧ (¬ r_11 ≤ 0 → (vp_in x4_14 6 ∧ (((gA S_9 3 x4_14.toNatClampNeg) = 0 → (vp_in x4_14 6 ∧ (∀ S_18 : gS, S_18 = uA S_9 3 x4_14.toNatClampNeg r_11 → (∀ x2_19 : Int32, x2_19 = x2_8 + 1 → L_31 (1, x2_19, S_18))))) ∧ (¬ (gA S_9 3 x4_14.toNatClampNeg) = 0 → (vp_in x4_14 6 ∧ (((gA S_9 3 x4_14.toNatClampNeg) ≤ r_11 → (∀ x2_21 : Int32, x2_21 = x2_8 + 1 → L_31 (x1_7, x2_21, S_9))) ∧ (¬ (gA S_9 3 x4_14.toNatClampNeg) ≤ r_11 → (vp_in x4_14 6 ∧ (∀ S_22 : gS, S_22 = uA S_9 3 x4_14.toNatClampNeg r_11 → (∀ x2_23 : Int32, x2_23 = x2_8 + 1 → L_31 (1, x2_23, S_22)))))))))))))))))))
def bX9_findShortest_23 (Post : gS → Prop) (L_23 : Int32 × gS → Prop) (x1_4 : Int32) (S_5 : gS) : Prop :=
  ((x1_4 = 0 → Post S_5) ∧ (¬ x1_4 = 0 → ∃ n, lp (fun L x => bX9_findShortest_31 L_23 L x.1 x.2.1 x.2.2) n (0, 0, S_5)))
def bX9_findShortest_2 (Post : gS → Prop) (L_2 : Int32 × gS → Prop) (x1_1 : Int32) (S_2 : gS) : Prop :=
  ((6 ≤ x1_1 → ∃ n, lp (fun L x => bX9_findShortest_23 Post L x.1 x.2) n (1, S_2)) ∧ (¬ 6 ≤ x1_1 → (vp_in x1_1 6 ∧ (∀ S_24 : gS, S_24 = uA S_2 3 x1_1.toNatClampNeg 0 → (∀ x1_25 : Int32, x1_25 = x1_1 + 1 → L_2 (x1_25, S_24))))))
def pX9_findShortest (S : gS) (Post : gS → Prop) : Prop :=
  ∃ n, lp (fun L x => bX9_findShortest_2 Post L x.1 x.2) n (0, S)
def rX9_findShortest : Room := { frames := 3, cells := 0, slots := 0, locals := 67 }
set_option maxHeartbeats 40000000 in
set_option maxRecDepth 100000 in
theorem kX9_findShortest (l : Launch) (X : xG) (S : gS) (sz : Nat) (Post : gS → Prop) (hf : pX9_findShortest S Post) : xMv l yX9_findShortest (Cond.code yX9_findShortest cX9_findShortest 5 none :: WS) rX9_findShortest 133 X (cM X) (eM X) S sz [.ref (xa X 0)] Post := by
  refine xMv.of (cc := cX9_findShortest) (maxL := 5) (own := RX9) (by decide) rfl rfl (Nat.le_of_ble_eq_true rfl) ?_
  intro p e s m args below meth c ls Q hC hQ hw hl
  obtain ⟨hx, hb, hml, hown, hts, hE, hi⟩ := id hC
  have hK := hE.1
  have hl : lv_has ls 5 [(0, .ref (xa X 0))] := hl
  have lf_76 : (Cond.fieldLink RX9 76 "GrammarAmbiguityModel" "productions" "I").before args s = true := hts _ q_157
  have lf_18 : (Cond.fieldLink RX9 18 "GrammarAmbiguityModel" "symbols" "[[I").before args s = true := hts _ q_110
  have lf_25 : (Cond.fieldLink RX9 25 "GrammarAmbiguityModel" "shortest" "[I").before args s = true := hts _ q_112
  rw [pX9_findShortest] at hf
  refine lv_iconst (v := 0) hx hb dX9_findShortest_0 (by decide) ?_
  refine lv_istore_n (lv' := [(1, .int 0), (0, .ref (xa X 0))]) hx hb dX9_findShortest_1 rfl hl (by decide) rfl (fun ls hl => ?_)
  obtain ⟨n_2, hf⟩ := hf
  have w_2 : ∀ (n : Nat) (x1_1 : Int32) (S_2 : gS) (H : Heap) (locs : List Loc) (ls : Array Slot), lp (fun L x => bX9_findShortest_2 Post L x.1 x.2) n (x1_1, S_2) → xH 133 X (cM X) (xA 133 X s.heap.size) s.heap S_2 H locs → lv_has ls 5 [(0, .ref (xa X 0)), (1, .int x1_1)] → W p l e rX9_findShortest s m args below meth c H locs 0 0 Q (F0 m 2 ls []) := by
    intro n
    induction n with
    | zero => intro x1_1 S_2 H locs ls hf; exact hf.elim
    | succ n ih_2 =>
      intro x1_1 S_2 H locs ls hf hw hl
      replace hf : bX9_findShortest_2 Post (lp (fun L x => bX9_findShortest_2 Post L x.1 x.2) n) x1_1 S_2 := hf
      generalize lp (fun L x => bX9_findShortest_2 Post L x.1 x.2) n = L_2 at hf ih_2
      rw [bX9_findShortest_2] at hf
      refine lv_iload_n hx hb dX9_findShortest_2 rfl (lv_at hl 1 rfl) ?_
      refine lv_bipush (v := 6) hx hb dX9_findShortest_3 (by decide) ?_
      refine lv_icmp_ge (tgt := 21) hx hb dX9_findShortest_5 (by decide) (fun c_3 => ?_) (fun c_3 => ?_)
      · replace hf := hf.1 c_3
        refine lv_iconst (v := 1) hx hb dX9_findShortest_21 (by decide) ?_
        refine lv_istore_n (lv' := [(1, .int 1), (0, .ref (xa X 0))]) hx hb dX9_findShortest_22 rfl hl (by decide) rfl (fun ls hl => ?_)
        obtain ⟨n_23, hf⟩ := hf
        have w_23 : ∀ (n : Nat) (x1_4 : Int32) (S_5 : gS) (H : Heap) (locs : List Loc) (ls : Array Slot), lp (fun L x => bX9_findShortest_23 Post L x.1 x.2) n (x1_4, S_5) → xH 133 X (cM X) (xA 133 X s.heap.size) s.heap S_5 H locs → lv_has ls 5 [(0, .ref (xa X 0)), (1, .int x1_4)] → W p l e rX9_findShortest s m args below meth c H locs 0 0 Q (F0 m 23 ls []) := by
          intro n
          induction n with
          | zero => intro x1_4 S_5 H locs ls hf; exact hf.elim
          | succ n ih_23 =>
            intro x1_4 S_5 H locs ls hf hw hl
            replace hf : bX9_findShortest_23 Post (lp (fun L x => bX9_findShortest_23 Post L x.1 x.2) n) x1_4 S_5 := hf
            generalize lp (fun L x => bX9_findShortest_23 Post L x.1 x.2) n = L_23 at hf ih_23
            rw [bX9_findShortest_23] at hf
            refine lv_iload_n hx hb dX9_findShortest_23 rfl (lv_at hl 1 rfl) ?_
            refine lv_if_eq (tgt := 99) hx hb dX9_findShortest_24 (by decide) (fun c_6 => ?_) (fun c_6 => ?_)
            · replace hf := hf.1 c_6
              exact hQ _ _ _ _ _ hf hw dX9_findShortest_99
            · replace hf := hf.2 c_6
              refine lv_iconst (v := 0) hx hb dX9_findShortest_27 (by decide) ?_
              refine lv_istore_n (lv' := [(1, .int 0), (0, .ref (xa X 0))]) hx hb dX9_findShortest_28 rfl hl (by decide) rfl (fun ls hl => ?_)
              refine lv_iconst (v := 0) hx hb dX9_findShortest_29 (by decide) ?_
              refine lv_istore_n (lv' := [(2, .int 0), (1, .int 0), (0, .ref (xa X 0))]) hx hb dX9_findShortest_30 rfl hl (by decide) rfl (fun ls hl => ?_)
              obtain ⟨n_31, hf⟩ := hf
              have w_31 : ∀ (n : Nat) (x1_7 : Int32) (x2_8 : Int32) (S_9 : gS) (H : Heap) (locs : List Loc) (ls : Array Slot), lp (fun L x => bX9_findShortest_31 L_23 L x.1 x.2.1 x.2.2) n (x1_7, x2_8, S_9) → xH 133 X (cM X) (xA 133 X s.heap.size) s.heap S_9 H locs → lv_has ls 5 [(0, .ref (xa X 0)), (1, .int x1_7), (2, .int x2_8)] → W p l e rX9_findShortest s m args below meth c H locs 0 0 Q (F0 m 31 ls []) := by
                intro n
                induction n with
                | zero => intro x1_7 x2_8 S_9 H locs ls hf; exact hf.elim
                | succ n ih_31 =>
                  intro x1_7 x2_8 S_9 H locs ls hf hw hl
                  replace hf : bX9_findShortest_31 L_23 (lp (fun L x => bX9_findShortest_31 L_23 L x.1 x.2.1 x.2.2) n) x1_7 x2_8 S_9 := hf
                  generalize lp (fun L x => bX9_findShortest_31 L_23 L x.1 x.2.1 x.2.2) n = L_31 at hf ih_31
                  rw [bX9_findShortest_31] at hf
                  refine lv_iload_n hx hb dX9_findShortest_31 rfl (lv_at hl 2 rfl) ?_
                  refine lv_aload_n hx hb dX9_findShortest_32 rfl (lv_at hl 0 rfl) ?_
                  refine x_get (k := 0) (v := .int (gI S_9 4)) hx hb hts i_X9 hown hK hw (by decide) rfl rfl 4 (by decide) lf_76 (fun _ h9 => h9) rfl dX9_findShortest_33 ?_
                  refine lv_icmp_ge (tgt := 96) hx hb dX9_findShortest_36 (by decide) (fun c_10 => ?_) (fun c_10 => ?_)
                  · replace hf := hf.1 c_10
                    refine lv_goto (tgt := 23) hx hb dX9_findShortest_96 (by decide) ?_
                    exact ih_23 x1_7 S_9 _ _ _ hf hw (lv_sub hl [0, 1] rfl)
                  · replace hf := hf.2 c_10
                    refine lv_aload_n hx hb dX9_findShortest_39 rfl (lv_at hl 0 rfl) ?_
                    refine lv_iload_n hx hb dX9_findShortest_40 rfl (lv_at hl 2 rfl) ?_
                    refine x_ci (x_rV (As := [.int x2_8]) (rest := []) (okM X) hC hw (kX9_shortestOf l X S_9 _ x2_8 _ hf) (cwV 1 hts (gV q_296 q_297 q_298 q_5 q_299) rfl rfl rfl (by decide +kernel) ⟨Nat.le_of_ble_eq_true rfl, Nat.le_of_ble_eq_true rfl⟩) (x_recv hK hw (k := 0) (by decide) rfl rfl) rfl hl.1 rfl (Nat.le_of_ble_eq_true rfl) dX9_findShortest_41) hw hi (fun r_11 S_12 H locs hf hw => ?_)
                    obtain ⟨hf, rfl⟩ := hf
                    refine lv_istore_n (lv' := [(3, .int r_11), (0, .ref (xa X 0)), (1, .int x1_7), (2, .int x2_8)]) hx hb dX9_findShortest_44 rfl hl (by decide) rfl (fun ls hl => ?_)
                    refine lv_aload_n hx hb dX9_findShortest_45 rfl (lv_at hl 1 rfl) ?_
                    refine x_get (k := 0) (v := .ref (xa X 1)) hx hb hts i_X9 hown hK hw (by decide) rfl rfl 5 (by decide) lf_18 (fun _ h9 => h9) rfl dX9_findShortest_46 ?_
                    refine lv_iload_n hx hb dX9_findShortest_49 rfl (lv_at hl 3 rfl) ?_
                    have hb_13 := vp_lt hf.1
                    refine x_ald (n := 24) (v := .ref (xa X (16 + x2_8.toNatClampNeg))) hx hb hK hw (by decide) rfl 3 rfl rfl hf.1 (rf_lt hb_13) dX9_findShortest_50 ?_
                    replace hf := hf.2
                    refine lv_iconst (v := 0) hx hb dX9_findShortest_51 (by decide) ?_
                    refine x_ild (n := 4) hx hb hK hw (by omega) (cM_sy hb_13) rfl hf.1 dX9_findShortest_52 ?_
                    replace hf := hf.2
                    refine lv_topi (fun x4_14 ex4_14 => ?_)
                    replace hf := hf x4_14 ex4_14
                    refine lv_istore (lv' := [(4, .int x4_14), (3, .int r_11), (0, .ref (xa X 0)), (1, .int x1_7), (2, .int x2_8)]) hx hb dX9_findShortest_53 hl (by decide) rfl (fun ls hl => ?_)
                    refine lv_iload_n hx hb dX9_findShortest_55 rfl (lv_at hl 1 rfl) ?_
                    refine lv_if_le (tgt := 90) hx hb dX9_findShortest_56 (by decide) (fun c_15 => ?_) (fun c_15 => ?_)
                    · replace hf := hf.1 c_15
                      obtain ⟨x2_16, ex2_16⟩ : ∃ y : Int32, y = x2_8 + 1 := ⟨_, rfl⟩
                      replace hf := hf x2_16 ex2_16
                      refine lv_iinc (v := x2_16) (lv' := [(2, .int x2_16), (4, .int x4_14), (3, .int r_11), (0, .ref (xa X 0)), (1, .int x1_7)]) hx hb dX9_findShortest_90 hl (k := 4) rfl (by rw [ex2_16]; rfl) (by decide) rfl (fun ls hl => ?_)
                      refine lv_goto (tgt := 31) hx hb dX9_findShortest_93 (by decide) ?_
                      exact ih_31 x1_7 x2_16 S_9 _ _ _ hf hw (lv_sub hl [3, 4, 0] rfl)
                    · replace hf := hf.2 c_15
                      refine lv_aload_n hx hb dX9_findShortest_59 rfl (lv_at hl 2 rfl) ?_
                      refine x_get (k := 0) (v := .ref (xa X 3)) hx hb hts i_X9 hown hK hw (by decide) rfl rfl 8 (by decide) lf_25 (fun _ h9 => h9) rfl dX9_findShortest_60 ?_
                      refine lv_iload hx hb dX9_findShortest_63 (lv_at hl 0 rfl) ?_
                      refine x_ild (n := 6) hx hb hK hw (by decide) rfl rfl hf.1 dX9_findShortest_65 ?_
                      replace hf := hf.2
                      refine lv_if_eq (tgt := 80) hx hb dX9_findShortest_66 (by decide) (fun c_17 => ?_) (fun c_17 => ?_)
                      · replace hf := hf.1 c_17
                        refine lv_aload_n hx hb dX9_findShortest_80 rfl (lv_at hl 2 rfl) ?_
                        refine x_get (k := 0) (v := .ref (xa X 3)) hx hb hts i_X9 hown hK hw (by decide) rfl rfl 8 (by decide) lf_25 (fun _ h9 => h9) rfl dX9_findShortest_81 ?_
                        refine lv_iload hx hb dX9_findShortest_84 (lv_at hl 0 rfl) ?_
                        refine lv_iload_n hx hb dX9_findShortest_86 rfl (lv_at hl 1 rfl) ?_
                        refine x_ist (n := 6) hx hb hK hw (by decide) rfl rfl hf.1 dX9_findShortest_87 (uM_A3 X S_9 _ _) (fun H locs hw => ?_)
                        replace hf := hf.2
                        obtain ⟨S_18, eS_18⟩ : ∃ z : gS, z = uA S_9 3 x4_14.toNatClampNeg r_11 := ⟨_, rfl⟩
                        rw [← eS_18] at hw
                        replace hf := hf S_18 eS_18
                        refine lv_iconst (v := 1) hx hb dX9_findShortest_88 (by decide) ?_
                        refine lv_istore_n (lv' := [(1, .int 1), (4, .int x4_14), (3, .int r_11), (0, .ref (xa X 0)), (2, .int x2_8)]) hx hb dX9_findShortest_89 rfl hl (by decide) rfl (fun ls hl => ?_)
                        obtain ⟨x2_19, ex2_19⟩ : ∃ y : Int32, y = x2_8 + 1 := ⟨_, rfl⟩
                        replace hf := hf x2_19 ex2_19
                        refine lv_iinc (v := x2_19) (lv' := [(2, .int x2_19), (1, .int 1), (4, .int x4_14), (3, .int r_11), (0, .ref (xa X 0))]) hx hb dX9_findShortest_90 hl (k := 4) rfl (by rw [ex2_19]; rfl) (by decide) rfl (fun ls hl => ?_)
                        refine lv_goto (tgt := 31) hx hb dX9_findShortest_93 (by decide) ?_
                        exact ih_31 1 x2_19 S_18 _ _ _ hf hw (lv_sub hl [4, 1, 0] rfl)
                      · replace hf := hf.2 c_17
                        refine lv_iload_n hx hb dX9_findShortest_69 rfl (lv_at hl 1 rfl) ?_
                        refine lv_aload_n hx hb dX9_findShortest_70 rfl (lv_at hl 2 rfl) ?_
                        refine x_get (k := 0) (v := .ref (xa X 3)) hx hb hts i_X9 hown hK hw (by decide) rfl rfl 8 (by decide) lf_25 (fun _ h9 => h9) rfl dX9_findShortest_71 ?_
                        refine lv_iload hx hb dX9_findShortest_74 (lv_at hl 0 rfl) ?_
                        refine x_ild (n := 6) hx hb hK hw (by decide) rfl rfl hf.1 dX9_findShortest_76 ?_
                        replace hf := hf.2
                        refine lv_icmp_ge (tgt := 90) hx hb dX9_findShortest_77 (by decide) (fun c_20 => ?_) (fun c_20 => ?_)
                        · replace hf := hf.1 c_20
                          obtain ⟨x2_21, ex2_21⟩ : ∃ y : Int32, y = x2_8 + 1 := ⟨_, rfl⟩
                          replace hf := hf x2_21 ex2_21
                          refine lv_iinc (v := x2_21) (lv' := [(2, .int x2_21), (4, .int x4_14), (3, .int r_11), (0, .ref (xa X 0)), (1, .int x1_7)]) hx hb dX9_findShortest_90 hl (k := 4) rfl (by rw [ex2_21]; rfl) (by decide) rfl (fun ls hl => ?_)
                          refine lv_goto (tgt := 31) hx hb dX9_findShortest_93 (by decide) ?_
                          exact ih_31 x1_7 x2_21 S_9 _ _ _ hf hw (lv_sub hl [3, 4, 0] rfl)
                        · replace hf := hf.2 c_20
                          refine lv_aload_n hx hb dX9_findShortest_80 rfl (lv_at hl 2 rfl) ?_
                          refine x_get (k := 0) (v := .ref (xa X 3)) hx hb hts i_X9 hown hK hw (by decide) rfl rfl 8 (by decide) lf_25 (fun _ h9 => h9) rfl dX9_findShortest_81 ?_
                          refine lv_iload hx hb dX9_findShortest_84 (lv_at hl 0 rfl) ?_
                          refine lv_iload_n hx hb dX9_findShortest_86 rfl (lv_at hl 1 rfl) ?_
                          refine x_ist (n := 6) hx hb hK hw (by decide) rfl rfl hf.1 dX9_findShortest_87 (uM_A3 X S_9 _ _) (fun H locs hw => ?_)
                          replace hf := hf.2
                          obtain ⟨S_22, eS_22⟩ : ∃ z : gS, z = uA S_9 3 x4_14.toNatClampNeg r_11 := ⟨_, rfl⟩
                          rw [← eS_22] at hw
                          replace hf := hf S_22 eS_22
                          refine lv_iconst (v := 1) hx hb dX9_findShortest_88 (by decide) ?_
                          refine lv_istore_n (lv' := [(1, .int 1), (4, .int x4_14), (3, .int r_11), (0, .ref (xa X 0)), (2, .int x2_8)]) hx hb dX9_findShortest_89 rfl hl (by decide) rfl (fun ls hl => ?_)
                          obtain ⟨x2_23, ex2_23⟩ : ∃ y : Int32, y = x2_8 + 1 := ⟨_, rfl⟩
                          replace hf := hf x2_23 ex2_23
                          refine lv_iinc (v := x2_23) (lv' := [(2, .int x2_23), (1, .int 1), (4, .int x4_14), (3, .int r_11), (0, .ref (xa X 0))]) hx hb dX9_findShortest_90 hl (k := 4) rfl (by rw [ex2_23]; rfl) (by decide) rfl (fun ls hl => ?_)
                          refine lv_goto (tgt := 31) hx hb dX9_findShortest_93 (by decide) ?_
                          exact ih_31 1 x2_23 S_22 _ _ _ hf hw (lv_sub hl [4, 1, 0] rfl)
              exact w_31 n_31 0 0 S_5 _ _ _ hf hw (lv_sub hl [2, 1, 0] rfl)
        exact w_23 n_23 1 S_2 _ _ _ hf hw (lv_sub hl [1, 0] rfl)
      · replace hf := hf.2 c_3
        refine lv_aload_n hx hb dX9_findShortest_8 rfl (lv_at hl 0 rfl) ?_
        refine x_get (k := 0) (v := .ref (xa X 3)) hx hb hts i_X9 hown hK hw (by decide) rfl rfl 8 (by decide) lf_25 (fun _ h9 => h9) rfl dX9_findShortest_9 ?_
        refine lv_iload_n hx hb dX9_findShortest_12 rfl (lv_at hl 1 rfl) ?_
        refine lv_iconst (v := 0) hx hb dX9_findShortest_13 (by decide) ?_
        refine x_ist (n := 6) hx hb hK hw (by decide) rfl rfl hf.1 dX9_findShortest_14 (uM_A3 X S_2 _ _) (fun H locs hw => ?_)
        replace hf := hf.2
        obtain ⟨S_24, eS_24⟩ : ∃ z : gS, z = uA S_2 3 x1_1.toNatClampNeg 0 := ⟨_, rfl⟩
        rw [← eS_24] at hw
        replace hf := hf S_24 eS_24
        obtain ⟨x1_25, ex1_25⟩ : ∃ y : Int32, y = x1_1 + 1 := ⟨_, rfl⟩
        replace hf := hf x1_25 ex1_25
        refine lv_iinc (v := x1_25) (lv' := [(1, .int x1_25), (0, .ref (xa X 0))]) hx hb dX9_findShortest_15 hl (k := 1) rfl (by rw [ex1_25]; rfl) (by decide) rfl (fun ls hl => ?_)
        refine lv_goto (tgt := 2) hx hb dX9_findShortest_18 (by decide) ?_
        exact ih_2 x1_25 S_24 _ _ _ hf hw (lv_sub hl [1, 0] rfl)
  exact w_2 n_2 0 S _ _ _ hf hw (lv_sub hl [1, 0] rfl)
def bX9_removeUseless_145 (Post : Int32 → gS → Prop) (L_145 : Int32 × Int32 × gS → Prop) (x1_11 : Int32) (x2_12 : Int32) (S_13 : gS) : Prop :=
  ((x2_12 < 0 → (∀ S_15 : gS, S_15 = uI S_13 6 0 → Post x1_11 S_15)) ∧ (¬ x2_12 < 0 → (vp_in x2_12 24 ∧ (vp_in (0 : Int32) 4 ∧ (vp_in (gA S_13 (16 + x2_12.toNatClampNeg) (0 : Int32).toNatClampNeg) 6 ∧ (((gA S_13 4 (gA S_13 (16 + x2_12.toNatClampNeg) (0 : Int32).toNatClampNeg).toNatClampNeg) = 0 → (pX9_remove x2_12 S_13 (fun S_19 => (∀ x1_20 : Int32, x1_20 = x1_11 + 1 → (∀ x2_21 : Int32, x2_21 = x2_12 + (-1) → L_145 (x1_20, x2_21, S_19)))))) ∧ (¬ (gA S_13 4 (gA S_13 (16 + x2_12.toNatClampNeg) (0 : Int32).toNatClampNeg).toNatClampNeg) = 0 → (pX9_shortestOf x2_12 S_13 (fun r_22 => ((¬ r_22 = 0 → (∀ x2_25 : Int32, x2_25 = x2_12 + (-1) → L_145 (x1_11, x2_25, S_13))) ∧ (r_22 = 0 → (pX9_remove x2_12 S_13 (fun S_27 => (∀ x1_28 : Int32, x1_28 = x1_11 + 1 → (∀ x2_29 : Int32, x2_29 = x2_12 + (-1) → L_145 (x1_28, x2_29, S_27))))))))))))))))
def bX9_removeUseless_62 (x2_30 : Int32) (L_52 : Int32 × gS → Prop) (L_62 : Int32 × gS → Prop) (x3_34 : Int32) (S_35 : gS) : Prop :=
  ((4 ≤ x3_34 → (∀ x2_37 : Int32, x2_37 = x2_30 + 1 → L_52 (x2_37, S_35))) ∧ (¬ 4 ≤ x3_34 → (vp_in x2_30 24 ∧ (vp_in x3_34 4 ∧ (∀ x4_39 : Int32, x4_39 = gA S_35 (16 + x2_30.toNatClampNeg) x3_34.toNatClampNeg → (vp_in x2_30 24 ∧ (vp_in (0 : Int32) 4 ∧ (vp_in (gA S_35 (16 + x2_30.toNatClampNeg) (0 : Int32).toNatClampNeg) 6 ∧ (((gA S_35 4 (gA S_35 (16 + x2_30.toNatClampNeg) (0 : Int32).toNatClampNeg).toNatClampNeg) = 0 → (∀ x3_42 : Int32, x3_42 = x3_34 + 1 → L_62 (x3_42, S_35))) ∧ (¬ (gA S_35 4 (gA S_35 (16 + x2_30.toNatClampNeg) (0 : Int32).toNatClampNeg).toNatClampNeg) = 0 → (pX9_shortestOf x2_30 S_35 (fun r_43 => ((r_43 ≤ 0 → (∀ x3_46 : Int32, x3_46 = x3_34 + 1 → L_62 (x3_46, S_35))) ∧ (¬ r_43 ≤ 0 → (pX9_isNonterminal x4_39 S_35 (fun r_47 => ((r_47 = 0 → (∀ x3_50 : Int32, x3_50 = x3_34 + 1 → L_62 (x3_50, S_35))) ∧ (¬ r_47 = 0 → (vp_in x4_39 6 ∧ (∀ S_51 : gS, S_51 = uA S_35 4 x4_39.toNatClampNeg (vp_nar .boolean 1) → (∀ x3_52 : Int32, x3_52 = x3_34 + 1 → L_62 (x3_52, S_51))))))))))))))))))))))
def bX9_removeUseless_52 (x1_7 : Int32) (L_44 : Int32 × gS → Prop) (L_52 : Int32 × gS → Prop) (x2_30 : Int32) (S_31 : gS) : Prop :=
  (((gI S_31 4) ≤ x2_30 → (∀ x1_33 : Int32, x1_33 = x1_7 + 1 → L_44 (x1_33, S_31))) ∧ (¬ (gI S_31 4) ≤ x2_30 → ∃ n, lp (fun L x => bX9_removeUseless_62 x2_30 L_52 L x.1 x.2) n (1, S_31)))
def bX9_removeUseless_44 (Post : Int32 → gS → Prop) (L_44 : Int32 × gS → Prop) (x1_7 : Int32) (S_8 : gS) : Prop :=
  ((6 ≤ x1_7 → (∀ x2_10 : Int32, x2_10 = ((gI S_8 4) - 1) → ∃ n, lp (fun L x => bX9_removeUseless_145 Post L x.1 x.2.1 x.2.2) n (0, x2_10, S_8))) ∧ (¬ 6 ≤ x1_7 → ∃ n, lp (fun L x => bX9_removeUseless_52 x1_7 L_44 L x.1 x.2) n (0, S_8)))
def bX9_removeUseless_11 (Post : Int32 → gS → Prop) (L_11 : Int32 × gS → Prop) (x1_4 : Int32) (S_5 : gS) : Prop :=
  ((6 ≤ x1_4 → ∃ n, lp (fun L x => bX9_removeUseless_44 Post L x.1 x.2) n (0, S_5)) ∧ (¬ 6 ≤ x1_4 → ((¬ x1_4 = (gI S_5 3) → (vp_in x1_4 6 ∧ (∀ S_54 : gS, S_54 = uA S_5 4 x1_4.toNatClampNeg (vp_nar .boolean 0) → (∀ x1_55 : Int32, x1_55 = x1_4 + 1 → L_11 (x1_55, S_54))))) ∧ (x1_4 = (gI S_5 3) → (vp_in x1_4 6 ∧ (∀ S_56 : gS, S_56 = uA S_5 4 x1_4.toNatClampNeg (vp_nar .boolean 1) → (∀ x1_57 : Int32, x1_57 = x1_4 + 1 → L_11 (x1_57, S_56))))))))
def pX9_removeUseless (S : gS) (Post : Int32 → gS → Prop) : Prop :=
  (∀ S_1 : gS, S_1 = uI S 0 0 → (pX9_findShortest  S_1 (fun S_3 => ∃ n, lp (fun L x => bX9_removeUseless_11 Post L x.1 x.2) n (0, S_3))))
def rX9_removeUseless : Room := { frames := 4, cells := 0, slots := 0, locals := 91 }
set_option maxHeartbeats 40000000 in
set_option maxRecDepth 100000 in
theorem kX9_removeUseless (l : Launch) (X : xG) (S : gS) (sz : Nat) (Post : Int32 → gS → Prop) (hf : pX9_removeUseless S Post) : xMi l yX9_removeUseless (Cond.code yX9_removeUseless cX9_removeUseless 5 (some .int) :: WS) rX9_removeUseless 133 X (cM X) (eM X) S sz [.ref (xa X 0)] Post := by
  refine xMi.of (cc := cX9_removeUseless) (maxL := 5) (own := RX9) (by decide) rfl rfl (Nat.le_of_ble_eq_true rfl) ?_
  intro p e s m args below meth c ls Q hC hQ hw hl
  obtain ⟨hx, hb, hml, hown, hts, hE, hi⟩ := id hC
  have hK := hE.1
  have hl : lv_has ls 5 [(0, .ref (xa X 0))] := hl
  have lf_69 : (Cond.fieldLink RX9 69 "GrammarAmbiguityModel" "thrown" "I").before args s = true := hts _ q_167
  have lf_76 : (Cond.fieldLink RX9 76 "GrammarAmbiguityModel" "productions" "I").before args s = true := hts _ q_157
  have lf_89 : (Cond.fieldLink RX9 89 "GrammarAmbiguityModel" "nodes" "I").before args s = true := hts _ q_159
  have lf_28 : (Cond.fieldLink RX9 28 "GrammarAmbiguityModel" "isReached" "[Z").before args s = true := hts _ q_113
  have lf_18 : (Cond.fieldLink RX9 18 "GrammarAmbiguityModel" "symbols" "[[I").before args s = true := hts _ q_110
  have lf_83 : (Cond.fieldLink RX9 83 "GrammarAmbiguityModel" "start" "I").before args s = true := hts _ q_156
  rw [pX9_removeUseless] at hf
  refine lv_aload_n hx hb dX9_removeUseless_0 rfl (lv_at hl 0 rfl) ?_
  refine lv_iconst (v := 0) hx hb dX9_removeUseless_1 (by decide) ?_
  refine x_put (k := 0) (S' := uI S 0 0) (ty := .int) hx hb hts i_X9 tyX9_ok nmX9 hown hK hw (by decide) rfl rfl 0 (by decide) lf_69 (fun _ h9 => h9) rfl (by decide +kernel) rfl rfl (Nat.le_of_ble_eq_true rfl) dX9_removeUseless_2 (uM_I0 X S _) (fun H locs hw => ?_)
  obtain ⟨S_1, eS_1⟩ : ∃ z : gS, z = uI S 0 0 := ⟨_, rfl⟩
  rw [← eS_1] at hw
  replace hf := hf S_1 eS_1
  refine lv_aload_n hx hb dX9_removeUseless_5 rfl (lv_at hl 0 rfl) ?_
  refine x_cv (x_rV (As := []) (rest := []) (okM X) hC hw (kX9_findShortest l X S_1 _  _ hf) (cwV 0 hts (gV q_292 q_293 q_294 q_5 q_295) rfl rfl rfl (by decide +kernel) ⟨Nat.le_of_ble_eq_true rfl, Nat.le_of_ble_eq_true rfl⟩) (x_recv hK hw (k := 0) (by decide) rfl rfl) rfl hl.1 rfl (Nat.le_of_ble_eq_true rfl) dX9_removeUseless_6) hw hi (fun S_3 H locs hf hw => ?_)
  refine lv_iconst (v := 0) hx hb dX9_removeUseless_9 (by decide) ?_
  refine lv_istore_n (lv' := [(1, .int 0), (0, .ref (xa X 0))]) hx hb dX9_removeUseless_10 rfl hl (by decide) rfl (fun ls hl => ?_)
  obtain ⟨n_11, hf⟩ := hf
  have w_11 : ∀ (n : Nat) (x1_4 : Int32) (S_5 : gS) (H : Heap) (locs : List Loc) (ls : Array Slot), lp (fun L x => bX9_removeUseless_11 Post L x.1 x.2) n (x1_4, S_5) → xH 133 X (cM X) (xA 133 X s.heap.size) s.heap S_5 H locs → lv_has ls 5 [(0, .ref (xa X 0)), (1, .int x1_4)] → W p l e rX9_removeUseless s m args below meth c H locs 0 0 Q (F0 m 11 ls []) := by
    intro n
    induction n with
    | zero => intro x1_4 S_5 H locs ls hf; exact hf.elim
    | succ n ih_11 =>
      intro x1_4 S_5 H locs ls hf hw hl
      replace hf : bX9_removeUseless_11 Post (lp (fun L x => bX9_removeUseless_11 Post L x.1 x.2) n) x1_4 S_5 := hf
      generalize lp (fun L x => bX9_removeUseless_11 Post L x.1 x.2) n = L_11 at hf ih_11
      rw [bX9_removeUseless_11] at hf
      refine lv_iload_n hx hb dX9_removeUseless_11 rfl (lv_at hl 1 rfl) ?_
      refine lv_bipush (v := 6) hx hb dX9_removeUseless_12 (by decide) ?_
      refine lv_icmp_ge (tgt := 42) hx hb dX9_removeUseless_14 (by decide) (fun c_6 => ?_) (fun c_6 => ?_)
      · replace hf := hf.1 c_6
        refine lv_iconst (v := 0) hx hb dX9_removeUseless_42 (by decide) ?_
        refine lv_istore_n (lv' := [(1, .int 0), (0, .ref (xa X 0))]) hx hb dX9_removeUseless_43 rfl hl (by decide) rfl (fun ls hl => ?_)
        obtain ⟨n_44, hf⟩ := hf
        have w_44 : ∀ (n : Nat) (x1_7 : Int32) (S_8 : gS) (H : Heap) (locs : List Loc) (ls : Array Slot), lp (fun L x => bX9_removeUseless_44 Post L x.1 x.2) n (x1_7, S_8) → xH 133 X (cM X) (xA 133 X s.heap.size) s.heap S_8 H locs → lv_has ls 5 [(0, .ref (xa X 0)), (1, .int x1_7)] → W p l e rX9_removeUseless s m args below meth c H locs 0 0 Q (F0 m 44 ls []) := by
          intro n
          induction n with
          | zero => intro x1_7 S_8 H locs ls hf; exact hf.elim
          | succ n ih_44 =>
            intro x1_7 S_8 H locs ls hf hw hl
            replace hf : bX9_removeUseless_44 Post (lp (fun L x => bX9_removeUseless_44 Post L x.1 x.2) n) x1_7 S_8 := hf
            generalize lp (fun L x => bX9_removeUseless_44 Post L x.1 x.2) n = L_44 at hf ih_44
            rw [bX9_removeUseless_44] at hf
            refine lv_iload_n hx hb dX9_removeUseless_44 rfl (lv_at hl 1 rfl) ?_
            refine lv_bipush (v := 6) hx hb dX9_removeUseless_45 (by decide) ?_
            refine lv_icmp_ge (tgt := 136) hx hb dX9_removeUseless_47 (by decide) (fun c_9 => ?_) (fun c_9 => ?_)
            · replace hf := hf.1 c_9
              refine lv_iconst (v := 0) hx hb dX9_removeUseless_136 (by decide) ?_
              refine lv_istore_n (lv' := [(1, .int 0), (0, .ref (xa X 0))]) hx hb dX9_removeUseless_137 rfl hl (by decide) rfl (fun ls hl => ?_)
              refine lv_aload_n hx hb dX9_removeUseless_138 rfl (lv_at hl 1 rfl) ?_
              refine x_get (k := 0) (v := .int (gI S_8 4)) hx hb hts i_X9 hown hK hw (by decide) rfl rfl 4 (by decide) lf_76 (fun _ h9 => h9) rfl dX9_removeUseless_139 ?_
              refine lv_iconst (v := 1) hx hb dX9_removeUseless_142 (by decide) ?_
              refine lv_isub hx hb dX9_removeUseless_143 ?_
              refine lv_topi (fun x2_10 ex2_10 => ?_)
              replace hf := hf x2_10 ex2_10
              refine lv_istore_n (lv' := [(2, .int x2_10), (1, .int 0), (0, .ref (xa X 0))]) hx hb dX9_removeUseless_144 rfl hl (by decide) rfl (fun ls hl => ?_)
              obtain ⟨n_145, hf⟩ := hf
              have w_145 : ∀ (n : Nat) (x1_11 : Int32) (x2_12 : Int32) (S_13 : gS) (H : Heap) (locs : List Loc) (ls : Array Slot), lp (fun L x => bX9_removeUseless_145 Post L x.1 x.2.1 x.2.2) n (x1_11, x2_12, S_13) → xH 133 X (cM X) (xA 133 X s.heap.size) s.heap S_13 H locs → lv_has ls 5 [(0, .ref (xa X 0)), (1, .int x1_11), (2, .int x2_12)] → W p l e rX9_removeUseless s m args below meth c H locs 0 0 Q (F0 m 145 ls []) := by
                intro n
                induction n with
                | zero => intro x1_11 x2_12 S_13 H locs ls hf; exact hf.elim
                | succ n ih_145 =>
                  intro x1_11 x2_12 S_13 H locs ls hf hw hl
                  replace hf : bX9_removeUseless_145 Post (lp (fun L x => bX9_removeUseless_145 Post L x.1 x.2.1 x.2.2) n) x1_11 x2_12 S_13 := hf
                  generalize lp (fun L x => bX9_removeUseless_145 Post L x.1 x.2.1 x.2.2) n = L_145 at hf ih_145
                  rw [bX9_removeUseless_145] at hf
                  refine lv_iload_n hx hb dX9_removeUseless_145 rfl (lv_at hl 2 rfl) ?_
                  refine lv_if_lt (tgt := 187) hx hb dX9_removeUseless_146 (by decide) (fun c_14 => ?_) (fun c_14 => ?_)
                  · replace hf := hf.1 c_14
                    refine lv_aload_n hx hb dX9_removeUseless_187 rfl (lv_at hl 0 rfl) ?_
                    refine lv_iconst (v := 0) hx hb dX9_removeUseless_188 (by decide) ?_
                    refine x_put (k := 0) (S' := uI S_13 6 0) (ty := .int) hx hb hts i_X9 tyX9_ok nmX9 hown hK hw (by decide) rfl rfl 13 (by decide) lf_89 (fun _ h9 => h9) rfl (by decide +kernel) rfl rfl (Nat.le_of_ble_eq_true rfl) dX9_removeUseless_189 (uM_I6 X S_13 _) (fun H locs hw => ?_)
                    obtain ⟨S_15, eS_15⟩ : ∃ z : gS, z = uI S_13 6 0 := ⟨_, rfl⟩
                    rw [← eS_15] at hw
                    replace hf := hf S_15 eS_15
                    refine lv_iload_n hx hb dX9_removeUseless_192 rfl (lv_at hl 1 rfl) ?_
                    exact hQ _ _ _ _ _ _ rfl hf hw dX9_removeUseless_193
                  · replace hf := hf.2 c_14
                    refine lv_aload_n hx hb dX9_removeUseless_149 rfl (lv_at hl 0 rfl) ?_
                    refine x_get (k := 0) (v := .ref (xa X 4)) hx hb hts i_X9 hown hK hw (by decide) rfl rfl 9 (by decide) lf_28 (fun _ h9 => h9) rfl dX9_removeUseless_150 ?_
                    refine lv_aload_n hx hb dX9_removeUseless_153 rfl (lv_at hl 0 rfl) ?_
                    refine x_get (k := 0) (v := .ref (xa X 1)) hx hb hts i_X9 hown hK hw (by decide) rfl rfl 5 (by decide) lf_18 (fun _ h9 => h9) rfl dX9_removeUseless_154 ?_
                    refine lv_iload_n hx hb dX9_removeUseless_157 rfl (lv_at hl 2 rfl) ?_
                    have hb_16 := vp_lt hf.1
                    refine x_ald (n := 24) (v := .ref (xa X (16 + x2_12.toNatClampNeg))) hx hb hK hw (by decide) rfl 3 rfl rfl hf.1 (rf_lt hb_16) dX9_removeUseless_158 ?_
                    replace hf := hf.2
                    refine lv_iconst (v := 0) hx hb dX9_removeUseless_159 (by decide) ?_
                    refine x_ild (n := 4) hx hb hK hw (by omega) (cM_sy hb_16) rfl hf.1 dX9_removeUseless_160 ?_
                    replace hf := hf.2
                    refine x_zld (n := 6) hx hb hK hw (by decide) rfl rfl hf.1 dX9_removeUseless_161 ?_
                    replace hf := hf.2
                    refine lv_if_eq (tgt := 173) hx hb dX9_removeUseless_162 (by decide) (fun c_17 => ?_) (fun c_17 => ?_)
                    · replace hf := hf.1 c_17
                      refine lv_aload_n hx hb dX9_removeUseless_173 rfl (lv_at hl 0 rfl) ?_
                      refine lv_iload_n hx hb dX9_removeUseless_174 rfl (lv_at hl 2 rfl) ?_
                      refine x_cv (x_rV (As := [.int x2_12]) (rest := []) (okM X) hC hw (kX9_remove l X S_13 _ x2_12 _ hf) (cwV 1 hts (gV q_248 q_249 q_250 q_5 q_251) rfl rfl rfl (by decide +kernel) ⟨Nat.le_of_ble_eq_true rfl, Nat.le_of_ble_eq_true rfl⟩) (x_recv hK hw (k := 0) (by decide) rfl rfl) rfl hl.1 rfl (Nat.le_of_ble_eq_true rfl) dX9_removeUseless_175) hw hi (fun S_19 H locs hf hw => ?_)
                      obtain ⟨x1_20, ex1_20⟩ : ∃ y : Int32, y = x1_11 + 1 := ⟨_, rfl⟩
                      replace hf := hf x1_20 ex1_20
                      refine lv_iinc (v := x1_20) (lv' := [(1, .int x1_20), (0, .ref (xa X 0)), (2, .int x2_12)]) hx hb dX9_removeUseless_178 hl (k := 1) rfl (by rw [ex1_20]; rfl) (by decide) rfl (fun ls hl => ?_)
                      obtain ⟨x2_21, ex2_21⟩ : ∃ y : Int32, y = x2_12 + (-1) := ⟨_, rfl⟩
                      replace hf := hf x2_21 ex2_21
                      refine lv_iinc (v := x2_21) (lv' := [(2, .int x2_21), (1, .int x1_20), (0, .ref (xa X 0))]) hx hb dX9_removeUseless_181 hl (k := 2) rfl (by rw [ex2_21]; rfl) (by decide) rfl (fun ls hl => ?_)
                      refine lv_goto (tgt := 145) hx hb dX9_removeUseless_184 (by decide) ?_
                      exact ih_145 x1_20 x2_21 S_19 _ _ _ hf hw (lv_sub hl [2, 1, 0] rfl)
                    · replace hf := hf.2 c_17
                      refine lv_aload_n hx hb dX9_removeUseless_165 rfl (lv_at hl 0 rfl) ?_
                      refine lv_iload_n hx hb dX9_removeUseless_166 rfl (lv_at hl 2 rfl) ?_
                      refine x_ci (x_rV (As := [.int x2_12]) (rest := []) (okM X) hC hw (kX9_shortestOf l X S_13 _ x2_12 _ hf) (cwV 1 hts (gV q_296 q_297 q_298 q_5 q_299) rfl rfl rfl (by decide +kernel) ⟨Nat.le_of_ble_eq_true rfl, Nat.le_of_ble_eq_true rfl⟩) (x_recv hK hw (k := 0) (by decide) rfl rfl) rfl hl.1 rfl (Nat.le_of_ble_eq_true rfl) dX9_removeUseless_167) hw hi (fun r_22 S_23 H locs hf hw => ?_)
                      obtain ⟨hf, rfl⟩ := hf
                      refine lv_if_ne (tgt := 181) hx hb dX9_removeUseless_170 (by decide) (fun c_24 => ?_) (fun c_24 => ?_)
                      · replace hf := hf.1 c_24
                        obtain ⟨x2_25, ex2_25⟩ : ∃ y : Int32, y = x2_12 + (-1) := ⟨_, rfl⟩
                        replace hf := hf x2_25 ex2_25
                        refine lv_iinc (v := x2_25) (lv' := [(2, .int x2_25), (0, .ref (xa X 0)), (1, .int x1_11)]) hx hb dX9_removeUseless_181 hl (k := 2) rfl (by rw [ex2_25]; rfl) (by decide) rfl (fun ls hl => ?_)
                        refine lv_goto (tgt := 145) hx hb dX9_removeUseless_184 (by decide) ?_
                        exact ih_145 x1_11 x2_25 S_13 _ _ _ hf hw (lv_sub hl [1, 2, 0] rfl)
                      · replace hf := hf.2 c_24
                        refine lv_aload_n hx hb dX9_removeUseless_173 rfl (lv_at hl 0 rfl) ?_
                        refine lv_iload_n hx hb dX9_removeUseless_174 rfl (lv_at hl 2 rfl) ?_
                        refine x_cv (x_rV (As := [.int x2_12]) (rest := []) (okM X) hC hw (kX9_remove l X S_13 _ x2_12 _ hf) (cwV 1 hts (gV q_248 q_249 q_250 q_5 q_251) rfl rfl rfl (by decide +kernel) ⟨Nat.le_of_ble_eq_true rfl, Nat.le_of_ble_eq_true rfl⟩) (x_recv hK hw (k := 0) (by decide) rfl rfl) rfl hl.1 rfl (Nat.le_of_ble_eq_true rfl) dX9_removeUseless_175) hw hi (fun S_27 H locs hf hw => ?_)
                        obtain ⟨x1_28, ex1_28⟩ : ∃ y : Int32, y = x1_11 + 1 := ⟨_, rfl⟩
                        replace hf := hf x1_28 ex1_28
                        refine lv_iinc (v := x1_28) (lv' := [(1, .int x1_28), (0, .ref (xa X 0)), (2, .int x2_12)]) hx hb dX9_removeUseless_178 hl (k := 1) rfl (by rw [ex1_28]; rfl) (by decide) rfl (fun ls hl => ?_)
                        obtain ⟨x2_29, ex2_29⟩ : ∃ y : Int32, y = x2_12 + (-1) := ⟨_, rfl⟩
                        replace hf := hf x2_29 ex2_29
                        refine lv_iinc (v := x2_29) (lv' := [(2, .int x2_29), (1, .int x1_28), (0, .ref (xa X 0))]) hx hb dX9_removeUseless_181 hl (k := 2) rfl (by rw [ex2_29]; rfl) (by decide) rfl (fun ls hl => ?_)
                        refine lv_goto (tgt := 145) hx hb dX9_removeUseless_184 (by decide) ?_
                        exact ih_145 x1_28 x2_29 S_27 _ _ _ hf hw (lv_sub hl [2, 1, 0] rfl)
              exact w_145 n_145 0 x2_10 S_8 _ _ _ hf hw (lv_sub hl [2, 1, 0] rfl)
            · replace hf := hf.2 c_9
              refine lv_iconst (v := 0) hx hb dX9_removeUseless_50 (by decide) ?_
              refine lv_istore_n (lv' := [(2, .int 0), (0, .ref (xa X 0)), (1, .int x1_7)]) hx hb dX9_removeUseless_51 rfl hl (by decide) rfl (fun ls hl => ?_)
              obtain ⟨n_52, hf⟩ := hf
              have w_52 : ∀ (n : Nat) (x2_30 : Int32) (S_31 : gS) (H : Heap) (locs : List Loc) (ls : Array Slot), lp (fun L x => bX9_removeUseless_52 x1_7 L_44 L x.1 x.2) n (x2_30, S_31) → xH 133 X (cM X) (xA 133 X s.heap.size) s.heap S_31 H locs → lv_has ls 5 [(0, .ref (xa X 0)), (1, .int x1_7), (2, .int x2_30)] → W p l e rX9_removeUseless s m args below meth c H locs 0 0 Q (F0 m 52 ls []) := by
                intro n
                induction n with
                | zero => intro x2_30 S_31 H locs ls hf; exact hf.elim
                | succ n ih_52 =>
                  intro x2_30 S_31 H locs ls hf hw hl
                  replace hf : bX9_removeUseless_52 x1_7 L_44 (lp (fun L x => bX9_removeUseless_52 x1_7 L_44 L x.1 x.2) n) x2_30 S_31 := hf
                  generalize lp (fun L x => bX9_removeUseless_52 x1_7 L_44 L x.1 x.2) n = L_52 at hf ih_52
                  rw [bX9_removeUseless_52] at hf
                  refine lv_iload_n hx hb dX9_removeUseless_52 rfl (lv_at hl 2 rfl) ?_
                  refine lv_aload_n hx hb dX9_removeUseless_53 rfl (lv_at hl 0 rfl) ?_
                  refine x_get (k := 0) (v := .int (gI S_31 4)) hx hb hts i_X9 hown hK hw (by decide) rfl rfl 4 (by decide) lf_76 (fun _ h9 => h9) rfl dX9_removeUseless_54 ?_
                  refine lv_icmp_ge (tgt := 130) hx hb dX9_removeUseless_57 (by decide) (fun c_32 => ?_) (fun c_32 => ?_)
                  · replace hf := hf.1 c_32
                    obtain ⟨x1_33, ex1_33⟩ : ∃ y : Int32, y = x1_7 + 1 := ⟨_, rfl⟩
                    replace hf := hf x1_33 ex1_33
                    refine lv_iinc (v := x1_33) (lv' := [(1, .int x1_33), (0, .ref (xa X 0)), (2, .int x2_30)]) hx hb dX9_removeUseless_130 hl (k := 1) rfl (by rw [ex1_33]; rfl) (by decide) rfl (fun ls hl => ?_)
                    refine lv_goto (tgt := 44) hx hb dX9_removeUseless_133 (by decide) ?_
                    exact ih_44 x1_33 S_31 _ _ _ hf hw (lv_sub hl [1, 0] rfl)
                  · replace hf := hf.2 c_32
                    refine lv_iconst (v := 1) hx hb dX9_removeUseless_60 (by decide) ?_
                    refine lv_istore_n (lv' := [(3, .int 1), (0, .ref (xa X 0)), (1, .int x1_7), (2, .int x2_30)]) hx hb dX9_removeUseless_61 rfl hl (by decide) rfl (fun ls hl => ?_)
                    obtain ⟨n_62, hf⟩ := hf
                    have w_62 : ∀ (n : Nat) (x3_34 : Int32) (S_35 : gS) (H : Heap) (locs : List Loc) (ls : Array Slot), lp (fun L x => bX9_removeUseless_62 x2_30 L_52 L x.1 x.2) n (x3_34, S_35) → xH 133 X (cM X) (xA 133 X s.heap.size) s.heap S_35 H locs → lv_has ls 5 [(0, .ref (xa X 0)), (1, .int x1_7), (2, .int x2_30), (3, .int x3_34)] → W p l e rX9_removeUseless s m args below meth c H locs 0 0 Q (F0 m 62 ls []) := by
                      intro n
                      induction n with
                      | zero => intro x3_34 S_35 H locs ls hf; exact hf.elim
                      | succ n ih_62 =>
                        intro x3_34 S_35 H locs ls hf hw hl
                        replace hf : bX9_removeUseless_62 x2_30 L_52 (lp (fun L x => bX9_removeUseless_62 x2_30 L_52 L x.1 x.2) n) x3_34 S_35 := hf
                        generalize lp (fun L x => bX9_removeUseless_62 x2_30 L_52 L x.1 x.2) n = L_62 at hf ih_62
                        rw [bX9_removeUseless_62] at hf
                        refine lv_iload_n hx hb dX9_removeUseless_62 rfl (lv_at hl 3 rfl) ?_
                        refine lv_iconst (v := 4) hx hb dX9_removeUseless_63 (by decide) ?_
                        refine lv_icmp_ge (tgt := 124) hx hb dX9_removeUseless_64 (by decide) (fun c_36 => ?_) (fun c_36 => ?_)
                        · replace hf := hf.1 c_36
                          obtain ⟨x2_37, ex2_37⟩ : ∃ y : Int32, y = x2_30 + 1 := ⟨_, rfl⟩
                          replace hf := hf x2_37 ex2_37
                          refine lv_iinc (v := x2_37) (lv' := [(2, .int x2_37), (0, .ref (xa X 0)), (1, .int x1_7), (3, .int x3_34)]) hx hb dX9_removeUseless_124 hl (k := 2) rfl (by rw [ex2_37]; rfl) (by decide) rfl (fun ls hl => ?_)
                          refine lv_goto (tgt := 52) hx hb dX9_removeUseless_127 (by decide) ?_
                          exact ih_52 x2_37 S_35 _ _ _ hf hw (lv_sub hl [1, 2, 0] rfl)
                        · replace hf := hf.2 c_36
                          refine lv_aload_n hx hb dX9_removeUseless_67 rfl (lv_at hl 0 rfl) ?_
                          refine x_get (k := 0) (v := .ref (xa X 1)) hx hb hts i_X9 hown hK hw (by decide) rfl rfl 5 (by decide) lf_18 (fun _ h9 => h9) rfl dX9_removeUseless_68 ?_
                          refine lv_iload_n hx hb dX9_removeUseless_71 rfl (lv_at hl 2 rfl) ?_
                          have hb_38 := vp_lt hf.1
                          refine x_ald (n := 24) (v := .ref (xa X (16 + x2_30.toNatClampNeg))) hx hb hK hw (by decide) rfl 3 rfl rfl hf.1 (rf_lt hb_38) dX9_removeUseless_72 ?_
                          replace hf := hf.2
                          refine lv_iload_n hx hb dX9_removeUseless_73 rfl (lv_at hl 3 rfl) ?_
                          refine x_ild (n := 4) hx hb hK hw (by omega) (cM_sy hb_38) rfl hf.1 dX9_removeUseless_74 ?_
                          replace hf := hf.2
                          refine lv_topi (fun x4_39 ex4_39 => ?_)
                          replace hf := hf x4_39 ex4_39
                          refine lv_istore (lv' := [(4, .int x4_39), (0, .ref (xa X 0)), (1, .int x1_7), (2, .int x2_30), (3, .int x3_34)]) hx hb dX9_removeUseless_75 hl (by decide) rfl (fun ls hl => ?_)
                          refine lv_aload_n hx hb dX9_removeUseless_77 rfl (lv_at hl 1 rfl) ?_
                          refine x_get (k := 0) (v := .ref (xa X 4)) hx hb hts i_X9 hown hK hw (by decide) rfl rfl 9 (by decide) lf_28 (fun _ h9 => h9) rfl dX9_removeUseless_78 ?_
                          refine lv_aload_n hx hb dX9_removeUseless_81 rfl (lv_at hl 1 rfl) ?_
                          refine x_get (k := 0) (v := .ref (xa X 1)) hx hb hts i_X9 hown hK hw (by decide) rfl rfl 5 (by decide) lf_18 (fun _ h9 => h9) rfl dX9_removeUseless_82 ?_
                          refine lv_iload_n hx hb dX9_removeUseless_85 rfl (lv_at hl 3 rfl) ?_
                          have hb_40 := vp_lt hf.1
                          refine x_ald (n := 24) (v := .ref (xa X (16 + x2_30.toNatClampNeg))) hx hb hK hw (by decide) rfl 3 rfl rfl hf.1 (rf_lt hb_40) dX9_removeUseless_86 ?_
                          replace hf := hf.2
                          refine lv_iconst (v := 0) hx hb dX9_removeUseless_87 (by decide) ?_
                          refine x_ild (n := 4) hx hb hK hw (by omega) (cM_sy hb_40) rfl hf.1 dX9_removeUseless_88 ?_
                          replace hf := hf.2
                          refine x_zld (n := 6) hx hb hK hw (by decide) rfl rfl hf.1 dX9_removeUseless_89 ?_
                          replace hf := hf.2
                          refine lv_if_eq (tgt := 118) hx hb dX9_removeUseless_90 (by decide) (fun c_41 => ?_) (fun c_41 => ?_)
                          · replace hf := hf.1 c_41
                            obtain ⟨x3_42, ex3_42⟩ : ∃ y : Int32, y = x3_34 + 1 := ⟨_, rfl⟩
                            replace hf := hf x3_42 ex3_42
                            refine lv_iinc (v := x3_42) (lv' := [(3, .int x3_42), (4, .int x4_39), (0, .ref (xa X 0)), (1, .int x1_7), (2, .int x2_30)]) hx hb dX9_removeUseless_118 hl (k := 4) rfl (by rw [ex3_42]; rfl) (by decide) rfl (fun ls hl => ?_)
                            refine lv_goto (tgt := 62) hx hb dX9_removeUseless_121 (by decide) ?_
                            exact ih_62 x3_42 S_35 _ _ _ hf hw (lv_sub hl [2, 3, 4, 0] rfl)
                          · replace hf := hf.2 c_41
                            refine lv_aload_n hx hb dX9_removeUseless_93 rfl (lv_at hl 1 rfl) ?_
                            refine lv_iload_n hx hb dX9_removeUseless_94 rfl (lv_at hl 3 rfl) ?_
                            refine x_ci (x_rV (As := [.int x2_30]) (rest := []) (okM X) hC hw (kX9_shortestOf l X S_35 _ x2_30 _ hf) (cwV 1 hts (gV q_296 q_297 q_298 q_5 q_299) rfl rfl rfl (by decide +kernel) ⟨Nat.le_of_ble_eq_true rfl, Nat.le_of_ble_eq_true rfl⟩) (x_recv hK hw (k := 0) (by decide) rfl rfl) rfl hl.1 rfl (Nat.le_of_ble_eq_true rfl) dX9_removeUseless_95) hw hi (fun r_43 S_44 H locs hf hw => ?_)
                            obtain ⟨hf, rfl⟩ := hf
                            refine lv_if_le (tgt := 118) hx hb dX9_removeUseless_98 (by decide) (fun c_45 => ?_) (fun c_45 => ?_)
                            · replace hf := hf.1 c_45
                              obtain ⟨x3_46, ex3_46⟩ : ∃ y : Int32, y = x3_34 + 1 := ⟨_, rfl⟩
                              replace hf := hf x3_46 ex3_46
                              refine lv_iinc (v := x3_46) (lv' := [(3, .int x3_46), (4, .int x4_39), (0, .ref (xa X 0)), (1, .int x1_7), (2, .int x2_30)]) hx hb dX9_removeUseless_118 hl (k := 4) rfl (by rw [ex3_46]; rfl) (by decide) rfl (fun ls hl => ?_)
                              refine lv_goto (tgt := 62) hx hb dX9_removeUseless_121 (by decide) ?_
                              exact ih_62 x3_46 S_35 _ _ _ hf hw (lv_sub hl [2, 3, 4, 0] rfl)
                            · replace hf := hf.2 c_45
                              refine lv_aload_n hx hb dX9_removeUseless_101 rfl (lv_at hl 1 rfl) ?_
                              refine lv_iload hx hb dX9_removeUseless_102 (lv_at hl 0 rfl) ?_
                              refine x_ci (x_rV (As := [.int x4_39]) (rest := []) (okM X) hC hw (kX9_isNonterminal l X S_35 _ x4_39 _ hf) (cwV 1 hts (gV q_214 q_215 q_216 q_5 q_217) rfl rfl rfl (by decide +kernel) ⟨Nat.le_of_ble_eq_true rfl, Nat.le_of_ble_eq_true rfl⟩) (x_recv hK hw (k := 0) (by decide) rfl rfl) rfl hl.1 rfl (Nat.le_of_ble_eq_true rfl) dX9_removeUseless_104) hw hi (fun r_47 S_48 H locs hf hw => ?_)
                              obtain ⟨hf, rfl⟩ := hf
                              refine lv_if_eq (tgt := 118) hx hb dX9_removeUseless_107 (by decide) (fun c_49 => ?_) (fun c_49 => ?_)
                              · replace hf := hf.1 c_49
                                obtain ⟨x3_50, ex3_50⟩ : ∃ y : Int32, y = x3_34 + 1 := ⟨_, rfl⟩
                                replace hf := hf x3_50 ex3_50
                                refine lv_iinc (v := x3_50) (lv' := [(3, .int x3_50), (4, .int x4_39), (0, .ref (xa X 0)), (1, .int x1_7), (2, .int x2_30)]) hx hb dX9_removeUseless_118 hl (k := 4) rfl (by rw [ex3_50]; rfl) (by decide) rfl (fun ls hl => ?_)
                                refine lv_goto (tgt := 62) hx hb dX9_removeUseless_121 (by decide) ?_
                                exact ih_62 x3_50 S_35 _ _ _ hf hw (lv_sub hl [2, 3, 4, 0] rfl)
                              · replace hf := hf.2 c_49
                                refine lv_aload_n hx hb dX9_removeUseless_110 rfl (lv_at hl 1 rfl) ?_
                                refine x_get (k := 0) (v := .ref (xa X 4)) hx hb hts i_X9 hown hK hw (by decide) rfl rfl 9 (by decide) lf_28 (fun _ h9 => h9) rfl dX9_removeUseless_111 ?_
                                refine lv_iload hx hb dX9_removeUseless_114 (lv_at hl 0 rfl) ?_
                                refine lv_iconst (v := 1) hx hb dX9_removeUseless_116 (by decide) ?_
                                refine x_zst (n := 6) hx hb hK hw (by decide) rfl rfl hf.1 dX9_removeUseless_117 (uM_A4 X S_35 _ _) (fun H locs hw => ?_)
                                replace hf := hf.2
                                obtain ⟨S_51, eS_51⟩ : ∃ z : gS, z = uA S_35 4 x4_39.toNatClampNeg (vp_nar .boolean 1) := ⟨_, rfl⟩
                                rw [← eS_51] at hw
                                replace hf := hf S_51 eS_51
                                obtain ⟨x3_52, ex3_52⟩ : ∃ y : Int32, y = x3_34 + 1 := ⟨_, rfl⟩
                                replace hf := hf x3_52 ex3_52
                                refine lv_iinc (v := x3_52) (lv' := [(3, .int x3_52), (4, .int x4_39), (0, .ref (xa X 0)), (1, .int x1_7), (2, .int x2_30)]) hx hb dX9_removeUseless_118 hl (k := 4) rfl (by rw [ex3_52]; rfl) (by decide) rfl (fun ls hl => ?_)
                                refine lv_goto (tgt := 62) hx hb dX9_removeUseless_121 (by decide) ?_
                                exact ih_62 x3_52 S_51 _ _ _ hf hw (lv_sub hl [2, 3, 4, 0] rfl)
                    exact w_62 n_62 1 S_31 _ _ _ hf hw (lv_sub hl [1, 2, 3, 0] rfl)
              exact w_52 n_52 0 S_8 _ _ _ hf hw (lv_sub hl [1, 2, 0] rfl)
        exact w_44 n_44 0 S_5 _ _ _ hf hw (lv_sub hl [1, 0] rfl)
      · replace hf := hf.2 c_6
        refine lv_aload_n hx hb dX9_removeUseless_17 rfl (lv_at hl 0 rfl) ?_
        refine x_get (k := 0) (v := .ref (xa X 4)) hx hb hts i_X9 hown hK hw (by decide) rfl rfl 9 (by decide) lf_28 (fun _ h9 => h9) rfl dX9_removeUseless_18 ?_
        refine lv_iload_n hx hb dX9_removeUseless_21 rfl (lv_at hl 1 rfl) ?_
        refine lv_iload_n hx hb dX9_removeUseless_22 rfl (lv_at hl 1 rfl) ?_
        refine lv_aload_n hx hb dX9_removeUseless_23 rfl (lv_at hl 0 rfl) ?_
        refine x_get (k := 0) (v := .int (gI S_5 3)) hx hb hts i_X9 hown hK hw (by decide) rfl rfl 3 (by decide) lf_83 (fun _ h9 => h9) rfl dX9_removeUseless_24 ?_
        refine lv_icmp_ne (tgt := 34) hx hb dX9_removeUseless_27 (by decide) (fun c_53 => ?_) (fun c_53 => ?_)
        · replace hf := hf.1 c_53
          refine lv_iconst (v := 0) hx hb dX9_removeUseless_34 (by decide) ?_
          refine x_zst (n := 6) hx hb hK hw (by decide) rfl rfl hf.1 dX9_removeUseless_35 (uM_A4 X S_5 _ _) (fun H locs hw => ?_)
          replace hf := hf.2
          obtain ⟨S_54, eS_54⟩ : ∃ z : gS, z = uA S_5 4 x1_4.toNatClampNeg (vp_nar .boolean 0) := ⟨_, rfl⟩
          rw [← eS_54] at hw
          replace hf := hf S_54 eS_54
          obtain ⟨x1_55, ex1_55⟩ : ∃ y : Int32, y = x1_4 + 1 := ⟨_, rfl⟩
          replace hf := hf x1_55 ex1_55
          refine lv_iinc (v := x1_55) (lv' := [(1, .int x1_55), (0, .ref (xa X 0))]) hx hb dX9_removeUseless_36 hl (k := 1) rfl (by rw [ex1_55]; rfl) (by decide) rfl (fun ls hl => ?_)
          refine lv_goto (tgt := 11) hx hb dX9_removeUseless_39 (by decide) ?_
          exact ih_11 x1_55 S_54 _ _ _ hf hw (lv_sub hl [1, 0] rfl)
        · replace hf := hf.2 c_53
          refine lv_iconst (v := 1) hx hb dX9_removeUseless_30 (by decide) ?_
          refine lv_goto (tgt := 35) hx hb dX9_removeUseless_31 (by decide) ?_
          refine x_zst (n := 6) hx hb hK hw (by decide) rfl rfl hf.1 dX9_removeUseless_35 (uM_A4 X S_5 _ _) (fun H locs hw => ?_)
          replace hf := hf.2
          obtain ⟨S_56, eS_56⟩ : ∃ z : gS, z = uA S_5 4 x1_4.toNatClampNeg (vp_nar .boolean 1) := ⟨_, rfl⟩
          rw [← eS_56] at hw
          replace hf := hf S_56 eS_56
          obtain ⟨x1_57, ex1_57⟩ : ∃ y : Int32, y = x1_4 + 1 := ⟨_, rfl⟩
          replace hf := hf x1_57 ex1_57
          refine lv_iinc (v := x1_57) (lv' := [(1, .int x1_57), (0, .ref (xa X 0))]) hx hb dX9_removeUseless_36 hl (k := 1) rfl (by rw [ex1_57]; rfl) (by decide) rfl (fun ls hl => ?_)
          refine lv_goto (tgt := 11) hx hb dX9_removeUseless_39 (by decide) ?_
          exact ih_11 x1_57 S_56 _ _ _ hf hw (lv_sub hl [1, 0] rfl)
  exact w_11 n_11 0 S_3 _ _ _ hf hw (lv_sub hl [1, 0] rfl)
def pX9_productionCount (S : gS) (Post : Int32 → gS → Prop) : Prop :=
  (∀ S_1 : gS, S_1 = uI S 0 0 → Post (gI S_1 4) S_1)
def rX9_productionCount : Room := { frames := 0, cells := 0, slots := 0, locals := 0 }
set_option maxHeartbeats 40000000 in
set_option maxRecDepth 100000 in
theorem kX9_productionCount (l : Launch) (X : xG) (S : gS) (sz : Nat) (Post : Int32 → gS → Prop) (hf : pX9_productionCount S Post) : xMi l yX9_productionCount (Cond.code yX9_productionCount cX9_productionCount 1 (some .int) :: WS) rX9_productionCount 133 X (cM X) (eM X) S sz [.ref (xa X 0)] Post := by
  refine xMi.of (cc := cX9_productionCount) (maxL := 1) (own := RX9) (by decide) rfl rfl (Nat.le_of_ble_eq_true rfl) ?_
  intro p e s m args below meth c ls Q hC hQ hw hl
  obtain ⟨hx, hb, hml, hown, hts, hE, hi⟩ := id hC
  have hK := hE.1
  have hl : lv_has ls 1 [(0, .ref (xa X 0))] := hl
  have lf_69 : (Cond.fieldLink RX9 69 "GrammarAmbiguityModel" "thrown" "I").before args s = true := hts _ q_167
  have lf_76 : (Cond.fieldLink RX9 76 "GrammarAmbiguityModel" "productions" "I").before args s = true := hts _ q_157
  rw [pX9_productionCount] at hf
  refine lv_aload_n hx hb dX9_productionCount_0 rfl (lv_at hl 0 rfl) ?_
  refine lv_iconst (v := 0) hx hb dX9_productionCount_1 (by decide) ?_
  refine x_put (k := 0) (S' := uI S 0 0) (ty := .int) hx hb hts i_X9 tyX9_ok nmX9 hown hK hw (by decide) rfl rfl 0 (by decide) lf_69 (fun _ h9 => h9) rfl (by decide +kernel) rfl rfl (Nat.le_of_ble_eq_true rfl) dX9_productionCount_2 (uM_I0 X S _) (fun H locs hw => ?_)
  obtain ⟨S_1, eS_1⟩ : ∃ z : gS, z = uI S 0 0 := ⟨_, rfl⟩
  rw [← eS_1] at hw
  replace hf := hf S_1 eS_1
  refine lv_aload_n hx hb dX9_productionCount_5 rfl (lv_at hl 0 rfl) ?_
  refine x_get (k := 0) (v := .int (gI S_1 4)) hx hb hts i_X9 hown hK hw (by decide) rfl rfl 4 (by decide) lf_76 (fun _ h9 => h9) rfl dX9_productionCount_6 ?_
  exact hQ _ _ _ _ _ _ rfl hf hw dX9_productionCount_9
def jX9_productionSymbol_15 (p0 : Int32) (p1 : Int32) (S : gS) (Post : Int32 → gS → Prop) (y_3 : Int32) : Prop :=
  (pX9_fails 1 y_3 S (fun r_4 S_5 => ((¬ r_4 = 0 → Post 0 S_5) ∧ (r_4 = 0 → (pX9_isBetween p1 0 3 S_5 (fun r_7 => ((¬ r_7 = 0 → (pX9_fails 2 0 S_5 (fun r_10 S_11 => ((r_10 = 0 → (vp_in p0 24 ∧ (vp_in p1 4 ∧ Post (gA S_11 (16 + p0.toNatClampNeg) p1.toNatClampNeg) S_11))) ∧ (¬ r_10 = 0 → Post 0 S_11))))) ∧ (r_7 = 0 → (pX9_fails 2 1 S_5 (fun r_14 S_15 => ((r_14 = 0 → (vp_in p0 24 ∧ (vp_in p1 4 ∧ Post (gA S_15 (16 + p0.toNatClampNeg) p1.toNatClampNeg) S_15))) ∧ (¬ r_14 = 0 → Post 0 S_15))))))))))))
def pX9_productionSymbol (p0 : Int32) (p1 : Int32) (S : gS) (Post : Int32 → gS → Prop) : Prop :=
  (pX9_isProduction p0 S (fun r_1 => ((¬ r_1 = 0 → jX9_productionSymbol_15 p0 p1 S Post 0) ∧ (r_1 = 0 → jX9_productionSymbol_15 p0 p1 S Post 1))))
def rX9_productionSymbol : Room := { frames := 2, cells := 0, slots := 0, locals := 43 }
set_option maxHeartbeats 40000000 in
set_option maxRecDepth 100000 in
theorem kX9_productionSymbol (l : Launch) (X : xG) (S : gS) (sz : Nat) (p0 : Int32) (p1 : Int32) (Post : Int32 → gS → Prop) (hf : pX9_productionSymbol p0 p1 S Post) : xMi l yX9_productionSymbol (Cond.code yX9_productionSymbol cX9_productionSymbol 3 (some .int) :: WS) rX9_productionSymbol 133 X (cM X) (eM X) S sz [.ref (xa X 0), .int p0, .int p1] Post := by
  refine xMi.of (cc := cX9_productionSymbol) (maxL := 3) (own := RX9) (by decide) rfl rfl (Nat.le_of_ble_eq_true rfl) ?_
  intro p e s m args below meth c ls Q hC hQ hw hl
  obtain ⟨hx, hb, hml, hown, hts, hE, hi⟩ := id hC
  have hK := hE.1
  have hl : lv_has ls 3 [(0, .ref (xa X 0)), (1, .int p0), (2, .int p1)] := hl
  have lf_18 : (Cond.fieldLink RX9 18 "GrammarAmbiguityModel" "symbols" "[[I").before args s = true := hts _ q_110
  rw [pX9_productionSymbol] at hf
  refine lv_aload_n hx hb dX9_productionSymbol_0 rfl (lv_at hl 0 rfl) ?_
  refine lv_iconst (v := 1) hx hb dX9_productionSymbol_1 (by decide) ?_
  refine lv_aload_n hx hb dX9_productionSymbol_2 rfl (lv_at hl 0 rfl) ?_
  refine lv_iload_n hx hb dX9_productionSymbol_3 rfl (lv_at hl 1 rfl) ?_
  refine x_ci (x_rV (As := [.int p0]) (rest := [.int 1, .ref (xa X 0)]) (okM X) hC hw (kX9_isProduction l X S _ p0 _ hf) (cwV 1 hts (gV q_244 q_245 q_246 q_5 q_247) rfl rfl rfl (by decide +kernel) ⟨Nat.le_of_ble_eq_true rfl, Nat.le_of_ble_eq_true rfl⟩) (x_recv hK hw (k := 0) (by decide) rfl rfl) rfl hl.1 rfl (Nat.le_of_ble_eq_true rfl) dX9_productionSymbol_4) hw hi (fun r_1 S_2 H locs hf hw => ?_)
  obtain ⟨hf, rfl⟩ := hf
  have w_15 : ∀ (y_3 : Int32) (H : Heap) (locs : List Loc) (ls : Array Slot), jX9_productionSymbol_15 p0 p1 S Post y_3 → xH 133 X (cM X) (xA 133 X s.heap.size) s.heap S H locs → lv_has ls 3 [(0, .ref (xa X 0)), (1, .int p0), (2, .int p1)] → W p l e rX9_productionSymbol s m args below meth c H locs 0 0 Q (F0 m 15 ls [.int y_3, .int 1, .ref (xa X 0)]) := by
    intro y_3 H locs ls hf hw hl
    rw [jX9_productionSymbol_15] at hf
    refine x_ci (x_rV (As := [.int 1, .int y_3]) (rest := []) (okM X) hC hw (kX9_fails l X S _ 1 y_3 _ hf) (cwV 2 hts (gV q_163 q_164 q_165 q_5 q_166) rfl rfl rfl (by decide +kernel) ⟨Nat.le_of_ble_eq_true rfl, Nat.le_of_ble_eq_true rfl⟩) (x_recv hK hw (k := 0) (by decide) rfl rfl) rfl hl.1 rfl (Nat.le_of_ble_eq_true rfl) dX9_productionSymbol_15) hw hi (fun r_4 S_5 H locs hf hw => ?_)
    refine lv_if_ne (tgt := 43) hx hb dX9_productionSymbol_18 (by decide) (fun c_6 => ?_) (fun c_6 => ?_)
    · replace hf := hf.1 c_6
      refine lv_iconst (v := 0) hx hb dX9_productionSymbol_43 (by decide) ?_
      exact hQ _ _ _ _ _ _ rfl hf hw dX9_productionSymbol_44
    · replace hf := hf.2 c_6
      refine lv_aload_n hx hb dX9_productionSymbol_21 rfl (lv_at hl 0 rfl) ?_
      refine lv_iconst (v := 2) hx hb dX9_productionSymbol_22 (by decide) ?_
      refine lv_iload_n hx hb dX9_productionSymbol_23 rfl (lv_at hl 2 rfl) ?_
      refine lv_iconst (v := 0) hx hb dX9_productionSymbol_24 (by decide) ?_
      refine lv_iconst (v := 3) hx hb dX9_productionSymbol_25 (by decide) ?_
      refine x_ci (x_rS (As := [.int p1, .int 0, .int 3]) (rest := [.int 2, .ref (xa X 0)]) (okM X) hC hw (kX9_isBetween l X S_5 _ p1 0 3 _ hf) (cwS 3 hts (gSt q_160 q_161 q_5 q_162) rfl rfl rfl (by decide +kernel) ⟨Nat.le_of_ble_eq_true rfl, Nat.le_of_ble_eq_true rfl⟩) rfl hl.1 rfl (Nat.le_of_ble_eq_true rfl) dX9_productionSymbol_26) hw hi (fun r_7 S_8 H locs hf hw => ?_)
      obtain ⟨hf, rfl⟩ := hf
      refine lv_if_ne (tgt := 36) hx hb dX9_productionSymbol_29 (by decide) (fun c_9 => ?_) (fun c_9 => ?_)
      · replace hf := hf.1 c_9
        refine lv_iconst (v := 0) hx hb dX9_productionSymbol_36 (by decide) ?_
        refine x_ci (x_rV (As := [.int 2, .int 0]) (rest := []) (okM X) hC hw (kX9_fails l X S_5 _ 2 0 _ hf) (cwV 2 hts (gV q_163 q_164 q_165 q_5 q_166) rfl rfl rfl (by decide +kernel) ⟨Nat.le_of_ble_eq_true rfl, Nat.le_of_ble_eq_true rfl⟩) (x_recv hK hw (k := 0) (by decide) rfl rfl) rfl hl.1 rfl (Nat.le_of_ble_eq_true rfl) dX9_productionSymbol_37) hw hi (fun r_10 S_11 H locs hf hw => ?_)
        refine lv_if_eq (tgt := 45) hx hb dX9_productionSymbol_40 (by decide) (fun c_12 => ?_) (fun c_12 => ?_)
        · replace hf := hf.1 c_12
          refine lv_aload_n hx hb dX9_productionSymbol_45 rfl (lv_at hl 0 rfl) ?_
          refine x_get (k := 0) (v := .ref (xa X 1)) hx hb hts i_X9 hown hK hw (by decide) rfl rfl 5 (by decide) lf_18 (fun _ h9 => h9) rfl dX9_productionSymbol_46 ?_
          refine lv_iload_n hx hb dX9_productionSymbol_49 rfl (lv_at hl 1 rfl) ?_
          have hb_13 := vp_lt hf.1
          refine x_ald (n := 24) (v := .ref (xa X (16 + p0.toNatClampNeg))) hx hb hK hw (by decide) rfl 3 rfl rfl hf.1 (rf_lt hb_13) dX9_productionSymbol_50 ?_
          replace hf := hf.2
          refine lv_iload_n hx hb dX9_productionSymbol_51 rfl (lv_at hl 2 rfl) ?_
          refine x_ild (n := 4) hx hb hK hw (by omega) (cM_sy hb_13) rfl hf.1 dX9_productionSymbol_52 ?_
          replace hf := hf.2
          exact hQ _ _ _ _ _ _ rfl hf hw dX9_productionSymbol_53
        · replace hf := hf.2 c_12
          refine lv_iconst (v := 0) hx hb dX9_productionSymbol_43 (by decide) ?_
          exact hQ _ _ _ _ _ _ rfl hf hw dX9_productionSymbol_44
      · replace hf := hf.2 c_9
        refine lv_iconst (v := 1) hx hb dX9_productionSymbol_32 (by decide) ?_
        refine lv_goto (tgt := 37) hx hb dX9_productionSymbol_33 (by decide) ?_
        refine x_ci (x_rV (As := [.int 2, .int 1]) (rest := []) (okM X) hC hw (kX9_fails l X S_5 _ 2 1 _ hf) (cwV 2 hts (gV q_163 q_164 q_165 q_5 q_166) rfl rfl rfl (by decide +kernel) ⟨Nat.le_of_ble_eq_true rfl, Nat.le_of_ble_eq_true rfl⟩) (x_recv hK hw (k := 0) (by decide) rfl rfl) rfl hl.1 rfl (Nat.le_of_ble_eq_true rfl) dX9_productionSymbol_37) hw hi (fun r_14 S_15 H locs hf hw => ?_)
        refine lv_if_eq (tgt := 45) hx hb dX9_productionSymbol_40 (by decide) (fun c_16 => ?_) (fun c_16 => ?_)
        · replace hf := hf.1 c_16
          refine lv_aload_n hx hb dX9_productionSymbol_45 rfl (lv_at hl 0 rfl) ?_
          refine x_get (k := 0) (v := .ref (xa X 1)) hx hb hts i_X9 hown hK hw (by decide) rfl rfl 5 (by decide) lf_18 (fun _ h9 => h9) rfl dX9_productionSymbol_46 ?_
          refine lv_iload_n hx hb dX9_productionSymbol_49 rfl (lv_at hl 1 rfl) ?_
          have hb_17 := vp_lt hf.1
          refine x_ald (n := 24) (v := .ref (xa X (16 + p0.toNatClampNeg))) hx hb hK hw (by decide) rfl 3 rfl rfl hf.1 (rf_lt hb_17) dX9_productionSymbol_50 ?_
          replace hf := hf.2
          refine lv_iload_n hx hb dX9_productionSymbol_51 rfl (lv_at hl 2 rfl) ?_
          refine x_ild (n := 4) hx hb hK hw (by omega) (cM_sy hb_17) rfl hf.1 dX9_productionSymbol_52 ?_
          replace hf := hf.2
          exact hQ _ _ _ _ _ _ rfl hf hw dX9_productionSymbol_53
        · replace hf := hf.2 c_16
          refine lv_iconst (v := 0) hx hb dX9_productionSymbol_43 (by decide) ?_
          exact hQ _ _ _ _ _ _ rfl hf hw dX9_productionSymbol_44
  refine lv_if_ne (tgt := 14) hx hb dX9_productionSymbol_7 (by decide) (fun c_18 => ?_) (fun c_18 => ?_)
  · replace hf := hf.1 c_18
    refine lv_iconst (v := 0) hx hb dX9_productionSymbol_14 (by decide) ?_
    exact w_15 0 _ _ _ hf hw (lv_sub hl [0, 1, 2] rfl)
  · replace hf := hf.2 c_18
    refine lv_iconst (v := 1) hx hb dX9_productionSymbol_10 (by decide) ?_
    refine lv_goto (tgt := 15) hx hb dX9_productionSymbol_11 (by decide) ?_
    exact w_15 1 _ _ _ hf hw (lv_sub hl [0, 1, 2] rfl)
def jX9_setStart_15 (p0 : Int32) (S : gS) (Post : Int32 → gS → Prop) (y_3 : Int32) : Prop :=
  (pX9_fails 1 y_3 S (fun r_4 S_5 => ((r_4 = 0 → (∀ x2_7 : Int32, x2_7 = gI S_5 3 → (∀ S_8 : gS, S_8 = uI S_5 3 p0 → (∀ S_9 : gS, S_9 = uI S_8 6 0 → Post x2_7 S_9)))) ∧ (¬ r_4 = 0 → Post 0 S_5))))
def pX9_setStart (p0 : Int32) (S : gS) (Post : Int32 → gS → Prop) : Prop :=
  (pX9_isNonterminal p0 S (fun r_1 => ((¬ r_1 = 0 → jX9_setStart_15 p0 S Post 0) ∧ (r_1 = 0 → jX9_setStart_15 p0 S Post 1))))
def rX9_setStart : Room := { frames := 2, cells := 0, slots := 0, locals := 43 }
set_option maxHeartbeats 40000000 in
set_option maxRecDepth 100000 in
theorem kX9_setStart (l : Launch) (X : xG) (S : gS) (sz : Nat) (p0 : Int32) (Post : Int32 → gS → Prop) (hf : pX9_setStart p0 S Post) : xMi l yX9_setStart (Cond.code yX9_setStart cX9_setStart 3 (some .int) :: WS) rX9_setStart 133 X (cM X) (eM X) S sz [.ref (xa X 0), .int p0] Post := by
  refine xMi.of (cc := cX9_setStart) (maxL := 3) (own := RX9) (by decide) rfl rfl (Nat.le_of_ble_eq_true rfl) ?_
  intro p e s m args below meth c ls Q hC hQ hw hl
  obtain ⟨hx, hb, hml, hown, hts, hE, hi⟩ := id hC
  have hK := hE.1
  have hl : lv_has ls 3 [(0, .ref (xa X 0)), (1, .int p0)] := hl
  have lf_83 : (Cond.fieldLink RX9 83 "GrammarAmbiguityModel" "start" "I").before args s = true := hts _ q_156
  have lf_89 : (Cond.fieldLink RX9 89 "GrammarAmbiguityModel" "nodes" "I").before args s = true := hts _ q_159
  rw [pX9_setStart] at hf
  refine lv_aload_n hx hb dX9_setStart_0 rfl (lv_at hl 0 rfl) ?_
  refine lv_iconst (v := 1) hx hb dX9_setStart_1 (by decide) ?_
  refine lv_aload_n hx hb dX9_setStart_2 rfl (lv_at hl 0 rfl) ?_
  refine lv_iload_n hx hb dX9_setStart_3 rfl (lv_at hl 1 rfl) ?_
  refine x_ci (x_rV (As := [.int p0]) (rest := [.int 1, .ref (xa X 0)]) (okM X) hC hw (kX9_isNonterminal l X S _ p0 _ hf) (cwV 1 hts (gV q_214 q_215 q_216 q_5 q_217) rfl rfl rfl (by decide +kernel) ⟨Nat.le_of_ble_eq_true rfl, Nat.le_of_ble_eq_true rfl⟩) (x_recv hK hw (k := 0) (by decide) rfl rfl) rfl hl.1 rfl (Nat.le_of_ble_eq_true rfl) dX9_setStart_4) hw hi (fun r_1 S_2 H locs hf hw => ?_)
  obtain ⟨hf, rfl⟩ := hf
  have w_15 : ∀ (y_3 : Int32) (H : Heap) (locs : List Loc) (ls : Array Slot), jX9_setStart_15 p0 S Post y_3 → xH 133 X (cM X) (xA 133 X s.heap.size) s.heap S H locs → lv_has ls 3 [(0, .ref (xa X 0)), (1, .int p0)] → W p l e rX9_setStart s m args below meth c H locs 0 0 Q (F0 m 15 ls [.int y_3, .int 1, .ref (xa X 0)]) := by
    intro y_3 H locs ls hf hw hl
    rw [jX9_setStart_15] at hf
    refine x_ci (x_rV (As := [.int 1, .int y_3]) (rest := []) (okM X) hC hw (kX9_fails l X S _ 1 y_3 _ hf) (cwV 2 hts (gV q_163 q_164 q_165 q_5 q_166) rfl rfl rfl (by decide +kernel) ⟨Nat.le_of_ble_eq_true rfl, Nat.le_of_ble_eq_true rfl⟩) (x_recv hK hw (k := 0) (by decide) rfl rfl) rfl hl.1 rfl (Nat.le_of_ble_eq_true rfl) dX9_setStart_15) hw hi (fun r_4 S_5 H locs hf hw => ?_)
    refine lv_if_eq (tgt := 23) hx hb dX9_setStart_18 (by decide) (fun c_6 => ?_) (fun c_6 => ?_)
    · replace hf := hf.1 c_6
      refine lv_aload_n hx hb dX9_setStart_23 rfl (lv_at hl 0 rfl) ?_
      refine x_get (k := 0) (v := .int (gI S_5 3)) hx hb hts i_X9 hown hK hw (by decide) rfl rfl 3 (by decide) lf_83 (fun _ h9 => h9) rfl dX9_setStart_24 ?_
      refine lv_topi (fun x2_7 ex2_7 => ?_)
      replace hf := hf x2_7 ex2_7
      refine lv_istore_n (lv' := [(2, .int x2_7), (0, .ref (xa X 0)), (1, .int p0)]) hx hb dX9_setStart_27 rfl hl (by decide) rfl (fun ls hl => ?_)
      refine lv_aload_n hx hb dX9_setStart_28 rfl (lv_at hl 1 rfl) ?_
      refine lv_iload_n hx hb dX9_setStart_29 rfl (lv_at hl 2 rfl) ?_
      refine x_put (k := 0) (S' := uI S_5 3 p0) (ty := .int) hx hb hts i_X9 tyX9_ok nmX9 hown hK hw (by decide) rfl rfl 3 (by decide) lf_83 (fun _ h9 => h9) rfl (by decide +kernel) rfl rfl (Nat.le_of_ble_eq_true rfl) dX9_setStart_30 (uM_I3 X S_5 _) (fun H locs hw => ?_)
      obtain ⟨S_8, eS_8⟩ : ∃ z : gS, z = uI S_5 3 p0 := ⟨_, rfl⟩
      rw [← eS_8] at hw
      replace hf := hf S_8 eS_8
      refine lv_aload_n hx hb dX9_setStart_33 rfl (lv_at hl 1 rfl) ?_
      refine lv_iconst (v := 0) hx hb dX9_setStart_34 (by decide) ?_
      refine x_put (k := 0) (S' := uI S_8 6 0) (ty := .int) hx hb hts i_X9 tyX9_ok nmX9 hown hK hw (by decide) rfl rfl 13 (by decide) lf_89 (fun _ h9 => h9) rfl (by decide +kernel) rfl rfl (Nat.le_of_ble_eq_true rfl) dX9_setStart_35 (uM_I6 X S_8 _) (fun H locs hw => ?_)
      obtain ⟨S_9, eS_9⟩ : ∃ z : gS, z = uI S_8 6 0 := ⟨_, rfl⟩
      rw [← eS_9] at hw
      replace hf := hf S_9 eS_9
      refine lv_iload_n hx hb dX9_setStart_38 rfl (lv_at hl 0 rfl) ?_
      exact hQ _ _ _ _ _ _ rfl hf hw dX9_setStart_39
    · replace hf := hf.2 c_6
      refine lv_iconst (v := 0) hx hb dX9_setStart_21 (by decide) ?_
      exact hQ _ _ _ _ _ _ rfl hf hw dX9_setStart_22
  refine lv_if_ne (tgt := 14) hx hb dX9_setStart_7 (by decide) (fun c_10 => ?_) (fun c_10 => ?_)
  · replace hf := hf.1 c_10
    refine lv_iconst (v := 0) hx hb dX9_setStart_14 (by decide) ?_
    exact w_15 0 _ _ _ hf hw (lv_sub hl [0, 1] rfl)
  · replace hf := hf.2 c_10
    refine lv_iconst (v := 1) hx hb dX9_setStart_10 (by decide) ?_
    refine lv_goto (tgt := 15) hx hb dX9_setStart_11 (by decide) ?_
    exact w_15 1 _ _ _ hf hw (lv_sub hl [0, 1] rfl)
def jX9_shortestLength_15 (p0 : Int32) (S : gS) (Post : Int32 → gS → Prop) (y_3 : Int32) : Prop :=
  (pX9_fails 1 y_3 S (fun r_4 S_5 => ((r_4 = 0 → (pX9_findShortest  S_5 (fun S_8 => (vp_in p0 6 ∧ Post (gA S_8 3 p0.toNatClampNeg) S_8)))) ∧ (¬ r_4 = 0 → Post 0 S_5))))
def pX9_shortestLength (p0 : Int32) (S : gS) (Post : Int32 → gS → Prop) : Prop :=
  (pX9_isNonterminal p0 S (fun r_1 => ((¬ r_1 = 0 → jX9_shortestLength_15 p0 S Post 0) ∧ (r_1 = 0 → jX9_shortestLength_15 p0 S Post 1))))
def rX9_shortestLength : Room := { frames := 4, cells := 0, slots := 0, locals := 91 }
set_option maxHeartbeats 40000000 in
set_option maxRecDepth 100000 in
theorem kX9_shortestLength (l : Launch) (X : xG) (S : gS) (sz : Nat) (p0 : Int32) (Post : Int32 → gS → Prop) (hf : pX9_shortestLength p0 S Post) : xMi l yX9_shortestLength (Cond.code yX9_shortestLength cX9_shortestLength 2 (some .int) :: WS) rX9_shortestLength 133 X (cM X) (eM X) S sz [.ref (xa X 0), .int p0] Post := by
  refine xMi.of (cc := cX9_shortestLength) (maxL := 2) (own := RX9) (by decide) rfl rfl (Nat.le_of_ble_eq_true rfl) ?_
  intro p e s m args below meth c ls Q hC hQ hw hl
  obtain ⟨hx, hb, hml, hown, hts, hE, hi⟩ := id hC
  have hK := hE.1
  have hl : lv_has ls 2 [(0, .ref (xa X 0)), (1, .int p0)] := hl
  have lf_25 : (Cond.fieldLink RX9 25 "GrammarAmbiguityModel" "shortest" "[I").before args s = true := hts _ q_112
  rw [pX9_shortestLength] at hf
  refine lv_aload_n hx hb dX9_shortestLength_0 rfl (lv_at hl 0 rfl) ?_
  refine lv_iconst (v := 1) hx hb dX9_shortestLength_1 (by decide) ?_
  refine lv_aload_n hx hb dX9_shortestLength_2 rfl (lv_at hl 0 rfl) ?_
  refine lv_iload_n hx hb dX9_shortestLength_3 rfl (lv_at hl 1 rfl) ?_
  refine x_ci (x_rV (As := [.int p0]) (rest := [.int 1, .ref (xa X 0)]) (okM X) hC hw (kX9_isNonterminal l X S _ p0 _ hf) (cwV 1 hts (gV q_214 q_215 q_216 q_5 q_217) rfl rfl rfl (by decide +kernel) ⟨Nat.le_of_ble_eq_true rfl, Nat.le_of_ble_eq_true rfl⟩) (x_recv hK hw (k := 0) (by decide) rfl rfl) rfl hl.1 rfl (Nat.le_of_ble_eq_true rfl) dX9_shortestLength_4) hw hi (fun r_1 S_2 H locs hf hw => ?_)
  obtain ⟨hf, rfl⟩ := hf
  have w_15 : ∀ (y_3 : Int32) (H : Heap) (locs : List Loc) (ls : Array Slot), jX9_shortestLength_15 p0 S Post y_3 → xH 133 X (cM X) (xA 133 X s.heap.size) s.heap S H locs → lv_has ls 2 [(0, .ref (xa X 0)), (1, .int p0)] → W p l e rX9_shortestLength s m args below meth c H locs 0 0 Q (F0 m 15 ls [.int y_3, .int 1, .ref (xa X 0)]) := by
    intro y_3 H locs ls hf hw hl
    rw [jX9_shortestLength_15] at hf
    refine x_ci (x_rV (As := [.int 1, .int y_3]) (rest := []) (okM X) hC hw (kX9_fails l X S _ 1 y_3 _ hf) (cwV 2 hts (gV q_163 q_164 q_165 q_5 q_166) rfl rfl rfl (by decide +kernel) ⟨Nat.le_of_ble_eq_true rfl, Nat.le_of_ble_eq_true rfl⟩) (x_recv hK hw (k := 0) (by decide) rfl rfl) rfl hl.1 rfl (Nat.le_of_ble_eq_true rfl) dX9_shortestLength_15) hw hi (fun r_4 S_5 H locs hf hw => ?_)
    refine lv_if_eq (tgt := 23) hx hb dX9_shortestLength_18 (by decide) (fun c_6 => ?_) (fun c_6 => ?_)
    · replace hf := hf.1 c_6
      refine lv_aload_n hx hb dX9_shortestLength_23 rfl (lv_at hl 0 rfl) ?_
      refine x_cv (x_rV (As := []) (rest := []) (okM X) hC hw (kX9_findShortest l X S_5 _  _ hf) (cwV 0 hts (gV q_292 q_293 q_294 q_5 q_295) rfl rfl rfl (by decide +kernel) ⟨Nat.le_of_ble_eq_true rfl, Nat.le_of_ble_eq_true rfl⟩) (x_recv hK hw (k := 0) (by decide) rfl rfl) rfl hl.1 rfl (Nat.le_of_ble_eq_true rfl) dX9_shortestLength_24) hw hi (fun S_8 H locs hf hw => ?_)
      refine lv_aload_n hx hb dX9_shortestLength_27 rfl (lv_at hl 0 rfl) ?_
      refine x_get (k := 0) (v := .ref (xa X 3)) hx hb hts i_X9 hown hK hw (by decide) rfl rfl 8 (by decide) lf_25 (fun _ h9 => h9) rfl dX9_shortestLength_28 ?_
      refine lv_iload_n hx hb dX9_shortestLength_31 rfl (lv_at hl 1 rfl) ?_
      refine x_ild (n := 6) hx hb hK hw (by decide) rfl rfl hf.1 dX9_shortestLength_32 ?_
      replace hf := hf.2
      exact hQ _ _ _ _ _ _ rfl hf hw dX9_shortestLength_33
    · replace hf := hf.2 c_6
      refine lv_iconst (v := 0) hx hb dX9_shortestLength_21 (by decide) ?_
      exact hQ _ _ _ _ _ _ rfl hf hw dX9_shortestLength_22
  refine lv_if_ne (tgt := 14) hx hb dX9_shortestLength_7 (by decide) (fun c_9 => ?_) (fun c_9 => ?_)
  · replace hf := hf.1 c_9
    refine lv_iconst (v := 0) hx hb dX9_shortestLength_14 (by decide) ?_
    exact w_15 0 _ _ _ hf hw (lv_sub hl [0, 1] rfl)
  · replace hf := hf.2 c_9
    refine lv_iconst (v := 1) hx hb dX9_shortestLength_10 (by decide) ?_
    refine lv_goto (tgt := 15) hx hb dX9_shortestLength_11 (by decide) ?_
    exact w_15 1 _ _ _ hf hw (lv_sub hl [0, 1] rfl)
def jX9_append_43 (p0 : Int32) (Post : Int32 → gS → Prop) (S_5 : gS) (y_7 : Int32) : Prop :=
  (pX9_fails 2 y_7 S_5 (fun r_8 S_9 => ((r_8 = 0 → (vp_in (gI S_9 5) 8 ∧ (∀ S_11 : gS, S_11 = uA S_9 2 (gI S_9 5).toNatClampNeg p0 → (∀ S_12 : gS, S_12 = uI S_11 5 ((gI S_11 5) + 1) → (∀ S_13 : gS, S_13 = uI S_12 6 0 → Post (gI S_13 5) S_13))))) ∧ (¬ r_8 = 0 → Post 0 S_9))))
def jX9_append_21 (p0 : Int32) (S : gS) (Post : Int32 → gS → Prop) (y_3 : Int32) : Prop :=
  (pX9_fails 1 y_3 S (fun r_4 S_5 => ((¬ r_4 = 0 → Post 0 S_5) ∧ (r_4 = 0 → ((¬ (gI S_5 5) = 8 → jX9_append_43 p0 Post S_5 0) ∧ ((gI S_5 5) = 8 → jX9_append_43 p0 Post S_5 1))))))
def pX9_append (p0 : Int32) (S : gS) (Post : Int32 → gS → Prop) : Prop :=
  (pX9_isBetween p0 0 ((gI S 2) - 1) S (fun r_1 => ((¬ r_1 = 0 → jX9_append_21 p0 S Post 0) ∧ (r_1 = 0 → jX9_append_21 p0 S Post 1))))
def rX9_append : Room := { frames := 1, cells := 0, slots := 0, locals := 22 }
set_option maxHeartbeats 40000000 in
set_option maxRecDepth 100000 in
theorem kX9_append (l : Launch) (X : xG) (S : gS) (sz : Nat) (p0 : Int32) (Post : Int32 → gS → Prop) (hf : pX9_append p0 S Post) : xMi l yX9_append (Cond.code yX9_append cX9_append 2 (some .int) :: WS) rX9_append 133 X (cM X) (eM X) S sz [.ref (xa X 0), .int p0] Post := by
  refine xMi.of (cc := cX9_append) (maxL := 2) (own := RX9) (by decide) rfl rfl (Nat.le_of_ble_eq_true rfl) ?_
  intro p e s m args below meth c ls Q hC hQ hw hl
  obtain ⟨hx, hb, hml, hown, hts, hE, hi⟩ := id hC
  have hK := hE.1
  have hl : lv_has ls 2 [(0, .ref (xa X 0)), (1, .int p0)] := hl
  have lf_13 : (Cond.fieldLink RX9 13 "GrammarAmbiguityModel" "terminals" "I").before args s = true := hts _ q_108
  have lf_86 : (Cond.fieldLink RX9 86 "GrammarAmbiguityModel" "length" "I").before args s = true := hts _ q_158
  have lf_21 : (Cond.fieldLink RX9 21 "GrammarAmbiguityModel" "word" "[I").before args s = true := hts _ q_111
  have lf_89 : (Cond.fieldLink RX9 89 "GrammarAmbiguityModel" "nodes" "I").before args s = true := hts _ q_159
  rw [pX9_append] at hf
  refine lv_aload_n hx hb dX9_append_0 rfl (lv_at hl 0 rfl) ?_
  refine lv_iconst (v := 1) hx hb dX9_append_1 (by decide) ?_
  refine lv_iload_n hx hb dX9_append_2 rfl (lv_at hl 1 rfl) ?_
  refine lv_iconst (v := 0) hx hb dX9_append_3 (by decide) ?_
  refine lv_aload_n hx hb dX9_append_4 rfl (lv_at hl 0 rfl) ?_
  refine x_get (k := 0) (v := .int (gI S 2)) hx hb hts i_X9 hown hK hw (by decide) rfl rfl 2 (by decide) lf_13 (fun _ h9 => h9) rfl dX9_append_5 ?_
  refine lv_iconst (v := 1) hx hb dX9_append_8 (by decide) ?_
  refine lv_isub hx hb dX9_append_9 ?_
  refine x_ci (x_rS (As := [.int p0, .int 0, .int ((gI S 2) - 1)]) (rest := [.int 1, .ref (xa X 0)]) (okM X) hC hw (kX9_isBetween l X S _ p0 0 ((gI S 2) - 1) _ hf) (cwS 3 hts (gSt q_160 q_161 q_5 q_162) rfl rfl rfl (by decide +kernel) ⟨Nat.le_of_ble_eq_true rfl, Nat.le_of_ble_eq_true rfl⟩) rfl hl.1 rfl (Nat.le_of_ble_eq_true rfl) dX9_append_10) hw hi (fun r_1 S_2 H locs hf hw => ?_)
  obtain ⟨hf, rfl⟩ := hf
  have w_21 : ∀ (y_3 : Int32) (H : Heap) (locs : List Loc) (ls : Array Slot), jX9_append_21 p0 S Post y_3 → xH 133 X (cM X) (xA 133 X s.heap.size) s.heap S H locs → lv_has ls 2 [(0, .ref (xa X 0)), (1, .int p0)] → W p l e rX9_append s m args below meth c H locs 0 0 Q (F0 m 21 ls [.int y_3, .int 1, .ref (xa X 0)]) := by
    intro y_3 H locs ls hf hw hl
    rw [jX9_append_21] at hf
    refine x_ci (x_rV (As := [.int 1, .int y_3]) (rest := []) (okM X) hC hw (kX9_fails l X S _ 1 y_3 _ hf) (cwV 2 hts (gV q_163 q_164 q_165 q_5 q_166) rfl rfl rfl (by decide +kernel) ⟨Nat.le_of_ble_eq_true rfl, Nat.le_of_ble_eq_true rfl⟩) (x_recv hK hw (k := 0) (by decide) rfl rfl) rfl hl.1 rfl (Nat.le_of_ble_eq_true rfl) dX9_append_21) hw hi (fun r_4 S_5 H locs hf hw => ?_)
    refine lv_if_ne (tgt := 49) hx hb dX9_append_24 (by decide) (fun c_6 => ?_) (fun c_6 => ?_)
    · replace hf := hf.1 c_6
      refine lv_iconst (v := 0) hx hb dX9_append_49 (by decide) ?_
      exact hQ _ _ _ _ _ _ rfl hf hw dX9_append_50
    · replace hf := hf.2 c_6
      refine lv_aload_n hx hb dX9_append_27 rfl (lv_at hl 0 rfl) ?_
      refine lv_iconst (v := 2) hx hb dX9_append_28 (by decide) ?_
      refine lv_aload_n hx hb dX9_append_29 rfl (lv_at hl 0 rfl) ?_
      refine x_get (k := 0) (v := .int (gI S_5 5)) hx hb hts i_X9 hown hK hw (by decide) rfl rfl 7 (by decide) lf_86 (fun _ h9 => h9) rfl dX9_append_30 ?_
      refine lv_bipush (v := 8) hx hb dX9_append_33 (by decide) ?_
      have w_43 : ∀ (y_7 : Int32) (H : Heap) (locs : List Loc) (ls : Array Slot), jX9_append_43 p0 Post S_5 y_7 → xH 133 X (cM X) (xA 133 X s.heap.size) s.heap S_5 H locs → lv_has ls 2 [(0, .ref (xa X 0)), (1, .int p0)] → W p l e rX9_append s m args below meth c H locs 0 0 Q (F0 m 43 ls [.int y_7, .int 2, .ref (xa X 0)]) := by
        intro y_7 H locs ls hf hw hl
        rw [jX9_append_43] at hf
        refine x_ci (x_rV (As := [.int 2, .int y_7]) (rest := []) (okM X) hC hw (kX9_fails l X S_5 _ 2 y_7 _ hf) (cwV 2 hts (gV q_163 q_164 q_165 q_5 q_166) rfl rfl rfl (by decide +kernel) ⟨Nat.le_of_ble_eq_true rfl, Nat.le_of_ble_eq_true rfl⟩) (x_recv hK hw (k := 0) (by decide) rfl rfl) rfl hl.1 rfl (Nat.le_of_ble_eq_true rfl) dX9_append_43) hw hi (fun r_8 S_9 H locs hf hw => ?_)
        refine lv_if_eq (tgt := 51) hx hb dX9_append_46 (by decide) (fun c_10 => ?_) (fun c_10 => ?_)
        · replace hf := hf.1 c_10
          refine lv_aload_n hx hb dX9_append_51 rfl (lv_at hl 0 rfl) ?_
          refine x_get (k := 0) (v := .ref (xa X 2)) hx hb hts i_X9 hown hK hw (by decide) rfl rfl 6 (by decide) lf_21 (fun _ h9 => h9) rfl dX9_append_52 ?_
          refine lv_aload_n hx hb dX9_append_55 rfl (lv_at hl 0 rfl) ?_
          refine x_get (k := 0) (v := .int (gI S_9 5)) hx hb hts i_X9 hown hK hw (by decide) rfl rfl 7 (by decide) lf_86 (fun _ h9 => h9) rfl dX9_append_56 ?_
          refine lv_iload_n hx hb dX9_append_59 rfl (lv_at hl 1 rfl) ?_
          refine x_ist (n := 8) hx hb hK hw (by decide) rfl rfl hf.1 dX9_append_60 (uM_A2 X S_9 _ _) (fun H locs hw => ?_)
          replace hf := hf.2
          obtain ⟨S_11, eS_11⟩ : ∃ z : gS, z = uA S_9 2 (gI S_9 5).toNatClampNeg p0 := ⟨_, rfl⟩
          rw [← eS_11] at hw
          replace hf := hf S_11 eS_11
          refine lv_aload_n hx hb dX9_append_61 rfl (lv_at hl 0 rfl) ?_
          refine lv_dup hx hb dX9_append_62 rfl ?_
          refine x_get (k := 0) (v := .int (gI S_11 5)) hx hb hts i_X9 hown hK hw (by decide) rfl rfl 7 (by decide) lf_86 (fun _ h9 => h9) rfl dX9_append_63 ?_
          refine lv_iconst (v := 1) hx hb dX9_append_66 (by decide) ?_
          refine lv_iadd hx hb dX9_append_67 ?_
          refine x_put (k := 0) (S' := uI S_11 5 ((gI S_11 5) + 1)) (ty := .int) hx hb hts i_X9 tyX9_ok nmX9 hown hK hw (by decide) rfl rfl 7 (by decide) lf_86 (fun _ h9 => h9) rfl (by decide +kernel) rfl rfl (Nat.le_of_ble_eq_true rfl) dX9_append_68 (uM_I5 X S_11 _) (fun H locs hw => ?_)
          obtain ⟨S_12, eS_12⟩ : ∃ z : gS, z = uI S_11 5 ((gI S_11 5) + 1) := ⟨_, rfl⟩
          rw [← eS_12] at hw
          replace hf := hf S_12 eS_12
          refine lv_aload_n hx hb dX9_append_71 rfl (lv_at hl 0 rfl) ?_
          refine lv_iconst (v := 0) hx hb dX9_append_72 (by decide) ?_
          refine x_put (k := 0) (S' := uI S_12 6 0) (ty := .int) hx hb hts i_X9 tyX9_ok nmX9 hown hK hw (by decide) rfl rfl 13 (by decide) lf_89 (fun _ h9 => h9) rfl (by decide +kernel) rfl rfl (Nat.le_of_ble_eq_true rfl) dX9_append_73 (uM_I6 X S_12 _) (fun H locs hw => ?_)
          obtain ⟨S_13, eS_13⟩ : ∃ z : gS, z = uI S_12 6 0 := ⟨_, rfl⟩
          rw [← eS_13] at hw
          replace hf := hf S_13 eS_13
          refine lv_aload_n hx hb dX9_append_76 rfl (lv_at hl 0 rfl) ?_
          refine x_get (k := 0) (v := .int (gI S_13 5)) hx hb hts i_X9 hown hK hw (by decide) rfl rfl 7 (by decide) lf_86 (fun _ h9 => h9) rfl dX9_append_77 ?_
          exact hQ _ _ _ _ _ _ rfl hf hw dX9_append_80
        · replace hf := hf.2 c_10
          refine lv_iconst (v := 0) hx hb dX9_append_49 (by decide) ?_
          exact hQ _ _ _ _ _ _ rfl hf hw dX9_append_50
      refine lv_icmp_ne (tgt := 42) hx hb dX9_append_35 (by decide) (fun c_14 => ?_) (fun c_14 => ?_)
      · replace hf := hf.1 c_14
        refine lv_iconst (v := 0) hx hb dX9_append_42 (by decide) ?_
        exact w_43 0 _ _ _ hf hw (lv_sub hl [0, 1] rfl)
      · replace hf := hf.2 c_14
        refine lv_iconst (v := 1) hx hb dX9_append_38 (by decide) ?_
        refine lv_goto (tgt := 43) hx hb dX9_append_39 (by decide) ?_
        exact w_43 1 _ _ _ hf hw (lv_sub hl [0, 1] rfl)
  refine lv_if_ne (tgt := 20) hx hb dX9_append_13 (by decide) (fun c_15 => ?_) (fun c_15 => ?_)
  · replace hf := hf.1 c_15
    refine lv_iconst (v := 0) hx hb dX9_append_20 (by decide) ?_
    exact w_21 0 _ _ _ hf hw (lv_sub hl [0, 1] rfl)
  · replace hf := hf.2 c_15
    refine lv_iconst (v := 1) hx hb dX9_append_16 (by decide) ?_
    refine lv_goto (tgt := 21) hx hb dX9_append_17 (by decide) ?_
    exact w_21 1 _ _ _ hf hw (lv_sub hl [0, 1] rfl)
def pX9_clearWord (S : gS) (Post : Int32 → gS → Prop) : Prop :=
  (∀ S_1 : gS, S_1 = uI S 0 0 → (∀ x1_2 : Int32, x1_2 = gI S_1 5 → (∀ S_3 : gS, S_3 = uI S_1 5 0 → (∀ S_4 : gS, S_4 = uI S_3 6 0 → Post x1_2 S_4))))
def rX9_clearWord : Room := { frames := 0, cells := 0, slots := 0, locals := 0 }
set_option maxHeartbeats 40000000 in
set_option maxRecDepth 100000 in
theorem kX9_clearWord (l : Launch) (X : xG) (S : gS) (sz : Nat) (Post : Int32 → gS → Prop) (hf : pX9_clearWord S Post) : xMi l yX9_clearWord (Cond.code yX9_clearWord cX9_clearWord 2 (some .int) :: WS) rX9_clearWord 133 X (cM X) (eM X) S sz [.ref (xa X 0)] Post := by
  refine xMi.of (cc := cX9_clearWord) (maxL := 2) (own := RX9) (by decide) rfl rfl (Nat.le_of_ble_eq_true rfl) ?_
  intro p e s m args below meth c ls Q hC hQ hw hl
  obtain ⟨hx, hb, hml, hown, hts, hE, hi⟩ := id hC
  have hK := hE.1
  have hl : lv_has ls 2 [(0, .ref (xa X 0))] := hl
  have lf_69 : (Cond.fieldLink RX9 69 "GrammarAmbiguityModel" "thrown" "I").before args s = true := hts _ q_167
  have lf_86 : (Cond.fieldLink RX9 86 "GrammarAmbiguityModel" "length" "I").before args s = true := hts _ q_158
  have lf_89 : (Cond.fieldLink RX9 89 "GrammarAmbiguityModel" "nodes" "I").before args s = true := hts _ q_159
  rw [pX9_clearWord] at hf
  refine lv_aload_n hx hb dX9_clearWord_0 rfl (lv_at hl 0 rfl) ?_
  refine lv_iconst (v := 0) hx hb dX9_clearWord_1 (by decide) ?_
  refine x_put (k := 0) (S' := uI S 0 0) (ty := .int) hx hb hts i_X9 tyX9_ok nmX9 hown hK hw (by decide) rfl rfl 0 (by decide) lf_69 (fun _ h9 => h9) rfl (by decide +kernel) rfl rfl (Nat.le_of_ble_eq_true rfl) dX9_clearWord_2 (uM_I0 X S _) (fun H locs hw => ?_)
  obtain ⟨S_1, eS_1⟩ : ∃ z : gS, z = uI S 0 0 := ⟨_, rfl⟩
  rw [← eS_1] at hw
  replace hf := hf S_1 eS_1
  refine lv_aload_n hx hb dX9_clearWord_5 rfl (lv_at hl 0 rfl) ?_
  refine x_get (k := 0) (v := .int (gI S_1 5)) hx hb hts i_X9 hown hK hw (by decide) rfl rfl 7 (by decide) lf_86 (fun _ h9 => h9) rfl dX9_clearWord_6 ?_
  refine lv_topi (fun x1_2 ex1_2 => ?_)
  replace hf := hf x1_2 ex1_2
  refine lv_istore_n (lv' := [(1, .int x1_2), (0, .ref (xa X 0))]) hx hb dX9_clearWord_9 rfl hl (by decide) rfl (fun ls hl => ?_)
  refine lv_aload_n hx hb dX9_clearWord_10 rfl (lv_at hl 1 rfl) ?_
  refine lv_iconst (v := 0) hx hb dX9_clearWord_11 (by decide) ?_
  refine x_put (k := 0) (S' := uI S_1 5 0) (ty := .int) hx hb hts i_X9 tyX9_ok nmX9 hown hK hw (by decide) rfl rfl 7 (by decide) lf_86 (fun _ h9 => h9) rfl (by decide +kernel) rfl rfl (Nat.le_of_ble_eq_true rfl) dX9_clearWord_12 (uM_I5 X S_1 _) (fun H locs hw => ?_)
  obtain ⟨S_3, eS_3⟩ : ∃ z : gS, z = uI S_1 5 0 := ⟨_, rfl⟩
  rw [← eS_3] at hw
  replace hf := hf S_3 eS_3
  refine lv_aload_n hx hb dX9_clearWord_15 rfl (lv_at hl 1 rfl) ?_
  refine lv_iconst (v := 0) hx hb dX9_clearWord_16 (by decide) ?_
  refine x_put (k := 0) (S' := uI S_3 6 0) (ty := .int) hx hb hts i_X9 tyX9_ok nmX9 hown hK hw (by decide) rfl rfl 13 (by decide) lf_89 (fun _ h9 => h9) rfl (by decide +kernel) rfl rfl (Nat.le_of_ble_eq_true rfl) dX9_clearWord_17 (uM_I6 X S_3 _) (fun H locs hw => ?_)
  obtain ⟨S_4, eS_4⟩ : ∃ z : gS, z = uI S_3 6 0 := ⟨_, rfl⟩
  rw [← eS_4] at hw
  replace hf := hf S_4 eS_4
  refine lv_iload_n hx hb dX9_clearWord_20 rfl (lv_at hl 0 rfl) ?_
  exact hQ _ _ _ _ _ _ rfl hf hw dX9_clearWord_21
def pX9_wordLength (S : gS) (Post : Int32 → gS → Prop) : Prop :=
  (∀ S_1 : gS, S_1 = uI S 0 0 → Post (gI S_1 5) S_1)
def rX9_wordLength : Room := { frames := 0, cells := 0, slots := 0, locals := 0 }
set_option maxHeartbeats 40000000 in
set_option maxRecDepth 100000 in
theorem kX9_wordLength (l : Launch) (X : xG) (S : gS) (sz : Nat) (Post : Int32 → gS → Prop) (hf : pX9_wordLength S Post) : xMi l yX9_wordLength (Cond.code yX9_wordLength cX9_wordLength 1 (some .int) :: WS) rX9_wordLength 133 X (cM X) (eM X) S sz [.ref (xa X 0)] Post := by
  refine xMi.of (cc := cX9_wordLength) (maxL := 1) (own := RX9) (by decide) rfl rfl (Nat.le_of_ble_eq_true rfl) ?_
  intro p e s m args below meth c ls Q hC hQ hw hl
  obtain ⟨hx, hb, hml, hown, hts, hE, hi⟩ := id hC
  have hK := hE.1
  have hl : lv_has ls 1 [(0, .ref (xa X 0))] := hl
  have lf_69 : (Cond.fieldLink RX9 69 "GrammarAmbiguityModel" "thrown" "I").before args s = true := hts _ q_167
  have lf_86 : (Cond.fieldLink RX9 86 "GrammarAmbiguityModel" "length" "I").before args s = true := hts _ q_158
  rw [pX9_wordLength] at hf
  refine lv_aload_n hx hb dX9_wordLength_0 rfl (lv_at hl 0 rfl) ?_
  refine lv_iconst (v := 0) hx hb dX9_wordLength_1 (by decide) ?_
  refine x_put (k := 0) (S' := uI S 0 0) (ty := .int) hx hb hts i_X9 tyX9_ok nmX9 hown hK hw (by decide) rfl rfl 0 (by decide) lf_69 (fun _ h9 => h9) rfl (by decide +kernel) rfl rfl (Nat.le_of_ble_eq_true rfl) dX9_wordLength_2 (uM_I0 X S _) (fun H locs hw => ?_)
  obtain ⟨S_1, eS_1⟩ : ∃ z : gS, z = uI S 0 0 := ⟨_, rfl⟩
  rw [← eS_1] at hw
  replace hf := hf S_1 eS_1
  refine lv_aload_n hx hb dX9_wordLength_5 rfl (lv_at hl 0 rfl) ?_
  refine x_get (k := 0) (v := .int (gI S_1 5)) hx hb hts i_X9 hown hK hw (by decide) rfl rfl 7 (by decide) lf_86 (fun _ h9 => h9) rfl dX9_wordLength_6 ?_
  exact hQ _ _ _ _ _ _ rfl hf hw dX9_wordLength_9
def pX9_terminalAt (p0 : Int32) (S : gS) (Post : Int32 → gS → Prop) : Prop :=
  (pX9_isBetween p0 0 ((gI S 5) - 1) S (fun r_1 => ((¬ r_1 = 0 → (pX9_fails 1 0 S (fun r_4 S_5 => ((r_4 = 0 → (vp_in p0 8 ∧ Post (gA S_5 2 p0.toNatClampNeg) S_5)) ∧ (¬ r_4 = 0 → Post 0 S_5))))) ∧ (r_1 = 0 → (pX9_fails 1 1 S (fun r_7 S_8 => ((r_7 = 0 → (vp_in p0 8 ∧ Post (gA S_8 2 p0.toNatClampNeg) S_8)) ∧ (¬ r_7 = 0 → Post 0 S_8))))))))
def rX9_terminalAt : Room := { frames := 1, cells := 0, slots := 0, locals := 22 }
set_option maxHeartbeats 40000000 in
set_option maxRecDepth 100000 in
theorem kX9_terminalAt (l : Launch) (X : xG) (S : gS) (sz : Nat) (p0 : Int32) (Post : Int32 → gS → Prop) (hf : pX9_terminalAt p0 S Post) : xMi l yX9_terminalAt (Cond.code yX9_terminalAt cX9_terminalAt 2 (some .int) :: WS) rX9_terminalAt 133 X (cM X) (eM X) S sz [.ref (xa X 0), .int p0] Post := by
  refine xMi.of (cc := cX9_terminalAt) (maxL := 2) (own := RX9) (by decide) rfl rfl (Nat.le_of_ble_eq_true rfl) ?_
  intro p e s m args below meth c ls Q hC hQ hw hl
  obtain ⟨hx, hb, hml, hown, hts, hE, hi⟩ := id hC
  have hK := hE.1
  have hl : lv_has ls 2 [(0, .ref (xa X 0)), (1, .int p0)] := hl
  have lf_86 : (Cond.fieldLink RX9 86 "GrammarAmbiguityModel" "length" "I").before args s = true := hts _ q_158
  have lf_21 : (Cond.fieldLink RX9 21 "GrammarAmbiguityModel" "word" "[I").before args s = true := hts _ q_111
  rw [pX9_terminalAt] at hf
  refine lv_aload_n hx hb dX9_terminalAt_0 rfl (lv_at hl 0 rfl) ?_
  refine lv_iconst (v := 1) hx hb dX9_terminalAt_1 (by decide) ?_
  refine lv_iload_n hx hb dX9_terminalAt_2 rfl (lv_at hl 1 rfl) ?_
  refine lv_iconst (v := 0) hx hb dX9_terminalAt_3 (by decide) ?_
  refine lv_aload_n hx hb dX9_terminalAt_4 rfl (lv_at hl 0 rfl) ?_
  refine x_get (k := 0) (v := .int (gI S 5)) hx hb hts i_X9 hown hK hw (by decide) rfl rfl 7 (by decide) lf_86 (fun _ h9 => h9) rfl dX9_terminalAt_5 ?_
  refine lv_iconst (v := 1) hx hb dX9_terminalAt_8 (by decide) ?_
  refine lv_isub hx hb dX9_terminalAt_9 ?_
  refine x_ci (x_rS (As := [.int p0, .int 0, .int ((gI S 5) - 1)]) (rest := [.int 1, .ref (xa X 0)]) (okM X) hC hw (kX9_isBetween l X S _ p0 0 ((gI S 5) - 1) _ hf) (cwS 3 hts (gSt q_160 q_161 q_5 q_162) rfl rfl rfl (by decide +kernel) ⟨Nat.le_of_ble_eq_true rfl, Nat.le_of_ble_eq_true rfl⟩) rfl hl.1 rfl (Nat.le_of_ble_eq_true rfl) dX9_terminalAt_10) hw hi (fun r_1 S_2 H locs hf hw => ?_)
  obtain ⟨hf, rfl⟩ := hf
  refine lv_if_ne (tgt := 20) hx hb dX9_terminalAt_13 (by decide) (fun c_3 => ?_) (fun c_3 => ?_)
  · replace hf := hf.1 c_3
    refine lv_iconst (v := 0) hx hb dX9_terminalAt_20 (by decide) ?_
    refine x_ci (x_rV (As := [.int 1, .int 0]) (rest := []) (okM X) hC hw (kX9_fails l X S _ 1 0 _ hf) (cwV 2 hts (gV q_163 q_164 q_165 q_5 q_166) rfl rfl rfl (by decide +kernel) ⟨Nat.le_of_ble_eq_true rfl, Nat.le_of_ble_eq_true rfl⟩) (x_recv hK hw (k := 0) (by decide) rfl rfl) rfl hl.1 rfl (Nat.le_of_ble_eq_true rfl) dX9_terminalAt_21) hw hi (fun r_4 S_5 H locs hf hw => ?_)
    refine lv_if_eq (tgt := 31) hx hb dX9_terminalAt_24 (by decide) (fun c_6 => ?_) (fun c_6 => ?_)
    · replace hf := hf.1 c_6
      refine lv_aload_n hx hb dX9_terminalAt_31 rfl (lv_at hl 0 rfl) ?_
      refine x_get (k := 0) (v := .ref (xa X 2)) hx hb hts i_X9 hown hK hw (by decide) rfl rfl 6 (by decide) lf_21 (fun _ h9 => h9) rfl dX9_terminalAt_32 ?_
      refine lv_iload_n hx hb dX9_terminalAt_35 rfl (lv_at hl 1 rfl) ?_
      refine x_ild (n := 8) hx hb hK hw (by decide) rfl rfl hf.1 dX9_terminalAt_36 ?_
      replace hf := hf.2
      exact hQ _ _ _ _ _ _ rfl hf hw dX9_terminalAt_37
    · replace hf := hf.2 c_6
      refine lv_iconst (v := 0) hx hb dX9_terminalAt_27 (by decide) ?_
      refine lv_goto (tgt := 37) hx hb dX9_terminalAt_28 (by decide) ?_
      exact hQ _ _ _ _ _ _ rfl hf hw dX9_terminalAt_37
  · replace hf := hf.2 c_3
    refine lv_iconst (v := 1) hx hb dX9_terminalAt_16 (by decide) ?_
    refine lv_goto (tgt := 21) hx hb dX9_terminalAt_17 (by decide) ?_
    refine x_ci (x_rV (As := [.int 1, .int 1]) (rest := []) (okM X) hC hw (kX9_fails l X S _ 1 1 _ hf) (cwV 2 hts (gV q_163 q_164 q_165 q_5 q_166) rfl rfl rfl (by decide +kernel) ⟨Nat.le_of_ble_eq_true rfl, Nat.le_of_ble_eq_true rfl⟩) (x_recv hK hw (k := 0) (by decide) rfl rfl) rfl hl.1 rfl (Nat.le_of_ble_eq_true rfl) dX9_terminalAt_21) hw hi (fun r_7 S_8 H locs hf hw => ?_)
    refine lv_if_eq (tgt := 31) hx hb dX9_terminalAt_24 (by decide) (fun c_9 => ?_) (fun c_9 => ?_)
    · replace hf := hf.1 c_9
      refine lv_aload_n hx hb dX9_terminalAt_31 rfl (lv_at hl 0 rfl) ?_
      refine x_get (k := 0) (v := .ref (xa X 2)) hx hb hts i_X9 hown hK hw (by decide) rfl rfl 6 (by decide) lf_21 (fun _ h9 => h9) rfl dX9_terminalAt_32 ?_
      refine lv_iload_n hx hb dX9_terminalAt_35 rfl (lv_at hl 1 rfl) ?_
      refine x_ild (n := 8) hx hb hK hw (by decide) rfl rfl hf.1 dX9_terminalAt_36 ?_
      replace hf := hf.2
      exact hQ _ _ _ _ _ _ rfl hf hw dX9_terminalAt_37
    · replace hf := hf.2 c_9
      refine lv_iconst (v := 0) hx hb dX9_terminalAt_27 (by decide) ?_
      refine lv_goto (tgt := 37) hx hb dX9_terminalAt_28 (by decide) ?_
      exact hQ _ _ _ _ _ _ rfl hf hw dX9_terminalAt_37
