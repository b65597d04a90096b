/-! Printed by wip/whole/gen: what each method asks (p..), and its contract under that (k..). -/
def rX9_skip (d : Nat) : Room := { frames := 2 + 1 * d, cells := 0, slots := 0, locals := 60 + 40 * d }
def bX9_skip_6 (B : Int32 → gS → (Int32 → Prop) → Prop) (p0 : Int32) (S : gS) (Post : Int32 → Prop) (L_6 : Int32 × Int32 → Prop) (x2_2 : Int32) (x3_3 : Int32) : Prop :=
  ((4 ≤ x3_3 → Post x2_2) ∧ (¬ 4 ≤ x3_3 → (vp_in p0 16 ∧ (vp_in (gA S 8 p0.toNatClampNeg) 24 ∧ (vp_in x3_3 4 ∧ (∀ x4_6 : Int32, x4_6 = gA S (16 + (gA S 8 p0.toNatClampNeg).toNatClampNeg) x3_3.toNatClampNeg → ((x4_6 < 0 → (∀ x3_8 : Int32, x3_8 = x3_3 + 1 → L_6 (x2_2, x3_8))) ∧ (¬ x4_6 < 0 → ((10 ≤ x4_6 → (∀ x3_10 : Int32, x3_10 = x3_3 + 1 → L_6 (x2_2, x3_10))) ∧ (¬ 10 ≤ x4_6 → (B x2_2 S (fun r_11 => (∀ x3_13 : Int32, x3_13 = x3_3 + 1 → L_6 (r_11, x3_13))))))))))))))
def fX9_skip (B : Int32 → gS → (Int32 → Prop) → Prop) (p0 : Int32) (S : gS) (Post : Int32 → Prop) : Prop :=
  (∀ x2_1 : Int32, x2_1 = (p0 + 1) → ∃ n, lp (fun L x => bX9_skip_6 B p0 S Post L x.1 x.2) n (x2_1, 1))
set_option maxHeartbeats 40000000 in
set_option maxRecDepth 100000 in
theorem sX9_skip (l : Launch) (X : xG) (d : Nat) (B : Int32 → gS → (Int32 → Prop) → Prop) (ih : ∀ (S : gS) (sz : Nat) (p0 : Int32) (Post : Int32 → Prop), B p0 S Post → xMi l yX9_skip (Cond.code yX9_skip cX9_skip 5 (some .int) :: WS) (rX9_skip d) 133 X (cM X) (eM X) S sz [.ref (xa X 0), .int p0] (fun r S' => Post r ∧ S = S')) (S : gS) (sz : Nat) (p0 : Int32) (Post : Int32 → Prop) (hf : fX9_skip B p0 S Post) : xMi l yX9_skip (Cond.code yX9_skip cX9_skip 5 (some .int) :: WS) (rX9_skip (d + 1)) 133 X (cM X) (eM X) S sz [.ref (xa X 0), .int p0] (fun r S' => Post r ∧ S = S') := by
  refine xMi.of (cc := cX9_skip) (maxL := 5) (own := RX9) (by decide) rfl rfl (Nat.le_of_ble_eq_true rfl) ?_
  intro p e s m args below meth c ls Q hC hQ hw hl
  obtain ⟨hx, hb, hml, hown, hts, hE, hi⟩ := id hC
  have hK := hE.1
  have hl : lv_has ls 5 [(0, .ref (xa X 0)), (1, .int p0)] := hl
  have lf_18 : (Cond.fieldLink RX9 18 "GrammarAmbiguityModel" "symbols" "[[I").before args s = true := hts _ q_110
  have lf_45 : (Cond.fieldLink RX9 45 "GrammarAmbiguityModel" "nodeProduction" "[I").before args s = true := hts _ q_118
  rw [fX9_skip] at hf
  refine lv_iload_n hx hb dX9_skip_0 rfl (lv_at hl 1 rfl) ?_
  refine lv_iconst (v := 1) hx hb dX9_skip_1 (by decide) ?_
  refine lv_iadd hx hb dX9_skip_2 ?_
  refine lv_topi (fun x2_1 ex2_1 => ?_)
  replace hf := hf x2_1 ex2_1
  refine lv_istore_n (lv' := [(2, .int x2_1), (0, .ref (xa X 0)), (1, .int p0)]) hx hb dX9_skip_3 rfl hl (by decide) rfl (fun ls hl => ?_)
  refine lv_iconst (v := 1) hx hb dX9_skip_4 (by decide) ?_
  refine lv_istore_n (lv' := [(3, .int 1), (2, .int x2_1), (0, .ref (xa X 0)), (1, .int p0)]) hx hb dX9_skip_5 rfl hl (by decide) rfl (fun ls hl => ?_)
  obtain ⟨n_6, hf⟩ := hf
  have w_6 : ∀ (n : Nat) (x2_2 : Int32) (x3_3 : Int32) (H : Heap) (locs : List Loc) (ls : Array Slot), lp (fun L x => bX9_skip_6 B p0 S Post L x.1 x.2) n (x2_2, x3_3) → xH 133 X (cM X) (xA 133 X s.heap.size) s.heap S H locs → lv_has ls 5 [(0, .ref (xa X 0)), (1, .int p0), (2, .int x2_2), (3, .int x3_3)] → W p l e (rX9_skip (d + 1)) s m args below meth c H locs 0 0 Q (F0 m 6 ls []) := by
    intro n
    induction n with
    | zero => intro x2_2 x3_3 H locs ls hf; exact hf.elim
    | succ n ih_6 =>
      intro x2_2 x3_3 H locs ls hf hw hl
      replace hf : bX9_skip_6 B p0 S Post (lp (fun L x => bX9_skip_6 B p0 S Post L x.1 x.2) n) x2_2 x3_3 := hf
      generalize lp (fun L x => bX9_skip_6 B p0 S Post L x.1 x.2) n = L_6 at hf ih_6
      rw [bX9_skip_6] at hf
      refine lv_iload_n hx hb dX9_skip_6 rfl (lv_at hl 3 rfl) ?_
      refine lv_iconst (v := 4) hx hb dX9_skip_7 (by decide) ?_
      refine lv_icmp_ge (tgt := 54) hx hb dX9_skip_8 (by decide) (fun c_4 => ?_) (fun c_4 => ?_)
      · replace hf := hf.1 c_4
        refine lv_iload_n hx hb dX9_skip_54 rfl (lv_at hl 2 rfl) ?_
        exact hQ _ _ _ _ _ _ rfl ⟨hf, rfl⟩ hw dX9_skip_55
      · replace hf := hf.2 c_4
        refine lv_aload_n hx hb dX9_skip_11 rfl (lv_at hl 0 rfl) ?_
        refine x_get (k := 0) (v := .ref (xa X 1)) hx hb hts i_X9 hown hK hw (by decide) rfl rfl 5 (by decide) lf_18 (fun _ h9 => h9) rfl dX9_skip_12 ?_
        refine lv_aload_n hx hb dX9_skip_15 rfl (lv_at hl 0 rfl) ?_
        refine x_get (k := 0) (v := .ref (xa X 8)) hx hb hts i_X9 hown hK hw (by decide) rfl rfl 14 (by decide) lf_45 (fun _ h9 => h9) rfl dX9_skip_16 ?_
        refine lv_iload_n hx hb dX9_skip_19 rfl (lv_at hl 1 rfl) ?_
        refine x_ild (n := 16) hx hb hK hw (by decide) rfl rfl hf.1 dX9_skip_20 ?_
        replace hf := hf.2
        have hb_5 := vp_lt hf.1
        refine x_ald (n := 24) (v := .ref (xa X (16 + (gA S 8 p0.toNatClampNeg).toNatClampNeg))) hx hb hK hw (by decide) rfl 3 rfl rfl hf.1 (rf_lt hb_5) dX9_skip_21 ?_
        replace hf := hf.2
        refine lv_iload_n hx hb dX9_skip_22 rfl (lv_at hl 3 rfl) ?_
        refine x_ild (n := 4) hx hb hK hw (by omega) (cM_sy hb_5) rfl hf.1 dX9_skip_23 ?_
        replace hf := hf.2
        refine lv_topi (fun x4_6 ex4_6 => ?_)
        replace hf := hf x4_6 ex4_6
        refine lv_istore (lv' := [(4, .int x4_6), (0, .ref (xa X 0)), (1, .int p0), (2, .int x2_2), (3, .int x3_3)]) hx hb dX9_skip_24 hl (by decide) rfl (fun ls hl => ?_)
        refine lv_iload hx hb dX9_skip_26 (lv_at hl 0 rfl) ?_
        refine lv_if_lt (tgt := 46) hx hb dX9_skip_28 (by decide) (fun c_7 => ?_) (fun c_7 => ?_)
        · replace hf := hf.1 c_7
          refine lv_iload_n hx hb dX9_skip_46 rfl (lv_at hl 3 rfl) ?_
          refine lv_istore_n (lv' := [(2, .int x2_2), (4, .int x4_6), (0, .ref (xa X 0)), (1, .int p0), (3, .int x3_3)]) hx hb dX9_skip_47 rfl hl (by decide) rfl (fun ls hl => ?_)
          obtain ⟨x3_8, ex3_8⟩ : ∃ y : Int32, y = x3_3 + 1 := ⟨_, rfl⟩
          replace hf := hf x3_8 ex3_8
          refine lv_iinc (v := x3_8) (lv' := [(3, .int x3_8), (2, .int x2_2), (4, .int x4_6), (0, .ref (xa X 0)), (1, .int p0)]) hx hb dX9_skip_48 hl (k := 4) rfl (by rw [ex3_8]; rfl) (by decide) rfl (fun ls hl => ?_)
          refine lv_goto (tgt := 6) hx hb dX9_skip_51 (by decide) ?_
          exact ih_6 x2_2 x3_8 _ _ _ hf hw (lv_sub hl [3, 4, 1, 0] rfl)
        · replace hf := hf.2 c_7
          refine lv_iload hx hb dX9_skip_31 (lv_at hl 0 rfl) ?_
          refine lv_bipush (v := 10) hx hb dX9_skip_33 (by decide) ?_
          refine lv_icmp_ge (tgt := 46) hx hb dX9_skip_35 (by decide) (fun c_9 => ?_) (fun c_9 => ?_)
          · replace hf := hf.1 c_9
            refine lv_iload_n hx hb dX9_skip_46 rfl (lv_at hl 3 rfl) ?_
            refine lv_istore_n (lv' := [(2, .int x2_2), (4, .int x4_6), (0, .ref (xa X 0)), (1, .int p0), (3, .int x3_3)]) hx hb dX9_skip_47 rfl hl (by decide) rfl (fun ls hl => ?_)
            obtain ⟨x3_10, ex3_10⟩ : ∃ y : Int32, y = x3_3 + 1 := ⟨_, rfl⟩
            replace hf := hf x3_10 ex3_10
            refine lv_iinc (v := x3_10) (lv' := [(3, .int x3_10), (2, .int x2_2), (4, .int x4_6), (0, .ref (xa X 0)), (1, .int p0)]) hx hb dX9_skip_48 hl (k := 4) rfl (by rw [ex3_10]; rfl) (by decide) rfl (fun ls hl => ?_)
            refine lv_goto (tgt := 6) hx hb dX9_skip_51 (by decide) ?_
            exact ih_6 x2_2 x3_10 _ _ _ hf hw (lv_sub hl [3, 4, 1, 0] rfl)
          · replace hf := hf.2 c_9
            refine lv_aload_n hx hb dX9_skip_38 rfl (lv_at hl 1 rfl) ?_
            refine lv_iload_n hx hb dX9_skip_39 rfl (lv_at hl 3 rfl) ?_
            refine x_ci (x_rV (As := [.int x2_2]) (rest := []) (okM X) hC hw (ih S _ x2_2 _ hf) (cwV 1 hts (gV q_819 q_820 q_821 q_5 q_822) rfl rfl rfl (by decide +kernel) ⟨by simp only [rX9_skip]; omega, by simp only [rX9_skip]; omega⟩) (x_recv hK hw (k := 0) (by decide) rfl rfl) rfl hl.1 rfl (Nat.le_of_ble_eq_true rfl) dX9_skip_40) hw hi (fun r_11 S_12 H locs hf hw => ?_)
            obtain ⟨hf, rfl⟩ := hf
            refine lv_goto (tgt := 47) hx hb dX9_skip_43 (by decide) ?_
            refine lv_istore_n (lv' := [(2, .int r_11), (4, .int x4_6), (0, .ref (xa X 0)), (1, .int p0), (3, .int x3_3)]) hx hb dX9_skip_47 rfl hl (by decide) rfl (fun ls hl => ?_)
            obtain ⟨x3_13, ex3_13⟩ : ∃ y : Int32, y = x3_3 + 1 := ⟨_, rfl⟩
            replace hf := hf x3_13 ex3_13
            refine lv_iinc (v := x3_13) (lv' := [(3, .int x3_13), (2, .int r_11), (4, .int x4_6), (0, .ref (xa X 0)), (1, .int p0)]) hx hb dX9_skip_48 hl (k := 4) rfl (by rw [ex3_13]; rfl) (by decide) rfl (fun ls hl => ?_)
            refine lv_goto (tgt := 6) hx hb dX9_skip_51 (by decide) ?_
            exact ih_6 r_11 x3_13 _ _ _ hf hw (lv_sub hl [3, 4, 1, 0] rfl)
  exact w_6 n_6 x2_1 1 _ _ _ hf hw (lv_sub hl [2, 3, 1, 0] rfl)
def pX9_skip : Nat → Int32 → gS → (Int32 → Prop) → Prop
  | 0 => fun _ _ _ => False
  | d + 1 => fX9_skip (pX9_skip d)
theorem kX9_skip (l : Launch) (X : xG) : ∀ (d : Nat) (S : gS) (sz : Nat) (p0 : Int32) (Post : Int32 → Prop), pX9_skip d p0 S Post → xMi l yX9_skip (Cond.code yX9_skip cX9_skip 5 (some .int) :: WS) (rX9_skip d) 133 X (cM X) (eM X) S sz [.ref (xa X 0), .int p0] (fun r S' => Post r ∧ S = S')
  | 0 => fun _ _ _ _ hf => hf.elim
  | d + 1 => fun S sz p0 Post hf => sX9_skip l X d (pX9_skip d) (kX9_skip l X d) S sz p0 Post hf
def rX9_build (d : Nat) : Room := { frames := 8 + 8 * d, cells := 0, slots := 0, locals := 400 + 400 * d }
def pX9_buildNode (B : Int32 → Int32 → Int32 → Int64 → gS → (gS → Prop) → Prop) (p0 : Int32) (p1 : Int32) (p2 : Int32) (p3 : Int32) (p4 : Int32) (p5 : Int64) (S : gS) (Post : gS → Prop) : Prop :=
  (vp_in (gI S 6) 16 ∧ (∀ S_1 : gS, S_1 = uA S 8 (gI S 6).toNatClampNeg p0 → (vp_in (gI S_1 6) 16 ∧ (∀ S_2 : gS, S_2 = uA S_1 9 (gI S_1 6).toNatClampNeg p1 → (vp_in (gI S_2 6) 16 ∧ (∀ S_3 : gS, S_3 = uA S_2 10 (gI S_2 6).toNatClampNeg ((p2 + p3) + p4) → (∀ S_4 : gS, S_4 = uI S_3 6 ((gI S_3 6) + 1) → (vp_in p0 24 ∧ (vp_in (3 : Int32) 4 ∧ (pX9_treesOf (gA S_4 (16 + p0.toNatClampNeg) (3 : Int32).toNatClampNeg) ((p1 + p2) + p3) p4 S_4 (fun r_6 => (vp_in p0 24 ∧ (vp_in (2 : Int32) 4 ∧ (pX9_treesOf (gA S_4 (16 + p0.toNatClampNeg) (2 : Int32).toNatClampNeg) (p1 + p2) p3 S_4 (fun r_9 => (∀ x10_11 : Int64, x10_11 = (r_6 * r_9) → (vp_in p0 24 ∧ (vp_in (1 : Int32) 4 ∧ (¬ x10_11 = 0 ∧ (B (gA S_4 (16 + p0.toNatClampNeg) (1 : Int32).toNatClampNeg) p1 p2 (p5 / x10_11) S_4 (fun S_14 => (vp_in p0 24 ∧ (vp_in (2 : Int32) 4 ∧ (¬ x10_11 = 0 ∧ (¬ r_6 = 0 ∧ (B (gA S_14 (16 + p0.toNatClampNeg) (2 : Int32).toNatClampNeg) (p1 + p2) p3 ((p5 - p5 / x10_11 * x10_11) / r_6) S_14 (fun S_17 => (vp_in p0 24 ∧ (vp_in (3 : Int32) 4 ∧ (¬ r_6 = 0 ∧ (B (gA S_17 (16 + p0.toNatClampNeg) (3 : Int32).toNatClampNeg) ((p1 + p2) + p3) p4 (p5 - p5 / r_6 * r_6) S_17 (fun S_20 => Post S_20))))))))))))))))))))))))))))))))
def rX9_buildNode (d : Nat) : Room := { frames := (rX9_build d).frames + 3, cells := 0, slots := 0, locals := (rX9_build d).locals + 80 }
set_option maxHeartbeats 40000000 in
set_option maxRecDepth 100000 in
theorem kX9_buildNode (l : Launch) (X : xG) (d : Nat) (B : Int32 → Int32 → Int32 → Int64 → gS → (gS → Prop) → Prop) (ih : ∀ (S : gS) (sz : Nat) (p0 : Int32) (p1 : Int32) (p2 : Int32) (p3 : Int64) (Post : gS → Prop), B p0 p1 p2 p3 S Post → xMv l yX9_build (Cond.code yX9_build cX9_build 15 none :: WS) (rX9_build d) 133 X (cM X) (eM X) S sz [.ref (xa X 0), .int p0, .int p1, .int p2, .long p3] Post) (S : gS) (sz : Nat) (p0 : Int32) (p1 : Int32) (p2 : Int32) (p3 : Int32) (p4 : Int32) (p5 : Int64) (Post : gS → Prop) (hf : pX9_buildNode B p0 p1 p2 p3 p4 p5 S Post) : xMv l yX9_buildNode (Cond.code yX9_buildNode cX9_buildNode 12 none :: WS) (rX9_buildNode d) 133 X (cM X) (eM X) S sz [.ref (xa X 0), .int p0, .int p1, .int p2, .int p3, .int p4, .long p5] Post := by
  refine xMv.of (cc := cX9_buildNode) (maxL := 12) (own := RX9) (by decide) rfl rfl (Nat.le_of_ble_eq_true rfl) ?_
  intro p e s m args below meth c ls Q hC hQ hw hl
  obtain ⟨hx, hb, hml, hown, hts, hE, hi⟩ := id hC
  have hK := hE.1
  have hl : lv_has ls 12 [(0, .ref (xa X 0)), (1, .int p0), (2, .int p1), (3, .int p2), (4, .int p3), (5, .int p4), (6, .long p5)] := hl
  have lf_45 : (Cond.fieldLink RX9 45 "GrammarAmbiguityModel" "nodeProduction" "[I").before args s = true := hts _ q_118
  have lf_89 : (Cond.fieldLink RX9 89 "GrammarAmbiguityModel" "nodes" "I").before args s = true := hts _ q_159
  have lf_48 : (Cond.fieldLink RX9 48 "GrammarAmbiguityModel" "nodeFrom" "[I").before args s = true := hts _ q_119
  have lf_51 : (Cond.fieldLink RX9 51 "GrammarAmbiguityModel" "nodeSize" "[I").before args s = true := hts _ q_120
  have lf_18 : (Cond.fieldLink RX9 18 "GrammarAmbiguityModel" "symbols" "[[I").before args s = true := hts _ q_110
  rw [pX9_buildNode] at hf
  refine lv_aload_n hx hb dX9_buildNode_0 rfl (lv_at hl 0 rfl) ?_
  refine x_get (k := 0) (v := .ref (xa X 8)) hx hb hts i_X9 hown hK hw (by decide) rfl rfl 14 (by decide) lf_45 (fun _ h9 => h9) rfl dX9_buildNode_1 ?_
  refine lv_aload_n hx hb dX9_buildNode_4 rfl (lv_at hl 0 rfl) ?_
  refine x_get (k := 0) (v := .int (gI S 6)) hx hb hts i_X9 hown hK hw (by decide) rfl rfl 13 (by decide) lf_89 (fun _ h9 => h9) rfl dX9_buildNode_5 ?_
  refine lv_iload_n hx hb dX9_buildNode_8 rfl (lv_at hl 1 rfl) ?_
  refine x_ist (n := 16) hx hb hK hw (by decide) rfl rfl hf.1 dX9_buildNode_9 (uM_A8 X S _ _) (fun H locs hw => ?_)
  replace hf := hf.2
  obtain ⟨S_1, eS_1⟩ : ∃ z : gS, z = uA S 8 (gI S 6).toNatClampNeg p0 := ⟨_, rfl⟩
  rw [← eS_1] at hw
  replace hf := hf S_1 eS_1
  refine lv_aload_n hx hb dX9_buildNode_10 rfl (lv_at hl 0 rfl) ?_
  refine x_get (k := 0) (v := .ref (xa X 9)) hx hb hts i_X9 hown hK hw (by decide) rfl rfl 15 (by decide) lf_48 (fun _ h9 => h9) rfl dX9_buildNode_11 ?_
  refine lv_aload_n hx hb dX9_buildNode_14 rfl (lv_at hl 0 rfl) ?_
  refine x_get (k := 0) (v := .int (gI S_1 6)) hx hb hts i_X9 hown hK hw (by decide) rfl rfl 13 (by decide) lf_89 (fun _ h9 => h9) rfl dX9_buildNode_15 ?_
  refine lv_iload_n hx hb dX9_buildNode_18 rfl (lv_at hl 2 rfl) ?_
  refine x_ist (n := 16) hx hb hK hw (by decide) rfl rfl hf.1 dX9_buildNode_19 (uM_A9 X S_1 _ _) (fun H locs hw => ?_)
  replace hf := hf.2
  obtain ⟨S_2, eS_2⟩ : ∃ z : gS, z = uA S_1 9 (gI S_1 6).toNatClampNeg p1 := ⟨_, rfl⟩
  rw [← eS_2] at hw
  replace hf := hf S_2 eS_2
  refine lv_aload_n hx hb dX9_buildNode_20 rfl (lv_at hl 0 rfl) ?_
  refine x_get (k := 0) (v := .ref (xa X 10)) hx hb hts i_X9 hown hK hw (by decide) rfl rfl 16 (by decide) lf_51 (fun _ h9 => h9) rfl dX9_buildNode_21 ?_
  refine lv_aload_n hx hb dX9_buildNode_24 rfl (lv_at hl 0 rfl) ?_
  refine x_get (k := 0) (v := .int (gI S_2 6)) hx hb hts i_X9 hown hK hw (by decide) rfl rfl 13 (by decide) lf_89 (fun _ h9 => h9) rfl dX9_buildNode_25 ?_
  refine lv_iload_n hx hb dX9_buildNode_28 rfl (lv_at hl 3 rfl) ?_
  refine lv_iload hx hb dX9_buildNode_29 (lv_at hl 4 rfl) ?_
  refine lv_iadd hx hb dX9_buildNode_31 ?_
  refine lv_iload hx hb dX9_buildNode_32 (lv_at hl 5 rfl) ?_
  refine lv_iadd hx hb dX9_buildNode_34 ?_
  refine x_ist (n := 16) hx hb hK hw (by decide) rfl rfl hf.1 dX9_buildNode_35 (uM_A10 X S_2 _ _) (fun H locs hw => ?_)
  replace hf := hf.2
  obtain ⟨S_3, eS_3⟩ : ∃ z : gS, z = uA S_2 10 (gI S_2 6).toNatClampNeg ((p2 + p3) + p4) := ⟨_, rfl⟩
  rw [← eS_3] at hw
  replace hf := hf S_3 eS_3
  refine lv_aload_n hx hb dX9_buildNode_36 rfl (lv_at hl 0 rfl) ?_
  refine lv_dup hx hb dX9_buildNode_37 rfl ?_
  refine x_get (k := 0) (v := .int (gI S_3 6)) hx hb hts i_X9 hown hK hw (by decide) rfl rfl 13 (by decide) lf_89 (fun _ h9 => h9) rfl dX9_buildNode_38 ?_
  refine lv_iconst (v := 1) hx hb dX9_buildNode_41 (by decide) ?_
  refine lv_iadd hx hb dX9_buildNode_42 ?_
  refine x_put (k := 0) (S' := uI S_3 6 ((gI S_3 6) + 1)) (ty := .int) hx hb hts i_X9 tyX9_ok nmX9 hown hK hw (by decide) rfl rfl 13 (by decide) lf_89 (fun _ h9 => h9) rfl (by decide +kernel) rfl rfl (Nat.le_of_ble_eq_true rfl) dX9_buildNode_43 (uM_I6 X S_3 _) (fun H locs hw => ?_)
  obtain ⟨S_4, eS_4⟩ : ∃ z : gS, z = uI S_3 6 ((gI S_3 6) + 1) := ⟨_, rfl⟩
  rw [← eS_4] at hw
  replace hf := hf S_4 eS_4
  refine lv_aload_n hx hb dX9_buildNode_46 rfl (lv_at hl 0 rfl) ?_
  refine lv_aload_n hx hb dX9_buildNode_47 rfl (lv_at hl 0 rfl) ?_
  refine x_get (k := 0) (v := .ref (xa X 1)) hx hb hts i_X9 hown hK hw (by decide) rfl rfl 5 (by decide) lf_18 (fun _ h9 => h9) rfl dX9_buildNode_48 ?_
  refine lv_iload_n hx hb dX9_buildNode_51 rfl (lv_at hl 1 rfl) ?_
  have hb_5 := vp_lt hf.1
  refine x_ald (n := 24) (v := .ref (xa X (16 + p0.toNatClampNeg))) hx hb hK hw (by decide) rfl 3 rfl rfl hf.1 (rf_lt hb_5) dX9_buildNode_52 ?_
  replace hf := hf.2
  refine lv_iconst (v := 3) hx hb dX9_buildNode_53 (by decide) ?_
  refine x_ild (n := 4) hx hb hK hw (by omega) (cM_sy hb_5) rfl hf.1 dX9_buildNode_54 ?_
  replace hf := hf.2
  refine lv_iload_n hx hb dX9_buildNode_55 rfl (lv_at hl 2 rfl) ?_
  refine lv_iload_n hx hb dX9_buildNode_56 rfl (lv_at hl 3 rfl) ?_
  refine lv_iadd hx hb dX9_buildNode_57 ?_
  refine lv_iload hx hb dX9_buildNode_58 (lv_at hl 4 rfl) ?_
  refine lv_iadd hx hb dX9_buildNode_60 ?_
  refine lv_iload hx hb dX9_buildNode_61 (lv_at hl 5 rfl) ?_
  refine x_cl (x_rV (As := [.int (gA S_4 (16 + p0.toNatClampNeg) (3 : Int32).toNatClampNeg), .int ((p1 + p2) + p3), .int p4]) (rest := []) (okM X) hC hw (kX9_treesOf l X S_4 _ (gA S_4 (16 + p0.toNatClampNeg) (3 : Int32).toNatClampNeg) ((p1 + p2) + p3) p4 _ hf) (cwV 3 hts (gV q_775 q_776 q_777 q_5 q_778) rfl rfl rfl (by decide +kernel) ⟨by simp only [rX9_buildNode, rX9_treesOf, rX9_build]; omega, by simp only [rX9_buildNode, rX9_treesOf, rX9_build]; omega⟩) (x_recv hK hw (k := 0) (by decide) rfl rfl) rfl hl.1 rfl (Nat.le_of_ble_eq_true rfl) dX9_buildNode_63) hw hi (fun r_6 S_7 H locs hf hw => ?_)
  obtain ⟨hf, rfl⟩ := hf
  refine lv_lstore (lv' := [(8, .long r_6), (0, .ref (xa X 0)), (1, .int p0), (2, .int p1), (3, .int p2), (4, .int p3), (5, .int p4), (6, .long p5)]) hx hb dX9_buildNode_66 hl (by decide) rfl (fun ls hl => ?_)
  refine lv_lload hx hb dX9_buildNode_68 (lv_at hl 0 rfl) ?_
  refine lv_aload_n hx hb dX9_buildNode_70 rfl (lv_at hl 1 rfl) ?_
  refine lv_aload_n hx hb dX9_buildNode_71 rfl (lv_at hl 1 rfl) ?_
  refine x_get (k := 0) (v := .ref (xa X 1)) hx hb hts i_X9 hown hK hw (by decide) rfl rfl 5 (by decide) lf_18 (fun _ h9 => h9) rfl dX9_buildNode_72 ?_
  refine lv_iload_n hx hb dX9_buildNode_75 rfl (lv_at hl 2 rfl) ?_
  have hb_8 := vp_lt hf.1
  refine x_ald (n := 24) (v := .ref (xa X (16 + p0.toNatClampNeg))) hx hb hK hw (by decide) rfl 3 rfl rfl hf.1 (rf_lt hb_8) dX9_buildNode_76 ?_
  replace hf := hf.2
  refine lv_iconst (v := 2) hx hb dX9_buildNode_77 (by decide) ?_
  refine x_ild (n := 4) hx hb hK hw (by omega) (cM_sy hb_8) rfl hf.1 dX9_buildNode_78 ?_
  replace hf := hf.2
  refine lv_iload_n hx hb dX9_buildNode_79 rfl (lv_at hl 3 rfl) ?_
  refine lv_iload_n hx hb dX9_buildNode_80 rfl (lv_at hl 4 rfl) ?_
  refine lv_iadd hx hb dX9_buildNode_81 ?_
  refine lv_iload hx hb dX9_buildNode_82 (lv_at hl 5 rfl) ?_
  refine x_cl (x_rV (As := [.int (gA S_4 (16 + p0.toNatClampNeg) (2 : Int32).toNatClampNeg), .int (p1 + p2), .int p3]) (rest := [.long r_6]) (okM X) hC hw (kX9_treesOf l X S_4 _ (gA S_4 (16 + p0.toNatClampNeg) (2 : Int32).toNatClampNeg) (p1 + p2) p3 _ hf) (cwV 3 hts (gV q_775 q_776 q_777 q_5 q_778) rfl rfl rfl (by decide +kernel) ⟨by simp only [rX9_buildNode, rX9_treesOf, rX9_build]; omega, by simp only [rX9_buildNode, rX9_treesOf, rX9_build]; omega⟩) (x_recv hK hw (k := 0) (by decide) rfl rfl) rfl hl.1 rfl (Nat.le_of_ble_eq_true rfl) dX9_buildNode_84) hw hi (fun r_9 S_10 H locs hf hw => ?_)
  obtain ⟨hf, rfl⟩ := hf
  refine lv_lmul hx hb dX9_buildNode_87 ?_
  refine lv_topl (fun x10_11 ex10_11 => ?_)
  replace hf := hf x10_11 ex10_11
  refine lv_lstore (lv' := [(10, .long x10_11), (8, .long r_6), (0, .ref (xa X 0)), (1, .int p0), (2, .int p1), (3, .int p2), (4, .int p3), (5, .int p4), (6, .long p5)]) hx hb dX9_buildNode_88 hl (by decide) rfl (fun ls hl => ?_)
  refine lv_aload_n hx hb dX9_buildNode_90 rfl (lv_at hl 2 rfl) ?_
  refine lv_aload_n hx hb dX9_buildNode_91 rfl (lv_at hl 2 rfl) ?_
  refine x_get (k := 0) (v := .ref (xa X 1)) hx hb hts i_X9 hown hK hw (by decide) rfl rfl 5 (by decide) lf_18 (fun _ h9 => h9) rfl dX9_buildNode_92 ?_
  refine lv_iload_n hx hb dX9_buildNode_95 rfl (lv_at hl 3 rfl) ?_
  have hb_12 := vp_lt hf.1
  refine x_ald (n := 24) (v := .ref (xa X (16 + p0.toNatClampNeg))) hx hb hK hw (by decide) rfl 3 rfl rfl hf.1 (rf_lt hb_12) dX9_buildNode_96 ?_
  replace hf := hf.2
  refine lv_iconst (v := 1) hx hb dX9_buildNode_97 (by decide) ?_
  refine x_ild (n := 4) hx hb hK hw (by omega) (cM_sy hb_12) rfl hf.1 dX9_buildNode_98 ?_
  replace hf := hf.2
  refine lv_iload_n hx hb dX9_buildNode_99 rfl (lv_at hl 4 rfl) ?_
  refine lv_iload_n hx hb dX9_buildNode_100 rfl (lv_at hl 5 rfl) ?_
  refine lv_lload hx hb dX9_buildNode_101 (lv_at hl 8 rfl) ?_
  refine lv_lload hx hb dX9_buildNode_103 (lv_at hl 0 rfl) ?_
  refine lv_ldiv hx hb dX9_buildNode_105 hf.1 ?_
  replace hf := hf.2
  refine x_cv (x_rV (As := [.int (gA S_4 (16 + p0.toNatClampNeg) (1 : Int32).toNatClampNeg), .int p1, .int p2, .long (p5 / x10_11)]) (rest := []) (okM X) hC hw (ih S_4 _ (gA S_4 (16 + p0.toNatClampNeg) (1 : Int32).toNatClampNeg) p1 p2 (p5 / x10_11) _ hf) (cwV 4 hts (gV q_767 q_768 q_769 q_5 q_770) rfl rfl rfl (by decide +kernel) ⟨by simp only [rX9_buildNode, rX9_build]; omega, by simp only [rX9_buildNode, rX9_build]; omega⟩) (x_recv hK hw (k := 0) (by decide) rfl rfl) rfl hl.1 rfl (Nat.le_of_ble_eq_true rfl) dX9_buildNode_106) hw hi (fun S_14 H locs hf hw => ?_)
  refine lv_aload_n hx hb dX9_buildNode_109 rfl (lv_at hl 2 rfl) ?_
  refine lv_aload_n hx hb dX9_buildNode_110 rfl (lv_at hl 2 rfl) ?_
  refine x_get (k := 0) (v := .ref (xa X 1)) hx hb hts i_X9 hown hK hw (by decide) rfl rfl 5 (by decide) lf_18 (fun _ h9 => h9) rfl dX9_buildNode_111 ?_
  refine lv_iload_n hx hb dX9_buildNode_114 rfl (lv_at hl 3 rfl) ?_
  have hb_15 := vp_lt hf.1
  refine x_ald (n := 24) (v := .ref (xa X (16 + p0.toNatClampNeg))) hx hb hK hw (by decide) rfl 3 rfl rfl hf.1 (rf_lt hb_15) dX9_buildNode_115 ?_
  replace hf := hf.2
  refine lv_iconst (v := 2) hx hb dX9_buildNode_116 (by decide) ?_
  refine x_ild (n := 4) hx hb hK hw (by omega) (cM_sy hb_15) rfl hf.1 dX9_buildNode_117 ?_
  replace hf := hf.2
  refine lv_iload_n hx hb dX9_buildNode_118 rfl (lv_at hl 4 rfl) ?_
  refine lv_iload_n hx hb dX9_buildNode_119 rfl (lv_at hl 5 rfl) ?_
  refine lv_iadd hx hb dX9_buildNode_120 ?_
  refine lv_iload hx hb dX9_buildNode_121 (lv_at hl 6 rfl) ?_
  refine lv_lload hx hb dX9_buildNode_123 (lv_at hl 8 rfl) ?_
  refine lv_lload hx hb dX9_buildNode_125 (lv_at hl 0 rfl) ?_
  refine lv_lrem hx hb dX9_buildNode_127 hf.1 ?_
  replace hf := hf.2
  refine lv_lload hx hb dX9_buildNode_128 (lv_at hl 1 rfl) ?_
  refine lv_ldiv hx hb dX9_buildNode_130 hf.1 ?_
  replace hf := hf.2
  refine x_cv (x_rV (As := [.int (gA S_14 (16 + p0.toNatClampNeg) (2 : Int32).toNatClampNeg), .int (p1 + p2), .int p3, .long ((p5 - p5 / x10_11 * x10_11) / r_6)]) (rest := []) (okM X) hC hw (ih S_14 _ (gA S_14 (16 + p0.toNatClampNeg) (2 : Int32).toNatClampNeg) (p1 + p2) p3 ((p5 - p5 / x10_11 * x10_11) / r_6) _ hf) (cwV 4 hts (gV q_767 q_768 q_769 q_5 q_770) rfl rfl rfl (by decide +kernel) ⟨by simp only [rX9_buildNode, rX9_build]; omega, by simp only [rX9_buildNode, rX9_build]; omega⟩) (x_recv hK hw (k := 0) (by decide) rfl rfl) rfl hl.1 rfl (Nat.le_of_ble_eq_true rfl) dX9_buildNode_131) hw hi (fun S_17 H locs hf hw => ?_)
  refine lv_aload_n hx hb dX9_buildNode_134 rfl (lv_at hl 2 rfl) ?_
  refine lv_aload_n hx hb dX9_buildNode_135 rfl (lv_at hl 2 rfl) ?_
  refine x_get (k := 0) (v := .ref (xa X 1)) hx hb hts i_X9 hown hK hw (by decide) rfl rfl 5 (by decide) lf_18 (fun _ h9 => h9) rfl dX9_buildNode_136 ?_
  refine lv_iload_n hx hb dX9_buildNode_139 rfl (lv_at hl 3 rfl) ?_
  have hb_18 := vp_lt hf.1
  refine x_ald (n := 24) (v := .ref (xa X (16 + p0.toNatClampNeg))) hx hb hK hw (by decide) rfl 3 rfl rfl hf.1 (rf_lt hb_18) dX9_buildNode_140 ?_
  replace hf := hf.2
  refine lv_iconst (v := 3) hx hb dX9_buildNode_141 (by decide) ?_
  refine x_ild (n := 4) hx hb hK hw (by omega) (cM_sy hb_18) rfl hf.1 dX9_buildNode_142 ?_
  replace hf := hf.2
  refine lv_iload_n hx hb dX9_buildNode_143 rfl (lv_at hl 4 rfl) ?_
  refine lv_iload_n hx hb dX9_buildNode_144 rfl (lv_at hl 5 rfl) ?_
  refine lv_iadd hx hb dX9_buildNode_145 ?_
  refine lv_iload hx hb dX9_buildNode_146 (lv_at hl 6 rfl) ?_
  refine lv_iadd hx hb dX9_buildNode_148 ?_
  refine lv_iload hx hb dX9_buildNode_149 (lv_at hl 7 rfl) ?_
  refine lv_lload hx hb dX9_buildNode_151 (lv_at hl 8 rfl) ?_
  refine lv_lload hx hb dX9_buildNode_153 (lv_at hl 1 rfl) ?_
  refine lv_lrem hx hb dX9_buildNode_155 hf.1 ?_
  replace hf := hf.2
  refine x_cv (x_rV (As := [.int (gA S_17 (16 + p0.toNatClampNeg) (3 : Int32).toNatClampNeg), .int ((p1 + p2) + p3), .int p4, .long (p5 - p5 / r_6 * r_6)]) (rest := []) (okM X) hC hw (ih S_17 _ (gA S_17 (16 + p0.toNatClampNeg) (3 : Int32).toNatClampNeg) ((p1 + p2) + p3) p4 (p5 - p5 / r_6 * r_6) _ hf) (cwV 4 hts (gV q_767 q_768 q_769 q_5 q_770) rfl rfl rfl (by decide +kernel) ⟨by simp only [rX9_buildNode, rX9_build]; omega, by simp only [rX9_buildNode, rX9_build]; omega⟩) (x_recv hK hw (k := 0) (by decide) rfl rfl) rfl hl.1 rfl (Nat.le_of_ble_eq_true rfl) dX9_buildNode_156) hw hi (fun S_20 H locs hf hw => ?_)
  exact hQ _ _ _ _ _ hf hw dX9_buildNode_159
def jX9_build_113 (B : Int32 → Int32 → Int32 → Int64 → gS → (gS → Prop) → Prop) (p1 : Int32) (S : gS) (Post : gS → Prop) (x8_4 : Int32) (x6_6 : Int64) (x9_7 : Int32) (L_41 : Int64 × Int32 → Prop) (x10_13 : Int32) (x11_14 : Int32) (x12_15 : Int32) (y_16 : Int64) : Prop :=
  ((0 ≤ (lg_cmp x6_6 y_16) → (∀ x6_18 : Int64, x6_18 = (x6_6 - y_16) → (∀ x9_19 : Int32, x9_19 = x9_7 + 1 → L_41 (x6_18, x9_19)))) ∧ (¬ 0 ≤ (lg_cmp x6_6 y_16) → (pX9_buildNode B x8_4 p1 x10_13 x11_14 x12_15 x6_6 S (fun S_21 => Post S_21))))
def bX9_build_41 (B : Int32 → Int32 → Int32 → Int64 → gS → (gS → Prop) → Prop) (p0 : Int32) (p1 : Int32) (p2 : Int32) (S : gS) (Post : gS → Prop) (x8_4 : Int32) (L_29 : Int64 × Int32 → Prop) (L_41 : Int64 × Int32 → Prop) (x6_6 : Int64) (x9_7 : Int32) : Prop :=
  ((((p2 + 1) * (p2 + 1)) ≤ x9_7 → (∀ x8_9 : Int32, x8_9 = x8_4 + 1 → L_29 (x6_6, x8_9))) ∧ (¬ ((p2 + 1) * (p2 + 1)) ≤ x9_7 → (vp_in x8_4 24 ∧ (vp_in (0 : Int32) 4 ∧ ((¬ (gA S (16 + x8_4.toNatClampNeg) (0 : Int32).toNatClampNeg) = p0 → (∀ x8_12 : Int32, x8_12 = x8_4 + 1 → L_29 (x6_6, x8_12))) ∧ ((gA S (16 + x8_4.toNatClampNeg) (0 : Int32).toNatClampNeg) = p0 → (¬ (p2 + 1) = 0 ∧ (∀ x10_13 : Int32, x10_13 = (x9_7 / (p2 + 1)) → (¬ (p2 + 1) = 0 ∧ (∀ x11_14 : Int32, x11_14 = (x9_7 - x9_7 / (p2 + 1) * (p2 + 1)) → (∀ x12_15 : Int32, x12_15 = ((p2 - x10_13) - x11_14) → ((x12_15 < 0 → jX9_build_113 B p1 S Post x8_4 x6_6 x9_7 L_41 x10_13 x11_14 x12_15 0) ∧ (¬ x12_15 < 0 → (pX9_productOf x8_4 p1 x10_13 x11_14 x12_15 S (fun r_23 => jX9_build_113 B p1 S Post x8_4 x6_6 x9_7 L_41 x10_13 x11_14 x12_15 r_23)))))))))))))))
def bX9_build_29 (B : Int32 → Int32 → Int32 → Int64 → gS → (gS → Prop) → Prop) (p0 : Int32) (p1 : Int32) (p2 : Int32) (S : gS) (Post : gS → Prop) (L_29 : Int64 × Int32 → Prop) (x6_3 : Int64) (x8_4 : Int32) : Prop :=
  (((gI S 4) ≤ x8_4 → Post S) ∧ (¬ (gI S 4) ≤ x8_4 → ∃ n, lp (fun L x => bX9_build_41 B p0 p1 p2 S Post x8_4 L_29 L x.1 x.2) n (x6_3, 0)))
def fX9_build (B : Int32 → Int32 → Int32 → Int64 → gS → (gS → Prop) → Prop) (p0 : Int32) (p1 : Int32) (p2 : Int32) (p3 : Int64) (S : gS) (Post : gS → Prop) : Prop :=
  ((p0 < 10 → ((0 ≤ p0 → ∃ n, lp (fun L x => bX9_build_29 B p0 p1 p2 S Post L x.1 x.2) n (p3, 0)) ∧ (¬ 0 ≤ p0 → Post S))) ∧ (¬ p0 < 10 → (vp_in p1 8 ∧ (∀ S_25 : gS, S_25 = uA S 6 p1.toNatClampNeg (p0 - 10) → Post S_25))))
set_option maxHeartbeats 40000000 in
set_option maxRecDepth 100000 in
theorem sX9_build (l : Launch) (X : xG) (d : Nat) (B : Int32 → Int32 → Int32 → Int64 → gS → (gS → Prop) → Prop) (ih : ∀ (S : gS) (sz : Nat) (p0 : Int32) (p1 : Int32) (p2 : Int32) (p3 : Int64) (Post : gS → Prop), B p0 p1 p2 p3 S Post → xMv l yX9_build (Cond.code yX9_build cX9_build 15 none :: WS) (rX9_build d) 133 X (cM X) (eM X) S sz [.ref (xa X 0), .int p0, .int p1, .int p2, .long p3] Post) (S : gS) (sz : Nat) (p0 : Int32) (p1 : Int32) (p2 : Int32) (p3 : Int64) (Post : gS → Prop) (hf : fX9_build B p0 p1 p2 p3 S Post) : xMv l yX9_build (Cond.code yX9_build cX9_build 15 none :: WS) (rX9_build (d + 1)) 133 X (cM X) (eM X) S sz [.ref (xa X 0), .int p0, .int p1, .int p2, .long p3] Post := by
  refine xMv.of (cc := cX9_build) (maxL := 15) (own := RX9) (by decide) rfl rfl (Nat.le_of_ble_eq_true rfl) ?_
  intro p e s m args below meth c ls Q hC hQ hw hl
  obtain ⟨hx, hb, hml, hown, hts, hE, hi⟩ := id hC
  have hK := hE.1
  have hl : lv_has ls 15 [(0, .ref (xa X 0)), (1, .int p0), (2, .int p1), (3, .int p2), (4, .long p3)] := hl
  have lf_76 : (Cond.fieldLink RX9 76 "GrammarAmbiguityModel" "productions" "I").before args s = true := hts _ q_157
  have lf_18 : (Cond.fieldLink RX9 18 "GrammarAmbiguityModel" "symbols" "[[I").before args s = true := hts _ q_110
  have lf_37 : (Cond.fieldLink RX9 37 "GrammarAmbiguityModel" "read" "[I").before args s = true := hts _ q_116
  rw [fX9_build] at hf
  refine lv_iload_n hx hb dX9_build_0 rfl (lv_at hl 1 rfl) ?_
  refine lv_bipush (v := 10) hx hb dX9_build_1 (by decide) ?_
  refine lv_icmp_lt (tgt := 17) hx hb dX9_build_3 (by decide) (fun c_1 => ?_) (fun c_1 => ?_)
  · replace hf := hf.1 c_1
    refine lv_iload_n hx hb dX9_build_17 rfl (lv_at hl 1 rfl) ?_
    refine lv_if_ge (tgt := 22) hx hb dX9_build_18 (by decide) (fun c_2 => ?_) (fun c_2 => ?_)
    · replace hf := hf.1 c_2
      refine lv_lload hx hb dX9_build_22 (lv_at hl 4 rfl) ?_
      refine lv_lstore (lv' := [(6, .long p3), (0, .ref (xa X 0)), (1, .int p0), (2, .int p1), (3, .int p2), (4, .long p3)]) hx hb dX9_build_24 hl (by decide) rfl (fun ls hl => ?_)
      refine lv_iconst (v := 0) hx hb dX9_build_26 (by decide) ?_
      refine lv_istore (lv' := [(8, .int 0), (6, .long p3), (0, .ref (xa X 0)), (1, .int p0), (2, .int p1), (3, .int p2), (4, .long p3)]) hx hb dX9_build_27 hl (by decide) rfl (fun ls hl => ?_)
      obtain ⟨n_29, hf⟩ := hf
      have w_29 : ∀ (n : Nat) (x6_3 : Int64) (x8_4 : Int32) (H : Heap) (locs : List Loc) (ls : Array Slot), lp (fun L x => bX9_build_29 B p0 p1 p2 S Post L x.1 x.2) n (x6_3, x8_4) → xH 133 X (cM X) (xA 133 X s.heap.size) s.heap S H locs → lv_has ls 15 [(0, .ref (xa X 0)), (1, .int p0), (2, .int p1), (3, .int p2), (6, .long x6_3), (8, .int x8_4)] → W p l e (rX9_build (d + 1)) s m args below meth c H locs 0 0 Q (F0 m 29 ls []) := by
        intro n
        induction n with
        | zero => intro x6_3 x8_4 H locs ls hf; exact hf.elim
        | succ n ih_29 =>
          intro x6_3 x8_4 H locs ls hf hw hl
          replace hf : bX9_build_29 B p0 p1 p2 S Post (lp (fun L x => bX9_build_29 B p0 p1 p2 S Post L x.1 x.2) n) x6_3 x8_4 := hf
          generalize lp (fun L x => bX9_build_29 B p0 p1 p2 S Post L x.1 x.2) n = L_29 at hf ih_29
          rw [bX9_build_29] at hf
          refine lv_iload hx hb dX9_build_29 (lv_at hl 5 rfl) ?_
          refine lv_aload_n hx hb dX9_build_31 rfl (lv_at hl 0 rfl) ?_
          refine x_get (k := 0) (v := .int (gI S 4)) hx hb hts i_X9 hown hK hw (by decide) rfl rfl 4 (by decide) lf_76 (fun _ h9 => h9) rfl dX9_build_32 ?_
          refine lv_icmp_ge (tgt := 158) hx hb dX9_build_35 (by decide) (fun c_5 => ?_) (fun c_5 => ?_)
          · replace hf := hf.1 c_5
            exact hQ _ _ _ _ _ hf hw dX9_build_158
          · replace hf := hf.2 c_5
            refine lv_iconst (v := 0) hx hb dX9_build_38 (by decide) ?_
            refine lv_istore (lv' := [(9, .int 0), (0, .ref (xa X 0)), (1, .int p0), (2, .int p1), (3, .int p2), (6, .long x6_3), (8, .int x8_4)]) hx hb dX9_build_39 hl (by decide) rfl (fun ls hl => ?_)
            obtain ⟨n_41, hf⟩ := hf
            have w_41 : ∀ (n : Nat) (x6_6 : Int64) (x9_7 : Int32) (H : Heap) (locs : List Loc) (ls : Array Slot), lp (fun L x => bX9_build_41 B p0 p1 p2 S Post x8_4 L_29 L x.1 x.2) n (x6_6, x9_7) → xH 133 X (cM X) (xA 133 X s.heap.size) s.heap S H locs → lv_has ls 15 [(0, .ref (xa X 0)), (1, .int p0), (2, .int p1), (3, .int p2), (6, .long x6_6), (8, .int x8_4), (9, .int x9_7)] → W p l e (rX9_build (d + 1)) s m args below meth c H locs 0 0 Q (F0 m 41 ls []) := by
              intro n
              induction n with
              | zero => intro x6_6 x9_7 H locs ls hf; exact hf.elim
              | succ n ih_41 =>
                intro x6_6 x9_7 H locs ls hf hw hl
                replace hf : bX9_build_41 B p0 p1 p2 S Post x8_4 L_29 (lp (fun L x => bX9_build_41 B p0 p1 p2 S Post x8_4 L_29 L x.1 x.2) n) x6_6 x9_7 := hf
                generalize lp (fun L x => bX9_build_41 B p0 p1 p2 S Post x8_4 L_29 L x.1 x.2) n = L_41 at hf ih_41
                rw [bX9_build_41] at hf
                refine lv_iload hx hb dX9_build_41 (lv_at hl 6 rfl) ?_
                refine lv_iload_n hx hb dX9_build_43 rfl (lv_at hl 3 rfl) ?_
                refine lv_iconst (v := 1) hx hb dX9_build_44 (by decide) ?_
                refine lv_iadd hx hb dX9_build_45 ?_
                refine lv_iload_n hx hb dX9_build_46 rfl (lv_at hl 3 rfl) ?_
                refine lv_iconst (v := 1) hx hb dX9_build_47 (by decide) ?_
                refine lv_iadd hx hb dX9_build_48 ?_
                refine lv_imul hx hb dX9_build_49 ?_
                refine lv_icmp_ge (tgt := 152) hx hb dX9_build_50 (by decide) (fun c_8 => ?_) (fun c_8 => ?_)
                · replace hf := hf.1 c_8
                  obtain ⟨x8_9, ex8_9⟩ : ∃ y : Int32, y = x8_4 + 1 := ⟨_, rfl⟩
                  replace hf := hf x8_9 ex8_9
                  refine lv_iinc (v := x8_9) (lv' := [(8, .int x8_9), (0, .ref (xa X 0)), (1, .int p0), (2, .int p1), (3, .int p2), (6, .long x6_6), (9, .int x9_7)]) hx hb dX9_build_152 hl (k := 5) rfl (by rw [ex8_9]; rfl) (by decide) rfl (fun ls hl => ?_)
                  refine lv_goto (tgt := 29) hx hb dX9_build_155 (by decide) ?_
                  exact ih_29 x6_6 x8_9 _ _ _ hf hw (lv_sub hl [1, 2, 3, 4, 5, 0] rfl)
                · replace hf := hf.2 c_8
                  refine lv_aload_n hx hb dX9_build_53 rfl (lv_at hl 0 rfl) ?_
                  refine x_get (k := 0) (v := .ref (xa X 1)) hx hb hts i_X9 hown hK hw (by decide) rfl rfl 5 (by decide) lf_18 (fun _ h9 => h9) rfl dX9_build_54 ?_
                  refine lv_iload hx hb dX9_build_57 (lv_at hl 5 rfl) ?_
                  have hb_10 := vp_lt hf.1
                  refine x_ald (n := 24) (v := .ref (xa X (16 + x8_4.toNatClampNeg))) hx hb hK hw (by decide) rfl 3 rfl rfl hf.1 (rf_lt hb_10) dX9_build_59 ?_
                  replace hf := hf.2
                  refine lv_iconst (v := 0) hx hb dX9_build_60 (by decide) ?_
                  refine x_ild (n := 4) hx hb hK hw (by omega) (cM_sy hb_10) rfl hf.1 dX9_build_61 ?_
                  replace hf := hf.2
                  refine lv_iload_n hx hb dX9_build_62 rfl (lv_at hl 1 rfl) ?_
                  refine lv_icmp_ne (tgt := 152) hx hb dX9_build_63 (by decide) (fun c_11 => ?_) (fun c_11 => ?_)
                  · replace hf := hf.1 c_11
                    obtain ⟨x8_12, ex8_12⟩ : ∃ y : Int32, y = x8_4 + 1 := ⟨_, rfl⟩
                    replace hf := hf x8_12 ex8_12
                    refine lv_iinc (v := x8_12) (lv' := [(8, .int x8_12), (0, .ref (xa X 0)), (1, .int p0), (2, .int p1), (3, .int p2), (6, .long x6_6), (9, .int x9_7)]) hx hb dX9_build_152 hl (k := 5) rfl (by rw [ex8_12]; rfl) (by decide) rfl (fun ls hl => ?_)
                    refine lv_goto (tgt := 29) hx hb dX9_build_155 (by decide) ?_
                    exact ih_29 x6_6 x8_12 _ _ _ hf hw (lv_sub hl [1, 2, 3, 4, 5, 0] rfl)
                  · replace hf := hf.2 c_11
                    refine lv_iload hx hb dX9_build_66 (lv_at hl 6 rfl) ?_
                    refine lv_iload_n hx hb dX9_build_68 rfl (lv_at hl 3 rfl) ?_
                    refine lv_iconst (v := 1) hx hb dX9_build_69 (by decide) ?_
                    refine lv_iadd hx hb dX9_build_70 ?_
                    refine lv_idiv hx hb dX9_build_71 hf.1 ?_
                    replace hf := hf.2
                    refine lv_topi (fun x10_13 ex10_13 => ?_)
                    replace hf := hf x10_13 ex10_13
                    refine lv_istore (lv' := [(10, .int x10_13), (0, .ref (xa X 0)), (1, .int p0), (2, .int p1), (3, .int p2), (6, .long x6_6), (8, .int x8_4), (9, .int x9_7)]) hx hb dX9_build_72 hl (by decide) rfl (fun ls hl => ?_)
                    refine lv_iload hx hb dX9_build_74 (lv_at hl 7 rfl) ?_
                    refine lv_iload_n hx hb dX9_build_76 rfl (lv_at hl 4 rfl) ?_
                    refine lv_iconst (v := 1) hx hb dX9_build_77 (by decide) ?_
                    refine lv_iadd hx hb dX9_build_78 ?_
                    refine lv_irem hx hb dX9_build_79 hf.1 ?_
                    replace hf := hf.2
                    refine lv_topi (fun x11_14 ex11_14 => ?_)
                    replace hf := hf x11_14 ex11_14
                    refine lv_istore (lv' := [(11, .int x11_14), (10, .int x10_13), (0, .ref (xa X 0)), (1, .int p0), (2, .int p1), (3, .int p2), (6, .long x6_6), (8, .int x8_4), (9, .int x9_7)]) hx hb dX9_build_80 hl (by decide) rfl (fun ls hl => ?_)
                    refine lv_iload_n hx hb dX9_build_82 rfl (lv_at hl 5 rfl) ?_
                    refine lv_iload hx hb dX9_build_83 (lv_at hl 1 rfl) ?_
                    refine lv_isub hx hb dX9_build_85 ?_
                    refine lv_iload hx hb dX9_build_86 (lv_at hl 0 rfl) ?_
                    refine lv_isub hx hb dX9_build_88 ?_
                    refine lv_topi (fun x12_15 ex12_15 => ?_)
                    replace hf := hf x12_15 ex12_15
                    refine lv_istore (lv' := [(12, .int x12_15), (11, .int x11_14), (10, .int x10_13), (0, .ref (xa X 0)), (1, .int p0), (2, .int p1), (3, .int p2), (6, .long x6_6), (8, .int x8_4), (9, .int x9_7)]) hx hb dX9_build_89 hl (by decide) rfl (fun ls hl => ?_)
                    refine lv_iload hx hb dX9_build_91 (lv_at hl 0 rfl) ?_
                    have w_113 : ∀ (y_16 : Int64) (H : Heap) (locs : List Loc) (ls : Array Slot), jX9_build_113 B p1 S Post x8_4 x6_6 x9_7 L_41 x10_13 x11_14 x12_15 y_16 → xH 133 X (cM X) (xA 133 X s.heap.size) s.heap S H locs → lv_has ls 15 [(0, .ref (xa X 0)), (1, .int p0), (2, .int p1), (3, .int p2), (6, .long x6_6), (8, .int x8_4), (9, .int x9_7), (10, .int x10_13), (11, .int x11_14), (12, .int x12_15)] → W p l e (rX9_build (d + 1)) s m args below meth c H locs 0 0 Q (F0 m 113 ls [.long y_16]) := by
                      intro y_16 H locs ls hf hw hl
                      rw [jX9_build_113] at hf
                      refine lv_lstore (lv' := [(13, .long y_16), (0, .ref (xa X 0)), (1, .int p0), (2, .int p1), (3, .int p2), (6, .long x6_6), (8, .int x8_4), (9, .int x9_7), (10, .int x10_13), (11, .int x11_14), (12, .int x12_15)]) hx hb dX9_build_113 hl (by decide) rfl (fun ls hl => ?_)
                      refine lv_lload hx hb dX9_build_115 (lv_at hl 5 rfl) ?_
                      refine lv_lload hx hb dX9_build_117 (lv_at hl 0 rfl) ?_
                      refine W.lcmp hx hb dX9_build_119 ?_
                      refine lv_if_ge (tgt := 139) hx hb dX9_build_120 (by decide) (fun c_17 => ?_) (fun c_17 => ?_)
                      · replace hf := hf.1 c_17
                        refine lv_lload hx hb dX9_build_139 (lv_at hl 5 rfl) ?_
                        refine lv_lload hx hb dX9_build_141 (lv_at hl 0 rfl) ?_
                        refine lv_lsub hx hb dX9_build_143 ?_
                        refine lv_topl (fun x6_18 ex6_18 => ?_)
                        replace hf := hf x6_18 ex6_18
                        refine lv_lstore (lv' := [(6, .long x6_18), (13, .long y_16), (0, .ref (xa X 0)), (1, .int p0), (2, .int p1), (3, .int p2), (8, .int x8_4), (9, .int x9_7), (10, .int x10_13), (11, .int x11_14), (12, .int x12_15)]) hx hb dX9_build_144 hl (by decide) rfl (fun ls hl => ?_)
                        obtain ⟨x9_19, ex9_19⟩ : ∃ y : Int32, y = x9_7 + 1 := ⟨_, rfl⟩
                        replace hf := hf x9_19 ex9_19
                        refine lv_iinc (v := x9_19) (lv' := [(9, .int x9_19), (6, .long x6_18), (13, .long y_16), (0, .ref (xa X 0)), (1, .int p0), (2, .int p1), (3, .int p2), (8, .int x8_4), (10, .int x10_13), (11, .int x11_14), (12, .int x12_15)]) hx hb dX9_build_146 hl (k := 7) rfl (by rw [ex9_19]; rfl) (by decide) rfl (fun ls hl => ?_)
                        refine lv_goto (tgt := 41) hx hb dX9_build_149 (by decide) ?_
                        exact ih_41 x6_18 x9_19 _ _ _ hf hw (lv_sub hl [3, 4, 5, 6, 1, 7, 0] rfl)
                      · replace hf := hf.2 c_17
                        refine lv_aload_n hx hb dX9_build_123 rfl (lv_at hl 1 rfl) ?_
                        refine lv_iload hx hb dX9_build_124 (lv_at hl 6 rfl) ?_
                        refine lv_iload_n hx hb dX9_build_126 rfl (lv_at hl 3 rfl) ?_
                        refine lv_iload hx hb dX9_build_127 (lv_at hl 8 rfl) ?_
                        refine lv_iload hx hb dX9_build_129 (lv_at hl 9 rfl) ?_
                        refine lv_iload hx hb dX9_build_131 (lv_at hl 10 rfl) ?_
                        refine lv_lload hx hb dX9_build_133 (lv_at hl 5 rfl) ?_
                        refine x_cv (x_rV (As := [.int x8_4, .int p1, .int x10_13, .int x11_14, .int x12_15, .long x6_6]) (rest := []) (okM X) hC hw (kX9_buildNode l X d B ih S _ x8_4 p1 x10_13 x11_14 x12_15 x6_6 _ hf) (cwV 6 hts (gV q_779 q_780 q_781 q_5 q_782) rfl rfl rfl (by decide +kernel) ⟨by simp only [rX9_build, rX9_buildNode]; omega, by simp only [rX9_build, rX9_buildNode]; omega⟩) (x_recv hK hw (k := 0) (by decide) rfl rfl) rfl hl.1 rfl (Nat.le_of_ble_eq_true rfl) dX9_build_135) hw hi (fun S_21 H locs hf hw => ?_)
                        exact hQ _ _ _ _ _ hf hw dX9_build_138
                    refine lv_if_lt (tgt := 112) hx hb dX9_build_93 (by decide) (fun c_22 => ?_) (fun c_22 => ?_)
                    · replace hf := hf.1 c_22
                      refine lv_lconst (v := 0) hx hb dX9_build_112 (by decide) ?_
                      exact w_113 0 _ _ _ hf hw (lv_sub hl [3, 4, 5, 6, 7, 8, 9, 2, 1, 0] rfl)
                    · replace hf := hf.2 c_22
                      refine lv_aload_n hx hb dX9_build_96 rfl (lv_at hl 3 rfl) ?_
                      refine lv_iload hx hb dX9_build_97 (lv_at hl 8 rfl) ?_
                      refine lv_iload_n hx hb dX9_build_99 rfl (lv_at hl 5 rfl) ?_
                      refine lv_iload hx hb dX9_build_100 (lv_at hl 2 rfl) ?_
                      refine lv_iload hx hb dX9_build_102 (lv_at hl 1 rfl) ?_
                      refine lv_iload hx hb dX9_build_104 (lv_at hl 0 rfl) ?_
                      refine x_cl (x_rV (As := [.int x8_4, .int p1, .int x10_13, .int x11_14, .int x12_15]) (rest := []) (okM X) hC hw (kX9_productOf l X S _ x8_4 p1 x10_13 x11_14 x12_15 _ hf) (cwV 5 hts (gV q_771 q_772 q_773 q_5 q_774) rfl rfl rfl (by decide +kernel) ⟨by simp only [rX9_build, rX9_productOf]; omega, by simp only [rX9_build, rX9_productOf]; omega⟩) (x_recv hK hw (k := 0) (by decide) rfl rfl) rfl hl.1 rfl (Nat.le_of_ble_eq_true rfl) dX9_build_106) hw hi (fun r_23 S_24 H locs hf hw => ?_)
                      obtain ⟨hf, rfl⟩ := hf
                      refine lv_goto (tgt := 113) hx hb dX9_build_109 (by decide) ?_
                      exact w_113 r_23 _ _ _ hf hw (lv_sub hl [3, 4, 5, 6, 7, 8, 9, 2, 1, 0] rfl)
            exact w_41 n_41 x6_3 0 _ _ _ hf hw (lv_sub hl [1, 2, 3, 4, 5, 6, 0] rfl)
      exact w_29 n_29 p3 0 _ _ _ hf hw (lv_sub hl [2, 3, 4, 5, 1, 0] rfl)
    · replace hf := hf.2 c_2
      exact hQ _ _ _ _ _ hf hw dX9_build_21
  · replace hf := hf.2 c_1
    refine lv_aload_n hx hb dX9_build_6 rfl (lv_at hl 0 rfl) ?_
    refine x_get (k := 0) (v := .ref (xa X 6)) hx hb hts i_X9 hown hK hw (by decide) rfl rfl 11 (by decide) lf_37 (fun _ h9 => h9) rfl dX9_build_7 ?_
    refine lv_iload_n hx hb dX9_build_10 rfl (lv_at hl 2 rfl) ?_
    refine lv_iload_n hx hb dX9_build_11 rfl (lv_at hl 1 rfl) ?_
    refine lv_bipush (v := 10) hx hb dX9_build_12 (by decide) ?_
    refine lv_isub hx hb dX9_build_14 ?_
    refine x_ist (n := 8) hx hb hK hw (by decide) rfl rfl hf.1 dX9_build_15 (uM_A6 X S _ _) (fun H locs hw => ?_)
    replace hf := hf.2
    obtain ⟨S_25, eS_25⟩ : ∃ z : gS, z = uA S 6 p1.toNatClampNeg (p0 - 10) := ⟨_, rfl⟩
    rw [← eS_25] at hw
    replace hf := hf S_25 eS_25
    exact hQ _ _ _ _ _ hf hw dX9_build_16
def pX9_build : Nat → Int32 → Int32 → Int32 → Int64 → gS → (gS → Prop) → Prop
  | 0 => fun _ _ _ _ _ _ => False
  | d + 1 => fX9_build (pX9_build d)
theorem kX9_build (l : Launch) (X : xG) : ∀ (d : Nat) (S : gS) (sz : Nat) (p0 : Int32) (p1 : Int32) (p2 : Int32) (p3 : Int64) (Post : gS → Prop), pX9_build d p0 p1 p2 p3 S Post → xMv l yX9_build (Cond.code yX9_build cX9_build 15 none :: WS) (rX9_build d) 133 X (cM X) (eM X) S sz [.ref (xa X 0), .int p0, .int p1, .int p2, .long p3] Post
  | 0 => fun _ _ _ _ _ _ _ hf => hf.elim
  | d + 1 => fun S sz p0 p1 p2 p3 Post hf => sX9_build l X d (pX9_build d) (kX9_build l X d) S sz p0 p1 p2 p3 Post hf
def rX9_numberOf (d : Nat) : Room := { frames := 40 + 1 * d, cells := 0, slots := 0, locals := 2000 + 60 * d }
def bX9_numberOf_182 (B : Int32 → Int32 → Int32 → gS → (Int64 → gS → Prop) → Prop) (p1 : Int32) (p2 : Int32) (Post : Int64 → gS → Prop) (x4_3 : Int32) (S_4 : gS) (r_9 : Int32) (y_14 : Int32) (x10_15 : Int32) (L_182 : Int64 × Int32 → Prop) (x5_16 : Int64) (x11_17 : Int32) : Prop :=
  ((((r_9 * (p2 + 1)) + y_14) ≤ x11_17 → (vp_in x4_3 24 ∧ (vp_in (3 : Int32) 4 ∧ (pX9_treesOfPart (gA S_4 (16 + x4_3.toNatClampNeg) (3 : Int32).toNatClampNeg) ((p1 + r_9) + y_14) x10_15 S_4 (fun r_20 => (vp_in x4_3 24 ∧ (vp_in (2 : Int32) 4 ∧ (pX9_treesOfPart (gA S_4 (16 + x4_3.toNatClampNeg) (2 : Int32).toNatClampNeg) (p1 + r_9) y_14 S_4 (fun r_23 => (∀ x13_25 : Int64, x13_25 = (r_20 * r_23) → (vp_in x4_3 24 ∧ (vp_in (1 : Int32) 4 ∧ (B (gA S_4 (16 + x4_3.toNatClampNeg) (1 : Int32).toNatClampNeg) p1 r_9 S_4 (fun r_27 S_28 => (∀ x5_29 : Int64, x5_29 = (x5_16 + (r_27 * x13_25)) → (vp_in x4_3 24 ∧ (vp_in (2 : Int32) 4 ∧ (B (gA S_28 (16 + x4_3.toNatClampNeg) (2 : Int32).toNatClampNeg) (p1 + r_9) y_14 S_28 (fun r_31 S_32 => (∀ x5_33 : Int64, x5_33 = (x5_29 + (r_31 * r_20)) → (vp_in x4_3 24 ∧ (vp_in (3 : Int32) 4 ∧ (B (gA S_32 (16 + x4_3.toNatClampNeg) (3 : Int32).toNatClampNeg) ((p1 + r_9) + y_14) x10_15 S_32 (fun r_35 S_36 => Post (x5_33 + r_35) S_36)))))))))))))))))))))))) ∧ (¬ ((r_9 * (p2 + 1)) + y_14) ≤ x11_17 → (¬ (p2 + 1) = 0 ∧ (∀ x12_37 : Int32, x12_37 = (x11_17 / (p2 + 1)) → (¬ (p2 + 1) = 0 ∧ (∀ x13_38 : Int32, x13_38 = (x11_17 - x11_17 / (p2 + 1) * (p2 + 1)) → ((p2 < (x12_37 + x13_38) → (∀ x5_40 : Int64, x5_40 = (x5_16 + 0) → (∀ x11_41 : Int32, x11_41 = x11_17 + 1 → L_182 (x5_40, x11_41)))) ∧ (¬ p2 < (x12_37 + x13_38) → (pX9_treesFrom x4_3 p1 x12_37 x13_38 ((p2 - x12_37) - x13_38) S_4 (fun r_42 => (∀ x5_44 : Int64, x5_44 = (x5_16 + r_42) → (∀ x11_45 : Int32, x11_45 = x11_17 + 1 → L_182 (x5_44, x11_45)))))))))))))
def jX9_numberOf_168 (B : Int32 → Int32 → Int32 → gS → (Int64 → gS → Prop) → Prop) (p1 : Int32) (p2 : Int32) (Post : Int64 → gS → Prop) (x4_3 : Int32) (S_4 : gS) (x5_5 : Int64) (r_9 : Int32) (y_14 : Int32) : Prop :=
  (∀ x10_15 : Int32, x10_15 = ((p2 - r_9) - y_14) → ∃ n, lp (fun L x => bX9_numberOf_182 B p1 p2 Post x4_3 S_4 r_9 y_14 x10_15 L x.1 x.2) n (x5_5, 0))
def jX9_numberOf_131 (B : Int32 → Int32 → Int32 → gS → (Int64 → gS → Prop) → Prop) (p1 : Int32) (p2 : Int32) (Post : Int64 → gS → Prop) (x4_3 : Int32) (S_4 : gS) (x5_5 : Int64) (r_9 : Int32) (y_12 : Int32) : Prop :=
  (vp_in x4_3 24 ∧ (vp_in (2 : Int32) 4 ∧ ((0 ≤ (gA S_4 (16 + x4_3.toNatClampNeg) (2 : Int32).toNatClampNeg) → (vp_in x4_3 24 ∧ (vp_in (2 : Int32) 4 ∧ (pX9_sizeOfPart (gA S_4 (16 + x4_3.toNatClampNeg) (2 : Int32).toNatClampNeg) (p1 + r_9) y_12 S_4 (fun r_48 => jX9_numberOf_168 B p1 p2 Post x4_3 S_4 x5_5 r_9 r_48))))) ∧ (¬ 0 ≤ (gA S_4 (16 + x4_3.toNatClampNeg) (2 : Int32).toNatClampNeg) → jX9_numberOf_168 B p1 p2 Post x4_3 S_4 x5_5 r_9 0))))
def bX9_numberOf_39 (B : Int32 → Int32 → Int32 → gS → (Int64 → gS → Prop) → Prop) (p0 : Int32) (p1 : Int32) (p2 : Int32) (Post : Int64 → gS → Prop) (x4_3 : Int32) (S_4 : gS) (L_39 : Int64 × Int32 → Prop) (x5_5 : Int64) (x7_6 : Int32) : Prop :=
  ((x4_3 ≤ x7_6 → (vp_in x4_3 24 ∧ (vp_in (1 : Int32) 4 ∧ (pX9_sizeOfPart (gA S_4 (16 + x4_3.toNatClampNeg) (1 : Int32).toNatClampNeg) p1 (gI S_4 8) S_4 (fun r_9 => (vp_in x4_3 24 ∧ (vp_in (1 : Int32) 4 ∧ ((10 ≤ (gA S_4 (16 + x4_3.toNatClampNeg) (1 : Int32).toNatClampNeg) → jX9_numberOf_131 B p1 p2 Post x4_3 S_4 x5_5 r_9 (gI S_4 8)) ∧ (¬ 10 ≤ (gA S_4 (16 + x4_3.toNatClampNeg) (1 : Int32).toNatClampNeg) → (pX9_skip 10 (gI S_4 8) S_4 (fun r_51 => jX9_numberOf_131 B p1 p2 Post x4_3 S_4 x5_5 r_9 r_51))))))))))) ∧ (¬ x4_3 ≤ x7_6 → (vp_in x7_6 24 ∧ (vp_in (0 : Int32) 4 ∧ ((¬ (gA S_4 (16 + x7_6.toNatClampNeg) (0 : Int32).toNatClampNeg) = p0 → (∀ x5_55 : Int64, x5_55 = (x5_5 + 0) → (∀ x7_56 : Int32, x7_56 = x7_6 + 1 → L_39 (x5_55, x7_56)))) ∧ ((gA S_4 (16 + x7_6.toNatClampNeg) (0 : Int32).toNatClampNeg) = p0 → (pX9_treesOfProduction x7_6 p1 p2 S_4 (fun r_57 => (∀ x5_59 : Int64, x5_59 = (x5_5 + r_57) → (∀ x7_60 : Int32, x7_60 = x7_6 + 1 → L_39 (x5_59, x7_60)))))))))))
def fX9_numberOf (B : Int32 → Int32 → Int32 → gS → (Int64 → gS → Prop) → Prop) (p0 : Int32) (p1 : Int32) (p2 : Int32) (S : gS) (Post : Int64 → gS → Prop) : Prop :=
  ((p0 < 0 → Post 0 S) ∧ (¬ p0 < 0 → ((p0 < 10 → (vp_in (gI S 8) 16 ∧ (∀ x4_3 : Int32, x4_3 = gA S 8 (gI S 8).toNatClampNeg → (∀ S_4 : gS, S_4 = uI S 8 ((gI S 8) + 1) → ∃ n, lp (fun L x => bX9_numberOf_39 B p0 p1 p2 Post x4_3 S_4 L x.1 x.2) n (0, 0))))) ∧ (¬ p0 < 10 → Post 0 S))))
set_option maxHeartbeats 40000000 in
set_option maxRecDepth 100000 in
theorem sX9_numberOf (l : Launch) (X : xG) (d : Nat) (B : Int32 → Int32 → Int32 → gS → (Int64 → gS → Prop) → Prop) (ih : ∀ (S : gS) (sz : Nat) (p0 : Int32) (p1 : Int32) (p2 : Int32) (Post : Int64 → gS → Prop), B p0 p1 p2 S Post → xMl l yX9_numberOf (Cond.code yX9_numberOf cX9_numberOf 15 (some .long) :: WS) (rX9_numberOf d) 133 X (cM X) (eM X) S sz [.ref (xa X 0), .int p0, .int p1, .int p2] Post) (S : gS) (sz : Nat) (p0 : Int32) (p1 : Int32) (p2 : Int32) (Post : Int64 → gS → Prop) (hf : fX9_numberOf B p0 p1 p2 S Post) : xMl l yX9_numberOf (Cond.code yX9_numberOf cX9_numberOf 15 (some .long) :: WS) (rX9_numberOf (d + 1)) 133 X (cM X) (eM X) S sz [.ref (xa X 0), .int p0, .int p1, .int p2] Post := by
  refine xMl.of (cc := cX9_numberOf) (maxL := 15) (own := RX9) (by decide) rfl rfl (Nat.le_of_ble_eq_true rfl) ?_
  intro p e s m args below meth c ls Q hC hQ hw hl
  obtain ⟨hx, hb, hml, hown, hts, hE, hi⟩ := id hC
  have hK := hE.1
  have hl : lv_has ls 15 [(0, .ref (xa X 0)), (1, .int p0), (2, .int p1), (3, .int p2)] := hl
  have lf_45 : (Cond.fieldLink RX9 45 "GrammarAmbiguityModel" "nodeProduction" "[I").before args s = true := hts _ q_118
  have lf_196 : (Cond.fieldLink RX9 196 "GrammarAmbiguityModel" "at" "I").before args s = true := hts _ q_810
  have lf_18 : (Cond.fieldLink RX9 18 "GrammarAmbiguityModel" "symbols" "[[I").before args s = true := hts _ q_110
  rw [fX9_numberOf] at hf
  refine lv_iload_n hx hb dX9_numberOf_0 rfl (lv_at hl 1 rfl) ?_
  refine lv_if_lt (tgt := 10) hx hb dX9_numberOf_1 (by decide) (fun c_1 => ?_) (fun c_1 => ?_)
  · replace hf := hf.1 c_1
    refine lv_lconst (v := 0) hx hb dX9_numberOf_10 (by decide) ?_
    exact hQ _ _ _ _ _ _ hf hw dX9_numberOf_11
  · replace hf := hf.2 c_1
    refine lv_iload_n hx hb dX9_numberOf_4 rfl (lv_at hl 1 rfl) ?_
    refine lv_bipush (v := 10) hx hb dX9_numberOf_5 (by decide) ?_
    refine lv_icmp_lt (tgt := 12) hx hb dX9_numberOf_7 (by decide) (fun c_2 => ?_) (fun c_2 => ?_)
    · replace hf := hf.1 c_2
      refine lv_aload_n hx hb dX9_numberOf_12 rfl (lv_at hl 0 rfl) ?_
      refine x_get (k := 0) (v := .ref (xa X 8)) hx hb hts i_X9 hown hK hw (by decide) rfl rfl 14 (by decide) lf_45 (fun _ h9 => h9) rfl dX9_numberOf_13 ?_
      refine lv_aload_n hx hb dX9_numberOf_16 rfl (lv_at hl 0 rfl) ?_
      refine x_get (k := 0) (v := .int (gI S 8)) hx hb hts i_X9 hown hK hw (by decide) rfl rfl 18 (by decide) lf_196 (fun _ h9 => h9) rfl dX9_numberOf_17 ?_
      refine x_ild (n := 16) hx hb hK hw (by decide) rfl rfl hf.1 dX9_numberOf_20 ?_
      replace hf := hf.2
      refine lv_topi (fun x4_3 ex4_3 => ?_)
      replace hf := hf x4_3 ex4_3
      refine lv_istore (lv' := [(4, .int x4_3), (0, .ref (xa X 0)), (1, .int p0), (2, .int p1), (3, .int p2)]) hx hb dX9_numberOf_21 hl (by decide) rfl (fun ls hl => ?_)
      refine lv_aload_n hx hb dX9_numberOf_23 rfl (lv_at hl 1 rfl) ?_
      refine lv_dup hx hb dX9_numberOf_24 rfl ?_
      refine x_get (k := 0) (v := .int (gI S 8)) hx hb hts i_X9 hown hK hw (by decide) rfl rfl 18 (by decide) lf_196 (fun _ h9 => h9) rfl dX9_numberOf_25 ?_
      refine lv_iconst (v := 1) hx hb dX9_numberOf_28 (by decide) ?_
      refine lv_iadd hx hb dX9_numberOf_29 ?_
      refine x_put (k := 0) (S' := uI S 8 ((gI S 8) + 1)) (ty := .int) hx hb hts i_X9 tyX9_ok nmX9 hown hK hw (by decide) rfl rfl 18 (by decide) lf_196 (fun _ h9 => h9) rfl (by decide +kernel) rfl rfl (Nat.le_of_ble_eq_true rfl) dX9_numberOf_30 (uM_I8 X S _) (fun H locs hw => ?_)
      obtain ⟨S_4, eS_4⟩ : ∃ z : gS, z = uI S 8 ((gI S 8) + 1) := ⟨_, rfl⟩
      rw [← eS_4] at hw
      replace hf := hf S_4 eS_4
      refine lv_lconst (v := 0) hx hb dX9_numberOf_33 (by decide) ?_
      refine lv_lstore (lv' := [(5, .long 0), (4, .int x4_3), (0, .ref (xa X 0)), (1, .int p0), (2, .int p1), (3, .int p2)]) hx hb dX9_numberOf_34 hl (by decide) rfl (fun ls hl => ?_)
      refine lv_iconst (v := 0) hx hb dX9_numberOf_36 (by decide) ?_
      refine lv_istore (lv' := [(7, .int 0), (5, .long 0), (4, .int x4_3), (0, .ref (xa X 0)), (1, .int p0), (2, .int p1), (3, .int p2)]) hx hb dX9_numberOf_37 hl (by decide) rfl (fun ls hl => ?_)
      obtain ⟨n_39, hf⟩ := hf
      have w_39 : ∀ (n : Nat) (x5_5 : Int64) (x7_6 : Int32) (H : Heap) (locs : List Loc) (ls : Array Slot), lp (fun L x => bX9_numberOf_39 B p0 p1 p2 Post x4_3 S_4 L x.1 x.2) n (x5_5, x7_6) → xH 133 X (cM X) (xA 133 X s.heap.size) s.heap S_4 H locs → lv_has ls 15 [(0, .ref (xa X 0)), (1, .int p0), (2, .int p1), (3, .int p2), (4, .int x4_3), (5, .long x5_5), (7, .int x7_6)] → W p l e (rX9_numberOf (d + 1)) s m args below meth c H locs 0 0 Q (F0 m 39 ls []) := by
        intro n
        induction n with
        | zero => intro x5_5 x7_6 H locs ls hf; exact hf.elim
        | succ n ih_39 =>
          intro x5_5 x7_6 H locs ls hf hw hl
          replace hf : bX9_numberOf_39 B p0 p1 p2 Post x4_3 S_4 (lp (fun L x => bX9_numberOf_39 B p0 p1 p2 Post x4_3 S_4 L x.1 x.2) n) x5_5 x7_6 := hf
          generalize lp (fun L x => bX9_numberOf_39 B p0 p1 p2 Post x4_3 S_4 L x.1 x.2) n = L_39 at hf ih_39
          rw [bX9_numberOf_39] at hf
          refine lv_iload hx hb dX9_numberOf_39 (lv_at hl 6 rfl) ?_
          refine lv_iload hx hb dX9_numberOf_41 (lv_at hl 4 rfl) ?_
          refine lv_icmp_ge (tgt := 82) hx hb dX9_numberOf_43 (by decide) (fun c_7 => ?_) (fun c_7 => ?_)
          · replace hf := hf.1 c_7
            refine lv_aload_n hx hb dX9_numberOf_82 rfl (lv_at hl 0 rfl) ?_
            refine lv_aload_n hx hb dX9_numberOf_83 rfl (lv_at hl 0 rfl) ?_
            refine x_get (k := 0) (v := .ref (xa X 1)) hx hb hts i_X9 hown hK hw (by decide) rfl rfl 5 (by decide) lf_18 (fun _ h9 => h9) rfl dX9_numberOf_84 ?_
            refine lv_iload hx hb dX9_numberOf_87 (lv_at hl 4 rfl) ?_
            have hb_8 := vp_lt hf.1
            refine x_ald (n := 24) (v := .ref (xa X (16 + x4_3.toNatClampNeg))) hx hb hK hw (by decide) rfl 3 rfl rfl hf.1 (rf_lt hb_8) dX9_numberOf_89 ?_
            replace hf := hf.2
            refine lv_iconst (v := 1) hx hb dX9_numberOf_90 (by decide) ?_
            refine x_ild (n := 4) hx hb hK hw (by omega) (cM_sy hb_8) rfl hf.1 dX9_numberOf_91 ?_
            replace hf := hf.2
            refine lv_iload_n hx hb dX9_numberOf_92 rfl (lv_at hl 2 rfl) ?_
            refine lv_aload_n hx hb dX9_numberOf_93 rfl (lv_at hl 0 rfl) ?_
            refine x_get (k := 0) (v := .int (gI S_4 8)) hx hb hts i_X9 hown hK hw (by decide) rfl rfl 18 (by decide) lf_196 (fun _ h9 => h9) rfl dX9_numberOf_94 ?_
            refine x_ci (x_rV (As := [.int (gA S_4 (16 + x4_3.toNatClampNeg) (1 : Int32).toNatClampNeg), .int p1, .int (gI S_4 8)]) (rest := []) (okM X) hC hw (kX9_sizeOfPart l X S_4 _ (gA S_4 (16 + x4_3.toNatClampNeg) (1 : Int32).toNatClampNeg) p1 (gI S_4 8) _ hf) (cwV 3 hts (gV q_815 q_816 q_817 q_5 q_818) rfl rfl rfl (by decide +kernel) ⟨by simp only [rX9_numberOf, rX9_sizeOfPart]; omega, by simp only [rX9_numberOf, rX9_sizeOfPart]; omega⟩) (x_recv hK hw (k := 0) (by decide) rfl rfl) rfl hl.1 rfl (Nat.le_of_ble_eq_true rfl) dX9_numberOf_97) hw hi (fun r_9 S_10 H locs hf hw => ?_)
            obtain ⟨hf, rfl⟩ := hf
            refine lv_istore (lv' := [(7, .int r_9), (0, .ref (xa X 0)), (1, .int p0), (2, .int p1), (3, .int p2), (4, .int x4_3), (5, .long x5_5)]) hx hb dX9_numberOf_100 hl (by decide) rfl (fun ls hl => ?_)
            refine lv_aload_n hx hb dX9_numberOf_102 rfl (lv_at hl 1 rfl) ?_
            refine x_get (k := 0) (v := .ref (xa X 1)) hx hb hts i_X9 hown hK hw (by decide) rfl rfl 5 (by decide) lf_18 (fun _ h9 => h9) rfl dX9_numberOf_103 ?_
            refine lv_iload hx hb dX9_numberOf_106 (lv_at hl 5 rfl) ?_
            have hb_11 := vp_lt hf.1
            refine x_ald (n := 24) (v := .ref (xa X (16 + x4_3.toNatClampNeg))) hx hb hK hw (by decide) rfl 3 rfl rfl hf.1 (rf_lt hb_11) dX9_numberOf_108 ?_
            replace hf := hf.2
            refine lv_iconst (v := 1) hx hb dX9_numberOf_109 (by decide) ?_
            refine x_ild (n := 4) hx hb hK hw (by omega) (cM_sy hb_11) rfl hf.1 dX9_numberOf_110 ?_
            replace hf := hf.2
            refine lv_bipush (v := 10) hx hb dX9_numberOf_111 (by decide) ?_
            have w_131 : ∀ (y_12 : Int32) (H : Heap) (locs : List Loc) (ls : Array Slot), jX9_numberOf_131 B p1 p2 Post x4_3 S_4 x5_5 r_9 y_12 → xH 133 X (cM X) (xA 133 X s.heap.size) s.heap S_4 H locs → lv_has ls 15 [(0, .ref (xa X 0)), (2, .int p1), (3, .int p2), (4, .int x4_3), (5, .long x5_5), (7, .int r_9)] → W p l e (rX9_numberOf (d + 1)) s m args below meth c H locs 0 0 Q (F0 m 131 ls [.int y_12]) := by
              intro y_12 H locs ls hf hw hl
              rw [jX9_numberOf_131] at hf
              refine lv_istore (lv' := [(8, .int y_12), (0, .ref (xa X 0)), (2, .int p1), (3, .int p2), (4, .int x4_3), (5, .long x5_5), (7, .int r_9)]) hx hb dX9_numberOf_131 hl (by decide) rfl (fun ls hl => ?_)
              refine lv_aload_n hx hb dX9_numberOf_133 rfl (lv_at hl 1 rfl) ?_
              refine x_get (k := 0) (v := .ref (xa X 1)) hx hb hts i_X9 hown hK hw (by decide) rfl rfl 5 (by decide) lf_18 (fun _ h9 => h9) rfl dX9_numberOf_134 ?_
              refine lv_iload hx hb dX9_numberOf_137 (lv_at hl 4 rfl) ?_
              have hb_13 := vp_lt hf.1
              refine x_ald (n := 24) (v := .ref (xa X (16 + x4_3.toNatClampNeg))) hx hb hK hw (by decide) rfl 3 rfl rfl hf.1 (rf_lt hb_13) dX9_numberOf_139 ?_
              replace hf := hf.2
              refine lv_iconst (v := 2) hx hb dX9_numberOf_140 (by decide) ?_
              refine x_ild (n := 4) hx hb hK hw (by omega) (cM_sy hb_13) rfl hf.1 dX9_numberOf_141 ?_
              replace hf := hf.2
              have w_168 : ∀ (y_14 : Int32) (H : Heap) (locs : List Loc) (ls : Array Slot), jX9_numberOf_168 B p1 p2 Post x4_3 S_4 x5_5 r_9 y_14 → xH 133 X (cM X) (xA 133 X s.heap.size) s.heap S_4 H locs → lv_has ls 15 [(0, .ref (xa X 0)), (2, .int p1), (3, .int p2), (4, .int x4_3), (5, .long x5_5), (7, .int r_9)] → W p l e (rX9_numberOf (d + 1)) s m args below meth c H locs 0 0 Q (F0 m 168 ls [.int y_14]) := by
                intro y_14 H locs ls hf hw hl
                rw [jX9_numberOf_168] at hf
                refine lv_istore (lv' := [(9, .int y_14), (0, .ref (xa X 0)), (2, .int p1), (3, .int p2), (4, .int x4_3), (5, .long x5_5), (7, .int r_9)]) hx hb dX9_numberOf_168 hl (by decide) rfl (fun ls hl => ?_)
                refine lv_iload_n hx hb dX9_numberOf_170 rfl (lv_at hl 3 rfl) ?_
                refine lv_iload hx hb dX9_numberOf_171 (lv_at hl 6 rfl) ?_
                refine lv_isub hx hb dX9_numberOf_173 ?_
                refine lv_iload hx hb dX9_numberOf_174 (lv_at hl 0 rfl) ?_
                refine lv_isub hx hb dX9_numberOf_176 ?_
                refine lv_topi (fun x10_15 ex10_15 => ?_)
                replace hf := hf x10_15 ex10_15
                refine lv_istore (lv' := [(10, .int x10_15), (9, .int y_14), (0, .ref (xa X 0)), (2, .int p1), (3, .int p2), (4, .int x4_3), (5, .long x5_5), (7, .int r_9)]) hx hb dX9_numberOf_177 hl (by decide) rfl (fun ls hl => ?_)
                refine lv_iconst (v := 0) hx hb dX9_numberOf_179 (by decide) ?_
                refine lv_istore (lv' := [(11, .int 0), (10, .int x10_15), (9, .int y_14), (0, .ref (xa X 0)), (2, .int p1), (3, .int p2), (4, .int x4_3), (5, .long x5_5), (7, .int r_9)]) hx hb dX9_numberOf_180 hl (by decide) rfl (fun ls hl => ?_)
                obtain ⟨n_182, hf⟩ := hf
                have w_182 : ∀ (n : Nat) (x5_16 : Int64) (x11_17 : Int32) (H : Heap) (locs : List Loc) (ls : Array Slot), lp (fun L x => bX9_numberOf_182 B p1 p2 Post x4_3 S_4 r_9 y_14 x10_15 L x.1 x.2) n (x5_16, x11_17) → xH 133 X (cM X) (xA 133 X s.heap.size) s.heap S_4 H locs → lv_has ls 15 [(0, .ref (xa X 0)), (2, .int p1), (3, .int p2), (4, .int x4_3), (5, .long x5_16), (7, .int r_9), (9, .int y_14), (10, .int x10_15), (11, .int x11_17)] → W p l e (rX9_numberOf (d + 1)) s m args below meth c H locs 0 0 Q (F0 m 182 ls []) := by
                  intro n
                  induction n with
                  | zero => intro x5_16 x11_17 H locs ls hf; exact hf.elim
                  | succ n ih_182 =>
                    intro x5_16 x11_17 H locs ls hf hw hl
                    replace hf : bX9_numberOf_182 B p1 p2 Post x4_3 S_4 r_9 y_14 x10_15 (lp (fun L x => bX9_numberOf_182 B p1 p2 Post x4_3 S_4 r_9 y_14 x10_15 L x.1 x.2) n) x5_16 x11_17 := hf
                    generalize lp (fun L x => bX9_numberOf_182 B p1 p2 Post x4_3 S_4 r_9 y_14 x10_15 L x.1 x.2) n = L_182 at hf ih_182
                    rw [bX9_numberOf_182] at hf
                    refine lv_iload hx hb dX9_numberOf_182 (lv_at hl 8 rfl) ?_
                    refine lv_iload hx hb dX9_numberOf_184 (lv_at hl 5 rfl) ?_
                    refine lv_iload_n hx hb dX9_numberOf_186 rfl (lv_at hl 2 rfl) ?_
                    refine lv_iconst (v := 1) hx hb dX9_numberOf_187 (by decide) ?_
                    refine lv_iadd hx hb dX9_numberOf_188 ?_
                    refine lv_imul hx hb dX9_numberOf_189 ?_
                    refine lv_iload hx hb dX9_numberOf_190 (lv_at hl 6 rfl) ?_
                    refine lv_iadd hx hb dX9_numberOf_192 ?_
                    refine lv_icmp_ge (tgt := 254) hx hb dX9_numberOf_193 (by decide) (fun c_18 => ?_) (fun c_18 => ?_)
                    · replace hf := hf.1 c_18
                      refine lv_aload_n hx hb dX9_numberOf_254 rfl (lv_at hl 0 rfl) ?_
                      refine lv_aload_n hx hb dX9_numberOf_255 rfl (lv_at hl 0 rfl) ?_
                      refine x_get (k := 0) (v := .ref (xa X 1)) hx hb hts i_X9 hown hK hw (by decide) rfl rfl 5 (by decide) lf_18 (fun _ h9 => h9) rfl dX9_numberOf_256 ?_
                      refine lv_iload hx hb dX9_numberOf_259 (lv_at hl 3 rfl) ?_
                      have hb_19 := vp_lt hf.1
                      refine x_ald (n := 24) (v := .ref (xa X (16 + x4_3.toNatClampNeg))) hx hb hK hw (by decide) rfl 3 rfl rfl hf.1 (rf_lt hb_19) dX9_numberOf_261 ?_
                      replace hf := hf.2
                      refine lv_iconst (v := 3) hx hb dX9_numberOf_262 (by decide) ?_
                      refine x_ild (n := 4) hx hb hK hw (by omega) (cM_sy hb_19) rfl hf.1 dX9_numberOf_263 ?_
                      replace hf := hf.2
                      refine lv_iload_n hx hb dX9_numberOf_264 rfl (lv_at hl 1 rfl) ?_
                      refine lv_iload hx hb dX9_numberOf_265 (lv_at hl 5 rfl) ?_
                      refine lv_iadd hx hb dX9_numberOf_267 ?_
                      refine lv_iload hx hb dX9_numberOf_268 (lv_at hl 6 rfl) ?_
                      refine lv_iadd hx hb dX9_numberOf_270 ?_
                      refine lv_iload hx hb dX9_numberOf_271 (lv_at hl 7 rfl) ?_
                      refine x_cl (x_rV (As := [.int (gA S_4 (16 + x4_3.toNatClampNeg) (3 : Int32).toNatClampNeg), .int ((p1 + r_9) + y_14), .int x10_15]) (rest := []) (okM X) hC hw (kX9_treesOfPart l X S_4 _ (gA S_4 (16 + x4_3.toNatClampNeg) (3 : Int32).toNatClampNeg) ((p1 + r_9) + y_14) x10_15 _ hf) (cwV 3 hts (gV q_497 q_498 q_499 q_5 q_500) rfl rfl rfl (by decide +kernel) ⟨by simp only [rX9_numberOf, rX9_treesOfPart]; omega, by simp only [rX9_numberOf, rX9_treesOfPart]; omega⟩) (x_recv hK hw (k := 0) (by decide) rfl rfl) rfl hl.1 rfl (Nat.le_of_ble_eq_true rfl) dX9_numberOf_273) hw hi (fun r_20 S_21 H locs hf hw => ?_)
                      obtain ⟨hf, rfl⟩ := hf
                      refine lv_lstore (lv' := [(11, .long r_20), (0, .ref (xa X 0)), (2, .int p1), (3, .int p2), (4, .int x4_3), (5, .long x5_16), (7, .int r_9), (9, .int y_14), (10, .int x10_15)]) hx hb dX9_numberOf_276 hl (by decide) rfl (fun ls hl => ?_)
                      refine lv_lload hx hb dX9_numberOf_278 (lv_at hl 0 rfl) ?_
                      refine lv_aload_n hx hb dX9_numberOf_280 rfl (lv_at hl 1 rfl) ?_
                      refine lv_aload_n hx hb dX9_numberOf_281 rfl (lv_at hl 1 rfl) ?_
                      refine x_get (k := 0) (v := .ref (xa X 1)) hx hb hts i_X9 hown hK hw (by decide) rfl rfl 5 (by decide) lf_18 (fun _ h9 => h9) rfl dX9_numberOf_282 ?_
                      refine lv_iload hx hb dX9_numberOf_285 (lv_at hl 4 rfl) ?_
                      have hb_22 := vp_lt hf.1
                      refine x_ald (n := 24) (v := .ref (xa X (16 + x4_3.toNatClampNeg))) hx hb hK hw (by decide) rfl 3 rfl rfl hf.1 (rf_lt hb_22) dX9_numberOf_287 ?_
                      replace hf := hf.2
                      refine lv_iconst (v := 2) hx hb dX9_numberOf_288 (by decide) ?_
                      refine x_ild (n := 4) hx hb hK hw (by omega) (cM_sy hb_22) rfl hf.1 dX9_numberOf_289 ?_
                      replace hf := hf.2
                      refine lv_iload_n hx hb dX9_numberOf_290 rfl (lv_at hl 2 rfl) ?_
                      refine lv_iload hx hb dX9_numberOf_291 (lv_at hl 6 rfl) ?_
                      refine lv_iadd hx hb dX9_numberOf_293 ?_
                      refine lv_iload hx hb dX9_numberOf_294 (lv_at hl 7 rfl) ?_
                      refine x_cl (x_rV (As := [.int (gA S_4 (16 + x4_3.toNatClampNeg) (2 : Int32).toNatClampNeg), .int (p1 + r_9), .int y_14]) (rest := [.long r_20]) (okM X) hC hw (kX9_treesOfPart l X S_4 _ (gA S_4 (16 + x4_3.toNatClampNeg) (2 : Int32).toNatClampNeg) (p1 + r_9) y_14 _ hf) (cwV 3 hts (gV q_497 q_498 q_499 q_5 q_500) rfl rfl rfl (by decide +kernel) ⟨by simp only [rX9_numberOf, rX9_treesOfPart]; omega, by simp only [rX9_numberOf, rX9_treesOfPart]; omega⟩) (x_recv hK hw (k := 0) (by decide) rfl rfl) rfl hl.1 rfl (Nat.le_of_ble_eq_true rfl) dX9_numberOf_296) hw hi (fun r_23 S_24 H locs hf hw => ?_)
                      obtain ⟨hf, rfl⟩ := hf
                      refine lv_lmul hx hb dX9_numberOf_299 ?_
                      refine lv_topl (fun x13_25 ex13_25 => ?_)
                      replace hf := hf x13_25 ex13_25
                      refine lv_lstore (lv' := [(13, .long x13_25), (11, .long r_20), (0, .ref (xa X 0)), (2, .int p1), (3, .int p2), (4, .int x4_3), (5, .long x5_16), (7, .int r_9), (9, .int y_14), (10, .int x10_15)]) hx hb dX9_numberOf_300 hl (by decide) rfl (fun ls hl => ?_)
                      refine lv_lload hx hb dX9_numberOf_302 (lv_at hl 6 rfl) ?_
                      refine lv_aload_n hx hb dX9_numberOf_304 rfl (lv_at hl 2 rfl) ?_
                      refine lv_aload_n hx hb dX9_numberOf_305 rfl (lv_at hl 2 rfl) ?_
                      refine x_get (k := 0) (v := .ref (xa X 1)) hx hb hts i_X9 hown hK hw (by decide) rfl rfl 5 (by decide) lf_18 (fun _ h9 => h9) rfl dX9_numberOf_306 ?_
                      refine lv_iload hx hb dX9_numberOf_309 (lv_at hl 5 rfl) ?_
                      have hb_26 := vp_lt hf.1
                      refine x_ald (n := 24) (v := .ref (xa X (16 + x4_3.toNatClampNeg))) hx hb hK hw (by decide) rfl 3 rfl rfl hf.1 (rf_lt hb_26) dX9_numberOf_311 ?_
                      replace hf := hf.2
                      refine lv_iconst (v := 1) hx hb dX9_numberOf_312 (by decide) ?_
                      refine x_ild (n := 4) hx hb hK hw (by omega) (cM_sy hb_26) rfl hf.1 dX9_numberOf_313 ?_
                      replace hf := hf.2
                      refine lv_iload_n hx hb dX9_numberOf_314 rfl (lv_at hl 3 rfl) ?_
                      refine lv_iload hx hb dX9_numberOf_315 (lv_at hl 7 rfl) ?_
                      refine x_cl (x_rV (As := [.int (gA S_4 (16 + x4_3.toNatClampNeg) (1 : Int32).toNatClampNeg), .int p1, .int r_9]) (rest := [.long x5_16]) (okM X) hC hw (ih S_4 _ (gA S_4 (16 + x4_3.toNatClampNeg) (1 : Int32).toNatClampNeg) p1 r_9 _ hf) (cwV 3 hts (gV q_811 q_812 q_813 q_5 q_814) rfl rfl rfl (by decide +kernel) ⟨by simp only [rX9_numberOf]; omega, by simp only [rX9_numberOf]; omega⟩) (x_recv hK hw (k := 0) (by decide) rfl rfl) rfl hl.1 rfl (Nat.le_of_ble_eq_true rfl) dX9_numberOf_317) hw hi (fun r_27 S_28 H locs hf hw => ?_)
                      refine lv_lload hx hb dX9_numberOf_320 (lv_at hl 0 rfl) ?_
                      refine lv_lmul hx hb dX9_numberOf_322 ?_
                      refine lv_ladd hx hb dX9_numberOf_323 ?_
                      refine lv_topl (fun x5_29 ex5_29 => ?_)
                      replace hf := hf x5_29 ex5_29
                      refine lv_lstore (lv' := [(5, .long x5_29), (13, .long x13_25), (11, .long r_20), (0, .ref (xa X 0)), (2, .int p1), (3, .int p2), (4, .int x4_3), (7, .int r_9), (9, .int y_14), (10, .int x10_15)]) hx hb dX9_numberOf_324 hl (by decide) rfl (fun ls hl => ?_)
                      refine lv_lload hx hb dX9_numberOf_326 (lv_at hl 0 rfl) ?_
                      refine lv_aload_n hx hb dX9_numberOf_328 rfl (lv_at hl 3 rfl) ?_
                      refine lv_aload_n hx hb dX9_numberOf_329 rfl (lv_at hl 3 rfl) ?_
                      refine x_get (k := 0) (v := .ref (xa X 1)) hx hb hts i_X9 hown hK hw (by decide) rfl rfl 5 (by decide) lf_18 (fun _ h9 => h9) rfl dX9_numberOf_330 ?_
                      refine lv_iload hx hb dX9_numberOf_333 (lv_at hl 6 rfl) ?_
                      have hb_30 := vp_lt hf.1
                      refine x_ald (n := 24) (v := .ref (xa X (16 + x4_3.toNatClampNeg))) hx hb hK hw (by decide) rfl 3 rfl rfl hf.1 (rf_lt hb_30) dX9_numberOf_335 ?_
                      replace hf := hf.2
                      refine lv_iconst (v := 2) hx hb dX9_numberOf_336 (by decide) ?_
                      refine x_ild (n := 4) hx hb hK hw (by omega) (cM_sy hb_30) rfl hf.1 dX9_numberOf_337 ?_
                      replace hf := hf.2
                      refine lv_iload_n hx hb dX9_numberOf_338 rfl (lv_at hl 4 rfl) ?_
                      refine lv_iload hx hb dX9_numberOf_339 (lv_at hl 7 rfl) ?_
                      refine lv_iadd hx hb dX9_numberOf_341 ?_
                      refine lv_iload hx hb dX9_numberOf_342 (lv_at hl 8 rfl) ?_
                      refine x_cl (x_rV (As := [.int (gA S_28 (16 + x4_3.toNatClampNeg) (2 : Int32).toNatClampNeg), .int (p1 + r_9), .int y_14]) (rest := [.long x5_29]) (okM X) hC hw (ih S_28 _ (gA S_28 (16 + x4_3.toNatClampNeg) (2 : Int32).toNatClampNeg) (p1 + r_9) y_14 _ hf) (cwV 3 hts (gV q_811 q_812 q_813 q_5 q_814) rfl rfl rfl (by decide +kernel) ⟨by simp only [rX9_numberOf]; omega, by simp only [rX9_numberOf]; omega⟩) (x_recv hK hw (k := 0) (by decide) rfl rfl) rfl hl.1 rfl (Nat.le_of_ble_eq_true rfl) dX9_numberOf_344) hw hi (fun r_31 S_32 H locs hf hw => ?_)
                      refine lv_lload hx hb dX9_numberOf_347 (lv_at hl 2 rfl) ?_
                      refine lv_lmul hx hb dX9_numberOf_349 ?_
                      refine lv_ladd hx hb dX9_numberOf_350 ?_
                      refine lv_topl (fun x5_33 ex5_33 => ?_)
                      replace hf := hf x5_33 ex5_33
                      refine lv_lstore (lv' := [(5, .long x5_33), (13, .long x13_25), (11, .long r_20), (0, .ref (xa X 0)), (2, .int p1), (3, .int p2), (4, .int x4_3), (7, .int r_9), (9, .int y_14), (10, .int x10_15)]) hx hb dX9_numberOf_351 hl (by decide) rfl (fun ls hl => ?_)
                      refine lv_lload hx hb dX9_numberOf_353 (lv_at hl 0 rfl) ?_
                      refine lv_aload_n hx hb dX9_numberOf_355 rfl (lv_at hl 3 rfl) ?_
                      refine lv_aload_n hx hb dX9_numberOf_356 rfl (lv_at hl 3 rfl) ?_
                      refine x_get (k := 0) (v := .ref (xa X 1)) hx hb hts i_X9 hown hK hw (by decide) rfl rfl 5 (by decide) lf_18 (fun _ h9 => h9) rfl dX9_numberOf_357 ?_
                      refine lv_iload hx hb dX9_numberOf_360 (lv_at hl 6 rfl) ?_
                      have hb_34 := vp_lt hf.1
                      refine x_ald (n := 24) (v := .ref (xa X (16 + x4_3.toNatClampNeg))) hx hb hK hw (by decide) rfl 3 rfl rfl hf.1 (rf_lt hb_34) dX9_numberOf_362 ?_
                      replace hf := hf.2
                      refine lv_iconst (v := 3) hx hb dX9_numberOf_363 (by decide) ?_
                      refine x_ild (n := 4) hx hb hK hw (by omega) (cM_sy hb_34) rfl hf.1 dX9_numberOf_364 ?_
                      replace hf := hf.2
                      refine lv_iload_n hx hb dX9_numberOf_365 rfl (lv_at hl 4 rfl) ?_
                      refine lv_iload hx hb dX9_numberOf_366 (lv_at hl 7 rfl) ?_
                      refine lv_iadd hx hb dX9_numberOf_368 ?_
                      refine lv_iload hx hb dX9_numberOf_369 (lv_at hl 8 rfl) ?_
                      refine lv_iadd hx hb dX9_numberOf_371 ?_
                      refine lv_iload hx hb dX9_numberOf_372 (lv_at hl 9 rfl) ?_
                      refine x_cl (x_rV (As := [.int (gA S_32 (16 + x4_3.toNatClampNeg) (3 : Int32).toNatClampNeg), .int ((p1 + r_9) + y_14), .int x10_15]) (rest := [.long x5_33]) (okM X) hC hw (ih S_32 _ (gA S_32 (16 + x4_3.toNatClampNeg) (3 : Int32).toNatClampNeg) ((p1 + r_9) + y_14) x10_15 _ hf) (cwV 3 hts (gV q_811 q_812 q_813 q_5 q_814) rfl rfl rfl (by decide +kernel) ⟨by simp only [rX9_numberOf]; omega, by simp only [rX9_numberOf]; omega⟩) (x_recv hK hw (k := 0) (by decide) rfl rfl) rfl hl.1 rfl (Nat.le_of_ble_eq_true rfl) dX9_numberOf_374) hw hi (fun r_35 S_36 H locs hf hw => ?_)
                      refine lv_ladd hx hb dX9_numberOf_377 ?_
                      exact hQ _ _ _ _ _ _ hf hw dX9_numberOf_378
                    · replace hf := hf.2 c_18
                      refine lv_iload hx hb dX9_numberOf_196 (lv_at hl 8 rfl) ?_
                      refine lv_iload_n hx hb dX9_numberOf_198 rfl (lv_at hl 2 rfl) ?_
                      refine lv_iconst (v := 1) hx hb dX9_numberOf_199 (by decide) ?_
                      refine lv_iadd hx hb dX9_numberOf_200 ?_
                      refine lv_idiv hx hb dX9_numberOf_201 hf.1 ?_
                      replace hf := hf.2
                      refine lv_topi (fun x12_37 ex12_37 => ?_)
                      replace hf := hf x12_37 ex12_37
                      refine lv_istore (lv' := [(12, .int x12_37), (0, .ref (xa X 0)), (2, .int p1), (3, .int p2), (4, .int x4_3), (5, .long x5_16), (7, .int r_9), (9, .int y_14), (10, .int x10_15), (11, .int x11_17)]) hx hb dX9_numberOf_202 hl (by decide) rfl (fun ls hl => ?_)
                      refine lv_iload hx hb dX9_numberOf_204 (lv_at hl 9 rfl) ?_
                      refine lv_iload_n hx hb dX9_numberOf_206 rfl (lv_at hl 3 rfl) ?_
                      refine lv_iconst (v := 1) hx hb dX9_numberOf_207 (by decide) ?_
                      refine lv_iadd hx hb dX9_numberOf_208 ?_
                      refine lv_irem hx hb dX9_numberOf_209 hf.1 ?_
                      replace hf := hf.2
                      refine lv_topi (fun x13_38 ex13_38 => ?_)
                      replace hf := hf x13_38 ex13_38
                      refine lv_istore (lv' := [(13, .int x13_38), (12, .int x12_37), (0, .ref (xa X 0)), (2, .int p1), (3, .int p2), (4, .int x4_3), (5, .long x5_16), (7, .int r_9), (9, .int y_14), (10, .int x10_15), (11, .int x11_17)]) hx hb dX9_numberOf_210 hl (by decide) rfl (fun ls hl => ?_)
                      refine lv_lload hx hb dX9_numberOf_212 (lv_at hl 6 rfl) ?_
                      refine lv_iload hx hb dX9_numberOf_214 (lv_at hl 1 rfl) ?_
                      refine lv_iload hx hb dX9_numberOf_216 (lv_at hl 0 rfl) ?_
                      refine lv_iadd hx hb dX9_numberOf_218 ?_
                      refine lv_iload_n hx hb dX9_numberOf_219 rfl (lv_at hl 4 rfl) ?_
                      refine lv_icmp_gt (tgt := 244) hx hb dX9_numberOf_220 (by decide) (fun c_39 => ?_) (fun c_39 => ?_)
                      · replace hf := hf.1 c_39
                        refine lv_lconst (v := 0) hx hb dX9_numberOf_244 (by decide) ?_
                        refine lv_ladd hx hb dX9_numberOf_245 ?_
                        refine lv_topl (fun x5_40 ex5_40 => ?_)
                        replace hf := hf x5_40 ex5_40
                        refine lv_lstore (lv' := [(5, .long x5_40), (13, .int x13_38), (12, .int x12_37), (0, .ref (xa X 0)), (2, .int p1), (3, .int p2), (4, .int x4_3), (7, .int r_9), (9, .int y_14), (10, .int x10_15), (11, .int x11_17)]) hx hb dX9_numberOf_246 hl (by decide) rfl (fun ls hl => ?_)
                        obtain ⟨x11_41, ex11_41⟩ : ∃ y : Int32, y = x11_17 + 1 := ⟨_, rfl⟩
                        replace hf := hf x11_41 ex11_41
                        refine lv_iinc (v := x11_41) (lv' := [(11, .int x11_41), (5, .long x5_40), (13, .int x13_38), (12, .int x12_37), (0, .ref (xa X 0)), (2, .int p1), (3, .int p2), (4, .int x4_3), (7, .int r_9), (9, .int y_14), (10, .int x10_15)]) hx hb dX9_numberOf_248 hl (k := 10) rfl (by rw [ex11_41]; rfl) (by decide) rfl (fun ls hl => ?_)
                        refine lv_goto (tgt := 182) hx hb dX9_numberOf_251 (by decide) ?_
                        exact ih_182 x5_40 x11_41 _ _ _ hf hw (lv_sub hl [4, 5, 6, 7, 1, 8, 9, 10, 0] rfl)
                      · replace hf := hf.2 c_39
                        refine lv_aload_n hx hb dX9_numberOf_223 rfl (lv_at hl 2 rfl) ?_
                        refine lv_iload hx hb dX9_numberOf_224 (lv_at hl 5 rfl) ?_
                        refine lv_iload_n hx hb dX9_numberOf_226 rfl (lv_at hl 3 rfl) ?_
                        refine lv_iload hx hb dX9_numberOf_227 (lv_at hl 1 rfl) ?_
                        refine lv_iload hx hb dX9_numberOf_229 (lv_at hl 0 rfl) ?_
                        refine lv_iload_n hx hb dX9_numberOf_231 rfl (lv_at hl 4 rfl) ?_
                        refine lv_iload hx hb dX9_numberOf_232 (lv_at hl 1 rfl) ?_
                        refine lv_isub hx hb dX9_numberOf_234 ?_
                        refine lv_iload hx hb dX9_numberOf_235 (lv_at hl 0 rfl) ?_
                        refine lv_isub hx hb dX9_numberOf_237 ?_
                        refine x_cl (x_rV (As := [.int x4_3, .int p1, .int x12_37, .int x13_38, .int ((p2 - x12_37) - x13_38)]) (rest := [.long x5_16]) (okM X) hC hw (kX9_treesFrom l X S_4 _ x4_3 p1 x12_37 x13_38 ((p2 - x12_37) - x13_38) _ hf) (cwV 5 hts (gV q_493 q_494 q_495 q_5 q_496) rfl rfl rfl (by decide +kernel) ⟨by simp only [rX9_numberOf, rX9_treesFrom]; omega, by simp only [rX9_numberOf, rX9_treesFrom]; omega⟩) (x_recv hK hw (k := 0) (by decide) rfl rfl) rfl hl.1 rfl (Nat.le_of_ble_eq_true rfl) dX9_numberOf_238) hw hi (fun r_42 S_43 H locs hf hw => ?_)
                        obtain ⟨hf, rfl⟩ := hf
                        refine lv_goto (tgt := 245) hx hb dX9_numberOf_241 (by decide) ?_
                        refine lv_ladd hx hb dX9_numberOf_245 ?_
                        refine lv_topl (fun x5_44 ex5_44 => ?_)
                        replace hf := hf x5_44 ex5_44
                        refine lv_lstore (lv' := [(5, .long x5_44), (13, .int x13_38), (12, .int x12_37), (0, .ref (xa X 0)), (2, .int p1), (3, .int p2), (4, .int x4_3), (7, .int r_9), (9, .int y_14), (10, .int x10_15), (11, .int x11_17)]) hx hb dX9_numberOf_246 hl (by decide) rfl (fun ls hl => ?_)
                        obtain ⟨x11_45, ex11_45⟩ : ∃ y : Int32, y = x11_17 + 1 := ⟨_, rfl⟩
                        replace hf := hf x11_45 ex11_45
                        refine lv_iinc (v := x11_45) (lv' := [(11, .int x11_45), (5, .long x5_44), (13, .int x13_38), (12, .int x12_37), (0, .ref (xa X 0)), (2, .int p1), (3, .int p2), (4, .int x4_3), (7, .int r_9), (9, .int y_14), (10, .int x10_15)]) hx hb dX9_numberOf_248 hl (k := 10) rfl (by rw [ex11_45]; rfl) (by decide) rfl (fun ls hl => ?_)
                        refine lv_goto (tgt := 182) hx hb dX9_numberOf_251 (by decide) ?_
                        exact ih_182 x5_44 x11_45 _ _ _ hf hw (lv_sub hl [4, 5, 6, 7, 1, 8, 9, 10, 0] rfl)
                exact w_182 n_182 x5_5 0 _ _ _ hf hw (lv_sub hl [3, 4, 5, 6, 7, 8, 2, 1, 0] rfl)
              refine lv_if_ge (tgt := 149) hx hb dX9_numberOf_142 (by decide) (fun c_46 => ?_) (fun c_46 => ?_)
              · replace hf := hf.1 c_46
                refine lv_aload_n hx hb dX9_numberOf_149 rfl (lv_at hl 1 rfl) ?_
                refine lv_aload_n hx hb dX9_numberOf_150 rfl (lv_at hl 1 rfl) ?_
                refine x_get (k := 0) (v := .ref (xa X 1)) hx hb hts i_X9 hown hK hw (by decide) rfl rfl 5 (by decide) lf_18 (fun _ h9 => h9) rfl dX9_numberOf_151 ?_
                refine lv_iload hx hb dX9_numberOf_154 (lv_at hl 4 rfl) ?_
                have hb_47 := vp_lt hf.1
                refine x_ald (n := 24) (v := .ref (xa X (16 + x4_3.toNatClampNeg))) hx hb hK hw (by decide) rfl 3 rfl rfl hf.1 (rf_lt hb_47) dX9_numberOf_156 ?_
                replace hf := hf.2
                refine lv_iconst (v := 2) hx hb dX9_numberOf_157 (by decide) ?_
                refine x_ild (n := 4) hx hb hK hw (by omega) (cM_sy hb_47) rfl hf.1 dX9_numberOf_158 ?_
                replace hf := hf.2
                refine lv_iload_n hx hb dX9_numberOf_159 rfl (lv_at hl 2 rfl) ?_
                refine lv_iload hx hb dX9_numberOf_160 (lv_at hl 6 rfl) ?_
                refine lv_iadd hx hb dX9_numberOf_162 ?_
                refine lv_iload hx hb dX9_numberOf_163 (lv_at hl 0 rfl) ?_
                refine x_ci (x_rV (As := [.int (gA S_4 (16 + x4_3.toNatClampNeg) (2 : Int32).toNatClampNeg), .int (p1 + r_9), .int y_12]) (rest := []) (okM X) hC hw (kX9_sizeOfPart l X S_4 _ (gA S_4 (16 + x4_3.toNatClampNeg) (2 : Int32).toNatClampNeg) (p1 + r_9) y_12 _ hf) (cwV 3 hts (gV q_815 q_816 q_817 q_5 q_818) rfl rfl rfl (by decide +kernel) ⟨by simp only [rX9_numberOf, rX9_sizeOfPart]; omega, by simp only [rX9_numberOf, rX9_sizeOfPart]; omega⟩) (x_recv hK hw (k := 0) (by decide) rfl rfl) rfl hl.1 rfl (Nat.le_of_ble_eq_true rfl) dX9_numberOf_165) hw hi (fun r_48 S_49 H locs hf hw => ?_)
                obtain ⟨hf, rfl⟩ := hf
                exact w_168 r_48 _ _ _ hf hw (lv_sub hl [1, 2, 3, 4, 5, 6] rfl)
              · replace hf := hf.2 c_46
                refine lv_iconst (v := 0) hx hb dX9_numberOf_145 (by decide) ?_
                refine lv_goto (tgt := 168) hx hb dX9_numberOf_146 (by decide) ?_
                exact w_168 0 _ _ _ hf hw (lv_sub hl [1, 2, 3, 4, 5, 6] rfl)
            refine lv_icmp_ge (tgt := 127) hx hb dX9_numberOf_113 (by decide) (fun c_50 => ?_) (fun c_50 => ?_)
            · replace hf := hf.1 c_50
              refine lv_aload_n hx hb dX9_numberOf_127 rfl (lv_at hl 1 rfl) ?_
              refine x_get (k := 0) (v := .int (gI S_4 8)) hx hb hts i_X9 hown hK hw (by decide) rfl rfl 18 (by decide) lf_196 (fun _ h9 => h9) rfl dX9_numberOf_128 ?_
              exact w_131 (gI S_4 8) _ _ _ hf hw (lv_sub hl [1, 3, 4, 5, 6, 0] rfl)
            · replace hf := hf.2 c_50
              refine lv_aload_n hx hb dX9_numberOf_116 rfl (lv_at hl 1 rfl) ?_
              refine lv_aload_n hx hb dX9_numberOf_117 rfl (lv_at hl 1 rfl) ?_
              refine x_get (k := 0) (v := .int (gI S_4 8)) hx hb hts i_X9 hown hK hw (by decide) rfl rfl 18 (by decide) lf_196 (fun _ h9 => h9) rfl dX9_numberOf_118 ?_
              refine x_ci (x_rV (As := [.int (gI S_4 8)]) (rest := []) (okM X) hC hw (kX9_skip l X 10 S_4 _ (gI S_4 8) _ hf) (cwV 1 hts (gV q_819 q_820 q_821 q_5 q_822) rfl rfl rfl (by decide +kernel) ⟨by simp only [rX9_numberOf, rX9_skip]; omega, by simp only [rX9_numberOf, rX9_skip]; omega⟩) (x_recv hK hw (k := 0) (by decide) rfl rfl) rfl hl.1 rfl (Nat.le_of_ble_eq_true rfl) dX9_numberOf_121) hw hi (fun r_51 S_52 H locs hf hw => ?_)
              obtain ⟨hf, rfl⟩ := hf
              refine lv_goto (tgt := 131) hx hb dX9_numberOf_124 (by decide) ?_
              exact w_131 r_51 _ _ _ hf hw (lv_sub hl [1, 3, 4, 5, 6, 0] rfl)
          · replace hf := hf.2 c_7
            refine lv_lload hx hb dX9_numberOf_46 (lv_at hl 5 rfl) ?_
            refine lv_aload_n hx hb dX9_numberOf_48 rfl (lv_at hl 0 rfl) ?_
            refine x_get (k := 0) (v := .ref (xa X 1)) hx hb hts i_X9 hown hK hw (by decide) rfl rfl 5 (by decide) lf_18 (fun _ h9 => h9) rfl dX9_numberOf_49 ?_
            refine lv_iload hx hb dX9_numberOf_52 (lv_at hl 6 rfl) ?_
            have hb_53 := vp_lt hf.1
            refine x_ald (n := 24) (v := .ref (xa X (16 + x7_6.toNatClampNeg))) hx hb hK hw (by decide) rfl 3 rfl rfl hf.1 (rf_lt hb_53) dX9_numberOf_54 ?_
            replace hf := hf.2
            refine lv_iconst (v := 0) hx hb dX9_numberOf_55 (by decide) ?_
            refine x_ild (n := 4) hx hb hK hw (by omega) (cM_sy hb_53) rfl hf.1 dX9_numberOf_56 ?_
            replace hf := hf.2
            refine lv_iload_n hx hb dX9_numberOf_57 rfl (lv_at hl 1 rfl) ?_
            refine lv_icmp_ne (tgt := 72) hx hb dX9_numberOf_58 (by decide) (fun c_54 => ?_) (fun c_54 => ?_)
            · replace hf := hf.1 c_54
              refine lv_lconst (v := 0) hx hb dX9_numberOf_72 (by decide) ?_
              refine lv_ladd hx hb dX9_numberOf_73 ?_
              refine lv_topl (fun x5_55 ex5_55 => ?_)
              replace hf := hf x5_55 ex5_55
              refine lv_lstore (lv' := [(5, .long x5_55), (0, .ref (xa X 0)), (1, .int p0), (2, .int p1), (3, .int p2), (4, .int x4_3), (7, .int x7_6)]) hx hb dX9_numberOf_74 hl (by decide) rfl (fun ls hl => ?_)
              obtain ⟨x7_56, ex7_56⟩ : ∃ y : Int32, y = x7_6 + 1 := ⟨_, rfl⟩
              replace hf := hf x7_56 ex7_56
              refine lv_iinc (v := x7_56) (lv' := [(7, .int x7_56), (5, .long x5_55), (0, .ref (xa X 0)), (1, .int p0), (2, .int p1), (3, .int p2), (4, .int x4_3)]) hx hb dX9_numberOf_76 hl (k := 6) rfl (by rw [ex7_56]; rfl) (by decide) rfl (fun ls hl => ?_)
              refine lv_goto (tgt := 39) hx hb dX9_numberOf_79 (by decide) ?_
              exact ih_39 x5_55 x7_56 _ _ _ hf hw (lv_sub hl [2, 3, 4, 5, 6, 1, 0] rfl)
            · replace hf := hf.2 c_54
              refine lv_aload_n hx hb dX9_numberOf_61 rfl (lv_at hl 0 rfl) ?_
              refine lv_iload hx hb dX9_numberOf_62 (lv_at hl 6 rfl) ?_
              refine lv_iload_n hx hb dX9_numberOf_64 rfl (lv_at hl 2 rfl) ?_
              refine lv_iload_n hx hb dX9_numberOf_65 rfl (lv_at hl 3 rfl) ?_
              refine x_cl (x_rV (As := [.int x7_6, .int p1, .int p2]) (rest := [.long x5_5]) (okM X) hC hw (kX9_treesOfProduction l X S_4 _ x7_6 p1 p2 _ hf) (cwV 3 hts (gV q_489 q_490 q_491 q_5 q_492) rfl rfl rfl (by decide +kernel) ⟨by simp only [rX9_numberOf, rX9_treesOfProduction]; omega, by simp only [rX9_numberOf, rX9_treesOfProduction]; omega⟩) (x_recv hK hw (k := 0) (by decide) rfl rfl) rfl hl.1 rfl (Nat.le_of_ble_eq_true rfl) dX9_numberOf_66) hw hi (fun r_57 S_58 H locs hf hw => ?_)
              obtain ⟨hf, rfl⟩ := hf
              refine lv_goto (tgt := 73) hx hb dX9_numberOf_69 (by decide) ?_
              refine lv_ladd hx hb dX9_numberOf_73 ?_
              refine lv_topl (fun x5_59 ex5_59 => ?_)
              replace hf := hf x5_59 ex5_59
              refine lv_lstore (lv' := [(5, .long x5_59), (0, .ref (xa X 0)), (1, .int p0), (2, .int p1), (3, .int p2), (4, .int x4_3), (7, .int x7_6)]) hx hb dX9_numberOf_74 hl (by decide) rfl (fun ls hl => ?_)
              obtain ⟨x7_60, ex7_60⟩ : ∃ y : Int32, y = x7_6 + 1 := ⟨_, rfl⟩
              replace hf := hf x7_60 ex7_60
              refine lv_iinc (v := x7_60) (lv' := [(7, .int x7_60), (5, .long x5_59), (0, .ref (xa X 0)), (1, .int p0), (2, .int p1), (3, .int p2), (4, .int x4_3)]) hx hb dX9_numberOf_76 hl (k := 6) rfl (by rw [ex7_60]; rfl) (by decide) rfl (fun ls hl => ?_)
              refine lv_goto (tgt := 39) hx hb dX9_numberOf_79 (by decide) ?_
              exact ih_39 x5_59 x7_60 _ _ _ hf hw (lv_sub hl [2, 3, 4, 5, 6, 1, 0] rfl)
      exact w_39 n_39 0 0 _ _ _ hf hw (lv_sub hl [3, 4, 5, 6, 2, 1, 0] rfl)
    · replace hf := hf.2 c_2
      refine lv_lconst (v := 0) hx hb dX9_numberOf_10 (by decide) ?_
      exact hQ _ _ _ _ _ _ hf hw dX9_numberOf_11
def pX9_numberOf : Nat → Int32 → Int32 → Int32 → gS → (Int64 → gS → Prop) → Prop
  | 0 => fun _ _ _ _ _ => False
  | d + 1 => fX9_numberOf (pX9_numberOf d)
theorem kX9_numberOf (l : Launch) (X : xG) : ∀ (d : Nat) (S : gS) (sz : Nat) (p0 : Int32) (p1 : Int32) (p2 : Int32) (Post : Int64 → gS → Prop), pX9_numberOf d p0 p1 p2 S Post → xMl l yX9_numberOf (Cond.code yX9_numberOf cX9_numberOf 15 (some .long) :: WS) (rX9_numberOf d) 133 X (cM X) (eM X) S sz [.ref (xa X 0), .int p0, .int p1, .int p2] Post
  | 0 => fun _ _ _ _ _ _ hf => hf.elim
  | d + 1 => fun S sz p0 p1 p2 Post hf => sX9_numberOf l X d (pX9_numberOf d) (kX9_numberOf l X d) S sz p0 p1 p2 Post hf
