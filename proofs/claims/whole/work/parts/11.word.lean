/-! Printed by wip/whole/gen: what each method asks (p..), and its contract under that (k..). -/
def pX6_letter (p0 : Int32) (S : gS) (Post : Int32 → Prop) : Prop :=
  ((p0 < 0 → Post 0) ∧ (¬ p0 < 0 → ((8 ≤ p0 → Post 0) ∧ (¬ 8 ≤ p0 → (vp_in p0 8 ∧ Post (gA S 13 p0.toNatClampNeg))))))
def rX6_letter : Room := { frames := 0, cells := 0, slots := 0, locals := 0 }
set_option maxHeartbeats 40000000 in
set_option maxRecDepth 100000 in
theorem kX6_letter (l : Launch) (X : xG) (S : gS) (sz : Nat) (p0 : Int32) (Post : Int32 → Prop) (hf : pX6_letter p0 S Post) : xMi l yX6_letter (Cond.code yX6_letter cX6_letter 2 (some .int) :: WS) rX6_letter 34 X (cX X) (eX X) S sz [.ref (xa X 2), .int p0] (fun r S' => Post r ∧ S = S') := by
  refine xMi.of (cc := cX6_letter) (maxL := 2) (own := RX6) (by decide) rfl rfl (Nat.le_of_ble_eq_true rfl) ?_
  intro p e s m args below meth c ls Q hC hQ hw hl
  obtain ⟨hx, hb, hml, hown, hts, hE, hi⟩ := id hC
  have hK := hE.1
  have hl : lv_has ls 2 [(0, .ref (xa X 2)), (1, .int p0)] := hl
  have lf_15 : (Cond.fieldLink RX6 15 "GrammarAmbiguity$Word" "letters" "[I").before args s = true := hts _ q_62
  rw [pX6_letter] at hf
  refine lv_iload_n hx hb dX6_letter_0 rfl (lv_at hl 1 rfl) ?_
  refine lv_if_lt (tgt := 19) hx hb dX6_letter_1 (by decide) (fun c_1 => ?_) (fun c_1 => ?_)
  · replace hf := hf.1 c_1
    refine lv_iconst (v := 0) hx hb dX6_letter_19 (by decide) ?_
    exact hQ _ _ _ _ _ _ rfl ⟨hf, rfl⟩ hw dX6_letter_20
  · replace hf := hf.2 c_1
    refine lv_iload_n hx hb dX6_letter_4 rfl (lv_at hl 1 rfl) ?_
    refine lv_bipush (v := 8) hx hb dX6_letter_5 (by decide) ?_
    refine lv_icmp_ge (tgt := 19) hx hb dX6_letter_7 (by decide) (fun c_2 => ?_) (fun c_2 => ?_)
    · replace hf := hf.1 c_2
      refine lv_iconst (v := 0) hx hb dX6_letter_19 (by decide) ?_
      exact hQ _ _ _ _ _ _ rfl ⟨hf, rfl⟩ hw dX6_letter_20
    · replace hf := hf.2 c_2
      refine lv_aload_n hx hb dX6_letter_10 rfl (lv_at hl 0 rfl) ?_
      refine x_get (k := 2) (v := .ref (xa X 13)) hx hb hts i_X6 hown hK hw (by decide) rfl rfl 1 (by decide) lf_15 (fun _ h9 => h9) rfl dX6_letter_11 ?_
      refine lv_iload_n hx hb dX6_letter_14 rfl (lv_at hl 1 rfl) ?_
      refine x_ild (n := 8) hx hb hK hw (by decide) rfl rfl hf.1 dX6_letter_15 ?_
      replace hf := hf.2
      refine lv_goto (tgt := 20) hx hb dX6_letter_16 (by decide) ?_
      exact hQ _ _ _ _ _ _ rfl ⟨hf, rfl⟩ hw dX6_letter_20
def pX6_put (p0 : Int32) (p1 : Int32) (S : gS) (Post : gS → Prop) : Prop :=
  ((p0 < 0 → Post S) ∧ (¬ p0 < 0 → ((8 ≤ p0 → Post S) ∧ (¬ 8 ≤ p0 → (vp_in p0 8 ∧ (∀ S_3 : gS, S_3 = uA S 13 p0.toNatClampNeg p1 → Post S_3))))))
def rX6_put : Room := { frames := 0, cells := 0, slots := 0, locals := 0 }
set_option maxHeartbeats 40000000 in
set_option maxRecDepth 100000 in
theorem kX6_put (l : Launch) (X : xG) (S : gS) (sz : Nat) (p0 : Int32) (p1 : Int32) (Post : gS → Prop) (hf : pX6_put p0 p1 S Post) : xMv l yX6_put (Cond.code yX6_put cX6_put 3 none :: WS) rX6_put 34 X (cX X) (eX X) S sz [.ref (xa X 2), .int p0, .int p1] Post := by
  refine xMv.of (cc := cX6_put) (maxL := 3) (own := RX6) (by decide) rfl rfl (Nat.le_of_ble_eq_true rfl) ?_
  intro p e s m args below meth c ls Q hC hQ hw hl
  obtain ⟨hx, hb, hml, hown, hts, hE, hi⟩ := id hC
  have hK := hE.1
  have hl : lv_has ls 3 [(0, .ref (xa X 2)), (1, .int p0), (2, .int p1)] := hl
  have lf_15 : (Cond.fieldLink RX6 15 "GrammarAmbiguity$Word" "letters" "[I").before args s = true := hts _ q_62
  rw [pX6_put] at hf
  refine lv_iload_n hx hb dX6_put_0 rfl (lv_at hl 1 rfl) ?_
  refine lv_if_lt (tgt := 17) hx hb dX6_put_1 (by decide) (fun c_1 => ?_) (fun c_1 => ?_)
  · replace hf := hf.1 c_1
    exact hQ _ _ _ _ _ hf hw dX6_put_17
  · replace hf := hf.2 c_1
    refine lv_iload_n hx hb dX6_put_4 rfl (lv_at hl 1 rfl) ?_
    refine lv_bipush (v := 8) hx hb dX6_put_5 (by decide) ?_
    refine lv_icmp_ge (tgt := 17) hx hb dX6_put_7 (by decide) (fun c_2 => ?_) (fun c_2 => ?_)
    · replace hf := hf.1 c_2
      exact hQ _ _ _ _ _ hf hw dX6_put_17
    · replace hf := hf.2 c_2
      refine lv_aload_n hx hb dX6_put_10 rfl (lv_at hl 0 rfl) ?_
      refine x_get (k := 2) (v := .ref (xa X 13)) hx hb hts i_X6 hown hK hw (by decide) rfl rfl 1 (by decide) lf_15 (fun _ h9 => h9) rfl dX6_put_11 ?_
      refine lv_iload_n hx hb dX6_put_14 rfl (lv_at hl 1 rfl) ?_
      refine lv_iload_n hx hb dX6_put_15 rfl (lv_at hl 2 rfl) ?_
      refine x_ist (n := 8) hx hb hK hw (by decide) rfl rfl hf.1 dX6_put_16 (uX_A13 X S _ _) (fun H locs hw => ?_)
      replace hf := hf.2
      obtain ⟨S_3, eS_3⟩ : ∃ z : gS, z = uA S 13 p0.toNatClampNeg p1 := ⟨_, rfl⟩
      rw [← eS_3] at hw
      replace hf := hf S_3 eS_3
      exact hQ _ _ _ _ _ hf hw dX6_put_17
def bX6_key_4 (p0 : Int32) (S : gS) (Post : Int32 → Prop) (L_4 : Int32 × Int32 → Prop) (x2_1 : Int32) (x3_2 : Int32) : Prop :=
  (((gI S 5) ≤ x3_2 → Post x2_1) ∧ (¬ (gI S 5) ≤ x3_2 → (pX6_letter x3_2 S (fun r_4 => (∀ x2_6 : Int32, x2_6 = ((x2_1 * p0) + r_4) → (∀ x3_7 : Int32, x3_7 = x3_2 + 1 → L_4 (x2_6, x3_7)))))))
def pX6_key (p0 : Int32) (S : gS) (Post : Int32 → Prop) : Prop :=
  ∃ n, lp (fun L x => bX6_key_4 p0 S Post L x.1 x.2) n (0, 0)
def rX6_key : Room := { frames := 1, cells := 0, slots := 0, locals := 21 }
set_option maxHeartbeats 40000000 in
set_option maxRecDepth 100000 in
theorem kX6_key (l : Launch) (X : xG) (S : gS) (sz : Nat) (p0 : Int32) (Post : Int32 → Prop) (hf : pX6_key p0 S Post) : xMi l yX6_key (Cond.code yX6_key cX6_key 4 (some .int) :: WS) rX6_key 34 X (cX X) (eX X) S sz [.ref (xa X 2), .int p0] (fun r S' => Post r ∧ S = S') := by
  refine xMi.of (cc := cX6_key) (maxL := 4) (own := RX6) (by decide) rfl rfl (Nat.le_of_ble_eq_true rfl) ?_
  intro p e s m args below meth c ls Q hC hQ hw hl
  obtain ⟨hx, hb, hml, hown, hts, hE, hi⟩ := id hC
  have hK := hE.1
  have hl : lv_has ls 4 [(0, .ref (xa X 2)), (1, .int p0)] := hl
  have lf_9 : (Cond.fieldLink RX6 9 "GrammarAmbiguity$Word" "length" "I").before args s = true := hts _ q_61
  rw [pX6_key] at hf
  refine lv_iconst (v := 0) hx hb dX6_key_0 (by decide) ?_
  refine lv_istore_n (lv' := [(2, .int 0), (0, .ref (xa X 2)), (1, .int p0)]) hx hb dX6_key_1 rfl hl (by decide) rfl (fun ls hl => ?_)
  refine lv_iconst (v := 0) hx hb dX6_key_2 (by decide) ?_
  refine lv_istore_n (lv' := [(3, .int 0), (2, .int 0), (0, .ref (xa X 2)), (1, .int p0)]) hx hb dX6_key_3 rfl hl (by decide) rfl (fun ls hl => ?_)
  obtain ⟨n_4, hf⟩ := hf
  have w_4 : ∀ (n : Nat) (x2_1 : Int32) (x3_2 : Int32) (H : Heap) (locs : List Loc) (ls : Array Slot), lp (fun L x => bX6_key_4 p0 S Post L x.1 x.2) n (x2_1, x3_2) → xH 34 X (cX X) (xA 34 X s.heap.size) s.heap S H locs → lv_has ls 4 [(0, .ref (xa X 2)), (1, .int p0), (2, .int x2_1), (3, .int x3_2)] → W p l e rX6_key s m args below meth c H locs 0 0 Q (F0 m 4 ls []) := by
    intro n
    induction n with
    | zero => intro x2_1 x3_2 H locs ls hf; exact hf.elim
    | succ n ih_4 =>
      intro x2_1 x3_2 H locs ls hf hw hl
      replace hf : bX6_key_4 p0 S Post (lp (fun L x => bX6_key_4 p0 S Post L x.1 x.2) n) x2_1 x3_2 := hf
      generalize lp (fun L x => bX6_key_4 p0 S Post L x.1 x.2) n = L_4 at hf ih_4
      rw [bX6_key_4] at hf
      refine lv_iload_n hx hb dX6_key_4 rfl (lv_at hl 3 rfl) ?_
      refine lv_aload_n hx hb dX6_key_5 rfl (lv_at hl 0 rfl) ?_
      refine x_get (k := 2) (v := .int (gI S 5)) hx hb hts i_X6 hown hK hw (by decide) rfl rfl 0 (by decide) lf_9 (fun _ h9 => h9) rfl dX6_key_6 ?_
      refine lv_icmp_ge (tgt := 28) hx hb dX6_key_9 (by decide) (fun c_3 => ?_) (fun c_3 => ?_)
      · replace hf := hf.1 c_3
        refine lv_iload_n hx hb dX6_key_28 rfl (lv_at hl 2 rfl) ?_
        exact hQ _ _ _ _ _ _ rfl ⟨hf, rfl⟩ hw dX6_key_29
      · replace hf := hf.2 c_3
        refine lv_iload_n hx hb dX6_key_12 rfl (lv_at hl 2 rfl) ?_
        refine lv_iload_n hx hb dX6_key_13 rfl (lv_at hl 1 rfl) ?_
        refine lv_imul hx hb dX6_key_14 ?_
        refine lv_aload_n hx hb dX6_key_15 rfl (lv_at hl 0 rfl) ?_
        refine lv_iload_n hx hb dX6_key_16 rfl (lv_at hl 3 rfl) ?_
        refine x_ci (x_rV (As := [.int x3_2]) (rest := [.int (x2_1 * p0)]) (okX X) hC hw (kX6_letter l X S _ x3_2 _ hf) (cwV 1 hts (gV q_669 q_385 q_386 q_21 q_387) rfl rfl rfl (by decide +kernel) ⟨Nat.le_of_ble_eq_true rfl, Nat.le_of_ble_eq_true rfl⟩) (x_recv hK hw (k := 2) (by decide) rfl rfl) rfl hl.1 rfl (Nat.le_of_ble_eq_true rfl) dX6_key_17) hw hi (fun r_4 S_5 H locs hf hw => ?_)
        obtain ⟨hf, rfl⟩ := hf
        refine lv_iadd hx hb dX6_key_20 ?_
        refine lv_topi (fun x2_6 ex2_6 => ?_)
        replace hf := hf x2_6 ex2_6
        refine lv_istore_n (lv' := [(2, .int x2_6), (0, .ref (xa X 2)), (1, .int p0), (3, .int x3_2)]) hx hb dX6_key_21 rfl hl (by decide) rfl (fun ls hl => ?_)
        obtain ⟨x3_7, ex3_7⟩ : ∃ y : Int32, y = x3_2 + 1 := ⟨_, rfl⟩
        replace hf := hf x3_7 ex3_7
        refine lv_iinc (v := x3_7) (lv' := [(3, .int x3_7), (2, .int x2_6), (0, .ref (xa X 2)), (1, .int p0)]) hx hb dX6_key_22 hl (k := 3) rfl (by rw [ex3_7]; rfl) (by decide) rfl (fun ls hl => ?_)
        refine lv_goto (tgt := 4) hx hb dX6_key_25 (by decide) ?_
        exact ih_4 x2_6 x3_7 _ _ _ hf hw (lv_sub hl [2, 3, 1, 0] rfl)
  exact w_4 n_4 0 0 _ _ _ hf hw (lv_sub hl [2, 3, 1, 0] rfl)
def bX6_set_20 (Post : gS → Prop) (x4_1 : Int32) (L_20 : Int32 × Int32 × gS → Prop) (x5_4 : Int32) (x6_5 : Int32) (S_6 : gS) : Prop :=
  ((x6_5 < 0 → Post S_6) ∧ (¬ x6_5 < 0 → (¬ x4_1 = 0 ∧ (pX6_put x6_5 (x5_4 - x5_4 / x4_1 * x4_1) S_6 (fun S_9 => (¬ x4_1 = 0 ∧ (∀ x5_10 : Int32, x5_10 = (x5_4 / x4_1) → (∀ x6_11 : Int32, x6_11 = x6_5 + (-1) → L_20 (x5_10, x6_11, S_9)))))))))
def pX6_set (p0 : Int32) (p1 : Int32) (p2 : Int32) (S : gS) (Post : gS → Prop) : Prop :=
  (∀ x4_1 : Int32, x4_1 = (if (1 : Int32) < p2 then p2 else 1) → (∀ S_2 : gS, S_2 = uI S 5 p0 → (∀ x6_3 : Int32, x6_3 = (p0 - 1) → ∃ n, lp (fun L x => bX6_set_20 Post x4_1 L x.1 x.2.1 x.2.2) n (p1, x6_3, S_2))))
def rX6_set : Room := { frames := 1, cells := 0, slots := 0, locals := 24 }
set_option maxHeartbeats 40000000 in
set_option maxRecDepth 100000 in
theorem kX6_set (l : Launch) (X : xG) (S : gS) (sz : Nat) (p0 : Int32) (p1 : Int32) (p2 : Int32) (Post : gS → Prop) (hf : pX6_set p0 p1 p2 S Post) : xMv l yX6_set (Cond.code yX6_set cX6_set 7 none :: WS) rX6_set 34 X (cX X) (eX X) S sz [.ref (xa X 2), .int p0, .int p1, .int p2] Post := by
  refine xMv.of (cc := cX6_set) (maxL := 7) (own := RX6) (by decide) rfl rfl (Nat.le_of_ble_eq_true rfl) ?_
  intro p e s m args below meth c ls Q hC hQ hw hl
  obtain ⟨hx, hb, hml, hown, hts, hE, hi⟩ := id hC
  have hK := hE.1
  have hl : lv_has ls 7 [(0, .ref (xa X 2)), (1, .int p0), (2, .int p1), (3, .int p2)] := hl
  have lm_23 : (Cond.methodLink RX6 23 Lib.Math.max.name).before args s = true := hts _ q_648
  have lms_23 : (Cond.static Lib.Math.max.name).before args s = true := hts _ q_409
  have lmi : (Cond.initialized "java/lang/Math").before args s = true := hts _ q_410
  have lmc_23 : (Cond.code Lib.Math.max.name Lib.Math.max.code 2 (some .int)).before args s = true := hts _ q_411
  have lf_9 : (Cond.fieldLink RX6 9 "GrammarAmbiguity$Word" "length" "I").before args s = true := hts _ q_61
  rw [pX6_set] at hf
  refine lv_iconst (v := 1) hx hb dX6_set_0 (by decide) ?_
  refine lv_iload_n hx hb dX6_set_1 rfl (lv_at hl 3 rfl) ?_
  refine va_mmax hx hb (hml.trans hl.1.symm) hown lm_23 lms_23 lmi lmc_23 (Nat.le_of_ble_eq_true rfl) (Nat.le_of_ble_eq_true rfl) (Nat.zero_le _) (Nat.zero_le _) dX6_set_2 ?_
  refine lv_topi (fun x4_1 ex4_1 => ?_)
  replace hf := hf x4_1 ex4_1
  refine lv_istore (lv' := [(4, .int x4_1), (0, .ref (xa X 2)), (1, .int p0), (2, .int p1), (3, .int p2)]) hx hb dX6_set_5 hl (by decide) rfl (fun ls hl => ?_)
  refine lv_iload_n hx hb dX6_set_7 rfl (lv_at hl 3 rfl) ?_
  refine lv_istore (lv' := [(5, .int p1), (4, .int x4_1), (0, .ref (xa X 2)), (1, .int p0), (2, .int p1), (3, .int p2)]) hx hb dX6_set_8 hl (by decide) rfl (fun ls hl => ?_)
  refine lv_aload_n hx hb dX6_set_10 rfl (lv_at hl 2 rfl) ?_
  refine lv_iload_n hx hb dX6_set_11 rfl (lv_at hl 3 rfl) ?_
  refine x_put (k := 2) (S' := uI S 5 p0) (ty := .int) hx hb hts i_X6 tyX6_ok nmX6 hown hK hw (by decide) rfl rfl 0 (by decide) lf_9 (fun _ h9 => h9) rfl (by decide +kernel) rfl rfl (Nat.le_of_ble_eq_true rfl) dX6_set_12 (uX_I5 X S _) (fun H locs hw => ?_)
  obtain ⟨S_2, eS_2⟩ : ∃ z : gS, z = uI S 5 p0 := ⟨_, rfl⟩
  rw [← eS_2] at hw
  replace hf := hf S_2 eS_2
  refine lv_iload_n hx hb dX6_set_15 rfl (lv_at hl 3 rfl) ?_
  refine lv_iconst (v := 1) hx hb dX6_set_16 (by decide) ?_
  refine lv_isub hx hb dX6_set_17 ?_
  refine lv_topi (fun x6_3 ex6_3 => ?_)
  replace hf := hf x6_3 ex6_3
  refine lv_istore (lv' := [(6, .int x6_3), (5, .int p1), (4, .int x4_1), (0, .ref (xa X 2)), (1, .int p0), (2, .int p1), (3, .int p2)]) hx hb dX6_set_18 hl (by decide) rfl (fun ls hl => ?_)
  obtain ⟨n_20, hf⟩ := hf
  have w_20 : ∀ (n : Nat) (x5_4 : Int32) (x6_5 : Int32) (S_6 : gS) (H : Heap) (locs : List Loc) (ls : Array Slot), lp (fun L x => bX6_set_20 Post x4_1 L x.1 x.2.1 x.2.2) n (x5_4, x6_5, S_6) → xH 34 X (cX X) (xA 34 X s.heap.size) s.heap S_6 H locs → lv_has ls 7 [(0, .ref (xa X 2)), (4, .int x4_1), (5, .int x5_4), (6, .int x6_5)] → W p l e rX6_set s m args below meth c H locs 0 0 Q (F0 m 20 ls []) := by
    intro n
    induction n with
    | zero => intro x5_4 x6_5 S_6 H locs ls hf; exact hf.elim
    | succ n ih_20 =>
      intro x5_4 x6_5 S_6 H locs ls hf hw hl
      replace hf : bX6_set_20 Post x4_1 (lp (fun L x => bX6_set_20 Post x4_1 L x.1 x.2.1 x.2.2) n) x5_4 x6_5 S_6 := hf
      generalize lp (fun L x => bX6_set_20 Post x4_1 L x.1 x.2.1 x.2.2) n = L_20 at hf ih_20
      rw [bX6_set_20] at hf
      refine lv_iload hx hb dX6_set_20 (lv_at hl 3 rfl) ?_
      refine lv_if_lt (tgt := 49) hx hb dX6_set_22 (by decide) (fun c_7 => ?_) (fun c_7 => ?_)
      · replace hf := hf.1 c_7
        exact hQ _ _ _ _ _ hf hw dX6_set_49
      · replace hf := hf.2 c_7
        refine lv_aload_n hx hb dX6_set_25 rfl (lv_at hl 0 rfl) ?_
        refine lv_iload hx hb dX6_set_26 (lv_at hl 3 rfl) ?_
        refine lv_iload hx hb dX6_set_28 (lv_at hl 2 rfl) ?_
        refine lv_iload hx hb dX6_set_30 (lv_at hl 1 rfl) ?_
        refine lv_irem hx hb dX6_set_32 hf.1 ?_
        replace hf := hf.2
        refine x_cv (x_rV (As := [.int x6_5, .int (x5_4 - x5_4 / x4_1 * x4_1)]) (rest := []) (okX X) hC hw (kX6_put l X S_6 _ x6_5 (x5_4 - x5_4 / x4_1 * x4_1) _ hf) (cwV 2 hts (gV q_649 q_354 q_355 q_21 q_356) rfl rfl rfl (by decide +kernel) ⟨Nat.le_of_ble_eq_true rfl, Nat.le_of_ble_eq_true rfl⟩) (x_recv hK hw (k := 2) (by decide) rfl rfl) rfl hl.1 rfl (Nat.le_of_ble_eq_true rfl) dX6_set_33) hw hi (fun S_9 H locs hf hw => ?_)
        refine lv_iload hx hb dX6_set_36 (lv_at hl 2 rfl) ?_
        refine lv_iload hx hb dX6_set_38 (lv_at hl 1 rfl) ?_
        refine lv_idiv hx hb dX6_set_40 hf.1 ?_
        replace hf := hf.2
        refine lv_topi (fun x5_10 ex5_10 => ?_)
        replace hf := hf x5_10 ex5_10
        refine lv_istore (lv' := [(5, .int x5_10), (0, .ref (xa X 2)), (4, .int x4_1), (6, .int x6_5)]) hx hb dX6_set_41 hl (by decide) rfl (fun ls hl => ?_)
        obtain ⟨x6_11, ex6_11⟩ : ∃ y : Int32, y = x6_5 + (-1) := ⟨_, rfl⟩
        replace hf := hf x6_11 ex6_11
        refine lv_iinc (v := x6_11) (lv' := [(6, .int x6_11), (5, .int x5_10), (0, .ref (xa X 2)), (4, .int x4_1)]) hx hb dX6_set_43 hl (k := 3) rfl (by rw [ex6_11]; rfl) (by decide) rfl (fun ls hl => ?_)
        refine lv_goto (tgt := 20) hx hb dX6_set_46 (by decide) ?_
        exact ih_20 x5_10 x6_11 S_9 _ _ _ hf hw (lv_sub hl [2, 3, 1, 0] rfl)
  exact w_20 n_20 p1 x6_3 S_2 _ _ _ hf hw (lv_sub hl [3, 2, 1, 0] rfl)
def bX6_copy_24_10 (Post : gS → Prop) (L_10 : Int32 × gS → Prop) (x2_2 : Int32) (S_3 : gS) : Prop :=
  ((8 ≤ x2_2 → Post S_3) ∧ (¬ 8 ≤ x2_2 → (vp_in x2_2 8 ∧ (vp_in x2_2 8 ∧ (∀ S_5 : gS, S_5 = uA S_3 13 x2_2.toNatClampNeg (gA S_3 17 x2_2.toNatClampNeg) → (∀ x2_6 : Int32, x2_6 = x2_2 + 1 → L_10 (x2_6, S_5)))))))
def pX6_copy_24 (S : gS) (Post : gS → Prop) : Prop :=
  (∀ S_1 : gS, S_1 = uI S 5 (gI S 10) → ∃ n, lp (fun L x => bX6_copy_24_10 Post L x.1 x.2) n (0, S_1))
def rX6_copy_24 : Room := { frames := 0, cells := 0, slots := 0, locals := 0 }
set_option maxHeartbeats 40000000 in
set_option maxRecDepth 100000 in
theorem kX6_copy_24 (l : Launch) (X : xG) (S : gS) (sz : Nat) (Post : gS → Prop) (hf : pX6_copy_24 S Post) : xMv l yX6_copy (Cond.code yX6_copy cX6_copy 3 none :: WS) rX6_copy_24 34 X (cX X) (eX X) S sz [.ref (xa X 2), .ref (xa X 4)] Post := by
  refine xMv.of (cc := cX6_copy) (maxL := 3) (own := RX6) (by decide) rfl rfl (Nat.le_of_ble_eq_true rfl) ?_
  intro p e s m args below meth c ls Q hC hQ hw hl
  obtain ⟨hx, hb, hml, hown, hts, hE, hi⟩ := id hC
  have hK := hE.1
  have hl : lv_has ls 3 [(0, .ref (xa X 2)), (1, .ref (xa X 4))] := hl
  have lf_9 : (Cond.fieldLink RX6 9 "GrammarAmbiguity$Word" "length" "I").before args s = true := hts _ q_61
  have lf_15 : (Cond.fieldLink RX6 15 "GrammarAmbiguity$Word" "letters" "[I").before args s = true := hts _ q_62
  rw [pX6_copy_24] at hf
  refine lv_aload_n hx hb dX6_copy_0 rfl (lv_at hl 0 rfl) ?_
  refine lv_aload_n hx hb dX6_copy_1 rfl (lv_at hl 1 rfl) ?_
  refine x_get (k := 4) (v := .int (gI S 10)) hx hb hts i_X6 hown hK hw (by decide) rfl rfl 0 (by decide) lf_9 (fun _ h9 => h9) rfl dX6_copy_2 ?_
  refine x_put (k := 2) (S' := uI S 5 (gI S 10)) (ty := .int) hx hb hts i_X6 tyX6_ok nmX6 hown hK hw (by decide) rfl rfl 0 (by decide) lf_9 (fun _ h9 => h9) rfl (by decide +kernel) rfl rfl (Nat.le_of_ble_eq_true rfl) dX6_copy_5 (uX_I5 X S _) (fun H locs hw => ?_)
  obtain ⟨S_1, eS_1⟩ : ∃ z : gS, z = uI S 5 (gI S 10) := ⟨_, rfl⟩
  rw [← eS_1] at hw
  replace hf := hf S_1 eS_1
  refine lv_iconst (v := 0) hx hb dX6_copy_8 (by decide) ?_
  refine lv_istore_n (lv' := [(2, .int 0), (0, .ref (xa X 2)), (1, .ref (xa X 4))]) hx hb dX6_copy_9 rfl hl (by decide) rfl (fun ls hl => ?_)
  obtain ⟨n_10, hf⟩ := hf
  have w_10 : ∀ (n : Nat) (x2_2 : Int32) (S_3 : gS) (H : Heap) (locs : List Loc) (ls : Array Slot), lp (fun L x => bX6_copy_24_10 Post L x.1 x.2) n (x2_2, S_3) → xH 34 X (cX X) (xA 34 X s.heap.size) s.heap S_3 H locs → lv_has ls 3 [(0, .ref (xa X 2)), (1, .ref (xa X 4)), (2, .int x2_2)] → W p l e rX6_copy_24 s m args below meth c H locs 0 0 Q (F0 m 10 ls []) := by
    intro n
    induction n with
    | zero => intro x2_2 S_3 H locs ls hf; exact hf.elim
    | succ n ih_10 =>
      intro x2_2 S_3 H locs ls hf hw hl
      replace hf : bX6_copy_24_10 Post (lp (fun L x => bX6_copy_24_10 Post L x.1 x.2) n) x2_2 S_3 := hf
      generalize lp (fun L x => bX6_copy_24_10 Post L x.1 x.2) n = L_10 at hf ih_10
      rw [bX6_copy_24_10] at hf
      refine lv_iload_n hx hb dX6_copy_10 rfl (lv_at hl 2 rfl) ?_
      refine lv_bipush (v := 8) hx hb dX6_copy_11 (by decide) ?_
      refine lv_icmp_ge (tgt := 34) hx hb dX6_copy_13 (by decide) (fun c_4 => ?_) (fun c_4 => ?_)
      · replace hf := hf.1 c_4
        exact hQ _ _ _ _ _ hf hw dX6_copy_34
      · replace hf := hf.2 c_4
        refine lv_aload_n hx hb dX6_copy_16 rfl (lv_at hl 0 rfl) ?_
        refine x_get (k := 2) (v := .ref (xa X 13)) hx hb hts i_X6 hown hK hw (by decide) rfl rfl 1 (by decide) lf_15 (fun _ h9 => h9) rfl dX6_copy_17 ?_
        refine lv_iload_n hx hb dX6_copy_20 rfl (lv_at hl 2 rfl) ?_
        refine lv_aload_n hx hb dX6_copy_21 rfl (lv_at hl 1 rfl) ?_
        refine x_get (k := 4) (v := .ref (xa X 17)) hx hb hts i_X6 hown hK hw (by decide) rfl rfl 1 (by decide) lf_15 (fun _ h9 => h9) rfl dX6_copy_22 ?_
        refine lv_iload_n hx hb dX6_copy_25 rfl (lv_at hl 2 rfl) ?_
        refine x_ild (n := 8) hx hb hK hw (by decide) rfl rfl hf.1 dX6_copy_26 ?_
        replace hf := hf.2
        refine x_ist (n := 8) hx hb hK hw (by decide) rfl rfl hf.1 dX6_copy_27 (uX_A13 X S_3 _ _) (fun H locs hw => ?_)
        replace hf := hf.2
        obtain ⟨S_5, eS_5⟩ : ∃ z : gS, z = uA S_3 13 x2_2.toNatClampNeg (gA S_3 17 x2_2.toNatClampNeg) := ⟨_, rfl⟩
        rw [← eS_5] at hw
        replace hf := hf S_5 eS_5
        obtain ⟨x2_6, ex2_6⟩ : ∃ y : Int32, y = x2_2 + 1 := ⟨_, rfl⟩
        replace hf := hf x2_6 ex2_6
        refine lv_iinc (v := x2_6) (lv' := [(2, .int x2_6), (0, .ref (xa X 2)), (1, .ref (xa X 4))]) hx hb dX6_copy_28 hl (k := 2) rfl (by rw [ex2_6]; rfl) (by decide) rfl (fun ls hl => ?_)
        refine lv_goto (tgt := 10) hx hb dX6_copy_31 (by decide) ?_
        exact ih_10 x2_6 S_5 _ _ _ hf hw (lv_sub hl [1, 2, 0] rfl)
  exact w_10 n_10 0 S_1 _ _ _ hf hw (lv_sub hl [1, 2, 0] rfl)
def bX6_copy_42_10 (Post : gS → Prop) (L_10 : Int32 × gS → Prop) (x2_2 : Int32) (S_3 : gS) : Prop :=
  ((8 ≤ x2_2 → Post S_3) ∧ (¬ 8 ≤ x2_2 → (vp_in x2_2 8 ∧ (vp_in x2_2 8 ∧ (∀ S_5 : gS, S_5 = uA S_3 17 x2_2.toNatClampNeg (gA S_3 13 x2_2.toNatClampNeg) → (∀ x2_6 : Int32, x2_6 = x2_2 + 1 → L_10 (x2_6, S_5)))))))
def pX6_copy_42 (S : gS) (Post : gS → Prop) : Prop :=
  (∀ S_1 : gS, S_1 = uI S 10 (gI S 5) → ∃ n, lp (fun L x => bX6_copy_42_10 Post L x.1 x.2) n (0, S_1))
def rX6_copy_42 : Room := { frames := 0, cells := 0, slots := 0, locals := 0 }
set_option maxHeartbeats 40000000 in
set_option maxRecDepth 100000 in
theorem kX6_copy_42 (l : Launch) (X : xG) (S : gS) (sz : Nat) (Post : gS → Prop) (hf : pX6_copy_42 S Post) : xMv l yX6_copy (Cond.code yX6_copy cX6_copy 3 none :: WS) rX6_copy_42 34 X (cX X) (eX X) S sz [.ref (xa X 4), .ref (xa X 2)] Post := by
  refine xMv.of (cc := cX6_copy) (maxL := 3) (own := RX6) (by decide) rfl rfl (Nat.le_of_ble_eq_true rfl) ?_
  intro p e s m args below meth c ls Q hC hQ hw hl
  obtain ⟨hx, hb, hml, hown, hts, hE, hi⟩ := id hC
  have hK := hE.1
  have hl : lv_has ls 3 [(0, .ref (xa X 4)), (1, .ref (xa X 2))] := hl
  have lf_9 : (Cond.fieldLink RX6 9 "GrammarAmbiguity$Word" "length" "I").before args s = true := hts _ q_61
  have lf_15 : (Cond.fieldLink RX6 15 "GrammarAmbiguity$Word" "letters" "[I").before args s = true := hts _ q_62
  rw [pX6_copy_42] at hf
  refine lv_aload_n hx hb dX6_copy_0 rfl (lv_at hl 0 rfl) ?_
  refine lv_aload_n hx hb dX6_copy_1 rfl (lv_at hl 1 rfl) ?_
  refine x_get (k := 2) (v := .int (gI S 5)) hx hb hts i_X6 hown hK hw (by decide) rfl rfl 0 (by decide) lf_9 (fun _ h9 => h9) rfl dX6_copy_2 ?_
  refine x_put (k := 4) (S' := uI S 10 (gI S 5)) (ty := .int) hx hb hts i_X6 tyX6_ok nmX6 hown hK hw (by decide) rfl rfl 0 (by decide) lf_9 (fun _ h9 => h9) rfl (by decide +kernel) rfl rfl (Nat.le_of_ble_eq_true rfl) dX6_copy_5 (uX_I10 X S _) (fun H locs hw => ?_)
  obtain ⟨S_1, eS_1⟩ : ∃ z : gS, z = uI S 10 (gI S 5) := ⟨_, rfl⟩
  rw [← eS_1] at hw
  replace hf := hf S_1 eS_1
  refine lv_iconst (v := 0) hx hb dX6_copy_8 (by decide) ?_
  refine lv_istore_n (lv' := [(2, .int 0), (0, .ref (xa X 4)), (1, .ref (xa X 2))]) hx hb dX6_copy_9 rfl hl (by decide) rfl (fun ls hl => ?_)
  obtain ⟨n_10, hf⟩ := hf
  have w_10 : ∀ (n : Nat) (x2_2 : Int32) (S_3 : gS) (H : Heap) (locs : List Loc) (ls : Array Slot), lp (fun L x => bX6_copy_42_10 Post L x.1 x.2) n (x2_2, S_3) → xH 34 X (cX X) (xA 34 X s.heap.size) s.heap S_3 H locs → lv_has ls 3 [(0, .ref (xa X 4)), (1, .ref (xa X 2)), (2, .int x2_2)] → W p l e rX6_copy_42 s m args below meth c H locs 0 0 Q (F0 m 10 ls []) := by
    intro n
    induction n with
    | zero => intro x2_2 S_3 H locs ls hf; exact hf.elim
    | succ n ih_10 =>
      intro x2_2 S_3 H locs ls hf hw hl
      replace hf : bX6_copy_42_10 Post (lp (fun L x => bX6_copy_42_10 Post L x.1 x.2) n) x2_2 S_3 := hf
      generalize lp (fun L x => bX6_copy_42_10 Post L x.1 x.2) n = L_10 at hf ih_10
      rw [bX6_copy_42_10] at hf
      refine lv_iload_n hx hb dX6_copy_10 rfl (lv_at hl 2 rfl) ?_
      refine lv_bipush (v := 8) hx hb dX6_copy_11 (by decide) ?_
      refine lv_icmp_ge (tgt := 34) hx hb dX6_copy_13 (by decide) (fun c_4 => ?_) (fun c_4 => ?_)
      · replace hf := hf.1 c_4
        exact hQ _ _ _ _ _ hf hw dX6_copy_34
      · replace hf := hf.2 c_4
        refine lv_aload_n hx hb dX6_copy_16 rfl (lv_at hl 0 rfl) ?_
        refine x_get (k := 4) (v := .ref (xa X 17)) hx hb hts i_X6 hown hK hw (by decide) rfl rfl 1 (by decide) lf_15 (fun _ h9 => h9) rfl dX6_copy_17 ?_
        refine lv_iload_n hx hb dX6_copy_20 rfl (lv_at hl 2 rfl) ?_
        refine lv_aload_n hx hb dX6_copy_21 rfl (lv_at hl 1 rfl) ?_
        refine x_get (k := 2) (v := .ref (xa X 13)) hx hb hts i_X6 hown hK hw (by decide) rfl rfl 1 (by decide) lf_15 (fun _ h9 => h9) rfl dX6_copy_22 ?_
        refine lv_iload_n hx hb dX6_copy_25 rfl (lv_at hl 2 rfl) ?_
        refine x_ild (n := 8) hx hb hK hw (by decide) rfl rfl hf.1 dX6_copy_26 ?_
        replace hf := hf.2
        refine x_ist (n := 8) hx hb hK hw (by decide) rfl rfl hf.1 dX6_copy_27 (uX_A17 X S_3 _ _) (fun H locs hw => ?_)
        replace hf := hf.2
        obtain ⟨S_5, eS_5⟩ : ∃ z : gS, z = uA S_3 17 x2_2.toNatClampNeg (gA S_3 13 x2_2.toNatClampNeg) := ⟨_, rfl⟩
        rw [← eS_5] at hw
        replace hf := hf S_5 eS_5
        obtain ⟨x2_6, ex2_6⟩ : ∃ y : Int32, y = x2_2 + 1 := ⟨_, rfl⟩
        replace hf := hf x2_6 ex2_6
        refine lv_iinc (v := x2_6) (lv' := [(2, .int x2_6), (0, .ref (xa X 4)), (1, .ref (xa X 2))]) hx hb dX6_copy_28 hl (k := 2) rfl (by rw [ex2_6]; rfl) (by decide) rfl (fun ls hl => ?_)
        refine lv_goto (tgt := 10) hx hb dX6_copy_31 (by decide) ?_
        exact ih_10 x2_6 S_5 _ _ _ hf hw (lv_sub hl [1, 2, 0] rfl)
  exact w_10 n_10 0 S_1 _ _ _ hf hw (lv_sub hl [1, 2, 0] rfl)
def pX3_isHeld (p0 : Int32) (S : gS) (Post : Int32 → Prop) : Prop :=
  ((p0 < 0 → Post 0) ∧ (¬ p0 < 0 → ((3 ≤ p0 → Post 0) ∧ (¬ 3 ≤ p0 → (vp_in p0 3 ∧ (((gA S 28 p0.toNatClampNeg) = 0 → Post 0) ∧ (¬ (gA S 28 p0.toNatClampNeg) = 0 → Post 1)))))))
def rX3_isHeld : Room := { frames := 0, cells := 0, slots := 0, locals := 0 }
set_option maxHeartbeats 40000000 in
set_option maxRecDepth 100000 in
theorem kX3_isHeld (l : Launch) (X : xG) (S : gS) (sz : Nat) (p0 : Int32) (Post : Int32 → Prop) (hf : pX3_isHeld p0 S Post) : xMi l yX3_isHeld (Cond.code yX3_isHeld cX3_isHeld 2 (some .boolean) :: WS) rX3_isHeld 34 X (cX X) (eX X) S sz [.ref (xa X 9), .int p0] (fun r S' => Post r ∧ S = S') := by
  refine xMi.of (cc := cX3_isHeld) (maxL := 2) (own := RX3) (by decide) rfl rfl (Nat.le_of_ble_eq_true rfl) ?_
  intro p e s m args below meth c ls Q hC hQ hw hl
  obtain ⟨hx, hb, hml, hown, hts, hE, hi⟩ := id hC
  have hK := hE.1
  have hl : lv_has ls 2 [(0, .ref (xa X 9)), (1, .int p0)] := hl
  have lf_9 : (Cond.fieldLink RX3 9 "GrammarAmbiguity$Slots" "held" "[Z").before args s = true := hts _ q_99
  rw [pX3_isHeld] at hf
  refine lv_iload_n hx hb dX3_isHeld_0 rfl (lv_at hl 1 rfl) ?_
  refine lv_if_lt (tgt := 22) hx hb dX3_isHeld_1 (by decide) (fun c_1 => ?_) (fun c_1 => ?_)
  · replace hf := hf.1 c_1
    refine lv_iconst (v := 0) hx hb dX3_isHeld_22 (by decide) ?_
    exact hQ _ _ _ _ _ _ rfl ⟨hf, rfl⟩ hw dX3_isHeld_23
  · replace hf := hf.2 c_1
    refine lv_iload_n hx hb dX3_isHeld_4 rfl (lv_at hl 1 rfl) ?_
    refine lv_iconst (v := 3) hx hb dX3_isHeld_5 (by decide) ?_
    refine lv_icmp_ge (tgt := 22) hx hb dX3_isHeld_6 (by decide) (fun c_2 => ?_) (fun c_2 => ?_)
    · replace hf := hf.1 c_2
      refine lv_iconst (v := 0) hx hb dX3_isHeld_22 (by decide) ?_
      exact hQ _ _ _ _ _ _ rfl ⟨hf, rfl⟩ hw dX3_isHeld_23
    · replace hf := hf.2 c_2
      refine lv_aload_n hx hb dX3_isHeld_9 rfl (lv_at hl 0 rfl) ?_
      refine x_get (k := 9) (v := .ref (xa X 28)) hx hb hts i_X3 hown hK hw (by decide) rfl rfl 0 (by decide) lf_9 (fun _ h9 => h9) rfl dX3_isHeld_10 ?_
      refine lv_iload_n hx hb dX3_isHeld_13 rfl (lv_at hl 1 rfl) ?_
      refine x_zld (n := 3) hx hb hK hw (by decide) rfl rfl hf.1 dX3_isHeld_14 ?_
      replace hf := hf.2
      refine lv_if_eq (tgt := 22) hx hb dX3_isHeld_15 (by decide) (fun c_3 => ?_) (fun c_3 => ?_)
      · replace hf := hf.1 c_3
        refine lv_iconst (v := 0) hx hb dX3_isHeld_22 (by decide) ?_
        exact hQ _ _ _ _ _ _ rfl ⟨hf, rfl⟩ hw dX3_isHeld_23
      · replace hf := hf.2 c_3
        refine lv_iconst (v := 1) hx hb dX3_isHeld_18 (by decide) ?_
        refine lv_goto (tgt := 23) hx hb dX3_isHeld_19 (by decide) ?_
        exact hQ _ _ _ _ _ _ rfl ⟨hf, rfl⟩ hw dX3_isHeld_23
def bX3_begin_34 (p0 : Int32) (Post : gS → Prop) (L_34 : Int32 × gS → Prop) (x4_6 : Int32) (S_7 : gS) : Prop :=
  ((40 ≤ x4_6 → Post S_7) ∧ (¬ 40 ≤ x4_6 → (vp_in ((p0 * 40) + x4_6) 120 ∧ (∀ S_9 : gS, S_9 = uA S_7 31 ((p0 * 40) + x4_6).toNatClampNeg 0 → (∀ x4_10 : Int32, x4_10 = x4_6 + 1 → L_34 (x4_10, S_9))))))
def pX3_begin (p0 : Int32) (p1 : Int32) (p2 : Int32) (S : gS) (Post : gS → Prop) : Prop :=
  ((p0 < 0 → Post S) ∧ (¬ p0 < 0 → ((p0 < 3 → (vp_in p0 3 ∧ (∀ S_3 : gS, S_3 = uA S 28 p0.toNatClampNeg (vp_nar .boolean 1) → (vp_in p0 3 ∧ (∀ S_4 : gS, S_4 = uA S_3 29 p0.toNatClampNeg (vp_nar .boolean p1) → (vp_in p0 3 ∧ (∀ S_5 : gS, S_5 = uA S_4 30 p0.toNatClampNeg p2 → ∃ n, lp (fun L x => bX3_begin_34 p0 Post L x.1 x.2) n (0, S_5)))))))) ∧ (¬ p0 < 3 → Post S))))
def rX3_begin : Room := { frames := 0, cells := 0, slots := 0, locals := 0 }
set_option maxHeartbeats 40000000 in
set_option maxRecDepth 100000 in
theorem kX3_begin (l : Launch) (X : xG) (S : gS) (sz : Nat) (p0 : Int32) (p1 : Int32) (p2 : Int32) (Post : gS → Prop) (hf : pX3_begin p0 p1 p2 S Post) : xMv l yX3_begin (Cond.code yX3_begin cX3_begin 5 none :: WS) rX3_begin 34 X (cX X) (eX X) S sz [.ref (xa X 9), .int p0, .int p1, .int p2] Post := by
  refine xMv.of (cc := cX3_begin) (maxL := 5) (own := RX3) (by decide) rfl rfl (Nat.le_of_ble_eq_true rfl) ?_
  intro p e s m args below meth c ls Q hC hQ hw hl
  obtain ⟨hx, hb, hml, hown, hts, hE, hi⟩ := id hC
  have hK := hE.1
  have hl : lv_has ls 5 [(0, .ref (xa X 9)), (1, .int p0), (2, .int p1), (3, .int p2)] := hl
  have lf_9 : (Cond.fieldLink RX3 9 "GrammarAmbiguity$Slots" "held" "[Z").before args s = true := hts _ q_99
  have lf_15 : (Cond.fieldLink RX3 15 "GrammarAmbiguity$Slots" "wide" "[Z").before args s = true := hts _ q_100
  have lf_18 : (Cond.fieldLink RX3 18 "GrammarAmbiguity$Slots" "lengths" "[I").before args s = true := hts _ q_101
  have lf_22 : (Cond.fieldLink RX3 22 "GrammarAmbiguity$Slots" "elements" "[I").before args s = true := hts _ q_102
  rw [pX3_begin] at hf
  refine lv_iload_n hx hb dX3_begin_0 rfl (lv_at hl 1 rfl) ?_
  refine lv_if_lt (tgt := 9) hx hb dX3_begin_1 (by decide) (fun c_1 => ?_) (fun c_1 => ?_)
  · replace hf := hf.1 c_1
    exact hQ _ _ _ _ _ hf hw dX3_begin_9
  · replace hf := hf.2 c_1
    refine lv_iload_n hx hb dX3_begin_4 rfl (lv_at hl 1 rfl) ?_
    refine lv_iconst (v := 3) hx hb dX3_begin_5 (by decide) ?_
    refine lv_icmp_lt (tgt := 10) hx hb dX3_begin_6 (by decide) (fun c_2 => ?_) (fun c_2 => ?_)
    · replace hf := hf.1 c_2
      refine lv_aload_n hx hb dX3_begin_10 rfl (lv_at hl 0 rfl) ?_
      refine x_get (k := 9) (v := .ref (xa X 28)) hx hb hts i_X3 hown hK hw (by decide) rfl rfl 0 (by decide) lf_9 (fun _ h9 => h9) rfl dX3_begin_11 ?_
      refine lv_iload_n hx hb dX3_begin_14 rfl (lv_at hl 1 rfl) ?_
      refine lv_iconst (v := 1) hx hb dX3_begin_15 (by decide) ?_
      refine x_zst (n := 3) hx hb hK hw (by decide) rfl rfl hf.1 dX3_begin_16 (uX_A28 X S _ _) (fun H locs hw => ?_)
      replace hf := hf.2
      obtain ⟨S_3, eS_3⟩ : ∃ z : gS, z = uA S 28 p0.toNatClampNeg (vp_nar .boolean 1) := ⟨_, rfl⟩
      rw [← eS_3] at hw
      replace hf := hf S_3 eS_3
      refine lv_aload_n hx hb dX3_begin_17 rfl (lv_at hl 0 rfl) ?_
      refine x_get (k := 9) (v := .ref (xa X 29)) hx hb hts i_X3 hown hK hw (by decide) rfl rfl 1 (by decide) lf_15 (fun _ h9 => h9) rfl dX3_begin_18 ?_
      refine lv_iload_n hx hb dX3_begin_21 rfl (lv_at hl 1 rfl) ?_
      refine lv_iload_n hx hb dX3_begin_22 rfl (lv_at hl 2 rfl) ?_
      refine x_zst (n := 3) hx hb hK hw (by decide) rfl rfl hf.1 dX3_begin_23 (uX_A29 X S_3 _ _) (fun H locs hw => ?_)
      replace hf := hf.2
      obtain ⟨S_4, eS_4⟩ : ∃ z : gS, z = uA S_3 29 p0.toNatClampNeg (vp_nar .boolean p1) := ⟨_, rfl⟩
      rw [← eS_4] at hw
      replace hf := hf S_4 eS_4
      refine lv_aload_n hx hb dX3_begin_24 rfl (lv_at hl 0 rfl) ?_
      refine x_get (k := 9) (v := .ref (xa X 30)) hx hb hts i_X3 hown hK hw (by decide) rfl rfl 2 (by decide) lf_18 (fun _ h9 => h9) rfl dX3_begin_25 ?_
      refine lv_iload_n hx hb dX3_begin_28 rfl (lv_at hl 1 rfl) ?_
      refine lv_iload_n hx hb dX3_begin_29 rfl (lv_at hl 3 rfl) ?_
      refine x_ist (n := 3) hx hb hK hw (by decide) rfl rfl hf.1 dX3_begin_30 (uX_A30 X S_4 _ _) (fun H locs hw => ?_)
      replace hf := hf.2
      obtain ⟨S_5, eS_5⟩ : ∃ z : gS, z = uA S_4 30 p0.toNatClampNeg p2 := ⟨_, rfl⟩
      rw [← eS_5] at hw
      replace hf := hf S_5 eS_5
      refine lv_iconst (v := 0) hx hb dX3_begin_31 (by decide) ?_
      refine lv_istore (lv' := [(4, .int 0), (0, .ref (xa X 9)), (1, .int p0), (2, .int p1), (3, .int p2)]) hx hb dX3_begin_32 hl (by decide) rfl (fun ls hl => ?_)
      obtain ⟨n_34, hf⟩ := hf
      have w_34 : ∀ (n : Nat) (x4_6 : Int32) (S_7 : gS) (H : Heap) (locs : List Loc) (ls : Array Slot), lp (fun L x => bX3_begin_34 p0 Post L x.1 x.2) n (x4_6, S_7) → xH 34 X (cX X) (xA 34 X s.heap.size) s.heap S_7 H locs → lv_has ls 5 [(0, .ref (xa X 9)), (1, .int p0), (4, .int x4_6)] → W p l e rX3_begin s m args below meth c H locs 0 0 Q (F0 m 34 ls []) := by
        intro n
        induction n with
        | zero => intro x4_6 S_7 H locs ls hf; exact hf.elim
        | succ n ih_34 =>
          intro x4_6 S_7 H locs ls hf hw hl
          replace hf : bX3_begin_34 p0 Post (lp (fun L x => bX3_begin_34 p0 Post L x.1 x.2) n) x4_6 S_7 := hf
          generalize lp (fun L x => bX3_begin_34 p0 Post L x.1 x.2) n = L_34 at hf ih_34
          rw [bX3_begin_34] at hf
          refine lv_iload hx hb dX3_begin_34 (lv_at hl 2 rfl) ?_
          refine lv_bipush (v := 40) hx hb dX3_begin_36 (by decide) ?_
          refine lv_icmp_ge (tgt := 60) hx hb dX3_begin_38 (by decide) (fun c_8 => ?_) (fun c_8 => ?_)
          · replace hf := hf.1 c_8
            exact hQ _ _ _ _ _ hf hw dX3_begin_60
          · replace hf := hf.2 c_8
            refine lv_aload_n hx hb dX3_begin_41 rfl (lv_at hl 0 rfl) ?_
            refine x_get (k := 9) (v := .ref (xa X 31)) hx hb hts i_X3 hown hK hw (by decide) rfl rfl 3 (by decide) lf_22 (fun _ h9 => h9) rfl dX3_begin_42 ?_
            refine lv_iload_n hx hb dX3_begin_45 rfl (lv_at hl 1 rfl) ?_
            refine lv_bipush (v := 40) hx hb dX3_begin_46 (by decide) ?_
            refine lv_imul hx hb dX3_begin_48 ?_
            refine lv_iload hx hb dX3_begin_49 (lv_at hl 2 rfl) ?_
            refine lv_iadd hx hb dX3_begin_51 ?_
            refine lv_iconst (v := 0) hx hb dX3_begin_52 (by decide) ?_
            refine x_ist (n := 120) hx hb hK hw (by decide) rfl rfl hf.1 dX3_begin_53 (uX_A31 X S_7 _ _) (fun H locs hw => ?_)
            replace hf := hf.2
            obtain ⟨S_9, eS_9⟩ : ∃ z : gS, z = uA S_7 31 ((p0 * 40) + x4_6).toNatClampNeg 0 := ⟨_, rfl⟩
            rw [← eS_9] at hw
            replace hf := hf S_9 eS_9
            obtain ⟨x4_10, ex4_10⟩ : ∃ y : Int32, y = x4_6 + 1 := ⟨_, rfl⟩
            replace hf := hf x4_10 ex4_10
            refine lv_iinc (v := x4_10) (lv' := [(4, .int x4_10), (0, .ref (xa X 9)), (1, .int p0)]) hx hb dX3_begin_54 hl (k := 2) rfl (by rw [ex4_10]; rfl) (by decide) rfl (fun ls hl => ?_)
            refine lv_goto (tgt := 34) hx hb dX3_begin_57 (by decide) ?_
            exact ih_34 x4_10 S_9 _ _ _ hf hw (lv_sub hl [1, 2, 0] rfl)
      exact w_34 n_34 0 S_5 _ _ _ hf hw (lv_sub hl [1, 2, 0] rfl)
    · replace hf := hf.2 c_2
      exact hQ _ _ _ _ _ hf hw dX3_begin_9
def pX3_length (p0 : Int32) (S : gS) (Post : Int32 → Prop) : Prop :=
  (pX3_isHeld p0 S (fun r_1 => ((r_1 = 0 → Post 0) ∧ (¬ r_1 = 0 → (vp_in p0 3 ∧ Post (gA S 30 p0.toNatClampNeg))))))
def rX3_length : Room := { frames := 1, cells := 0, slots := 0, locals := 21 }
set_option maxHeartbeats 40000000 in
set_option maxRecDepth 100000 in
theorem kX3_length (l : Launch) (X : xG) (S : gS) (sz : Nat) (p0 : Int32) (Post : Int32 → Prop) (hf : pX3_length p0 S Post) : xMi l yX3_length (Cond.code yX3_length cX3_length 2 (some .int) :: WS) rX3_length 34 X (cX X) (eX X) S sz [.ref (xa X 9), .int p0] (fun r S' => Post r ∧ S = S') := by
  refine xMi.of (cc := cX3_length) (maxL := 2) (own := RX3) (by decide) rfl rfl (Nat.le_of_ble_eq_true rfl) ?_
  intro p e s m args below meth c ls Q hC hQ hw hl
  obtain ⟨hx, hb, hml, hown, hts, hE, hi⟩ := id hC
  have hK := hE.1
  have hl : lv_has ls 2 [(0, .ref (xa X 9)), (1, .int p0)] := hl
  have lf_18 : (Cond.fieldLink RX3 18 "GrammarAmbiguity$Slots" "lengths" "[I").before args s = true := hts _ q_101
  rw [pX3_length] at hf
  refine lv_aload_n hx hb dX3_length_0 rfl (lv_at hl 0 rfl) ?_
  refine lv_iload_n hx hb dX3_length_1 rfl (lv_at hl 1 rfl) ?_
  refine x_ci (x_rV (As := [.int p0]) (rest := []) (okX X) hC hw (kX3_isHeld l X S _ p0 _ hf) (cwV 1 hts (gV q_886 q_876 q_877 q_43 q_878) rfl rfl rfl (by decide +kernel) ⟨Nat.le_of_ble_eq_true rfl, Nat.le_of_ble_eq_true rfl⟩) (x_recv hK hw (k := 9) (by decide) rfl rfl) rfl hl.1 rfl (Nat.le_of_ble_eq_true rfl) dX3_length_2) hw hi (fun r_1 S_2 H locs hf hw => ?_)
  obtain ⟨hf, rfl⟩ := hf
  refine lv_if_eq (tgt := 17) hx hb dX3_length_5 (by decide) (fun c_3 => ?_) (fun c_3 => ?_)
  · replace hf := hf.1 c_3
    refine lv_iconst (v := 0) hx hb dX3_length_17 (by decide) ?_
    exact hQ _ _ _ _ _ _ rfl ⟨hf, rfl⟩ hw dX3_length_18
  · replace hf := hf.2 c_3
    refine lv_aload_n hx hb dX3_length_8 rfl (lv_at hl 0 rfl) ?_
    refine x_get (k := 9) (v := .ref (xa X 30)) hx hb hts i_X3 hown hK hw (by decide) rfl rfl 2 (by decide) lf_18 (fun _ h9 => h9) rfl dX3_length_9 ?_
    refine lv_iload_n hx hb dX3_length_12 rfl (lv_at hl 1 rfl) ?_
    refine x_ild (n := 3) hx hb hK hw (by decide) rfl rfl hf.1 dX3_length_13 ?_
    replace hf := hf.2
    refine lv_goto (tgt := 18) hx hb dX3_length_14 (by decide) ?_
    exact hQ _ _ _ _ _ _ rfl ⟨hf, rfl⟩ hw dX3_length_18
def pX3_isElement (p0 : Int32) (p1 : Int32) (S : gS) (Post : Int32 → Prop) : Prop :=
  (pX3_isHeld p0 S (fun r_1 => ((r_1 = 0 → Post 0) ∧ (¬ r_1 = 0 → ((p1 < 0 → Post 0) ∧ (¬ p1 < 0 → ((40 ≤ p1 → Post 0) ∧ (¬ 40 ≤ p1 → Post 1))))))))
def rX3_isElement : Room := { frames := 1, cells := 0, slots := 0, locals := 21 }
set_option maxHeartbeats 40000000 in
set_option maxRecDepth 100000 in
theorem kX3_isElement (l : Launch) (X : xG) (S : gS) (sz : Nat) (p0 : Int32) (p1 : Int32) (Post : Int32 → Prop) (hf : pX3_isElement p0 p1 S Post) : xMi l yX3_isElement (Cond.code yX3_isElement cX3_isElement 3 (some .boolean) :: WS) rX3_isElement 34 X (cX X) (eX X) S sz [.ref (xa X 9), .int p0, .int p1] (fun r S' => Post r ∧ S = S') := by
  refine xMi.of (cc := cX3_isElement) (maxL := 3) (own := RX3) (by decide) rfl rfl (Nat.le_of_ble_eq_true rfl) ?_
  intro p e s m args below meth c ls Q hC hQ hw hl
  obtain ⟨hx, hb, hml, hown, hts, hE, hi⟩ := id hC
  have hK := hE.1
  have hl : lv_has ls 3 [(0, .ref (xa X 9)), (1, .int p0), (2, .int p1)] := hl
  rw [pX3_isElement] at hf
  refine lv_aload_n hx hb dX3_isElement_0 rfl (lv_at hl 0 rfl) ?_
  refine lv_iload_n hx hb dX3_isElement_1 rfl (lv_at hl 1 rfl) ?_
  refine x_ci (x_rV (As := [.int p0]) (rest := []) (okX X) hC hw (kX3_isHeld l X S _ p0 _ hf) (cwV 1 hts (gV q_886 q_876 q_877 q_43 q_878) rfl rfl rfl (by decide +kernel) ⟨Nat.le_of_ble_eq_true rfl, Nat.le_of_ble_eq_true rfl⟩) (x_recv hK hw (k := 9) (by decide) rfl rfl) rfl hl.1 rfl (Nat.le_of_ble_eq_true rfl) dX3_isElement_2) hw hi (fun r_1 S_2 H locs hf hw => ?_)
  obtain ⟨hf, rfl⟩ := hf
  refine lv_if_eq (tgt := 22) hx hb dX3_isElement_5 (by decide) (fun c_3 => ?_) (fun c_3 => ?_)
  · replace hf := hf.1 c_3
    refine lv_iconst (v := 0) hx hb dX3_isElement_22 (by decide) ?_
    exact hQ _ _ _ _ _ _ rfl ⟨hf, rfl⟩ hw dX3_isElement_23
  · replace hf := hf.2 c_3
    refine lv_iload_n hx hb dX3_isElement_8 rfl (lv_at hl 2 rfl) ?_
    refine lv_if_lt (tgt := 22) hx hb dX3_isElement_9 (by decide) (fun c_4 => ?_) (fun c_4 => ?_)
    · replace hf := hf.1 c_4
      refine lv_iconst (v := 0) hx hb dX3_isElement_22 (by decide) ?_
      exact hQ _ _ _ _ _ _ rfl ⟨hf, rfl⟩ hw dX3_isElement_23
    · replace hf := hf.2 c_4
      refine lv_iload_n hx hb dX3_isElement_12 rfl (lv_at hl 2 rfl) ?_
      refine lv_bipush (v := 40) hx hb dX3_isElement_13 (by decide) ?_
      refine lv_icmp_ge (tgt := 22) hx hb dX3_isElement_15 (by decide) (fun c_5 => ?_) (fun c_5 => ?_)
      · replace hf := hf.1 c_5
        refine lv_iconst (v := 0) hx hb dX3_isElement_22 (by decide) ?_
        exact hQ _ _ _ _ _ _ rfl ⟨hf, rfl⟩ hw dX3_isElement_23
      · replace hf := hf.2 c_5
        refine lv_iconst (v := 1) hx hb dX3_isElement_18 (by decide) ?_
        refine lv_goto (tgt := 23) hx hb dX3_isElement_19 (by decide) ?_
        exact hQ _ _ _ _ _ _ rfl ⟨hf, rfl⟩ hw dX3_isElement_23
def pX3_element (p0 : Int32) (p1 : Int32) (S : gS) (Post : Int32 → Prop) : Prop :=
  (pX3_isElement p0 p1 S (fun r_1 => ((r_1 = 0 → Post 0) ∧ (¬ r_1 = 0 → (vp_in ((p0 * 40) + p1) 120 ∧ Post (gA S 31 ((p0 * 40) + p1).toNatClampNeg))))))
def rX3_element : Room := { frames := 2, cells := 0, slots := 0, locals := 43 }
set_option maxHeartbeats 40000000 in
set_option maxRecDepth 100000 in
theorem kX3_element (l : Launch) (X : xG) (S : gS) (sz : Nat) (p0 : Int32) (p1 : Int32) (Post : Int32 → Prop) (hf : pX3_element p0 p1 S Post) : xMi l yX3_element (Cond.code yX3_element cX3_element 3 (some .int) :: WS) rX3_element 34 X (cX X) (eX X) S sz [.ref (xa X 9), .int p0, .int p1] (fun r S' => Post r ∧ S = S') := by
  refine xMi.of (cc := cX3_element) (maxL := 3) (own := RX3) (by decide) rfl rfl (Nat.le_of_ble_eq_true rfl) ?_
  intro p e s m args below meth c ls Q hC hQ hw hl
  obtain ⟨hx, hb, hml, hown, hts, hE, hi⟩ := id hC
  have hK := hE.1
  have hl : lv_has ls 3 [(0, .ref (xa X 9)), (1, .int p0), (2, .int p1)] := hl
  have lf_22 : (Cond.fieldLink RX3 22 "GrammarAmbiguity$Slots" "elements" "[I").before args s = true := hts _ q_102
  rw [pX3_element] at hf
  refine lv_aload_n hx hb dX3_element_0 rfl (lv_at hl 0 rfl) ?_
  refine lv_iload_n hx hb dX3_element_1 rfl (lv_at hl 1 rfl) ?_
  refine lv_iload_n hx hb dX3_element_2 rfl (lv_at hl 2 rfl) ?_
  refine x_ci (x_rV (As := [.int p0, .int p1]) (rest := []) (okX X) hC hw (kX3_isElement l X S _ p0 p1 _ hf) (cwV 2 hts (gV q_890 q_891 q_892 q_43 q_893) rfl rfl rfl (by decide +kernel) ⟨Nat.le_of_ble_eq_true rfl, Nat.le_of_ble_eq_true rfl⟩) (x_recv hK hw (k := 9) (by decide) rfl rfl) rfl hl.1 rfl (Nat.le_of_ble_eq_true rfl) dX3_element_3) hw hi (fun r_1 S_2 H locs hf hw => ?_)
  obtain ⟨hf, rfl⟩ := hf
  refine lv_if_eq (tgt := 23) hx hb dX3_element_6 (by decide) (fun c_3 => ?_) (fun c_3 => ?_)
  · replace hf := hf.1 c_3
    refine lv_iconst (v := 0) hx hb dX3_element_23 (by decide) ?_
    exact hQ _ _ _ _ _ _ rfl ⟨hf, rfl⟩ hw dX3_element_24
  · replace hf := hf.2 c_3
    refine lv_aload_n hx hb dX3_element_9 rfl (lv_at hl 0 rfl) ?_
    refine x_get (k := 9) (v := .ref (xa X 31)) hx hb hts i_X3 hown hK hw (by decide) rfl rfl 3 (by decide) lf_22 (fun _ h9 => h9) rfl dX3_element_10 ?_
    refine lv_iload_n hx hb dX3_element_13 rfl (lv_at hl 1 rfl) ?_
    refine lv_bipush (v := 40) hx hb dX3_element_14 (by decide) ?_
    refine lv_imul hx hb dX3_element_16 ?_
    refine lv_iload_n hx hb dX3_element_17 rfl (lv_at hl 2 rfl) ?_
    refine lv_iadd hx hb dX3_element_18 ?_
    refine x_ild (n := 120) hx hb hK hw (by decide) rfl rfl hf.1 dX3_element_19 ?_
    replace hf := hf.2
    refine lv_goto (tgt := 24) hx hb dX3_element_20 (by decide) ?_
    exact hQ _ _ _ _ _ _ rfl ⟨hf, rfl⟩ hw dX3_element_24
def pX3_put (p0 : Int32) (p1 : Int32) (p2 : Int32) (S : gS) (Post : gS → Prop) : Prop :=
  (pX3_isElement p0 p1 S (fun r_1 => ((r_1 = 0 → Post S) ∧ (¬ r_1 = 0 → (vp_in p0 3 ∧ (((gA S 29 p0.toNatClampNeg) = 0 → (vp_in ((p0 * 40) + p1) 120 ∧ (∀ S_5 : gS, S_5 = uA S 31 ((p0 * 40) + p1).toNatClampNeg p2.toInt16.toInt32 → Post S_5))) ∧ (¬ (gA S 29 p0.toNatClampNeg) = 0 → (vp_in ((p0 * 40) + p1) 120 ∧ (∀ S_6 : gS, S_6 = uA S 31 ((p0 * 40) + p1).toNatClampNeg p2 → Post S_6)))))))))
def rX3_put : Room := { frames := 2, cells := 0, slots := 0, locals := 43 }
set_option maxHeartbeats 40000000 in
set_option maxRecDepth 100000 in
theorem kX3_put (l : Launch) (X : xG) (S : gS) (sz : Nat) (p0 : Int32) (p1 : Int32) (p2 : Int32) (Post : gS → Prop) (hf : pX3_put p0 p1 p2 S Post) : xMv l yX3_put (Cond.code yX3_put cX3_put 4 none :: WS) rX3_put 34 X (cX X) (eX X) S sz [.ref (xa X 9), .int p0, .int p1, .int p2] Post := by
  refine xMv.of (cc := cX3_put) (maxL := 4) (own := RX3) (by decide) rfl rfl (Nat.le_of_ble_eq_true rfl) ?_
  intro p e s m args below meth c ls Q hC hQ hw hl
  obtain ⟨hx, hb, hml, hown, hts, hE, hi⟩ := id hC
  have hK := hE.1
  have hl : lv_has ls 4 [(0, .ref (xa X 9)), (1, .int p0), (2, .int p1), (3, .int p2)] := hl
  have lf_22 : (Cond.fieldLink RX3 22 "GrammarAmbiguity$Slots" "elements" "[I").before args s = true := hts _ q_102
  have lf_15 : (Cond.fieldLink RX3 15 "GrammarAmbiguity$Slots" "wide" "[Z").before args s = true := hts _ q_100
  rw [pX3_put] at hf
  refine lv_aload_n hx hb dX3_put_0 rfl (lv_at hl 0 rfl) ?_
  refine lv_iload_n hx hb dX3_put_1 rfl (lv_at hl 1 rfl) ?_
  refine lv_iload_n hx hb dX3_put_2 rfl (lv_at hl 2 rfl) ?_
  refine x_ci (x_rV (As := [.int p0, .int p1]) (rest := []) (okX X) hC hw (kX3_isElement l X S _ p0 p1 _ hf) (cwV 2 hts (gV q_890 q_891 q_892 q_43 q_893) rfl rfl rfl (by decide +kernel) ⟨Nat.le_of_ble_eq_true rfl, Nat.le_of_ble_eq_true rfl⟩) (x_recv hK hw (k := 9) (by decide) rfl rfl) rfl hl.1 rfl (Nat.le_of_ble_eq_true rfl) dX3_put_3) hw hi (fun r_1 S_2 H locs hf hw => ?_)
  obtain ⟨hf, rfl⟩ := hf
  refine lv_if_eq (tgt := 35) hx hb dX3_put_6 (by decide) (fun c_3 => ?_) (fun c_3 => ?_)
  · replace hf := hf.1 c_3
    exact hQ _ _ _ _ _ hf hw dX3_put_35
  · replace hf := hf.2 c_3
    refine lv_aload_n hx hb dX3_put_9 rfl (lv_at hl 0 rfl) ?_
    refine x_get (k := 9) (v := .ref (xa X 31)) hx hb hts i_X3 hown hK hw (by decide) rfl rfl 3 (by decide) lf_22 (fun _ h9 => h9) rfl dX3_put_10 ?_
    refine lv_iload_n hx hb dX3_put_13 rfl (lv_at hl 1 rfl) ?_
    refine lv_bipush (v := 40) hx hb dX3_put_14 (by decide) ?_
    refine lv_imul hx hb dX3_put_16 ?_
    refine lv_iload_n hx hb dX3_put_17 rfl (lv_at hl 2 rfl) ?_
    refine lv_iadd hx hb dX3_put_18 ?_
    refine lv_aload_n hx hb dX3_put_19 rfl (lv_at hl 0 rfl) ?_
    refine x_get (k := 9) (v := .ref (xa X 29)) hx hb hts i_X3 hown hK hw (by decide) rfl rfl 1 (by decide) lf_15 (fun _ h9 => h9) rfl dX3_put_20 ?_
    refine lv_iload_n hx hb dX3_put_23 rfl (lv_at hl 1 rfl) ?_
    refine x_zld (n := 3) hx hb hK hw (by decide) rfl rfl hf.1 dX3_put_24 ?_
    replace hf := hf.2
    refine lv_if_eq (tgt := 32) hx hb dX3_put_25 (by decide) (fun c_4 => ?_) (fun c_4 => ?_)
    · replace hf := hf.1 c_4
      refine lv_iload_n hx hb dX3_put_32 rfl (lv_at hl 3 rfl) ?_
      refine lv_i2s hx hb dX3_put_33 rfl ?_
      refine x_ist (n := 120) hx hb hK hw (by decide) rfl rfl hf.1 dX3_put_34 (uX_A31 X S _ _) (fun H locs hw => ?_)
      replace hf := hf.2
      obtain ⟨S_5, eS_5⟩ : ∃ z : gS, z = uA S 31 ((p0 * 40) + p1).toNatClampNeg p2.toInt16.toInt32 := ⟨_, rfl⟩
      rw [← eS_5] at hw
      replace hf := hf S_5 eS_5
      exact hQ _ _ _ _ _ hf hw dX3_put_35
    · replace hf := hf.2 c_4
      refine lv_iload_n hx hb dX3_put_28 rfl (lv_at hl 3 rfl) ?_
      refine lv_goto (tgt := 34) hx hb dX3_put_29 (by decide) ?_
      refine x_ist (n := 120) hx hb hK hw (by decide) rfl rfl hf.1 dX3_put_34 (uX_A31 X S _ _) (fun H locs hw => ?_)
      replace hf := hf.2
      obtain ⟨S_6, eS_6⟩ : ∃ z : gS, z = uA S 31 ((p0 * 40) + p1).toNatClampNeg p2 := ⟨_, rfl⟩
      rw [← eS_6] at hw
      replace hf := hf S_6 eS_6
      exact hQ _ _ _ _ _ hf hw dX3_put_35
