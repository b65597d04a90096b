/-! Printed by wip/whole/gen: what each method asks (p..), and its contract under that (k..). -/
def pX9_isBetween (p0 : Int32) (p1 : Int32) (p2 : Int32) (S : gS) (Post : Int32 → Prop) : Prop :=
  ((p0 < p1 → Post 0) ∧ (¬ p0 < p1 → ((p2 < p0 → Post 0) ∧ (¬ p2 < p0 → Post 1))))
def rX9_isBetween : Room := { frames := 0, cells := 0, slots := 0, locals := 0 }
set_option maxHeartbeats 40000000 in
set_option maxRecDepth 100000 in
theorem kX9_isBetween (l : Launch) (X : xG) (S : gS) (sz : Nat) (p0 : Int32) (p1 : Int32) (p2 : Int32) (Post : Int32 → Prop) (hf : pX9_isBetween p0 p1 p2 S Post) : xMi l yX9_isBetween (Cond.code yX9_isBetween cX9_isBetween 3 (some .boolean) :: WS) rX9_isBetween 133 X (cM X) (eM X) S sz [.int p0, .int p1, .int p2] (fun r S' => Post r ∧ S = S') := by
  refine xMi.of (cc := cX9_isBetween) (maxL := 3) (own := RX9) (by decide) rfl rfl (Nat.le_of_ble_eq_true rfl) ?_
  intro p e s m args below meth c ls Q hC hQ hw hl
  obtain ⟨hx, hb, hml, hown, hts, hE, hi⟩ := id hC
  have hK := hE.1
  have hl : lv_has ls 3 [(0, .int p0), (1, .int p1), (2, .int p2)] := hl
  rw [pX9_isBetween] at hf
  refine lv_iload_n hx hb dX9_isBetween_0 rfl (lv_at hl 0 rfl) ?_
  refine lv_iload_n hx hb dX9_isBetween_1 rfl (lv_at hl 1 rfl) ?_
  refine lv_icmp_lt (tgt := 14) hx hb dX9_isBetween_2 (by decide) (fun c_1 => ?_) (fun c_1 => ?_)
  · replace hf := hf.1 c_1
    refine lv_iconst (v := 0) hx hb dX9_isBetween_14 (by decide) ?_
    exact hQ _ _ _ _ _ _ rfl ⟨hf, rfl⟩ hw dX9_isBetween_15
  · replace hf := hf.2 c_1
    refine lv_iload_n hx hb dX9_isBetween_5 rfl (lv_at hl 0 rfl) ?_
    refine lv_iload_n hx hb dX9_isBetween_6 rfl (lv_at hl 2 rfl) ?_
    refine lv_icmp_gt (tgt := 14) hx hb dX9_isBetween_7 (by decide) (fun c_2 => ?_) (fun c_2 => ?_)
    · replace hf := hf.1 c_2
      refine lv_iconst (v := 0) hx hb dX9_isBetween_14 (by decide) ?_
      exact hQ _ _ _ _ _ _ rfl ⟨hf, rfl⟩ hw dX9_isBetween_15
    · replace hf := hf.2 c_2
      refine lv_iconst (v := 1) hx hb dX9_isBetween_10 (by decide) ?_
      refine lv_goto (tgt := 15) hx hb dX9_isBetween_11 (by decide) ?_
      exact hQ _ _ _ _ _ _ rfl ⟨hf, rfl⟩ hw dX9_isBetween_15
def pX9_isListed (p0 : Int32) (S : gS) (Post : Int32 → Prop) : Prop :=
  (pX9_isBetween p0 1 6 S (fun r_1 => (narrow .boolean (.int r_1) = .int r_1 ∧ Post r_1)))
def rX9_isListed : Room := { frames := 1, cells := 0, slots := 0, locals := 22 }
set_option maxHeartbeats 40000000 in
set_option maxRecDepth 100000 in
theorem kX9_isListed (l : Launch) (X : xG) (S : gS) (sz : Nat) (p0 : Int32) (Post : Int32 → Prop) (hf : pX9_isListed p0 S Post) : xMi l yX9_isListed (Cond.code yX9_isListed cX9_isListed 1 (some .boolean) :: WS) rX9_isListed 133 X (cM X) (eM X) S sz [.int p0] (fun r S' => Post r ∧ S = S') := by
  refine xMi.of (cc := cX9_isListed) (maxL := 1) (own := RX9) (by decide) rfl rfl (Nat.le_of_ble_eq_true rfl) ?_
  intro p e s m args below meth c ls Q hC hQ hw hl
  obtain ⟨hx, hb, hml, hown, hts, hE, hi⟩ := id hC
  have hK := hE.1
  have hl : lv_has ls 1 [(0, .int p0)] := hl
  rw [pX9_isListed] at hf
  refine lv_iload_n hx hb dX9_isListed_0 rfl (lv_at hl 0 rfl) ?_
  refine lv_iconst (v := 1) hx hb dX9_isListed_1 (by decide) ?_
  refine lv_bipush (v := 6) hx hb dX9_isListed_2 (by decide) ?_
  refine x_ci (x_rS (As := [.int p0, .int 1, .int 6]) (rest := []) (okM X) hC hw (kX9_isBetween l X S _ p0 1 6 _ hf) (cwS 3 hts (gSt q_160 q_161 q_5 q_162) rfl rfl rfl (by decide +kernel) ⟨Nat.le_of_ble_eq_true rfl, Nat.le_of_ble_eq_true rfl⟩) rfl hl.1 rfl (Nat.le_of_ble_eq_true rfl) dX9_isListed_4) hw hi (fun r_1 S_2 H locs hf hw => ?_)
  obtain ⟨hf, rfl⟩ := hf
  have hn9 := hf.1
  replace hf := hf.2
  exact hQ _ _ _ _ _ _ hn9 ⟨hf, rfl⟩ hw dX9_isListed_7
def pX9_isSlot (p0 : Int32) (S : gS) (Post : Int32 → Prop) : Prop :=
  (pX9_isBetween p0 0 2 S (fun r_1 => (narrow .boolean (.int r_1) = .int r_1 ∧ Post r_1)))
def rX9_isSlot : Room := { frames := 1, cells := 0, slots := 0, locals := 22 }
set_option maxHeartbeats 40000000 in
set_option maxRecDepth 100000 in
theorem kX9_isSlot (l : Launch) (X : xG) (S : gS) (sz : Nat) (p0 : Int32) (Post : Int32 → Prop) (hf : pX9_isSlot p0 S Post) : xMi l yX9_isSlot (Cond.code yX9_isSlot cX9_isSlot 1 (some .boolean) :: WS) rX9_isSlot 133 X (cM X) (eM X) S sz [.int p0] (fun r S' => Post r ∧ S = S') := by
  refine xMi.of (cc := cX9_isSlot) (maxL := 1) (own := RX9) (by decide) rfl rfl (Nat.le_of_ble_eq_true rfl) ?_
  intro p e s m args below meth c ls Q hC hQ hw hl
  obtain ⟨hx, hb, hml, hown, hts, hE, hi⟩ := id hC
  have hK := hE.1
  have hl : lv_has ls 1 [(0, .int p0)] := hl
  rw [pX9_isSlot] at hf
  refine lv_iload_n hx hb dX9_isSlot_0 rfl (lv_at hl 0 rfl) ?_
  refine lv_iconst (v := 0) hx hb dX9_isSlot_1 (by decide) ?_
  refine lv_iconst (v := 2) hx hb dX9_isSlot_2 (by decide) ?_
  refine x_ci (x_rS (As := [.int p0, .int 0, .int 2]) (rest := []) (okM X) hC hw (kX9_isBetween l X S _ p0 0 2 _ hf) (cwS 3 hts (gSt q_160 q_161 q_5 q_162) rfl rfl rfl (by decide +kernel) ⟨Nat.le_of_ble_eq_true rfl, Nat.le_of_ble_eq_true rfl⟩) rfl hl.1 rfl (Nat.le_of_ble_eq_true rfl) dX9_isSlot_3) hw hi (fun r_1 S_2 H locs hf hw => ?_)
  obtain ⟨hf, rfl⟩ := hf
  have hn9 := hf.1
  replace hf := hf.2
  exact hQ _ _ _ _ _ _ hn9 ⟨hf, rfl⟩ hw dX9_isSlot_6
def pX9_drawn (p0 : Int64) (p1 : Int64) (S : gS) (Post : Int64 → Prop) : Prop :=
  (∀ x4_1 : Int64, x4_1 = ((p0 * 6364136223846793005) + 1442695040888963407) → (¬ p1 = 0 ∧ Post (((x4_1.toUInt64 >>> ((1 : Int32).toInt64.toUInt64 &&& Int64.toUInt64 63)).toInt64) - ((x4_1.toUInt64 >>> ((1 : Int32).toInt64.toUInt64 &&& Int64.toUInt64 63)).toInt64) / p1 * p1)))
def rX9_drawn : Room := { frames := 0, cells := 0, slots := 0, locals := 0 }
set_option maxHeartbeats 40000000 in
set_option maxRecDepth 100000 in
theorem kX9_drawn (l : Launch) (X : xG) (S : gS) (sz : Nat) (p0 : Int64) (p1 : Int64) (Post : Int64 → Prop) (hf : pX9_drawn p0 p1 S Post) : xMl l yX9_drawn (Cond.code yX9_drawn cX9_drawn 6 (some .long) :: WS) rX9_drawn 133 X (cM X) (eM X) S sz [.long p0, .long p1] (fun r S' => Post r ∧ S = S') := by
  refine xMl.of (cc := cX9_drawn) (maxL := 6) (own := RX9) (by decide) rfl rfl (Nat.le_of_ble_eq_true rfl) ?_
  intro p e s m args below meth c ls Q hC hQ hw hl
  obtain ⟨hx, hb, hml, hown, hts, hE, hi⟩ := id hC
  have hK := hE.1
  have hl : lv_has ls 6 [(0, .long p0), (2, .long p1)] := hl
  have lc_170 : (Cond.constantLong RX9 170 (6364136223846793005)).before args s = true := hts _ q_708
  have lc_172 : (Cond.constantLong RX9 172 (1442695040888963407)).before args s = true := hts _ q_709
  rw [pX9_drawn] at hf
  refine lv_lload_n hx hb dX9_drawn_0 rfl (lv_at hl 0 rfl) ?_
  refine lv_ldc2 (v := 6364136223846793005) hx hb hown lc_170 dX9_drawn_1 ?_
  refine lv_lmul hx hb dX9_drawn_4 ?_
  refine lv_ldc2 (v := 1442695040888963407) hx hb hown lc_172 dX9_drawn_5 ?_
  refine lv_ladd hx hb dX9_drawn_8 ?_
  refine lv_topl (fun x4_1 ex4_1 => ?_)
  replace hf := hf x4_1 ex4_1
  refine lv_lstore (lv' := [(4, .long x4_1), (0, .long p0), (2, .long p1)]) hx hb dX9_drawn_9 hl (by decide) rfl (fun ls hl => ?_)
  refine lv_lload hx hb dX9_drawn_11 (lv_at hl 0 rfl) ?_
  refine lv_iconst (v := 1) hx hb dX9_drawn_13 (by decide) ?_
  refine lv_lushr hx hb dX9_drawn_14 rfl ?_
  refine lv_lload_n hx hb dX9_drawn_15 rfl (lv_at hl 2 rfl) ?_
  refine lv_lrem hx hb dX9_drawn_16 hf.1 ?_
  replace hf := hf.2
  exact hQ _ _ _ _ _ _ ⟨hf, rfl⟩ hw dX9_drawn_17
def bX9_copyTable_s_10 (x2_1 : Int32) (L_2 : Int32 × gS → Prop) (L_10 : Int32 × gS → Prop) (x3_4 : Int32) (S_5 : gS) : Prop :=
  ((4 ≤ x3_4 → (∀ x2_7 : Int32, x2_7 = x2_1 + 1 → L_2 (x2_7, S_5))) ∧ (¬ 4 ≤ x3_4 → (vp_in x2_1 24 ∧ (vp_in x2_1 24 ∧ (vp_in x3_4 4 ∧ (vp_in x3_4 4 ∧ (∀ S_10 : gS, S_10 = uA S_5 (40 + x2_1.toNatClampNeg) x3_4.toNatClampNeg (gA S_5 (16 + x2_1.toNatClampNeg) x3_4.toNatClampNeg) → (∀ x3_11 : Int32, x3_11 = x3_4 + 1 → L_10 (x3_11, S_10)))))))))
def bX9_copyTable_s_2 (Post : gS → Prop) (L_2 : Int32 × gS → Prop) (x2_1 : Int32) (S_2 : gS) : Prop :=
  ((24 ≤ x2_1 → Post S_2) ∧ (¬ 24 ≤ x2_1 → ∃ n, lp (fun L x => bX9_copyTable_s_10 x2_1 L_2 L x.1 x.2) n (0, S_2)))
def pX9_copyTable_s (S : gS) (Post : gS → Prop) : Prop :=
  ∃ n, lp (fun L x => bX9_copyTable_s_2 Post L x.1 x.2) n (0, S)
def rX9_copyTable_s : Room := { frames := 0, cells := 0, slots := 0, locals := 0 }
set_option maxHeartbeats 40000000 in
set_option maxRecDepth 100000 in
theorem kX9_copyTable_s (l : Launch) (X : xG) (S : gS) (sz : Nat) (Post : gS → Prop) (hf : pX9_copyTable_s S Post) : xMv l yX9_copyTable (Cond.code yX9_copyTable cX9_copyTable 4 none :: WS) rX9_copyTable_s 133 X (cM X) (eM X) S sz [.ref (xa X 1), .ref (xa X 14)] Post := by
  refine xMv.of (cc := cX9_copyTable) (maxL := 4) (own := RX9) (by decide) rfl rfl (Nat.le_of_ble_eq_true rfl) ?_
  intro p e s m args below meth c ls Q hC hQ hw hl
  obtain ⟨hx, hb, hml, hown, hts, hE, hi⟩ := id hC
  have hK := hE.1
  have hl : lv_has ls 4 [(0, .ref (xa X 1)), (1, .ref (xa X 14))] := hl
  rw [pX9_copyTable_s] at hf
  refine lv_iconst (v := 0) hx hb dX9_copyTable_0 (by decide) ?_
  refine lv_istore_n (lv' := [(2, .int 0), (0, .ref (xa X 1)), (1, .ref (xa X 14))]) hx hb dX9_copyTable_1 rfl hl (by decide) rfl (fun ls hl => ?_)
  obtain ⟨n_2, hf⟩ := hf
  have w_2 : ∀ (n : Nat) (x2_1 : Int32) (S_2 : gS) (H : Heap) (locs : List Loc) (ls : Array Slot), lp (fun L x => bX9_copyTable_s_2 Post L x.1 x.2) n (x2_1, S_2) → xH 133 X (cM X) (xA 133 X s.heap.size) s.heap S_2 H locs → lv_has ls 4 [(0, .ref (xa X 1)), (1, .ref (xa X 14)), (2, .int x2_1)] → W p l e rX9_copyTable_s s m args below meth c H locs 0 0 Q (F0 m 2 ls []) := by
    intro n
    induction n with
    | zero => intro x2_1 S_2 H locs ls hf; exact hf.elim
    | succ n ih_2 =>
      intro x2_1 S_2 H locs ls hf hw hl
      replace hf : bX9_copyTable_s_2 Post (lp (fun L x => bX9_copyTable_s_2 Post L x.1 x.2) n) x2_1 S_2 := hf
      generalize lp (fun L x => bX9_copyTable_s_2 Post L x.1 x.2) n = L_2 at hf ih_2
      rw [bX9_copyTable_s_2] at hf
      refine lv_iload_n hx hb dX9_copyTable_2 rfl (lv_at hl 2 rfl) ?_
      refine lv_bipush (v := 24) hx hb dX9_copyTable_3 (by decide) ?_
      refine lv_icmp_ge (tgt := 37) hx hb dX9_copyTable_5 (by decide) (fun c_3 => ?_) (fun c_3 => ?_)
      · replace hf := hf.1 c_3
        exact hQ _ _ _ _ _ hf hw dX9_copyTable_37
      · replace hf := hf.2 c_3
        refine lv_iconst (v := 0) hx hb dX9_copyTable_8 (by decide) ?_
        refine lv_istore_n (lv' := [(3, .int 0), (0, .ref (xa X 1)), (1, .ref (xa X 14)), (2, .int x2_1)]) hx hb dX9_copyTable_9 rfl hl (by decide) rfl (fun ls hl => ?_)
        obtain ⟨n_10, hf⟩ := hf
        have w_10 : ∀ (n : Nat) (x3_4 : Int32) (S_5 : gS) (H : Heap) (locs : List Loc) (ls : Array Slot), lp (fun L x => bX9_copyTable_s_10 x2_1 L_2 L x.1 x.2) n (x3_4, S_5) → xH 133 X (cM X) (xA 133 X s.heap.size) s.heap S_5 H locs → lv_has ls 4 [(0, .ref (xa X 1)), (1, .ref (xa X 14)), (2, .int x2_1), (3, .int x3_4)] → W p l e rX9_copyTable_s s m args below meth c H locs 0 0 Q (F0 m 10 ls []) := by
          intro n
          induction n with
          | zero => intro x3_4 S_5 H locs ls hf; exact hf.elim
          | succ n ih_10 =>
            intro x3_4 S_5 H locs ls hf hw hl
            replace hf : bX9_copyTable_s_10 x2_1 L_2 (lp (fun L x => bX9_copyTable_s_10 x2_1 L_2 L x.1 x.2) n) x3_4 S_5 := hf
            generalize lp (fun L x => bX9_copyTable_s_10 x2_1 L_2 L x.1 x.2) n = L_10 at hf ih_10
            rw [bX9_copyTable_s_10] at hf
            refine lv_iload_n hx hb dX9_copyTable_10 rfl (lv_at hl 3 rfl) ?_
            refine lv_iconst (v := 4) hx hb dX9_copyTable_11 (by decide) ?_
            refine lv_icmp_ge (tgt := 31) hx hb dX9_copyTable_12 (by decide) (fun c_6 => ?_) (fun c_6 => ?_)
            · replace hf := hf.1 c_6
              obtain ⟨x2_7, ex2_7⟩ : ∃ y : Int32, y = x2_1 + 1 := ⟨_, rfl⟩
              replace hf := hf x2_7 ex2_7
              refine lv_iinc (v := x2_7) (lv' := [(2, .int x2_7), (0, .ref (xa X 1)), (1, .ref (xa X 14)), (3, .int x3_4)]) hx hb dX9_copyTable_31 hl (k := 2) rfl (by rw [ex2_7]; rfl) (by decide) rfl (fun ls hl => ?_)
              refine lv_goto (tgt := 2) hx hb dX9_copyTable_34 (by decide) ?_
              exact ih_2 x2_7 S_5 _ _ _ hf hw (lv_sub hl [1, 2, 0] rfl)
            · replace hf := hf.2 c_6
              refine lv_aload_n hx hb dX9_copyTable_15 rfl (lv_at hl 1 rfl) ?_
              refine lv_iload_n hx hb dX9_copyTable_16 rfl (lv_at hl 2 rfl) ?_
              have hb_8 := vp_lt hf.1
              refine x_ald (n := 24) (v := .ref (xa X (40 + x2_1.toNatClampNeg))) hx hb hK hw (by decide) rfl 3 rfl rfl hf.1 (rf_lt hb_8) dX9_copyTable_17 ?_
              replace hf := hf.2
              refine lv_iload_n hx hb dX9_copyTable_18 rfl (lv_at hl 3 rfl) ?_
              refine lv_aload_n hx hb dX9_copyTable_19 rfl (lv_at hl 0 rfl) ?_
              refine lv_iload_n hx hb dX9_copyTable_20 rfl (lv_at hl 2 rfl) ?_
              have hb_9 := vp_lt hf.1
              refine x_ald (n := 24) (v := .ref (xa X (16 + x2_1.toNatClampNeg))) hx hb hK hw (by decide) rfl 3 rfl rfl hf.1 (rf_lt hb_9) dX9_copyTable_21 ?_
              replace hf := hf.2
              refine lv_iload_n hx hb dX9_copyTable_22 rfl (lv_at hl 3 rfl) ?_
              refine x_ild (n := 4) hx hb hK hw (by omega) (cM_sy hb_9) rfl hf.1 dX9_copyTable_23 ?_
              replace hf := hf.2
              refine x_ist (n := 4) hx hb hK hw (by omega) (cM_ss hb_8) rfl hf.1 dX9_copyTable_24 (uM_rI (by omega) (fun _ => cM_ss hb_8) _ _) (fun H locs hw => ?_)
              replace hf := hf.2
              obtain ⟨S_10, eS_10⟩ : ∃ z : gS, z = uA S_5 (40 + x2_1.toNatClampNeg) x3_4.toNatClampNeg (gA S_5 (16 + x2_1.toNatClampNeg) x3_4.toNatClampNeg) := ⟨_, rfl⟩
              rw [← eS_10] at hw
              replace hf := hf S_10 eS_10
              obtain ⟨x3_11, ex3_11⟩ : ∃ y : Int32, y = x3_4 + 1 := ⟨_, rfl⟩
              replace hf := hf x3_11 ex3_11
              refine lv_iinc (v := x3_11) (lv' := [(3, .int x3_11), (0, .ref (xa X 1)), (1, .ref (xa X 14)), (2, .int x2_1)]) hx hb dX9_copyTable_25 hl (k := 3) rfl (by rw [ex3_11]; rfl) (by decide) rfl (fun ls hl => ?_)
              refine lv_goto (tgt := 10) hx hb dX9_copyTable_28 (by decide) ?_
              exact ih_10 x3_11 S_10 _ _ _ hf hw (lv_sub hl [1, 2, 3, 0] rfl)
        exact w_10 n_10 0 S_2 _ _ _ hf hw (lv_sub hl [1, 2, 3, 0] rfl)
  exact w_2 n_2 0 S _ _ _ hf hw (lv_sub hl [1, 2, 0] rfl)
def bX9_copyTable_r_10 (x2_1 : Int32) (L_2 : Int32 × gS → Prop) (L_10 : Int32 × gS → Prop) (x3_4 : Int32) (S_5 : gS) : Prop :=
  ((4 ≤ x3_4 → (∀ x2_7 : Int32, x2_7 = x2_1 + 1 → L_2 (x2_7, S_5))) ∧ (¬ 4 ≤ x3_4 → (vp_in x2_1 24 ∧ (vp_in x2_1 24 ∧ (vp_in x3_4 4 ∧ (vp_in x3_4 4 ∧ (∀ S_10 : gS, S_10 = uA S_5 (16 + x2_1.toNatClampNeg) x3_4.toNatClampNeg (gA S_5 (40 + x2_1.toNatClampNeg) x3_4.toNatClampNeg) → (∀ x3_11 : Int32, x3_11 = x3_4 + 1 → L_10 (x3_11, S_10)))))))))
def bX9_copyTable_r_2 (Post : gS → Prop) (L_2 : Int32 × gS → Prop) (x2_1 : Int32) (S_2 : gS) : Prop :=
  ((24 ≤ x2_1 → Post S_2) ∧ (¬ 24 ≤ x2_1 → ∃ n, lp (fun L x => bX9_copyTable_r_10 x2_1 L_2 L x.1 x.2) n (0, S_2)))
def pX9_copyTable_r (S : gS) (Post : gS → Prop) : Prop :=
  ∃ n, lp (fun L x => bX9_copyTable_r_2 Post L x.1 x.2) n (0, S)
def rX9_copyTable_r : Room := { frames := 0, cells := 0, slots := 0, locals := 0 }
set_option maxHeartbeats 40000000 in
set_option maxRecDepth 100000 in
theorem kX9_copyTable_r (l : Launch) (X : xG) (S : gS) (sz : Nat) (Post : gS → Prop) (hf : pX9_copyTable_r S Post) : xMv l yX9_copyTable (Cond.code yX9_copyTable cX9_copyTable 4 none :: WS) rX9_copyTable_r 133 X (cM X) (eM X) S sz [.ref (xa X 14), .ref (xa X 1)] Post := by
  refine xMv.of (cc := cX9_copyTable) (maxL := 4) (own := RX9) (by decide) rfl rfl (Nat.le_of_ble_eq_true rfl) ?_
  intro p e s m args below meth c ls Q hC hQ hw hl
  obtain ⟨hx, hb, hml, hown, hts, hE, hi⟩ := id hC
  have hK := hE.1
  have hl : lv_has ls 4 [(0, .ref (xa X 14)), (1, .ref (xa X 1))] := hl
  rw [pX9_copyTable_r] at hf
  refine lv_iconst (v := 0) hx hb dX9_copyTable_0 (by decide) ?_
  refine lv_istore_n (lv' := [(2, .int 0), (0, .ref (xa X 14)), (1, .ref (xa X 1))]) hx hb dX9_copyTable_1 rfl hl (by decide) rfl (fun ls hl => ?_)
  obtain ⟨n_2, hf⟩ := hf
  have w_2 : ∀ (n : Nat) (x2_1 : Int32) (S_2 : gS) (H : Heap) (locs : List Loc) (ls : Array Slot), lp (fun L x => bX9_copyTable_r_2 Post L x.1 x.2) n (x2_1, S_2) → xH 133 X (cM X) (xA 133 X s.heap.size) s.heap S_2 H locs → lv_has ls 4 [(0, .ref (xa X 14)), (1, .ref (xa X 1)), (2, .int x2_1)] → W p l e rX9_copyTable_r s m args below meth c H locs 0 0 Q (F0 m 2 ls []) := by
    intro n
    induction n with
    | zero => intro x2_1 S_2 H locs ls hf; exact hf.elim
    | succ n ih_2 =>
      intro x2_1 S_2 H locs ls hf hw hl
      replace hf : bX9_copyTable_r_2 Post (lp (fun L x => bX9_copyTable_r_2 Post L x.1 x.2) n) x2_1 S_2 := hf
      generalize lp (fun L x => bX9_copyTable_r_2 Post L x.1 x.2) n = L_2 at hf ih_2
      rw [bX9_copyTable_r_2] at hf
      refine lv_iload_n hx hb dX9_copyTable_2 rfl (lv_at hl 2 rfl) ?_
      refine lv_bipush (v := 24) hx hb dX9_copyTable_3 (by decide) ?_
      refine lv_icmp_ge (tgt := 37) hx hb dX9_copyTable_5 (by decide) (fun c_3 => ?_) (fun c_3 => ?_)
      · replace hf := hf.1 c_3
        exact hQ _ _ _ _ _ hf hw dX9_copyTable_37
      · replace hf := hf.2 c_3
        refine lv_iconst (v := 0) hx hb dX9_copyTable_8 (by decide) ?_
        refine lv_istore_n (lv' := [(3, .int 0), (0, .ref (xa X 14)), (1, .ref (xa X 1)), (2, .int x2_1)]) hx hb dX9_copyTable_9 rfl hl (by decide) rfl (fun ls hl => ?_)
        obtain ⟨n_10, hf⟩ := hf
        have w_10 : ∀ (n : Nat) (x3_4 : Int32) (S_5 : gS) (H : Heap) (locs : List Loc) (ls : Array Slot), lp (fun L x => bX9_copyTable_r_10 x2_1 L_2 L x.1 x.2) n (x3_4, S_5) → xH 133 X (cM X) (xA 133 X s.heap.size) s.heap S_5 H locs → lv_has ls 4 [(0, .ref (xa X 14)), (1, .ref (xa X 1)), (2, .int x2_1), (3, .int x3_4)] → W p l e rX9_copyTable_r s m args below meth c H locs 0 0 Q (F0 m 10 ls []) := by
          intro n
          induction n with
          | zero => intro x3_4 S_5 H locs ls hf; exact hf.elim
          | succ n ih_10 =>
            intro x3_4 S_5 H locs ls hf hw hl
            replace hf : bX9_copyTable_r_10 x2_1 L_2 (lp (fun L x => bX9_copyTable_r_10 x2_1 L_2 L x.1 x.2) n) x3_4 S_5 := hf
            generalize lp (fun L x => bX9_copyTable_r_10 x2_1 L_2 L x.1 x.2) n = L_10 at hf ih_10
            rw [bX9_copyTable_r_10] at hf
            refine lv_iload_n hx hb dX9_copyTable_10 rfl (lv_at hl 3 rfl) ?_
            refine lv_iconst (v := 4) hx hb dX9_copyTable_11 (by decide) ?_
            refine lv_icmp_ge (tgt := 31) hx hb dX9_copyTable_12 (by decide) (fun c_6 => ?_) (fun c_6 => ?_)
            · replace hf := hf.1 c_6
              obtain ⟨x2_7, ex2_7⟩ : ∃ y : Int32, y = x2_1 + 1 := ⟨_, rfl⟩
              replace hf := hf x2_7 ex2_7
              refine lv_iinc (v := x2_7) (lv' := [(2, .int x2_7), (0, .ref (xa X 14)), (1, .ref (xa X 1)), (3, .int x3_4)]) hx hb dX9_copyTable_31 hl (k := 2) rfl (by rw [ex2_7]; rfl) (by decide) rfl (fun ls hl => ?_)
              refine lv_goto (tgt := 2) hx hb dX9_copyTable_34 (by decide) ?_
              exact ih_2 x2_7 S_5 _ _ _ hf hw (lv_sub hl [1, 2, 0] rfl)
            · replace hf := hf.2 c_6
              refine lv_aload_n hx hb dX9_copyTable_15 rfl (lv_at hl 1 rfl) ?_
              refine lv_iload_n hx hb dX9_copyTable_16 rfl (lv_at hl 2 rfl) ?_
              have hb_8 := vp_lt hf.1
              refine x_ald (n := 24) (v := .ref (xa X (16 + x2_1.toNatClampNeg))) hx hb hK hw (by decide) rfl 3 rfl rfl hf.1 (rf_lt hb_8) dX9_copyTable_17 ?_
              replace hf := hf.2
              refine lv_iload_n hx hb dX9_copyTable_18 rfl (lv_at hl 3 rfl) ?_
              refine lv_aload_n hx hb dX9_copyTable_19 rfl (lv_at hl 0 rfl) ?_
              refine lv_iload_n hx hb dX9_copyTable_20 rfl (lv_at hl 2 rfl) ?_
              have hb_9 := vp_lt hf.1
              refine x_ald (n := 24) (v := .ref (xa X (40 + x2_1.toNatClampNeg))) hx hb hK hw (by decide) rfl 3 rfl rfl hf.1 (rf_lt hb_9) dX9_copyTable_21 ?_
              replace hf := hf.2
              refine lv_iload_n hx hb dX9_copyTable_22 rfl (lv_at hl 3 rfl) ?_
              refine x_ild (n := 4) hx hb hK hw (by omega) (cM_ss hb_9) rfl hf.1 dX9_copyTable_23 ?_
              replace hf := hf.2
              refine x_ist (n := 4) hx hb hK hw (by omega) (cM_sy hb_8) rfl hf.1 dX9_copyTable_24 (uM_rI (by omega) (fun _ => cM_sy hb_8) _ _) (fun H locs hw => ?_)
              replace hf := hf.2
              obtain ⟨S_10, eS_10⟩ : ∃ z : gS, z = uA S_5 (16 + x2_1.toNatClampNeg) x3_4.toNatClampNeg (gA S_5 (40 + x2_1.toNatClampNeg) x3_4.toNatClampNeg) := ⟨_, rfl⟩
              rw [← eS_10] at hw
              replace hf := hf S_10 eS_10
              obtain ⟨x3_11, ex3_11⟩ : ∃ y : Int32, y = x3_4 + 1 := ⟨_, rfl⟩
              replace hf := hf x3_11 ex3_11
              refine lv_iinc (v := x3_11) (lv' := [(3, .int x3_11), (0, .ref (xa X 14)), (1, .ref (xa X 1)), (2, .int x2_1)]) hx hb dX9_copyTable_25 hl (k := 3) rfl (by rw [ex3_11]; rfl) (by decide) rfl (fun ls hl => ?_)
              refine lv_goto (tgt := 10) hx hb dX9_copyTable_28 (by decide) ?_
              exact ih_10 x3_11 S_10 _ _ _ hf hw (lv_sub hl [1, 2, 3, 0] rfl)
        exact w_10 n_10 0 S_2 _ _ _ hf hw (lv_sub hl [1, 2, 3, 0] rfl)
  exact w_2 n_2 0 S _ _ _ hf hw (lv_sub hl [1, 2, 0] rfl)
def pX9_thrown (S : gS) (Post : Int32 → Prop) : Prop :=
  Post (gI S 0)
def rX9_thrown : Room := { frames := 0, cells := 0, slots := 0, locals := 0 }
set_option maxHeartbeats 40000000 in
set_option maxRecDepth 100000 in
theorem kX9_thrown (l : Launch) (X : xG) (S : gS) (sz : Nat) (Post : Int32 → Prop) (hf : pX9_thrown S Post) : xMi l yX9_thrown (Cond.code yX9_thrown cX9_thrown 1 (some .int) :: WS) rX9_thrown 133 X (cM X) (eM X) S sz [.ref (xa X 0)] (fun r S' => Post r ∧ S = S') := by
  refine xMi.of (cc := cX9_thrown) (maxL := 1) (own := RX9) (by decide) rfl rfl (Nat.le_of_ble_eq_true rfl) ?_
  intro p e s m args below meth c ls Q hC hQ hw hl
  obtain ⟨hx, hb, hml, hown, hts, hE, hi⟩ := id hC
  have hK := hE.1
  have hl : lv_has ls 1 [(0, .ref (xa X 0))] := hl
  have lf_69 : (Cond.fieldLink RX9 69 "GrammarAmbiguityModel" "thrown" "I").before args s = true := hts _ q_167
  rw [pX9_thrown] at hf
  refine lv_aload_n hx hb dX9_thrown_0 rfl (lv_at hl 0 rfl) ?_
  refine x_get (k := 0) (v := .int (gI S 0)) hx hb hts i_X9 hown hK hw (by decide) rfl rfl 0 (by decide) lf_69 (fun _ h9 => h9) rfl dX9_thrown_1 ?_
  exact hQ _ _ _ _ _ _ rfl ⟨hf, rfl⟩ hw dX9_thrown_4
def pX9_fails (p0 : Int32) (p1 : Int32) (S : gS) (Post : Int32 → gS → Prop) : Prop :=
  ((p1 = 0 → (∀ S_2 : gS, S_2 = uI S 0 0 → (narrow .boolean (.int p1) = .int p1 ∧ Post p1 S_2))) ∧ (¬ p1 = 0 → (∀ S_3 : gS, S_3 = uI S 0 p0 → (narrow .boolean (.int p1) = .int p1 ∧ Post p1 S_3))))
def rX9_fails : Room := { frames := 0, cells := 0, slots := 0, locals := 0 }
set_option maxHeartbeats 40000000 in
set_option maxRecDepth 100000 in
theorem kX9_fails (l : Launch) (X : xG) (S : gS) (sz : Nat) (p0 : Int32) (p1 : Int32) (Post : Int32 → gS → Prop) (hf : pX9_fails p0 p1 S Post) : xMi l yX9_fails (Cond.code yX9_fails cX9_fails 3 (some .boolean) :: WS) rX9_fails 133 X (cM X) (eM X) S sz [.ref (xa X 0), .int p0, .int p1] Post := by
  refine xMi.of (cc := cX9_fails) (maxL := 3) (own := RX9) (by decide) rfl rfl (Nat.le_of_ble_eq_true rfl) ?_
  intro p e s m args below meth c ls Q hC hQ hw hl
  obtain ⟨hx, hb, hml, hown, hts, hE, hi⟩ := id hC
  have hK := hE.1
  have hl : lv_has ls 3 [(0, .ref (xa X 0)), (1, .int p0), (2, .int p1)] := hl
  have lf_69 : (Cond.fieldLink RX9 69 "GrammarAmbiguityModel" "thrown" "I").before args s = true := hts _ q_167
  rw [pX9_fails] at hf
  refine lv_aload_n hx hb dX9_fails_0 rfl (lv_at hl 0 rfl) ?_
  refine lv_iload_n hx hb dX9_fails_1 rfl (lv_at hl 2 rfl) ?_
  refine lv_if_eq (tgt := 9) hx hb dX9_fails_2 (by decide) (fun c_1 => ?_) (fun c_1 => ?_)
  · replace hf := hf.1 c_1
    refine lv_iconst (v := 0) hx hb dX9_fails_9 (by decide) ?_
    refine x_put (k := 0) (S' := uI S 0 0) (ty := .int) hx hb hts i_X9 tyX9_ok nmX9 hown hK hw (by decide) rfl rfl 0 (by decide) lf_69 (fun _ h9 => h9) rfl (by decide +kernel) rfl rfl (Nat.le_of_ble_eq_true rfl) dX9_fails_10 (uM_I0 X S _) (fun H locs hw => ?_)
    obtain ⟨S_2, eS_2⟩ : ∃ z : gS, z = uI S 0 0 := ⟨_, rfl⟩
    rw [← eS_2] at hw
    replace hf := hf S_2 eS_2
    refine lv_iload_n hx hb dX9_fails_13 rfl (lv_at hl 2 rfl) ?_
    have hn9 := hf.1
    replace hf := hf.2
    exact hQ _ _ _ _ _ _ hn9 hf hw dX9_fails_14
  · replace hf := hf.2 c_1
    refine lv_iload_n hx hb dX9_fails_5 rfl (lv_at hl 1 rfl) ?_
    refine lv_goto (tgt := 10) hx hb dX9_fails_6 (by decide) ?_
    refine x_put (k := 0) (S' := uI S 0 p0) (ty := .int) hx hb hts i_X9 tyX9_ok nmX9 hown hK hw (by decide) rfl rfl 0 (by decide) lf_69 (fun _ h9 => h9) rfl (by decide +kernel) rfl rfl (Nat.le_of_ble_eq_true rfl) dX9_fails_10 (uM_I0 X S _) (fun H locs hw => ?_)
    obtain ⟨S_3, eS_3⟩ : ∃ z : gS, z = uI S 0 p0 := ⟨_, rfl⟩
    rw [← eS_3] at hw
    replace hf := hf S_3 eS_3
    refine lv_iload_n hx hb dX9_fails_13 rfl (lv_at hl 2 rfl) ?_
    have hn9 := hf.1
    replace hf := hf.2
    exact hQ _ _ _ _ _ _ hn9 hf hw dX9_fails_14
def pX9_isNonterminal (p0 : Int32) (S : gS) (Post : Int32 → Prop) : Prop :=
  (pX9_isBetween p0 0 ((gI S 1) - 1) S (fun r_1 => (narrow .boolean (.int r_1) = .int r_1 ∧ Post r_1)))
def rX9_isNonterminal : Room := { frames := 1, cells := 0, slots := 0, locals := 22 }
set_option maxHeartbeats 40000000 in
set_option maxRecDepth 100000 in
theorem kX9_isNonterminal (l : Launch) (X : xG) (S : gS) (sz : Nat) (p0 : Int32) (Post : Int32 → Prop) (hf : pX9_isNonterminal p0 S Post) : xMi l yX9_isNonterminal (Cond.code yX9_isNonterminal cX9_isNonterminal 2 (some .boolean) :: WS) rX9_isNonterminal 133 X (cM X) (eM X) S sz [.ref (xa X 0), .int p0] (fun r S' => Post r ∧ S = S') := by
  refine xMi.of (cc := cX9_isNonterminal) (maxL := 2) (own := RX9) (by decide) rfl rfl (Nat.le_of_ble_eq_true rfl) ?_
  intro p e s m args below meth c ls Q hC hQ hw hl
  obtain ⟨hx, hb, hml, hown, hts, hE, hi⟩ := id hC
  have hK := hE.1
  have hl : lv_has ls 2 [(0, .ref (xa X 0)), (1, .int p0)] := hl
  have lf_7 : (Cond.fieldLink RX9 7 "GrammarAmbiguityModel" "nonterminals" "I").before args s = true := hts _ q_107
  rw [pX9_isNonterminal] at hf
  refine lv_iload_n hx hb dX9_isNonterminal_0 rfl (lv_at hl 1 rfl) ?_
  refine lv_iconst (v := 0) hx hb dX9_isNonterminal_1 (by decide) ?_
  refine lv_aload_n hx hb dX9_isNonterminal_2 rfl (lv_at hl 0 rfl) ?_
  refine x_get (k := 0) (v := .int (gI S 1)) hx hb hts i_X9 hown hK hw (by decide) rfl rfl 1 (by decide) lf_7 (fun _ h9 => h9) rfl dX9_isNonterminal_3 ?_
  refine lv_iconst (v := 1) hx hb dX9_isNonterminal_6 (by decide) ?_
  refine lv_isub hx hb dX9_isNonterminal_7 ?_
  refine x_ci (x_rS (As := [.int p0, .int 0, .int ((gI S 1) - 1)]) (rest := []) (okM X) hC hw (kX9_isBetween l X S _ p0 0 ((gI S 1) - 1) _ hf) (cwS 3 hts (gSt q_160 q_161 q_5 q_162) rfl rfl rfl (by decide +kernel) ⟨Nat.le_of_ble_eq_true rfl, Nat.le_of_ble_eq_true rfl⟩) rfl hl.1 rfl (Nat.le_of_ble_eq_true rfl) dX9_isNonterminal_8) hw hi (fun r_1 S_2 H locs hf hw => ?_)
  obtain ⟨hf, rfl⟩ := hf
  have hn9 := hf.1
  replace hf := hf.2
  exact hQ _ _ _ _ _ _ hn9 ⟨hf, rfl⟩ hw dX9_isNonterminal_11
def pX9_isTerminal (p0 : Int32) (S : gS) (Post : Int32 → Prop) : Prop :=
  (pX9_isBetween p0 10 ((10 + (gI S 2)) - 1) S (fun r_1 => (narrow .boolean (.int r_1) = .int r_1 ∧ Post r_1)))
def rX9_isTerminal : Room := { frames := 1, cells := 0, slots := 0, locals := 22 }
set_option maxHeartbeats 40000000 in
set_option maxRecDepth 100000 in
theorem kX9_isTerminal (l : Launch) (X : xG) (S : gS) (sz : Nat) (p0 : Int32) (Post : Int32 → Prop) (hf : pX9_isTerminal p0 S Post) : xMi l yX9_isTerminal (Cond.code yX9_isTerminal cX9_isTerminal 2 (some .boolean) :: WS) rX9_isTerminal 133 X (cM X) (eM X) S sz [.ref (xa X 0), .int p0] (fun r S' => Post r ∧ S = S') := by
  refine xMi.of (cc := cX9_isTerminal) (maxL := 2) (own := RX9) (by decide) rfl rfl (Nat.le_of_ble_eq_true rfl) ?_
  intro p e s m args below meth c ls Q hC hQ hw hl
  obtain ⟨hx, hb, hml, hown, hts, hE, hi⟩ := id hC
  have hK := hE.1
  have hl : lv_has ls 2 [(0, .ref (xa X 0)), (1, .int p0)] := hl
  have lf_13 : (Cond.fieldLink RX9 13 "GrammarAmbiguityModel" "terminals" "I").before args s = true := hts _ q_108
  rw [pX9_isTerminal] at hf
  refine lv_iload_n hx hb dX9_isTerminal_0 rfl (lv_at hl 1 rfl) ?_
  refine lv_bipush (v := 10) hx hb dX9_isTerminal_1 (by decide) ?_
  refine lv_bipush (v := 10) hx hb dX9_isTerminal_3 (by decide) ?_
  refine lv_aload_n hx hb dX9_isTerminal_5 rfl (lv_at hl 0 rfl) ?_
  refine x_get (k := 0) (v := .int (gI S 2)) hx hb hts i_X9 hown hK hw (by decide) rfl rfl 2 (by decide) lf_13 (fun _ h9 => h9) rfl dX9_isTerminal_6 ?_
  refine lv_iadd hx hb dX9_isTerminal_9 ?_
  refine lv_iconst (v := 1) hx hb dX9_isTerminal_10 (by decide) ?_
  refine lv_isub hx hb dX9_isTerminal_11 ?_
  refine x_ci (x_rS (As := [.int p0, .int 10, .int ((10 + (gI S 2)) - 1)]) (rest := []) (okM X) hC hw (kX9_isBetween l X S _ p0 10 ((10 + (gI S 2)) - 1) _ hf) (cwS 3 hts (gSt q_160 q_161 q_5 q_162) rfl rfl rfl (by decide +kernel) ⟨Nat.le_of_ble_eq_true rfl, Nat.le_of_ble_eq_true rfl⟩) rfl hl.1 rfl (Nat.le_of_ble_eq_true rfl) dX9_isTerminal_12) hw hi (fun r_1 S_2 H locs hf hw => ?_)
  obtain ⟨hf, rfl⟩ := hf
  have hn9 := hf.1
  replace hf := hf.2
  exact hQ _ _ _ _ _ _ hn9 ⟨hf, rfl⟩ hw dX9_isTerminal_15
def pX9_isProduction (p0 : Int32) (S : gS) (Post : Int32 → Prop) : Prop :=
  (pX9_isBetween p0 0 ((gI S 4) - 1) S (fun r_1 => (narrow .boolean (.int r_1) = .int r_1 ∧ Post r_1)))
def rX9_isProduction : Room := { frames := 1, cells := 0, slots := 0, locals := 22 }
set_option maxHeartbeats 40000000 in
set_option maxRecDepth 100000 in
theorem kX9_isProduction (l : Launch) (X : xG) (S : gS) (sz : Nat) (p0 : Int32) (Post : Int32 → Prop) (hf : pX9_isProduction p0 S Post) : xMi l yX9_isProduction (Cond.code yX9_isProduction cX9_isProduction 2 (some .boolean) :: WS) rX9_isProduction 133 X (cM X) (eM X) S sz [.ref (xa X 0), .int p0] (fun r S' => Post r ∧ S = S') := by
  refine xMi.of (cc := cX9_isProduction) (maxL := 2) (own := RX9) (by decide) rfl rfl (Nat.le_of_ble_eq_true rfl) ?_
  intro p e s m args below meth c ls Q hC hQ hw hl
  obtain ⟨hx, hb, hml, hown, hts, hE, hi⟩ := id hC
  have hK := hE.1
  have hl : lv_has ls 2 [(0, .ref (xa X 0)), (1, .int p0)] := hl
  have lf_76 : (Cond.fieldLink RX9 76 "GrammarAmbiguityModel" "productions" "I").before args s = true := hts _ q_157
  rw [pX9_isProduction] at hf
  refine lv_iload_n hx hb dX9_isProduction_0 rfl (lv_at hl 1 rfl) ?_
  refine lv_iconst (v := 0) hx hb dX9_isProduction_1 (by decide) ?_
  refine lv_aload_n hx hb dX9_isProduction_2 rfl (lv_at hl 0 rfl) ?_
  refine x_get (k := 0) (v := .int (gI S 4)) hx hb hts i_X9 hown hK hw (by decide) rfl rfl 4 (by decide) lf_76 (fun _ h9 => h9) rfl dX9_isProduction_3 ?_
  refine lv_iconst (v := 1) hx hb dX9_isProduction_6 (by decide) ?_
  refine lv_isub hx hb dX9_isProduction_7 ?_
  refine x_ci (x_rS (As := [.int p0, .int 0, .int ((gI S 4) - 1)]) (rest := []) (okM X) hC hw (kX9_isBetween l X S _ p0 0 ((gI S 4) - 1) _ hf) (cwS 3 hts (gSt q_160 q_161 q_5 q_162) rfl rfl rfl (by decide +kernel) ⟨Nat.le_of_ble_eq_true rfl, Nat.le_of_ble_eq_true rfl⟩) rfl hl.1 rfl (Nat.le_of_ble_eq_true rfl) dX9_isProduction_8) hw hi (fun r_1 S_2 H locs hf hw => ?_)
  obtain ⟨hf, rfl⟩ := hf
  have hn9 := hf.1
  replace hf := hf.2
  exact hQ _ _ _ _ _ _ hn9 ⟨hf, rfl⟩ hw dX9_isProduction_11
def pX9_isSymbol (p0 : Int32) (S : gS) (Post : Int32 → Prop) : Prop :=
  (pX9_isNonterminal p0 S (fun r_1 => ((¬ r_1 = 0 → Post 1) ∧ (r_1 = 0 → (pX9_isTerminal p0 S (fun r_4 => ((r_4 = 0 → Post 0) ∧ (¬ r_4 = 0 → Post 1))))))))
def rX9_isSymbol : Room := { frames := 2, cells := 0, slots := 0, locals := 43 }
set_option maxHeartbeats 40000000 in
set_option maxRecDepth 100000 in
theorem kX9_isSymbol (l : Launch) (X : xG) (S : gS) (sz : Nat) (p0 : Int32) (Post : Int32 → Prop) (hf : pX9_isSymbol p0 S Post) : xMi l yX9_isSymbol (Cond.code yX9_isSymbol cX9_isSymbol 2 (some .boolean) :: WS) rX9_isSymbol 133 X (cM X) (eM X) S sz [.ref (xa X 0), .int p0] (fun r S' => Post r ∧ S = S') := by
  refine xMi.of (cc := cX9_isSymbol) (maxL := 2) (own := RX9) (by decide) rfl rfl (Nat.le_of_ble_eq_true rfl) ?_
  intro p e s m args below meth c ls Q hC hQ hw hl
  obtain ⟨hx, hb, hml, hown, hts, hE, hi⟩ := id hC
  have hK := hE.1
  have hl : lv_has ls 2 [(0, .ref (xa X 0)), (1, .int p0)] := hl
  rw [pX9_isSymbol] at hf
  refine lv_aload_n hx hb dX9_isSymbol_0 rfl (lv_at hl 0 rfl) ?_
  refine lv_iload_n hx hb dX9_isSymbol_1 rfl (lv_at hl 1 rfl) ?_
  refine x_ci (x_rV (As := [.int p0]) (rest := []) (okM X) hC hw (kX9_isNonterminal l X S _ p0 _ hf) (cwV 1 hts (gV q_214 q_215 q_216 q_5 q_217) rfl rfl rfl (by decide +kernel) ⟨Nat.le_of_ble_eq_true rfl, Nat.le_of_ble_eq_true rfl⟩) (x_recv hK hw (k := 0) (by decide) rfl rfl) rfl hl.1 rfl (Nat.le_of_ble_eq_true rfl) dX9_isSymbol_2) hw hi (fun r_1 S_2 H locs hf hw => ?_)
  obtain ⟨hf, rfl⟩ := hf
  refine lv_if_ne (tgt := 16) hx hb dX9_isSymbol_5 (by decide) (fun c_3 => ?_) (fun c_3 => ?_)
  · replace hf := hf.1 c_3
    refine lv_iconst (v := 1) hx hb dX9_isSymbol_16 (by decide) ?_
    refine lv_goto (tgt := 21) hx hb dX9_isSymbol_17 (by decide) ?_
    exact hQ _ _ _ _ _ _ rfl ⟨hf, rfl⟩ hw dX9_isSymbol_21
  · replace hf := hf.2 c_3
    refine lv_aload_n hx hb dX9_isSymbol_8 rfl (lv_at hl 0 rfl) ?_
    refine lv_iload_n hx hb dX9_isSymbol_9 rfl (lv_at hl 1 rfl) ?_
    refine x_ci (x_rV (As := [.int p0]) (rest := []) (okM X) hC hw (kX9_isTerminal l X S _ p0 _ hf) (cwV 1 hts (gV q_222 q_223 q_224 q_5 q_225) rfl rfl rfl (by decide +kernel) ⟨Nat.le_of_ble_eq_true rfl, Nat.le_of_ble_eq_true rfl⟩) (x_recv hK hw (k := 0) (by decide) rfl rfl) rfl hl.1 rfl (Nat.le_of_ble_eq_true rfl) dX9_isSymbol_10) hw hi (fun r_4 S_5 H locs hf hw => ?_)
    obtain ⟨hf, rfl⟩ := hf
    refine lv_if_eq (tgt := 20) hx hb dX9_isSymbol_13 (by decide) (fun c_6 => ?_) (fun c_6 => ?_)
    · replace hf := hf.1 c_6
      refine lv_iconst (v := 0) hx hb dX9_isSymbol_20 (by decide) ?_
      exact hQ _ _ _ _ _ _ rfl ⟨hf, rfl⟩ hw dX9_isSymbol_21
    · replace hf := hf.2 c_6
      refine lv_iconst (v := 1) hx hb dX9_isSymbol_16 (by decide) ?_
      refine lv_goto (tgt := 21) hx hb dX9_isSymbol_17 (by decide) ?_
      exact hQ _ _ _ _ _ _ rfl ⟨hf, rfl⟩ hw dX9_isSymbol_21
def jX9_reset_26 (p0 : Int32) (p1 : Int32) (S : gS) (Post : gS → Prop) (y_3 : Int32) : Prop :=
  (pX9_fails 1 y_3 S (fun r_4 S_5 => ((r_4 = 0 → (∀ S_7 : gS, S_7 = uI S_5 1 p0 → (∀ S_8 : gS, S_8 = uI S_7 2 p1 → (∀ S_9 : gS, S_9 = uI S_8 3 0 → (∀ S_10 : gS, S_10 = uI S_9 4 0 → (∀ S_11 : gS, S_11 = uI S_10 5 0 → (∀ S_12 : gS, S_12 = uI S_11 6 0 → Post S_12))))))) ∧ (¬ r_4 = 0 → Post S_5))))
def pX9_reset (p0 : Int32) (p1 : Int32) (S : gS) (Post : gS → Prop) : Prop :=
  (pX9_isBetween p0 1 6 S (fun r_1 => ((r_1 = 0 → jX9_reset_26 p0 p1 S Post 1) ∧ (¬ r_1 = 0 → (pX9_isBetween p1 1 3 S (fun r_14 => ((¬ r_14 = 0 → jX9_reset_26 p0 p1 S Post 0) ∧ (r_14 = 0 → jX9_reset_26 p0 p1 S Post 1))))))))
def rX9_reset : Room := { frames := 1, cells := 0, slots := 0, locals := 22 }
set_option maxHeartbeats 40000000 in
set_option maxRecDepth 100000 in
theorem kX9_reset (l : Launch) (X : xG) (S : gS) (sz : Nat) (p0 : Int32) (p1 : Int32) (Post : gS → Prop) (hf : pX9_reset p0 p1 S Post) : xMv l yX9_reset (Cond.code yX9_reset cX9_reset 3 none :: WS) rX9_reset 133 X (cM X) (eM X) S sz [.ref (xa X 0), .int p0, .int p1] Post := by
  refine xMv.of (cc := cX9_reset) (maxL := 3) (own := RX9) (by decide) rfl rfl (Nat.le_of_ble_eq_true rfl) ?_
  intro p e s m args below meth c ls Q hC hQ hw hl
  obtain ⟨hx, hb, hml, hown, hts, hE, hi⟩ := id hC
  have hK := hE.1
  have hl : lv_has ls 3 [(0, .ref (xa X 0)), (1, .int p0), (2, .int p1)] := hl
  have lf_7 : (Cond.fieldLink RX9 7 "GrammarAmbiguityModel" "nonterminals" "I").before args s = true := hts _ q_107
  have lf_13 : (Cond.fieldLink RX9 13 "GrammarAmbiguityModel" "terminals" "I").before args s = true := hts _ q_108
  have lf_83 : (Cond.fieldLink RX9 83 "GrammarAmbiguityModel" "start" "I").before args s = true := hts _ q_156
  have lf_76 : (Cond.fieldLink RX9 76 "GrammarAmbiguityModel" "productions" "I").before args s = true := hts _ q_157
  have lf_86 : (Cond.fieldLink RX9 86 "GrammarAmbiguityModel" "length" "I").before args s = true := hts _ q_158
  have lf_89 : (Cond.fieldLink RX9 89 "GrammarAmbiguityModel" "nodes" "I").before args s = true := hts _ q_159
  rw [pX9_reset] at hf
  refine lv_aload_n hx hb dX9_reset_0 rfl (lv_at hl 0 rfl) ?_
  refine lv_iconst (v := 1) hx hb dX9_reset_1 (by decide) ?_
  refine lv_iload_n hx hb dX9_reset_2 rfl (lv_at hl 1 rfl) ?_
  refine lv_iconst (v := 1) hx hb dX9_reset_3 (by decide) ?_
  refine lv_bipush (v := 6) hx hb dX9_reset_4 (by decide) ?_
  refine x_ci (x_rS (As := [.int p0, .int 1, .int 6]) (rest := [.int 1, .ref (xa X 0)]) (okM X) hC hw (kX9_isBetween l X S _ p0 1 6 _ hf) (cwS 3 hts (gSt q_160 q_161 q_5 q_162) rfl rfl rfl (by decide +kernel) ⟨Nat.le_of_ble_eq_true rfl, Nat.le_of_ble_eq_true rfl⟩) rfl hl.1 rfl (Nat.le_of_ble_eq_true rfl) dX9_reset_6) hw hi (fun r_1 S_2 H locs hf hw => ?_)
  obtain ⟨hf, rfl⟩ := hf
  have w_26 : ∀ (y_3 : Int32) (H : Heap) (locs : List Loc) (ls : Array Slot), jX9_reset_26 p0 p1 S Post y_3 → xH 133 X (cM X) (xA 133 X s.heap.size) s.heap S H locs → lv_has ls 3 [(0, .ref (xa X 0)), (1, .int p0), (2, .int p1)] → W p l e rX9_reset s m args below meth c H locs 0 0 Q (F0 m 26 ls [.int y_3, .int 1, .ref (xa X 0)]) := by
    intro y_3 H locs ls hf hw hl
    rw [jX9_reset_26] at hf
    refine x_ci (x_rV (As := [.int 1, .int y_3]) (rest := []) (okM X) hC hw (kX9_fails l X S _ 1 y_3 _ hf) (cwV 2 hts (gV q_163 q_164 q_165 q_5 q_166) rfl rfl rfl (by decide +kernel) ⟨Nat.le_of_ble_eq_true rfl, Nat.le_of_ble_eq_true rfl⟩) (x_recv hK hw (k := 0) (by decide) rfl rfl) rfl hl.1 rfl (Nat.le_of_ble_eq_true rfl) dX9_reset_26) hw hi (fun r_4 S_5 H locs hf hw => ?_)
    refine lv_if_eq (tgt := 33) hx hb dX9_reset_29 (by decide) (fun c_6 => ?_) (fun c_6 => ?_)
    · replace hf := hf.1 c_6
      refine lv_aload_n hx hb dX9_reset_33 rfl (lv_at hl 0 rfl) ?_
      refine lv_iload_n hx hb dX9_reset_34 rfl (lv_at hl 1 rfl) ?_
      refine x_put (k := 0) (S' := uI S_5 1 p0) (ty := .int) hx hb hts i_X9 tyX9_ok nmX9 hown hK hw (by decide) rfl rfl 1 (by decide) lf_7 (fun _ h9 => h9) rfl (by decide +kernel) rfl rfl (Nat.le_of_ble_eq_true rfl) dX9_reset_35 (uM_I1 X S_5 _) (fun H locs hw => ?_)
      obtain ⟨S_7, eS_7⟩ : ∃ z : gS, z = uI S_5 1 p0 := ⟨_, rfl⟩
      rw [← eS_7] at hw
      replace hf := hf S_7 eS_7
      refine lv_aload_n hx hb dX9_reset_38 rfl (lv_at hl 0 rfl) ?_
      refine lv_iload_n hx hb dX9_reset_39 rfl (lv_at hl 2 rfl) ?_
      refine x_put (k := 0) (S' := uI S_7 2 p1) (ty := .int) hx hb hts i_X9 tyX9_ok nmX9 hown hK hw (by decide) rfl rfl 2 (by decide) lf_13 (fun _ h9 => h9) rfl (by decide +kernel) rfl rfl (Nat.le_of_ble_eq_true rfl) dX9_reset_40 (uM_I2 X S_7 _) (fun H locs hw => ?_)
      obtain ⟨S_8, eS_8⟩ : ∃ z : gS, z = uI S_7 2 p1 := ⟨_, rfl⟩
      rw [← eS_8] at hw
      replace hf := hf S_8 eS_8
      refine lv_aload_n hx hb dX9_reset_43 rfl (lv_at hl 0 rfl) ?_
      refine lv_iconst (v := 0) hx hb dX9_reset_44 (by decide) ?_
      refine x_put (k := 0) (S' := uI S_8 3 0) (ty := .int) hx hb hts i_X9 tyX9_ok nmX9 hown hK hw (by decide) rfl rfl 3 (by decide) lf_83 (fun _ h9 => h9) rfl (by decide +kernel) rfl rfl (Nat.le_of_ble_eq_true rfl) dX9_reset_45 (uM_I3 X S_8 _) (fun H locs hw => ?_)
      obtain ⟨S_9, eS_9⟩ : ∃ z : gS, z = uI S_8 3 0 := ⟨_, rfl⟩
      rw [← eS_9] at hw
      replace hf := hf S_9 eS_9
      refine lv_aload_n hx hb dX9_reset_48 rfl (lv_at hl 0 rfl) ?_
      refine lv_iconst (v := 0) hx hb dX9_reset_49 (by decide) ?_
      refine x_put (k := 0) (S' := uI S_9 4 0) (ty := .int) hx hb hts i_X9 tyX9_ok nmX9 hown hK hw (by decide) rfl rfl 4 (by decide) lf_76 (fun _ h9 => h9) rfl (by decide +kernel) rfl rfl (Nat.le_of_ble_eq_true rfl) dX9_reset_50 (uM_I4 X S_9 _) (fun H locs hw => ?_)
      obtain ⟨S_10, eS_10⟩ : ∃ z : gS, z = uI S_9 4 0 := ⟨_, rfl⟩
      rw [← eS_10] at hw
      replace hf := hf S_10 eS_10
      refine lv_aload_n hx hb dX9_reset_53 rfl (lv_at hl 0 rfl) ?_
      refine lv_iconst (v := 0) hx hb dX9_reset_54 (by decide) ?_
      refine x_put (k := 0) (S' := uI S_10 5 0) (ty := .int) hx hb hts i_X9 tyX9_ok nmX9 hown hK hw (by decide) rfl rfl 7 (by decide) lf_86 (fun _ h9 => h9) rfl (by decide +kernel) rfl rfl (Nat.le_of_ble_eq_true rfl) dX9_reset_55 (uM_I5 X S_10 _) (fun H locs hw => ?_)
      obtain ⟨S_11, eS_11⟩ : ∃ z : gS, z = uI S_10 5 0 := ⟨_, rfl⟩
      rw [← eS_11] at hw
      replace hf := hf S_11 eS_11
      refine lv_aload_n hx hb dX9_reset_58 rfl (lv_at hl 0 rfl) ?_
      refine lv_iconst (v := 0) hx hb dX9_reset_59 (by decide) ?_
      refine x_put (k := 0) (S' := uI S_11 6 0) (ty := .int) hx hb hts i_X9 tyX9_ok nmX9 hown hK hw (by decide) rfl rfl 13 (by decide) lf_89 (fun _ h9 => h9) rfl (by decide +kernel) rfl rfl (Nat.le_of_ble_eq_true rfl) dX9_reset_60 (uM_I6 X S_11 _) (fun H locs hw => ?_)
      obtain ⟨S_12, eS_12⟩ : ∃ z : gS, z = uI S_11 6 0 := ⟨_, rfl⟩
      rw [← eS_12] at hw
      replace hf := hf S_12 eS_12
      exact hQ _ _ _ _ _ hf hw dX9_reset_63
    · replace hf := hf.2 c_6
      exact hQ _ _ _ _ _ hf hw dX9_reset_32
  refine lv_if_eq (tgt := 21) hx hb dX9_reset_9 (by decide) (fun c_13 => ?_) (fun c_13 => ?_)
  · replace hf := hf.1 c_13
    refine lv_iconst (v := 1) hx hb dX9_reset_21 (by decide) ?_
    refine lv_goto (tgt := 26) hx hb dX9_reset_22 (by decide) ?_
    exact w_26 1 _ _ _ hf hw (lv_sub hl [0, 1, 2] rfl)
  · replace hf := hf.2 c_13
    refine lv_iload_n hx hb dX9_reset_12 rfl (lv_at hl 2 rfl) ?_
    refine lv_iconst (v := 1) hx hb dX9_reset_13 (by decide) ?_
    refine lv_iconst (v := 3) hx hb dX9_reset_14 (by decide) ?_
    refine x_ci (x_rS (As := [.int p1, .int 1, .int 3]) (rest := [.int 1, .ref (xa X 0)]) (okM X) hC hw (kX9_isBetween l X S _ p1 1 3 _ hf) (cwS 3 hts (gSt q_160 q_161 q_5 q_162) rfl rfl rfl (by decide +kernel) ⟨Nat.le_of_ble_eq_true rfl, Nat.le_of_ble_eq_true rfl⟩) rfl hl.1 rfl (Nat.le_of_ble_eq_true rfl) dX9_reset_15) hw hi (fun r_14 S_15 H locs hf hw => ?_)
    obtain ⟨hf, rfl⟩ := hf
    refine lv_if_ne (tgt := 25) hx hb dX9_reset_18 (by decide) (fun c_16 => ?_) (fun c_16 => ?_)
    · replace hf := hf.1 c_16
      refine lv_iconst (v := 0) hx hb dX9_reset_25 (by decide) ?_
      exact w_26 0 _ _ _ hf hw (lv_sub hl [0, 1, 2] rfl)
    · replace hf := hf.2 c_16
      refine lv_iconst (v := 1) hx hb dX9_reset_21 (by decide) ?_
      refine lv_goto (tgt := 26) hx hb dX9_reset_22 (by decide) ?_
      exact w_26 1 _ _ _ hf hw (lv_sub hl [0, 1, 2] rfl)
def bX9_isWrong_83 (p0 : Int32) (p1 : Int32) (p2 : Int32) (p3 : Int32) (S : gS) (Post : Int32 → Prop) (L_83 : Int32 × Int32 → Prop) (x5_6 : Int32) (x6_7 : Int32) : Prop :=
  (((gI S 4) ≤ x6_7 → (narrow .boolean (.int x5_6) = .int x5_6 ∧ Post x5_6)) ∧ (¬ (gI S 4) ≤ x6_7 → (vp_in x6_7 24 ∧ (vp_in (0 : Int32) 4 ∧ ((¬ (gA S (16 + x6_7.toNatClampNeg) (0 : Int32).toNatClampNeg) = p0 → (∀ x5_11 : Int32, x5_11 = (x5_6 ||| 0) → (∀ x6_12 : Int32, x6_12 = x6_7 + 1 → L_83 (x5_11, x6_12)))) ∧ ((gA S (16 + x6_7.toNatClampNeg) (0 : Int32).toNatClampNeg) = p0 → (vp_in x6_7 24 ∧ (vp_in (1 : Int32) 4 ∧ ((¬ (gA S (16 + x6_7.toNatClampNeg) (1 : Int32).toNatClampNeg) = p1 → (∀ x5_15 : Int32, x5_15 = (x5_6 ||| 0) → (∀ x6_16 : Int32, x6_16 = x6_7 + 1 → L_83 (x5_15, x6_16)))) ∧ ((gA S (16 + x6_7.toNatClampNeg) (1 : Int32).toNatClampNeg) = p1 → (vp_in x6_7 24 ∧ (vp_in (2 : Int32) 4 ∧ ((¬ (gA S (16 + x6_7.toNatClampNeg) (2 : Int32).toNatClampNeg) = p2 → (∀ x5_19 : Int32, x5_19 = (x5_6 ||| 0) → (∀ x6_20 : Int32, x6_20 = x6_7 + 1 → L_83 (x5_19, x6_20)))) ∧ ((gA S (16 + x6_7.toNatClampNeg) (2 : Int32).toNatClampNeg) = p2 → (vp_in x6_7 24 ∧ (vp_in (3 : Int32) 4 ∧ ((¬ (gA S (16 + x6_7.toNatClampNeg) (3 : Int32).toNatClampNeg) = p3 → (∀ x5_23 : Int32, x5_23 = (x5_6 ||| 0) → (∀ x6_24 : Int32, x6_24 = x6_7 + 1 → L_83 (x5_23, x6_24)))) ∧ ((gA S (16 + x6_7.toNatClampNeg) (3 : Int32).toNatClampNeg) = p3 → (∀ x5_25 : Int32, x5_25 = (x5_6 ||| 1) → (∀ x6_26 : Int32, x6_26 = x6_7 + 1 → L_83 (x5_25, x6_26)))))))))))))))))))))
def jX9_isWrong_77 (p0 : Int32) (p1 : Int32) (p2 : Int32) (p3 : Int32) (S : gS) (Post : Int32 → Prop) (y_3 : Int32) (y_4 : Int32) : Prop :=
  (∀ x5_5 : Int32, x5_5 = (y_3 ||| y_4) → ∃ n, lp (fun L x => bX9_isWrong_83 p0 p1 p2 p3 S Post L x.1 x.2) n (x5_5, 0))
def jX9_isWrong_49 (p0 : Int32) (p1 : Int32) (p2 : Int32) (p3 : Int32) (S : gS) (Post : Int32 → Prop) (y_3 : Int32) : Prop :=
  ((¬ p2 = (-1) → jX9_isWrong_77 p0 p1 p2 p3 S Post y_3 0) ∧ (p2 = (-1) → ((¬ p3 = (-1) → jX9_isWrong_77 p0 p1 p2 p3 S Post y_3 1) ∧ (p3 = (-1) → (pX9_isNonterminal p1 S (fun r_29 => ((r_29 = 0 → jX9_isWrong_77 p0 p1 p2 p3 S Post y_3 0) ∧ (¬ r_29 = 0 → jX9_isWrong_77 p0 p1 p2 p3 S Post y_3 1))))))))
def jX9_isWrong_29 (p0 : Int32) (p1 : Int32) (p2 : Int32) (p3 : Int32) (S : gS) (Post : Int32 → Prop) : Prop :=
  ((p3 = (-1) → jX9_isWrong_49 p0 p1 p2 p3 S Post 0) ∧ (¬ p3 = (-1) → (pX9_isSymbol p3 S (fun r_37 => ((¬ r_37 = 0 → jX9_isWrong_49 p0 p1 p2 p3 S Post 0) ∧ (r_37 = 0 → jX9_isWrong_49 p0 p1 p2 p3 S Post 1))))))
def pX9_isWrong (p0 : Int32) (p1 : Int32) (p2 : Int32) (p3 : Int32) (S : gS) (Post : Int32 → Prop) : Prop :=
  (pX9_isNonterminal p0 S (fun r_1 => ((r_1 = 0 → jX9_isWrong_49 p0 p1 p2 p3 S Post 1) ∧ (¬ r_1 = 0 → (pX9_isSymbol p1 S (fun r_33 => ((r_33 = 0 → jX9_isWrong_49 p0 p1 p2 p3 S Post 1) ∧ (¬ r_33 = 0 → ((p2 = (-1) → jX9_isWrong_29 p0 p1 p2 p3 S Post) ∧ (¬ p2 = (-1) → (pX9_isSymbol p2 S (fun r_41 => ((r_41 = 0 → jX9_isWrong_49 p0 p1 p2 p3 S Post 1) ∧ (¬ r_41 = 0 → jX9_isWrong_29 p0 p1 p2 p3 S Post))))))))))))))
def rX9_isWrong : Room := { frames := 3, cells := 0, slots := 0, locals := 64 }
set_option maxHeartbeats 40000000 in
set_option maxRecDepth 100000 in
theorem kX9_isWrong (l : Launch) (X : xG) (S : gS) (sz : Nat) (p0 : Int32) (p1 : Int32) (p2 : Int32) (p3 : Int32) (Post : Int32 → Prop) (hf : pX9_isWrong p0 p1 p2 p3 S Post) : xMi l yX9_isWrong (Cond.code yX9_isWrong cX9_isWrong 7 (some .boolean) :: WS) rX9_isWrong 133 X (cM X) (eM X) S sz [.ref (xa X 0), .int p0, .int p1, .int p2, .int p3] (fun r S' => Post r ∧ S = S') := by
  refine xMi.of (cc := cX9_isWrong) (maxL := 7) (own := RX9) (by decide) rfl rfl (Nat.le_of_ble_eq_true rfl) ?_
  intro p e s m args below meth c ls Q hC hQ hw hl
  obtain ⟨hx, hb, hml, hown, hts, hE, hi⟩ := id hC
  have hK := hE.1
  have hl : lv_has ls 7 [(0, .ref (xa X 0)), (1, .int p0), (2, .int p1), (3, .int p2), (4, .int p3)] := hl
  have lf_76 : (Cond.fieldLink RX9 76 "GrammarAmbiguityModel" "productions" "I").before args s = true := hts _ q_157
  have lf_18 : (Cond.fieldLink RX9 18 "GrammarAmbiguityModel" "symbols" "[[I").before args s = true := hts _ q_110
  rw [pX9_isWrong] at hf
  refine lv_aload_n hx hb dX9_isWrong_0 rfl (lv_at hl 0 rfl) ?_
  refine lv_iload_n hx hb dX9_isWrong_1 rfl (lv_at hl 1 rfl) ?_
  refine x_ci (x_rV (As := [.int p0]) (rest := []) (okM X) hC hw (kX9_isNonterminal l X S _ p0 _ hf) (cwV 1 hts (gV q_214 q_215 q_216 q_5 q_217) rfl rfl rfl (by decide +kernel) ⟨Nat.le_of_ble_eq_true rfl, Nat.le_of_ble_eq_true rfl⟩) (x_recv hK hw (k := 0) (by decide) rfl rfl) rfl hl.1 rfl (Nat.le_of_ble_eq_true rfl) dX9_isWrong_2) hw hi (fun r_1 S_2 H locs hf hw => ?_)
  obtain ⟨hf, rfl⟩ := hf
  have w_49 : ∀ (y_3 : Int32) (H : Heap) (locs : List Loc) (ls : Array Slot), jX9_isWrong_49 p0 p1 p2 p3 S Post y_3 → xH 133 X (cM X) (xA 133 X s.heap.size) s.heap S H locs → lv_has ls 7 [(0, .ref (xa X 0)), (1, .int p0), (2, .int p1), (3, .int p2), (4, .int p3)] → W p l e rX9_isWrong s m args below meth c H locs 0 0 Q (F0 m 49 ls [.int y_3]) := by
    intro y_3 H locs ls hf hw hl
    rw [jX9_isWrong_49] at hf
    refine lv_istore (lv' := [(5, .int y_3), (0, .ref (xa X 0)), (1, .int p0), (2, .int p1), (3, .int p2), (4, .int p3)]) hx hb dX9_isWrong_49 hl (by decide) rfl (fun ls hl => ?_)
    refine lv_iload hx hb dX9_isWrong_51 (lv_at hl 0 rfl) ?_
    refine lv_iload_n hx hb dX9_isWrong_53 rfl (lv_at hl 4 rfl) ?_
    refine lv_iconst (v := (-1)) hx hb dX9_isWrong_54 (by decide) ?_
    have w_77 : ∀ (y_4 : Int32) (H : Heap) (locs : List Loc) (ls : Array Slot), jX9_isWrong_77 p0 p1 p2 p3 S Post y_3 y_4 → xH 133 X (cM X) (xA 133 X s.heap.size) s.heap S H locs → lv_has ls 7 [(0, .ref (xa X 0)), (1, .int p0), (2, .int p1), (3, .int p2), (4, .int p3)] → W p l e rX9_isWrong s m args below meth c H locs 0 0 Q (F0 m 77 ls [.int y_4, .int y_3]) := by
      intro y_4 H locs ls hf hw hl
      rw [jX9_isWrong_77] at hf
      refine lv_ior hx hb dX9_isWrong_77 ?_
      refine lv_topi (fun x5_5 ex5_5 => ?_)
      replace hf := hf x5_5 ex5_5
      refine lv_istore (lv' := [(5, .int x5_5), (0, .ref (xa X 0)), (1, .int p0), (2, .int p1), (3, .int p2), (4, .int p3)]) hx hb dX9_isWrong_78 hl (by decide) rfl (fun ls hl => ?_)
      refine lv_iconst (v := 0) hx hb dX9_isWrong_80 (by decide) ?_
      refine lv_istore (lv' := [(6, .int 0), (5, .int x5_5), (0, .ref (xa X 0)), (1, .int p0), (2, .int p1), (3, .int p2), (4, .int p3)]) hx hb dX9_isWrong_81 hl (by decide) rfl (fun ls hl => ?_)
      obtain ⟨n_83, hf⟩ := hf
      have w_83 : ∀ (n : Nat) (x5_6 : Int32) (x6_7 : Int32) (H : Heap) (locs : List Loc) (ls : Array Slot), lp (fun L x => bX9_isWrong_83 p0 p1 p2 p3 S Post L x.1 x.2) n (x5_6, x6_7) → xH 133 X (cM X) (xA 133 X s.heap.size) s.heap S H locs → lv_has ls 7 [(0, .ref (xa X 0)), (1, .int p0), (2, .int p1), (3, .int p2), (4, .int p3), (5, .int x5_6), (6, .int x6_7)] → W p l e rX9_isWrong s m args below meth c H locs 0 0 Q (F0 m 83 ls []) := by
        intro n
        induction n with
        | zero => intro x5_6 x6_7 H locs ls hf; exact hf.elim
        | succ n ih_83 =>
          intro x5_6 x6_7 H locs ls hf hw hl
          replace hf : bX9_isWrong_83 p0 p1 p2 p3 S Post (lp (fun L x => bX9_isWrong_83 p0 p1 p2 p3 S Post L x.1 x.2) n) x5_6 x6_7 := hf
          generalize lp (fun L x => bX9_isWrong_83 p0 p1 p2 p3 S Post L x.1 x.2) n = L_83 at hf ih_83
          rw [bX9_isWrong_83] at hf
          refine lv_iload hx hb dX9_isWrong_83 (lv_at hl 6 rfl) ?_
          refine lv_aload_n hx hb dX9_isWrong_85 rfl (lv_at hl 0 rfl) ?_
          refine x_get (k := 0) (v := .int (gI S 4)) hx hb hts i_X9 hown hK hw (by decide) rfl rfl 4 (by decide) lf_76 (fun _ h9 => h9) rfl dX9_isWrong_86 ?_
          refine lv_icmp_ge (tgt := 161) hx hb dX9_isWrong_89 (by decide) (fun c_8 => ?_) (fun c_8 => ?_)
          · replace hf := hf.1 c_8
            refine lv_iload hx hb dX9_isWrong_161 (lv_at hl 5 rfl) ?_
            have hn9 := hf.1
            replace hf := hf.2
            exact hQ _ _ _ _ _ _ hn9 ⟨hf, rfl⟩ hw dX9_isWrong_163
          · replace hf := hf.2 c_8
            refine lv_iload hx hb dX9_isWrong_92 (lv_at hl 5 rfl) ?_
            refine lv_aload_n hx hb dX9_isWrong_94 rfl (lv_at hl 0 rfl) ?_
            refine x_get (k := 0) (v := .ref (xa X 1)) hx hb hts i_X9 hown hK hw (by decide) rfl rfl 5 (by decide) lf_18 (fun _ h9 => h9) rfl dX9_isWrong_95 ?_
            refine lv_iload hx hb dX9_isWrong_98 (lv_at hl 6 rfl) ?_
            have hb_9 := vp_lt hf.1
            refine x_ald (n := 24) (v := .ref (xa X (16 + x6_7.toNatClampNeg))) hx hb hK hw (by decide) rfl 3 rfl rfl hf.1 (rf_lt hb_9) dX9_isWrong_100 ?_
            replace hf := hf.2
            refine lv_iconst (v := 0) hx hb dX9_isWrong_101 (by decide) ?_
            refine x_ild (n := 4) hx hb hK hw (by omega) (cM_sy hb_9) rfl hf.1 dX9_isWrong_102 ?_
            replace hf := hf.2
            refine lv_iload_n hx hb dX9_isWrong_103 rfl (lv_at hl 1 rfl) ?_
            refine lv_icmp_ne (tgt := 151) hx hb dX9_isWrong_104 (by decide) (fun c_10 => ?_) (fun c_10 => ?_)
            · replace hf := hf.1 c_10
              refine lv_iconst (v := 0) hx hb dX9_isWrong_151 (by decide) ?_
              refine lv_ior hx hb dX9_isWrong_152 ?_
              refine lv_topi (fun x5_11 ex5_11 => ?_)
              replace hf := hf x5_11 ex5_11
              refine lv_istore (lv' := [(5, .int x5_11), (0, .ref (xa X 0)), (1, .int p0), (2, .int p1), (3, .int p2), (4, .int p3), (6, .int x6_7)]) hx hb dX9_isWrong_153 hl (by decide) rfl (fun ls hl => ?_)
              obtain ⟨x6_12, ex6_12⟩ : ∃ y : Int32, y = x6_7 + 1 := ⟨_, rfl⟩
              replace hf := hf x6_12 ex6_12
              refine lv_iinc (v := x6_12) (lv' := [(6, .int x6_12), (5, .int x5_11), (0, .ref (xa X 0)), (1, .int p0), (2, .int p1), (3, .int p2), (4, .int p3)]) hx hb dX9_isWrong_155 hl (k := 6) rfl (by rw [ex6_12]; rfl) (by decide) rfl (fun ls hl => ?_)
              refine lv_goto (tgt := 83) hx hb dX9_isWrong_158 (by decide) ?_
              exact ih_83 x5_11 x6_12 _ _ _ hf hw (lv_sub hl [2, 3, 4, 5, 6, 1, 0] rfl)
            · replace hf := hf.2 c_10
              refine lv_aload_n hx hb dX9_isWrong_107 rfl (lv_at hl 0 rfl) ?_
              refine x_get (k := 0) (v := .ref (xa X 1)) hx hb hts i_X9 hown hK hw (by decide) rfl rfl 5 (by decide) lf_18 (fun _ h9 => h9) rfl dX9_isWrong_108 ?_
              refine lv_iload hx hb dX9_isWrong_111 (lv_at hl 6 rfl) ?_
              have hb_13 := vp_lt hf.1
              refine x_ald (n := 24) (v := .ref (xa X (16 + x6_7.toNatClampNeg))) hx hb hK hw (by decide) rfl 3 rfl rfl hf.1 (rf_lt hb_13) dX9_isWrong_113 ?_
              replace hf := hf.2
              refine lv_iconst (v := 1) hx hb dX9_isWrong_114 (by decide) ?_
              refine x_ild (n := 4) hx hb hK hw (by omega) (cM_sy hb_13) rfl hf.1 dX9_isWrong_115 ?_
              replace hf := hf.2
              refine lv_iload_n hx hb dX9_isWrong_116 rfl (lv_at hl 2 rfl) ?_
              refine lv_icmp_ne (tgt := 151) hx hb dX9_isWrong_117 (by decide) (fun c_14 => ?_) (fun c_14 => ?_)
              · replace hf := hf.1 c_14
                refine lv_iconst (v := 0) hx hb dX9_isWrong_151 (by decide) ?_
                refine lv_ior hx hb dX9_isWrong_152 ?_
                refine lv_topi (fun x5_15 ex5_15 => ?_)
                replace hf := hf x5_15 ex5_15
                refine lv_istore (lv' := [(5, .int x5_15), (0, .ref (xa X 0)), (1, .int p0), (2, .int p1), (3, .int p2), (4, .int p3), (6, .int x6_7)]) hx hb dX9_isWrong_153 hl (by decide) rfl (fun ls hl => ?_)
                obtain ⟨x6_16, ex6_16⟩ : ∃ y : Int32, y = x6_7 + 1 := ⟨_, rfl⟩
                replace hf := hf x6_16 ex6_16
                refine lv_iinc (v := x6_16) (lv' := [(6, .int x6_16), (5, .int x5_15), (0, .ref (xa X 0)), (1, .int p0), (2, .int p1), (3, .int p2), (4, .int p3)]) hx hb dX9_isWrong_155 hl (k := 6) rfl (by rw [ex6_16]; rfl) (by decide) rfl (fun ls hl => ?_)
                refine lv_goto (tgt := 83) hx hb dX9_isWrong_158 (by decide) ?_
                exact ih_83 x5_15 x6_16 _ _ _ hf hw (lv_sub hl [2, 3, 4, 5, 6, 1, 0] rfl)
              · replace hf := hf.2 c_14
                refine lv_aload_n hx hb dX9_isWrong_120 rfl (lv_at hl 0 rfl) ?_
                refine x_get (k := 0) (v := .ref (xa X 1)) hx hb hts i_X9 hown hK hw (by decide) rfl rfl 5 (by decide) lf_18 (fun _ h9 => h9) rfl dX9_isWrong_121 ?_
                refine lv_iload hx hb dX9_isWrong_124 (lv_at hl 6 rfl) ?_
                have hb_17 := vp_lt hf.1
                refine x_ald (n := 24) (v := .ref (xa X (16 + x6_7.toNatClampNeg))) hx hb hK hw (by decide) rfl 3 rfl rfl hf.1 (rf_lt hb_17) dX9_isWrong_126 ?_
                replace hf := hf.2
                refine lv_iconst (v := 2) hx hb dX9_isWrong_127 (by decide) ?_
                refine x_ild (n := 4) hx hb hK hw (by omega) (cM_sy hb_17) rfl hf.1 dX9_isWrong_128 ?_
                replace hf := hf.2
                refine lv_iload_n hx hb dX9_isWrong_129 rfl (lv_at hl 3 rfl) ?_
                refine lv_icmp_ne (tgt := 151) hx hb dX9_isWrong_130 (by decide) (fun c_18 => ?_) (fun c_18 => ?_)
                · replace hf := hf.1 c_18
                  refine lv_iconst (v := 0) hx hb dX9_isWrong_151 (by decide) ?_
                  refine lv_ior hx hb dX9_isWrong_152 ?_
                  refine lv_topi (fun x5_19 ex5_19 => ?_)
                  replace hf := hf x5_19 ex5_19
                  refine lv_istore (lv' := [(5, .int x5_19), (0, .ref (xa X 0)), (1, .int p0), (2, .int p1), (3, .int p2), (4, .int p3), (6, .int x6_7)]) hx hb dX9_isWrong_153 hl (by decide) rfl (fun ls hl => ?_)
                  obtain ⟨x6_20, ex6_20⟩ : ∃ y : Int32, y = x6_7 + 1 := ⟨_, rfl⟩
                  replace hf := hf x6_20 ex6_20
                  refine lv_iinc (v := x6_20) (lv' := [(6, .int x6_20), (5, .int x5_19), (0, .ref (xa X 0)), (1, .int p0), (2, .int p1), (3, .int p2), (4, .int p3)]) hx hb dX9_isWrong_155 hl (k := 6) rfl (by rw [ex6_20]; rfl) (by decide) rfl (fun ls hl => ?_)
                  refine lv_goto (tgt := 83) hx hb dX9_isWrong_158 (by decide) ?_
                  exact ih_83 x5_19 x6_20 _ _ _ hf hw (lv_sub hl [2, 3, 4, 5, 6, 1, 0] rfl)
                · replace hf := hf.2 c_18
                  refine lv_aload_n hx hb dX9_isWrong_133 rfl (lv_at hl 0 rfl) ?_
                  refine x_get (k := 0) (v := .ref (xa X 1)) hx hb hts i_X9 hown hK hw (by decide) rfl rfl 5 (by decide) lf_18 (fun _ h9 => h9) rfl dX9_isWrong_134 ?_
                  refine lv_iload hx hb dX9_isWrong_137 (lv_at hl 6 rfl) ?_
                  have hb_21 := vp_lt hf.1
                  refine x_ald (n := 24) (v := .ref (xa X (16 + x6_7.toNatClampNeg))) hx hb hK hw (by decide) rfl 3 rfl rfl hf.1 (rf_lt hb_21) dX9_isWrong_139 ?_
                  replace hf := hf.2
                  refine lv_iconst (v := 3) hx hb dX9_isWrong_140 (by decide) ?_
                  refine x_ild (n := 4) hx hb hK hw (by omega) (cM_sy hb_21) rfl hf.1 dX9_isWrong_141 ?_
                  replace hf := hf.2
                  refine lv_iload hx hb dX9_isWrong_142 (lv_at hl 4 rfl) ?_
                  refine lv_icmp_ne (tgt := 151) hx hb dX9_isWrong_144 (by decide) (fun c_22 => ?_) (fun c_22 => ?_)
                  · replace hf := hf.1 c_22
                    refine lv_iconst (v := 0) hx hb dX9_isWrong_151 (by decide) ?_
                    refine lv_ior hx hb dX9_isWrong_152 ?_
                    refine lv_topi (fun x5_23 ex5_23 => ?_)
                    replace hf := hf x5_23 ex5_23
                    refine lv_istore (lv' := [(5, .int x5_23), (0, .ref (xa X 0)), (1, .int p0), (2, .int p1), (3, .int p2), (4, .int p3), (6, .int x6_7)]) hx hb dX9_isWrong_153 hl (by decide) rfl (fun ls hl => ?_)
                    obtain ⟨x6_24, ex6_24⟩ : ∃ y : Int32, y = x6_7 + 1 := ⟨_, rfl⟩
                    replace hf := hf x6_24 ex6_24
                    refine lv_iinc (v := x6_24) (lv' := [(6, .int x6_24), (5, .int x5_23), (0, .ref (xa X 0)), (1, .int p0), (2, .int p1), (3, .int p2), (4, .int p3)]) hx hb dX9_isWrong_155 hl (k := 6) rfl (by rw [ex6_24]; rfl) (by decide) rfl (fun ls hl => ?_)
                    refine lv_goto (tgt := 83) hx hb dX9_isWrong_158 (by decide) ?_
                    exact ih_83 x5_23 x6_24 _ _ _ hf hw (lv_sub hl [2, 3, 4, 5, 6, 1, 0] rfl)
                  · replace hf := hf.2 c_22
                    refine lv_iconst (v := 1) hx hb dX9_isWrong_147 (by decide) ?_
                    refine lv_goto (tgt := 152) hx hb dX9_isWrong_148 (by decide) ?_
                    refine lv_ior hx hb dX9_isWrong_152 ?_
                    refine lv_topi (fun x5_25 ex5_25 => ?_)
                    replace hf := hf x5_25 ex5_25
                    refine lv_istore (lv' := [(5, .int x5_25), (0, .ref (xa X 0)), (1, .int p0), (2, .int p1), (3, .int p2), (4, .int p3), (6, .int x6_7)]) hx hb dX9_isWrong_153 hl (by decide) rfl (fun ls hl => ?_)
                    obtain ⟨x6_26, ex6_26⟩ : ∃ y : Int32, y = x6_7 + 1 := ⟨_, rfl⟩
                    replace hf := hf x6_26 ex6_26
                    refine lv_iinc (v := x6_26) (lv' := [(6, .int x6_26), (5, .int x5_25), (0, .ref (xa X 0)), (1, .int p0), (2, .int p1), (3, .int p2), (4, .int p3)]) hx hb dX9_isWrong_155 hl (k := 6) rfl (by rw [ex6_26]; rfl) (by decide) rfl (fun ls hl => ?_)
                    refine lv_goto (tgt := 83) hx hb dX9_isWrong_158 (by decide) ?_
                    exact ih_83 x5_25 x6_26 _ _ _ hf hw (lv_sub hl [2, 3, 4, 5, 6, 1, 0] rfl)
      exact w_83 n_83 x5_5 0 _ _ _ hf hw (lv_sub hl [2, 3, 4, 5, 6, 1, 0] rfl)
    refine lv_icmp_ne (tgt := 76) hx hb dX9_isWrong_55 (by decide) (fun c_27 => ?_) (fun c_27 => ?_)
    · replace hf := hf.1 c_27
      refine lv_iconst (v := 0) hx hb dX9_isWrong_76 (by decide) ?_
      exact w_77 0 _ _ _ hf hw (lv_sub hl [1, 2, 3, 4, 5] rfl)
    · replace hf := hf.2 c_27
      refine lv_iload hx hb dX9_isWrong_58 (lv_at hl 5 rfl) ?_
      refine lv_iconst (v := (-1)) hx hb dX9_isWrong_60 (by decide) ?_
      refine lv_icmp_ne (tgt := 72) hx hb dX9_isWrong_61 (by decide) (fun c_28 => ?_) (fun c_28 => ?_)
      · replace hf := hf.1 c_28
        refine lv_iconst (v := 1) hx hb dX9_isWrong_72 (by decide) ?_
        refine lv_goto (tgt := 77) hx hb dX9_isWrong_73 (by decide) ?_
        exact w_77 1 _ _ _ hf hw (lv_sub hl [1, 2, 3, 4, 5] rfl)
      · replace hf := hf.2 c_28
        refine lv_aload_n hx hb dX9_isWrong_64 rfl (lv_at hl 1 rfl) ?_
        refine lv_iload_n hx hb dX9_isWrong_65 rfl (lv_at hl 3 rfl) ?_
        refine x_ci (x_rV (As := [.int p1]) (rest := [.int y_3]) (okM X) hC hw (kX9_isNonterminal l X S _ p1 _ hf) (cwV 1 hts (gV q_214 q_215 q_216 q_5 q_217) rfl rfl rfl (by decide +kernel) ⟨Nat.le_of_ble_eq_true rfl, Nat.le_of_ble_eq_true rfl⟩) (x_recv hK hw (k := 0) (by decide) rfl rfl) rfl hl.1 rfl (Nat.le_of_ble_eq_true rfl) dX9_isWrong_66) hw hi (fun r_29 S_30 H locs hf hw => ?_)
        obtain ⟨hf, rfl⟩ := hf
        refine lv_if_eq (tgt := 76) hx hb dX9_isWrong_69 (by decide) (fun c_31 => ?_) (fun c_31 => ?_)
        · replace hf := hf.1 c_31
          refine lv_iconst (v := 0) hx hb dX9_isWrong_76 (by decide) ?_
          exact w_77 0 _ _ _ hf hw (lv_sub hl [1, 2, 3, 4, 5] rfl)
        · replace hf := hf.2 c_31
          refine lv_iconst (v := 1) hx hb dX9_isWrong_72 (by decide) ?_
          refine lv_goto (tgt := 77) hx hb dX9_isWrong_73 (by decide) ?_
          exact w_77 1 _ _ _ hf hw (lv_sub hl [1, 2, 3, 4, 5] rfl)
  refine lv_if_eq (tgt := 44) hx hb dX9_isWrong_5 (by decide) (fun c_32 => ?_) (fun c_32 => ?_)
  · replace hf := hf.1 c_32
    refine lv_iconst (v := 1) hx hb dX9_isWrong_44 (by decide) ?_
    refine lv_goto (tgt := 49) hx hb dX9_isWrong_45 (by decide) ?_
    exact w_49 1 _ _ _ hf hw (lv_sub hl [0, 1, 2, 3, 4] rfl)
  · replace hf := hf.2 c_32
    refine lv_aload_n hx hb dX9_isWrong_8 rfl (lv_at hl 0 rfl) ?_
    refine lv_iload_n hx hb dX9_isWrong_9 rfl (lv_at hl 2 rfl) ?_
    refine x_ci (x_rV (As := [.int p1]) (rest := []) (okM X) hC hw (kX9_isSymbol l X S _ p1 _ hf) (cwV 1 hts (gV q_218 q_219 q_220 q_5 q_221) rfl rfl rfl (by decide +kernel) ⟨Nat.le_of_ble_eq_true rfl, Nat.le_of_ble_eq_true rfl⟩) (x_recv hK hw (k := 0) (by decide) rfl rfl) rfl hl.1 rfl (Nat.le_of_ble_eq_true rfl) dX9_isWrong_10) hw hi (fun r_33 S_34 H locs hf hw => ?_)
    obtain ⟨hf, rfl⟩ := hf
    refine lv_if_eq (tgt := 44) hx hb dX9_isWrong_13 (by decide) (fun c_35 => ?_) (fun c_35 => ?_)
    · replace hf := hf.1 c_35
      refine lv_iconst (v := 1) hx hb dX9_isWrong_44 (by decide) ?_
      refine lv_goto (tgt := 49) hx hb dX9_isWrong_45 (by decide) ?_
      exact w_49 1 _ _ _ hf hw (lv_sub hl [0, 1, 2, 3, 4] rfl)
    · replace hf := hf.2 c_35
      refine lv_iload_n hx hb dX9_isWrong_16 rfl (lv_at hl 3 rfl) ?_
      refine lv_iconst (v := (-1)) hx hb dX9_isWrong_17 (by decide) ?_
      have w_29 : ∀ (H : Heap) (locs : List Loc) (ls : Array Slot), jX9_isWrong_29 p0 p1 p2 p3 S Post → xH 133 X (cM X) (xA 133 X s.heap.size) s.heap S H locs → lv_has ls 7 [(0, .ref (xa X 0)), (1, .int p0), (2, .int p1), (3, .int p2), (4, .int p3)] → W p l e rX9_isWrong s m args below meth c H locs 0 0 Q (F0 m 29 ls []) := by
        intro H locs ls hf hw hl
        rw [jX9_isWrong_29] at hf
        refine lv_iload hx hb dX9_isWrong_29 (lv_at hl 4 rfl) ?_
        refine lv_iconst (v := (-1)) hx hb dX9_isWrong_31 (by decide) ?_
        refine lv_icmp_eq (tgt := 48) hx hb dX9_isWrong_32 (by decide) (fun c_36 => ?_) (fun c_36 => ?_)
        · replace hf := hf.1 c_36
          refine lv_iconst (v := 0) hx hb dX9_isWrong_48 (by decide) ?_
          exact w_49 0 _ _ _ hf hw (lv_sub hl [0, 1, 2, 3, 4] rfl)
        · replace hf := hf.2 c_36
          refine lv_aload_n hx hb dX9_isWrong_35 rfl (lv_at hl 0 rfl) ?_
          refine lv_iload hx hb dX9_isWrong_36 (lv_at hl 4 rfl) ?_
          refine x_ci (x_rV (As := [.int p3]) (rest := []) (okM X) hC hw (kX9_isSymbol l X S _ p3 _ hf) (cwV 1 hts (gV q_218 q_219 q_220 q_5 q_221) rfl rfl rfl (by decide +kernel) ⟨Nat.le_of_ble_eq_true rfl, Nat.le_of_ble_eq_true rfl⟩) (x_recv hK hw (k := 0) (by decide) rfl rfl) rfl hl.1 rfl (Nat.le_of_ble_eq_true rfl) dX9_isWrong_38) hw hi (fun r_37 S_38 H locs hf hw => ?_)
          obtain ⟨hf, rfl⟩ := hf
          refine lv_if_ne (tgt := 48) hx hb dX9_isWrong_41 (by decide) (fun c_39 => ?_) (fun c_39 => ?_)
          · replace hf := hf.1 c_39
            refine lv_iconst (v := 0) hx hb dX9_isWrong_48 (by decide) ?_
            exact w_49 0 _ _ _ hf hw (lv_sub hl [0, 1, 2, 3, 4] rfl)
          · replace hf := hf.2 c_39
            refine lv_iconst (v := 1) hx hb dX9_isWrong_44 (by decide) ?_
            refine lv_goto (tgt := 49) hx hb dX9_isWrong_45 (by decide) ?_
            exact w_49 1 _ _ _ hf hw (lv_sub hl [0, 1, 2, 3, 4] rfl)
      refine lv_icmp_eq (tgt := 29) hx hb dX9_isWrong_18 (by decide) (fun c_40 => ?_) (fun c_40 => ?_)
      · replace hf := hf.1 c_40
        exact w_29  _ _ _ hf hw (lv_sub hl [0, 1, 2, 3, 4] rfl)
      · replace hf := hf.2 c_40
        refine lv_aload_n hx hb dX9_isWrong_21 rfl (lv_at hl 0 rfl) ?_
        refine lv_iload_n hx hb dX9_isWrong_22 rfl (lv_at hl 3 rfl) ?_
        refine x_ci (x_rV (As := [.int p2]) (rest := []) (okM X) hC hw (kX9_isSymbol l X S _ p2 _ hf) (cwV 1 hts (gV q_218 q_219 q_220 q_5 q_221) rfl rfl rfl (by decide +kernel) ⟨Nat.le_of_ble_eq_true rfl, Nat.le_of_ble_eq_true rfl⟩) (x_recv hK hw (k := 0) (by decide) rfl rfl) rfl hl.1 rfl (Nat.le_of_ble_eq_true rfl) dX9_isWrong_23) hw hi (fun r_41 S_42 H locs hf hw => ?_)
        obtain ⟨hf, rfl⟩ := hf
        refine lv_if_eq (tgt := 44) hx hb dX9_isWrong_26 (by decide) (fun c_43 => ?_) (fun c_43 => ?_)
        · replace hf := hf.1 c_43
          refine lv_iconst (v := 1) hx hb dX9_isWrong_44 (by decide) ?_
          refine lv_goto (tgt := 49) hx hb dX9_isWrong_45 (by decide) ?_
          exact w_49 1 _ _ _ hf hw (lv_sub hl [0, 1, 2, 3, 4] rfl)
        · replace hf := hf.2 c_43
          exact w_29  _ _ _ hf hw (lv_sub hl [0, 1, 2, 3, 4] rfl)
def jX9_addProduction_33 (p0 : Int32) (p1 : Int32) (p2 : Int32) (p3 : Int32) (Post : Int32 → gS → Prop) (S_4 : gS) (y_6 : Int32) : Prop :=
  (pX9_fails 2 y_6 S_4 (fun r_7 S_8 => ((r_7 = 0 → (vp_in (gI S_8 4) 24 ∧ (vp_in (0 : Int32) 4 ∧ (∀ S_11 : gS, S_11 = uA S_8 (16 + (gI S_8 4).toNatClampNeg) (0 : Int32).toNatClampNeg p0 → (vp_in (gI S_11 4) 24 ∧ (vp_in (1 : Int32) 4 ∧ (∀ S_13 : gS, S_13 = uA S_11 (16 + (gI S_11 4).toNatClampNeg) (1 : Int32).toNatClampNeg p1 → (vp_in (gI S_13 4) 24 ∧ (vp_in (2 : Int32) 4 ∧ (∀ S_15 : gS, S_15 = uA S_13 (16 + (gI S_13 4).toNatClampNeg) (2 : Int32).toNatClampNeg p2 → (vp_in (gI S_15 4) 24 ∧ (vp_in (3 : Int32) 4 ∧ (∀ S_17 : gS, S_17 = uA S_15 (16 + (gI S_15 4).toNatClampNeg) (3 : Int32).toNatClampNeg p3 → (∀ S_18 : gS, S_18 = uI S_17 4 ((gI S_17 4) + 1) → (∀ S_19 : gS, S_19 = uI S_18 6 0 → Post ((gI S_19 4) - 1) S_19))))))))))))))) ∧ (¬ r_7 = 0 → Post 0 S_8))))
def pX9_addProduction (p0 : Int32) (p1 : Int32) (p2 : Int32) (p3 : Int32) (S : gS) (Post : Int32 → gS → Prop) : Prop :=
  (pX9_isWrong p0 p1 p2 p3 S (fun r_1 => (pX9_fails 1 r_1 S (fun r_3 S_4 => ((¬ r_3 = 0 → Post 0 S_4) ∧ (r_3 = 0 → ((¬ (gI S_4 4) = 24 → jX9_addProduction_33 p0 p1 p2 p3 Post S_4 0) ∧ ((gI S_4 4) = 24 → jX9_addProduction_33 p0 p1 p2 p3 Post S_4 1))))))))
def rX9_addProduction : Room := { frames := 4, cells := 0, slots := 0, locals := 90 }
set_option maxHeartbeats 40000000 in
set_option maxRecDepth 100000 in
theorem kX9_addProduction (l : Launch) (X : xG) (S : gS) (sz : Nat) (p0 : Int32) (p1 : Int32) (p2 : Int32) (p3 : Int32) (Post : Int32 → gS → Prop) (hf : pX9_addProduction p0 p1 p2 p3 S Post) : xMi l yX9_addProduction (Cond.code yX9_addProduction cX9_addProduction 5 (some .int) :: WS) rX9_addProduction 133 X (cM X) (eM X) S sz [.ref (xa X 0), .int p0, .int p1, .int p2, .int p3] Post := by
  refine xMi.of (cc := cX9_addProduction) (maxL := 5) (own := RX9) (by decide) rfl rfl (Nat.le_of_ble_eq_true rfl) ?_
  intro p e s m args below meth c ls Q hC hQ hw hl
  obtain ⟨hx, hb, hml, hown, hts, hE, hi⟩ := id hC
  have hK := hE.1
  have hl : lv_has ls 5 [(0, .ref (xa X 0)), (1, .int p0), (2, .int p1), (3, .int p2), (4, .int p3)] := hl
  have lf_76 : (Cond.fieldLink RX9 76 "GrammarAmbiguityModel" "productions" "I").before args s = true := hts _ q_157
  have lf_18 : (Cond.fieldLink RX9 18 "GrammarAmbiguityModel" "symbols" "[[I").before args s = true := hts _ q_110
  have lf_89 : (Cond.fieldLink RX9 89 "GrammarAmbiguityModel" "nodes" "I").before args s = true := hts _ q_159
  rw [pX9_addProduction] at hf
  refine lv_aload_n hx hb dX9_addProduction_0 rfl (lv_at hl 0 rfl) ?_
  refine lv_iconst (v := 1) hx hb dX9_addProduction_1 (by decide) ?_
  refine lv_aload_n hx hb dX9_addProduction_2 rfl (lv_at hl 0 rfl) ?_
  refine lv_iload_n hx hb dX9_addProduction_3 rfl (lv_at hl 1 rfl) ?_
  refine lv_iload_n hx hb dX9_addProduction_4 rfl (lv_at hl 2 rfl) ?_
  refine lv_iload_n hx hb dX9_addProduction_5 rfl (lv_at hl 3 rfl) ?_
  refine lv_iload hx hb dX9_addProduction_6 (lv_at hl 4 rfl) ?_
  refine x_ci (x_rV (As := [.int p0, .int p1, .int p2, .int p3]) (rest := [.int 1, .ref (xa X 0)]) (okM X) hC hw (kX9_isWrong l X S _ p0 p1 p2 p3 _ hf) (cwV 4 hts (gV q_210 q_211 q_212 q_5 q_213) rfl rfl rfl (by decide +kernel) ⟨Nat.le_of_ble_eq_true rfl, Nat.le_of_ble_eq_true rfl⟩) (x_recv hK hw (k := 0) (by decide) rfl rfl) rfl hl.1 rfl (Nat.le_of_ble_eq_true rfl) dX9_addProduction_8) hw hi (fun r_1 S_2 H locs hf hw => ?_)
  obtain ⟨hf, rfl⟩ := hf
  refine x_ci (x_rV (As := [.int 1, .int r_1]) (rest := []) (okM X) hC hw (kX9_fails l X S _ 1 r_1 _ hf) (cwV 2 hts (gV q_163 q_164 q_165 q_5 q_166) rfl rfl rfl (by decide +kernel) ⟨Nat.le_of_ble_eq_true rfl, Nat.le_of_ble_eq_true rfl⟩) (x_recv hK hw (k := 0) (by decide) rfl rfl) rfl hl.1 rfl (Nat.le_of_ble_eq_true rfl) dX9_addProduction_11) hw hi (fun r_3 S_4 H locs hf hw => ?_)
  refine lv_if_ne (tgt := 39) hx hb dX9_addProduction_14 (by decide) (fun c_5 => ?_) (fun c_5 => ?_)
  · replace hf := hf.1 c_5
    refine lv_iconst (v := 0) hx hb dX9_addProduction_39 (by decide) ?_
    exact hQ _ _ _ _ _ _ rfl hf hw dX9_addProduction_40
  · replace hf := hf.2 c_5
    refine lv_aload_n hx hb dX9_addProduction_17 rfl (lv_at hl 0 rfl) ?_
    refine lv_iconst (v := 2) hx hb dX9_addProduction_18 (by decide) ?_
    refine lv_aload_n hx hb dX9_addProduction_19 rfl (lv_at hl 0 rfl) ?_
    refine x_get (k := 0) (v := .int (gI S_4 4)) hx hb hts i_X9 hown hK hw (by decide) rfl rfl 4 (by decide) lf_76 (fun _ h9 => h9) rfl dX9_addProduction_20 ?_
    refine lv_bipush (v := 24) hx hb dX9_addProduction_23 (by decide) ?_
    have w_33 : ∀ (y_6 : Int32) (H : Heap) (locs : List Loc) (ls : Array Slot), jX9_addProduction_33 p0 p1 p2 p3 Post S_4 y_6 → xH 133 X (cM X) (xA 133 X s.heap.size) s.heap S_4 H locs → lv_has ls 5 [(0, .ref (xa X 0)), (1, .int p0), (2, .int p1), (3, .int p2), (4, .int p3)] → W p l e rX9_addProduction s m args below meth c H locs 0 0 Q (F0 m 33 ls [.int y_6, .int 2, .ref (xa X 0)]) := by
      intro y_6 H locs ls hf hw hl
      rw [jX9_addProduction_33] at hf
      refine x_ci (x_rV (As := [.int 2, .int y_6]) (rest := []) (okM X) hC hw (kX9_fails l X S_4 _ 2 y_6 _ hf) (cwV 2 hts (gV q_163 q_164 q_165 q_5 q_166) rfl rfl rfl (by decide +kernel) ⟨Nat.le_of_ble_eq_true rfl, Nat.le_of_ble_eq_true rfl⟩) (x_recv hK hw (k := 0) (by decide) rfl rfl) rfl hl.1 rfl (Nat.le_of_ble_eq_true rfl) dX9_addProduction_33) hw hi (fun r_7 S_8 H locs hf hw => ?_)
      refine lv_if_eq (tgt := 41) hx hb dX9_addProduction_36 (by decide) (fun c_9 => ?_) (fun c_9 => ?_)
      · replace hf := hf.1 c_9
        refine lv_aload_n hx hb dX9_addProduction_41 rfl (lv_at hl 0 rfl) ?_
        refine x_get (k := 0) (v := .ref (xa X 1)) hx hb hts i_X9 hown hK hw (by decide) rfl rfl 5 (by decide) lf_18 (fun _ h9 => h9) rfl dX9_addProduction_42 ?_
        refine lv_aload_n hx hb dX9_addProduction_45 rfl (lv_at hl 0 rfl) ?_
        refine x_get (k := 0) (v := .int (gI S_8 4)) hx hb hts i_X9 hown hK hw (by decide) rfl rfl 4 (by decide) lf_76 (fun _ h9 => h9) rfl dX9_addProduction_46 ?_
        have hb_10 := vp_lt hf.1
        refine x_ald (n := 24) (v := .ref (xa X (16 + (gI S_8 4).toNatClampNeg))) hx hb hK hw (by decide) rfl 3 rfl rfl hf.1 (rf_lt hb_10) dX9_addProduction_49 ?_
        replace hf := hf.2
        refine lv_iconst (v := 0) hx hb dX9_addProduction_50 (by decide) ?_
        refine lv_iload_n hx hb dX9_addProduction_51 rfl (lv_at hl 1 rfl) ?_
        refine x_ist (n := 4) hx hb hK hw (by omega) (cM_sy hb_10) rfl hf.1 dX9_addProduction_52 (uM_rI (by omega) (fun _ => cM_sy hb_10) _ _) (fun H locs hw => ?_)
        replace hf := hf.2
        obtain ⟨S_11, eS_11⟩ : ∃ z : gS, z = uA S_8 (16 + (gI S_8 4).toNatClampNeg) (0 : Int32).toNatClampNeg p0 := ⟨_, rfl⟩
        rw [← eS_11] at hw
        replace hf := hf S_11 eS_11
        refine lv_aload_n hx hb dX9_addProduction_53 rfl (lv_at hl 0 rfl) ?_
        refine x_get (k := 0) (v := .ref (xa X 1)) hx hb hts i_X9 hown hK hw (by decide) rfl rfl 5 (by decide) lf_18 (fun _ h9 => h9) rfl dX9_addProduction_54 ?_
        refine lv_aload_n hx hb dX9_addProduction_57 rfl (lv_at hl 0 rfl) ?_
        refine x_get (k := 0) (v := .int (gI S_11 4)) hx hb hts i_X9 hown hK hw (by decide) rfl rfl 4 (by decide) lf_76 (fun _ h9 => h9) rfl dX9_addProduction_58 ?_
        have hb_12 := vp_lt hf.1
        refine x_ald (n := 24) (v := .ref (xa X (16 + (gI S_11 4).toNatClampNeg))) hx hb hK hw (by decide) rfl 3 rfl rfl hf.1 (rf_lt hb_12) dX9_addProduction_61 ?_
        replace hf := hf.2
        refine lv_iconst (v := 1) hx hb dX9_addProduction_62 (by decide) ?_
        refine lv_iload_n hx hb dX9_addProduction_63 rfl (lv_at hl 2 rfl) ?_
        refine x_ist (n := 4) hx hb hK hw (by omega) (cM_sy hb_12) rfl hf.1 dX9_addProduction_64 (uM_rI (by omega) (fun _ => cM_sy hb_12) _ _) (fun H locs hw => ?_)
        replace hf := hf.2
        obtain ⟨S_13, eS_13⟩ : ∃ z : gS, z = uA S_11 (16 + (gI S_11 4).toNatClampNeg) (1 : Int32).toNatClampNeg p1 := ⟨_, rfl⟩
        rw [← eS_13] at hw
        replace hf := hf S_13 eS_13
        refine lv_aload_n hx hb dX9_addProduction_65 rfl (lv_at hl 0 rfl) ?_
        refine x_get (k := 0) (v := .ref (xa X 1)) hx hb hts i_X9 hown hK hw (by decide) rfl rfl 5 (by decide) lf_18 (fun _ h9 => h9) rfl dX9_addProduction_66 ?_
        refine lv_aload_n hx hb dX9_addProduction_69 rfl (lv_at hl 0 rfl) ?_
        refine x_get (k := 0) (v := .int (gI S_13 4)) hx hb hts i_X9 hown hK hw (by decide) rfl rfl 4 (by decide) lf_76 (fun _ h9 => h9) rfl dX9_addProduction_70 ?_
        have hb_14 := vp_lt hf.1
        refine x_ald (n := 24) (v := .ref (xa X (16 + (gI S_13 4).toNatClampNeg))) hx hb hK hw (by decide) rfl 3 rfl rfl hf.1 (rf_lt hb_14) dX9_addProduction_73 ?_
        replace hf := hf.2
        refine lv_iconst (v := 2) hx hb dX9_addProduction_74 (by decide) ?_
        refine lv_iload_n hx hb dX9_addProduction_75 rfl (lv_at hl 3 rfl) ?_
        refine x_ist (n := 4) hx hb hK hw (by omega) (cM_sy hb_14) rfl hf.1 dX9_addProduction_76 (uM_rI (by omega) (fun _ => cM_sy hb_14) _ _) (fun H locs hw => ?_)
        replace hf := hf.2
        obtain ⟨S_15, eS_15⟩ : ∃ z : gS, z = uA S_13 (16 + (gI S_13 4).toNatClampNeg) (2 : Int32).toNatClampNeg p2 := ⟨_, rfl⟩
        rw [← eS_15] at hw
        replace hf := hf S_15 eS_15
        refine lv_aload_n hx hb dX9_addProduction_77 rfl (lv_at hl 0 rfl) ?_
        refine x_get (k := 0) (v := .ref (xa X 1)) hx hb hts i_X9 hown hK hw (by decide) rfl rfl 5 (by decide) lf_18 (fun _ h9 => h9) rfl dX9_addProduction_78 ?_
        refine lv_aload_n hx hb dX9_addProduction_81 rfl (lv_at hl 0 rfl) ?_
        refine x_get (k := 0) (v := .int (gI S_15 4)) hx hb hts i_X9 hown hK hw (by decide) rfl rfl 4 (by decide) lf_76 (fun _ h9 => h9) rfl dX9_addProduction_82 ?_
        have hb_16 := vp_lt hf.1
        refine x_ald (n := 24) (v := .ref (xa X (16 + (gI S_15 4).toNatClampNeg))) hx hb hK hw (by decide) rfl 3 rfl rfl hf.1 (rf_lt hb_16) dX9_addProduction_85 ?_
        replace hf := hf.2
        refine lv_iconst (v := 3) hx hb dX9_addProduction_86 (by decide) ?_
        refine lv_iload hx hb dX9_addProduction_87 (lv_at hl 4 rfl) ?_
        refine x_ist (n := 4) hx hb hK hw (by omega) (cM_sy hb_16) rfl hf.1 dX9_addProduction_89 (uM_rI (by omega) (fun _ => cM_sy hb_16) _ _) (fun H locs hw => ?_)
        replace hf := hf.2
        obtain ⟨S_17, eS_17⟩ : ∃ z : gS, z = uA S_15 (16 + (gI S_15 4).toNatClampNeg) (3 : Int32).toNatClampNeg p3 := ⟨_, rfl⟩
        rw [← eS_17] at hw
        replace hf := hf S_17 eS_17
        refine lv_aload_n hx hb dX9_addProduction_90 rfl (lv_at hl 0 rfl) ?_
        refine lv_dup hx hb dX9_addProduction_91 rfl ?_
        refine x_get (k := 0) (v := .int (gI S_17 4)) hx hb hts i_X9 hown hK hw (by decide) rfl rfl 4 (by decide) lf_76 (fun _ h9 => h9) rfl dX9_addProduction_92 ?_
        refine lv_iconst (v := 1) hx hb dX9_addProduction_95 (by decide) ?_
        refine lv_iadd hx hb dX9_addProduction_96 ?_
        refine x_put (k := 0) (S' := uI S_17 4 ((gI S_17 4) + 1)) (ty := .int) hx hb hts i_X9 tyX9_ok nmX9 hown hK hw (by decide) rfl rfl 4 (by decide) lf_76 (fun _ h9 => h9) rfl (by decide +kernel) rfl rfl (Nat.le_of_ble_eq_true rfl) dX9_addProduction_97 (uM_I4 X S_17 _) (fun H locs hw => ?_)
        obtain ⟨S_18, eS_18⟩ : ∃ z : gS, z = uI S_17 4 ((gI S_17 4) + 1) := ⟨_, rfl⟩
        rw [← eS_18] at hw
        replace hf := hf S_18 eS_18
        refine lv_aload_n hx hb dX9_addProduction_100 rfl (lv_at hl 0 rfl) ?_
        refine lv_iconst (v := 0) hx hb dX9_addProduction_101 (by decide) ?_
        refine x_put (k := 0) (S' := uI S_18 6 0) (ty := .int) hx hb hts i_X9 tyX9_ok nmX9 hown hK hw (by decide) rfl rfl 13 (by decide) lf_89 (fun _ h9 => h9) rfl (by decide +kernel) rfl rfl (Nat.le_of_ble_eq_true rfl) dX9_addProduction_102 (uM_I6 X S_18 _) (fun H locs hw => ?_)
        obtain ⟨S_19, eS_19⟩ : ∃ z : gS, z = uI S_18 6 0 := ⟨_, rfl⟩
        rw [← eS_19] at hw
        replace hf := hf S_19 eS_19
        refine lv_aload_n hx hb dX9_addProduction_105 rfl (lv_at hl 0 rfl) ?_
        refine x_get (k := 0) (v := .int (gI S_19 4)) hx hb hts i_X9 hown hK hw (by decide) rfl rfl 4 (by decide) lf_76 (fun _ h9 => h9) rfl dX9_addProduction_106 ?_
        refine lv_iconst (v := 1) hx hb dX9_addProduction_109 (by decide) ?_
        refine lv_isub hx hb dX9_addProduction_110 ?_
        exact hQ _ _ _ _ _ _ rfl hf hw dX9_addProduction_111
      · replace hf := hf.2 c_9
        refine lv_iconst (v := 0) hx hb dX9_addProduction_39 (by decide) ?_
        exact hQ _ _ _ _ _ _ rfl hf hw dX9_addProduction_40
    refine lv_icmp_ne (tgt := 32) hx hb dX9_addProduction_25 (by decide) (fun c_20 => ?_) (fun c_20 => ?_)
    · replace hf := hf.1 c_20
      refine lv_iconst (v := 0) hx hb dX9_addProduction_32 (by decide) ?_
      exact w_33 0 _ _ _ hf hw (lv_sub hl [0, 1, 2, 3, 4] rfl)
    · replace hf := hf.2 c_20
      refine lv_iconst (v := 1) hx hb dX9_addProduction_28 (by decide) ?_
      refine lv_goto (tgt := 33) hx hb dX9_addProduction_29 (by decide) ?_
      exact w_33 1 _ _ _ hf hw (lv_sub hl [0, 1, 2, 3, 4] rfl)
def bX9_remove_22 (x2_2 : Int32) (L_12 : Int32 × gS → Prop) (L_22 : Int32 × gS → Prop) (x3_5 : Int32) (S_6 : gS) : Prop :=
  ((4 ≤ x3_5 → (∀ x2_8 : Int32, x2_8 = x2_2 + 1 → L_12 (x2_8, S_6))) ∧ (¬ 4 ≤ x3_5 → (vp_in x2_2 24 ∧ (vp_in (x2_2 + 1) 24 ∧ (vp_in x3_5 4 ∧ (vp_in x3_5 4 ∧ (∀ S_11 : gS, S_11 = uA S_6 (16 + x2_2.toNatClampNeg) x3_5.toNatClampNeg (gA S_6 (16 + (x2_2 + 1).toNatClampNeg) x3_5.toNatClampNeg) → (∀ x3_12 : Int32, x3_12 = x3_5 + 1 → L_22 (x3_12, S_11)))))))))
def bX9_remove_12 (Post : gS → Prop) (L_12 : Int32 × gS → Prop) (x2_2 : Int32) (S_3 : gS) : Prop :=
  (((gI S_3 4) ≤ x2_2 → Post S_3) ∧ (¬ (gI S_3 4) ≤ x2_2 → ∃ n, lp (fun L x => bX9_remove_22 x2_2 L_12 L x.1 x.2) n (0, S_3)))
def pX9_remove (p0 : Int32) (S : gS) (Post : gS → Prop) : Prop :=
  (∀ S_1 : gS, S_1 = uI S 4 ((gI S 4) - 1) → ∃ n, lp (fun L x => bX9_remove_12 Post L x.1 x.2) n (p0, S_1))
def rX9_remove : Room := { frames := 0, cells := 0, slots := 0, locals := 0 }
set_option maxHeartbeats 40000000 in
set_option maxRecDepth 100000 in
theorem kX9_remove (l : Launch) (X : xG) (S : gS) (sz : Nat) (p0 : Int32) (Post : gS → Prop) (hf : pX9_remove p0 S Post) : xMv l yX9_remove (Cond.code yX9_remove cX9_remove 4 none :: WS) rX9_remove 133 X (cM X) (eM X) S sz [.ref (xa X 0), .int p0] Post := by
  refine xMv.of (cc := cX9_remove) (maxL := 4) (own := RX9) (by decide) rfl rfl (Nat.le_of_ble_eq_true rfl) ?_
  intro p e s m args below meth c ls Q hC hQ hw hl
  obtain ⟨hx, hb, hml, hown, hts, hE, hi⟩ := id hC
  have hK := hE.1
  have hl : lv_has ls 4 [(0, .ref (xa X 0)), (1, .int p0)] := hl
  have lf_76 : (Cond.fieldLink RX9 76 "GrammarAmbiguityModel" "productions" "I").before args s = true := hts _ q_157
  have lf_18 : (Cond.fieldLink RX9 18 "GrammarAmbiguityModel" "symbols" "[[I").before args s = true := hts _ q_110
  rw [pX9_remove] at hf
  refine lv_aload_n hx hb dX9_remove_0 rfl (lv_at hl 0 rfl) ?_
  refine lv_dup hx hb dX9_remove_1 rfl ?_
  refine x_get (k := 0) (v := .int (gI S 4)) hx hb hts i_X9 hown hK hw (by decide) rfl rfl 4 (by decide) lf_76 (fun _ h9 => h9) rfl dX9_remove_2 ?_
  refine lv_iconst (v := 1) hx hb dX9_remove_5 (by decide) ?_
  refine lv_isub hx hb dX9_remove_6 ?_
  refine x_put (k := 0) (S' := uI S 4 ((gI S 4) - 1)) (ty := .int) hx hb hts i_X9 tyX9_ok nmX9 hown hK hw (by decide) rfl rfl 4 (by decide) lf_76 (fun _ h9 => h9) rfl (by decide +kernel) rfl rfl (Nat.le_of_ble_eq_true rfl) dX9_remove_7 (uM_I4 X S _) (fun H locs hw => ?_)
  obtain ⟨S_1, eS_1⟩ : ∃ z : gS, z = uI S 4 ((gI S 4) - 1) := ⟨_, rfl⟩
  rw [← eS_1] at hw
  replace hf := hf S_1 eS_1
  refine lv_iload_n hx hb dX9_remove_10 rfl (lv_at hl 1 rfl) ?_
  refine lv_istore_n (lv' := [(2, .int p0), (0, .ref (xa X 0)), (1, .int p0)]) hx hb dX9_remove_11 rfl hl (by decide) rfl (fun ls hl => ?_)
  obtain ⟨n_12, hf⟩ := hf
  have w_12 : ∀ (n : Nat) (x2_2 : Int32) (S_3 : gS) (H : Heap) (locs : List Loc) (ls : Array Slot), lp (fun L x => bX9_remove_12 Post L x.1 x.2) n (x2_2, S_3) → xH 133 X (cM X) (xA 133 X s.heap.size) s.heap S_3 H locs → lv_has ls 4 [(0, .ref (xa X 0)), (2, .int x2_2)] → W p l e rX9_remove s m args below meth c H locs 0 0 Q (F0 m 12 ls []) := by
    intro n
    induction n with
    | zero => intro x2_2 S_3 H locs ls hf; exact hf.elim
    | succ n ih_12 =>
      intro x2_2 S_3 H locs ls hf hw hl
      replace hf : bX9_remove_12 Post (lp (fun L x => bX9_remove_12 Post L x.1 x.2) n) x2_2 S_3 := hf
      generalize lp (fun L x => bX9_remove_12 Post L x.1 x.2) n = L_12 at hf ih_12
      rw [bX9_remove_12] at hf
      refine lv_iload_n hx hb dX9_remove_12 rfl (lv_at hl 1 rfl) ?_
      refine lv_aload_n hx hb dX9_remove_13 rfl (lv_at hl 0 rfl) ?_
      refine x_get (k := 0) (v := .int (gI S_3 4)) hx hb hts i_X9 hown hK hw (by decide) rfl rfl 4 (by decide) lf_76 (fun _ h9 => h9) rfl dX9_remove_14 ?_
      refine lv_icmp_ge (tgt := 57) hx hb dX9_remove_17 (by decide) (fun c_4 => ?_) (fun c_4 => ?_)
      · replace hf := hf.1 c_4
        exact hQ _ _ _ _ _ hf hw dX9_remove_57
      · replace hf := hf.2 c_4
        refine lv_iconst (v := 0) hx hb dX9_remove_20 (by decide) ?_
        refine lv_istore_n (lv' := [(3, .int 0), (0, .ref (xa X 0)), (2, .int x2_2)]) hx hb dX9_remove_21 rfl hl (by decide) rfl (fun ls hl => ?_)
        obtain ⟨n_22, hf⟩ := hf
        have w_22 : ∀ (n : Nat) (x3_5 : Int32) (S_6 : gS) (H : Heap) (locs : List Loc) (ls : Array Slot), lp (fun L x => bX9_remove_22 x2_2 L_12 L x.1 x.2) n (x3_5, S_6) → xH 133 X (cM X) (xA 133 X s.heap.size) s.heap S_6 H locs → lv_has ls 4 [(0, .ref (xa X 0)), (2, .int x2_2), (3, .int x3_5)] → W p l e rX9_remove s m args below meth c H locs 0 0 Q (F0 m 22 ls []) := by
          intro n
          induction n with
          | zero => intro x3_5 S_6 H locs ls hf; exact hf.elim
          | succ n ih_22 =>
            intro x3_5 S_6 H locs ls hf hw hl
            replace hf : bX9_remove_22 x2_2 L_12 (lp (fun L x => bX9_remove_22 x2_2 L_12 L x.1 x.2) n) x3_5 S_6 := hf
            generalize lp (fun L x => bX9_remove_22 x2_2 L_12 L x.1 x.2) n = L_22 at hf ih_22
            rw [bX9_remove_22] at hf
            refine lv_iload_n hx hb dX9_remove_22 rfl (lv_at hl 2 rfl) ?_
            refine lv_iconst (v := 4) hx hb dX9_remove_23 (by decide) ?_
            refine lv_icmp_ge (tgt := 51) hx hb dX9_remove_24 (by decide) (fun c_7 => ?_) (fun c_7 => ?_)
            · replace hf := hf.1 c_7
              obtain ⟨x2_8, ex2_8⟩ : ∃ y : Int32, y = x2_2 + 1 := ⟨_, rfl⟩
              replace hf := hf x2_8 ex2_8
              refine lv_iinc (v := x2_8) (lv' := [(2, .int x2_8), (0, .ref (xa X 0)), (3, .int x3_5)]) hx hb dX9_remove_51 hl (k := 1) rfl (by rw [ex2_8]; rfl) (by decide) rfl (fun ls hl => ?_)
              refine lv_goto (tgt := 12) hx hb dX9_remove_54 (by decide) ?_
              exact ih_12 x2_8 S_6 _ _ _ hf hw (lv_sub hl [1, 0] rfl)
            · replace hf := hf.2 c_7
              refine lv_aload_n hx hb dX9_remove_27 rfl (lv_at hl 0 rfl) ?_
              refine x_get (k := 0) (v := .ref (xa X 1)) hx hb hts i_X9 hown hK hw (by decide) rfl rfl 5 (by decide) lf_18 (fun _ h9 => h9) rfl dX9_remove_28 ?_
              refine lv_iload_n hx hb dX9_remove_31 rfl (lv_at hl 1 rfl) ?_
              have hb_9 := vp_lt hf.1
              refine x_ald (n := 24) (v := .ref (xa X (16 + x2_2.toNatClampNeg))) hx hb hK hw (by decide) rfl 3 rfl rfl hf.1 (rf_lt hb_9) dX9_remove_32 ?_
              replace hf := hf.2
              refine lv_iload_n hx hb dX9_remove_33 rfl (lv_at hl 2 rfl) ?_
              refine lv_aload_n hx hb dX9_remove_34 rfl (lv_at hl 0 rfl) ?_
              refine x_get (k := 0) (v := .ref (xa X 1)) hx hb hts i_X9 hown hK hw (by decide) rfl rfl 5 (by decide) lf_18 (fun _ h9 => h9) rfl dX9_remove_35 ?_
              refine lv_iload_n hx hb dX9_remove_38 rfl (lv_at hl 1 rfl) ?_
              refine lv_iconst (v := 1) hx hb dX9_remove_39 (by decide) ?_
              refine lv_iadd hx hb dX9_remove_40 ?_
              have hb_10 := vp_lt hf.1
              refine x_ald (n := 24) (v := .ref (xa X (16 + (x2_2 + 1).toNatClampNeg))) hx hb hK hw (by decide) rfl 3 rfl rfl hf.1 (rf_lt hb_10) dX9_remove_41 ?_
              replace hf := hf.2
              refine lv_iload_n hx hb dX9_remove_42 rfl (lv_at hl 2 rfl) ?_
              refine x_ild (n := 4) hx hb hK hw (by omega) (cM_sy hb_10) rfl hf.1 dX9_remove_43 ?_
              replace hf := hf.2
              refine x_ist (n := 4) hx hb hK hw (by omega) (cM_sy hb_9) rfl hf.1 dX9_remove_44 (uM_rI (by omega) (fun _ => cM_sy hb_9) _ _) (fun H locs hw => ?_)
              replace hf := hf.2
              obtain ⟨S_11, eS_11⟩ : ∃ z : gS, z = uA S_6 (16 + x2_2.toNatClampNeg) x3_5.toNatClampNeg (gA S_6 (16 + (x2_2 + 1).toNatClampNeg) x3_5.toNatClampNeg) := ⟨_, rfl⟩
              rw [← eS_11] at hw
              replace hf := hf S_11 eS_11
              obtain ⟨x3_12, ex3_12⟩ : ∃ y : Int32, y = x3_5 + 1 := ⟨_, rfl⟩
              replace hf := hf x3_12 ex3_12
              refine lv_iinc (v := x3_12) (lv' := [(3, .int x3_12), (0, .ref (xa X 0)), (2, .int x2_2)]) hx hb dX9_remove_45 hl (k := 2) rfl (by rw [ex3_12]; rfl) (by decide) rfl (fun ls hl => ?_)
              refine lv_goto (tgt := 22) hx hb dX9_remove_48 (by decide) ?_
              exact ih_22 x3_12 S_11 _ _ _ hf hw (lv_sub hl [1, 2, 0] rfl)
        exact w_22 n_22 0 S_3 _ _ _ hf hw (lv_sub hl [1, 2, 0] rfl)
  exact w_12 n_12 p0 S_1 _ _ _ hf hw (lv_sub hl [1, 0] rfl)
def jX9_removeProduction_15 (p0 : Int32) (S : gS) (Post : Int32 → gS → Prop) (y_3 : Int32) : Prop :=
  (pX9_fails 1 y_3 S (fun r_4 S_5 => ((r_4 = 0 → (pX9_remove p0 S_5 (fun S_8 => (∀ S_9 : gS, S_9 = uI S_8 6 0 → Post (gI S_9 4) S_9)))) ∧ (¬ r_4 = 0 → Post 0 S_5))))
def pX9_removeProduction (p0 : Int32) (S : gS) (Post : Int32 → gS → Prop) : Prop :=
  (pX9_isProduction p0 S (fun r_1 => ((¬ r_1 = 0 → jX9_removeProduction_15 p0 S Post 0) ∧ (r_1 = 0 → jX9_removeProduction_15 p0 S Post 1))))
def rX9_removeProduction : Room := { frames := 2, cells := 0, slots := 0, locals := 43 }
set_option maxHeartbeats 40000000 in
set_option maxRecDepth 100000 in
theorem kX9_removeProduction (l : Launch) (X : xG) (S : gS) (sz : Nat) (p0 : Int32) (Post : Int32 → gS → Prop) (hf : pX9_removeProduction p0 S Post) : xMi l yX9_removeProduction (Cond.code yX9_removeProduction cX9_removeProduction 2 (some .int) :: WS) rX9_removeProduction 133 X (cM X) (eM X) S sz [.ref (xa X 0), .int p0] Post := by
  refine xMi.of (cc := cX9_removeProduction) (maxL := 2) (own := RX9) (by decide) rfl rfl (Nat.le_of_ble_eq_true rfl) ?_
  intro p e s m args below meth c ls Q hC hQ hw hl
  obtain ⟨hx, hb, hml, hown, hts, hE, hi⟩ := id hC
  have hK := hE.1
  have hl : lv_has ls 2 [(0, .ref (xa X 0)), (1, .int p0)] := hl
  have lf_89 : (Cond.fieldLink RX9 89 "GrammarAmbiguityModel" "nodes" "I").before args s = true := hts _ q_159
  have lf_76 : (Cond.fieldLink RX9 76 "GrammarAmbiguityModel" "productions" "I").before args s = true := hts _ q_157
  rw [pX9_removeProduction] at hf
  refine lv_aload_n hx hb dX9_removeProduction_0 rfl (lv_at hl 0 rfl) ?_
  refine lv_iconst (v := 1) hx hb dX9_removeProduction_1 (by decide) ?_
  refine lv_aload_n hx hb dX9_removeProduction_2 rfl (lv_at hl 0 rfl) ?_
  refine lv_iload_n hx hb dX9_removeProduction_3 rfl (lv_at hl 1 rfl) ?_
  refine x_ci (x_rV (As := [.int p0]) (rest := [.int 1, .ref (xa X 0)]) (okM X) hC hw (kX9_isProduction l X S _ p0 _ hf) (cwV 1 hts (gV q_244 q_245 q_246 q_5 q_247) rfl rfl rfl (by decide +kernel) ⟨Nat.le_of_ble_eq_true rfl, Nat.le_of_ble_eq_true rfl⟩) (x_recv hK hw (k := 0) (by decide) rfl rfl) rfl hl.1 rfl (Nat.le_of_ble_eq_true rfl) dX9_removeProduction_4) hw hi (fun r_1 S_2 H locs hf hw => ?_)
  obtain ⟨hf, rfl⟩ := hf
  have w_15 : ∀ (y_3 : Int32) (H : Heap) (locs : List Loc) (ls : Array Slot), jX9_removeProduction_15 p0 S Post y_3 → xH 133 X (cM X) (xA 133 X s.heap.size) s.heap S H locs → lv_has ls 2 [(0, .ref (xa X 0)), (1, .int p0)] → W p l e rX9_removeProduction s m args below meth c H locs 0 0 Q (F0 m 15 ls [.int y_3, .int 1, .ref (xa X 0)]) := by
    intro y_3 H locs ls hf hw hl
    rw [jX9_removeProduction_15] at hf
    refine x_ci (x_rV (As := [.int 1, .int y_3]) (rest := []) (okM X) hC hw (kX9_fails l X S _ 1 y_3 _ hf) (cwV 2 hts (gV q_163 q_164 q_165 q_5 q_166) rfl rfl rfl (by decide +kernel) ⟨Nat.le_of_ble_eq_true rfl, Nat.le_of_ble_eq_true rfl⟩) (x_recv hK hw (k := 0) (by decide) rfl rfl) rfl hl.1 rfl (Nat.le_of_ble_eq_true rfl) dX9_removeProduction_15) hw hi (fun r_4 S_5 H locs hf hw => ?_)
    refine lv_if_eq (tgt := 23) hx hb dX9_removeProduction_18 (by decide) (fun c_6 => ?_) (fun c_6 => ?_)
    · replace hf := hf.1 c_6
      refine lv_aload_n hx hb dX9_removeProduction_23 rfl (lv_at hl 0 rfl) ?_
      refine lv_iload_n hx hb dX9_removeProduction_24 rfl (lv_at hl 1 rfl) ?_
      refine x_cv (x_rV (As := [.int p0]) (rest := []) (okM X) hC hw (kX9_remove l X S_5 _ p0 _ hf) (cwV 1 hts (gV q_248 q_249 q_250 q_5 q_251) rfl rfl rfl (by decide +kernel) ⟨Nat.le_of_ble_eq_true rfl, Nat.le_of_ble_eq_true rfl⟩) (x_recv hK hw (k := 0) (by decide) rfl rfl) rfl hl.1 rfl (Nat.le_of_ble_eq_true rfl) dX9_removeProduction_25) hw hi (fun S_8 H locs hf hw => ?_)
      refine lv_aload_n hx hb dX9_removeProduction_28 rfl (lv_at hl 0 rfl) ?_
      refine lv_iconst (v := 0) hx hb dX9_removeProduction_29 (by decide) ?_
      refine x_put (k := 0) (S' := uI S_8 6 0) (ty := .int) hx hb hts i_X9 tyX9_ok nmX9 hown hK hw (by decide) rfl rfl 13 (by decide) lf_89 (fun _ h9 => h9) rfl (by decide +kernel) rfl rfl (Nat.le_of_ble_eq_true rfl) dX9_removeProduction_30 (uM_I6 X S_8 _) (fun H locs hw => ?_)
      obtain ⟨S_9, eS_9⟩ : ∃ z : gS, z = uI S_8 6 0 := ⟨_, rfl⟩
      rw [← eS_9] at hw
      replace hf := hf S_9 eS_9
      refine lv_aload_n hx hb dX9_removeProduction_33 rfl (lv_at hl 0 rfl) ?_
      refine x_get (k := 0) (v := .int (gI S_9 4)) hx hb hts i_X9 hown hK hw (by decide) rfl rfl 4 (by decide) lf_76 (fun _ h9 => h9) rfl dX9_removeProduction_34 ?_
      exact hQ _ _ _ _ _ _ rfl hf hw dX9_removeProduction_37
    · replace hf := hf.2 c_6
      refine lv_iconst (v := 0) hx hb dX9_removeProduction_21 (by decide) ?_
      exact hQ _ _ _ _ _ _ rfl hf hw dX9_removeProduction_22
  refine lv_if_ne (tgt := 14) hx hb dX9_removeProduction_7 (by decide) (fun c_10 => ?_) (fun c_10 => ?_)
  · replace hf := hf.1 c_10
    refine lv_iconst (v := 0) hx hb dX9_removeProduction_14 (by decide) ?_
    exact w_15 0 _ _ _ hf hw (lv_sub hl [0, 1] rfl)
  · replace hf := hf.2 c_10
    refine lv_iconst (v := 1) hx hb dX9_removeProduction_10 (by decide) ?_
    refine lv_goto (tgt := 15) hx hb dX9_removeProduction_11 (by decide) ?_
    exact w_15 1 _ _ _ hf hw (lv_sub hl [0, 1] rfl)
