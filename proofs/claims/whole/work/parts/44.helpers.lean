/-! The law's helpers (printed by wip/whole/gen/helper.py). -/
def pL_reset (p0 : Int32) (p1 : Int32) (S : gS) (Post : Int32 → gS → Prop) : Prop :=
  pX8_reset p0 p1 S (fun S1 => Post 0 S1) (fun E S1 => (E = "java/lang/IllegalArgumentException" ∧ Post 1 S1))
def rL_reset : Room := { frames := 7, cells := 1, slots := 6, locals := 112 }
set_option maxHeartbeats 40000000 in
set_option maxRecDepth 100000 in
theorem kL_reset (l : Launch) (hlt : l.stackTraces = false) (X : xG) (S : gS) (sz : Nat) (p0 : Int32) (p1 : Int32) (Post : Int32 → gS → Prop) (hf : pL_reset p0 p1 S Post) : uM l yL_reset (Cond.codeWith yL_reset cL_reset 4 (some .int) [(0, 6, 9, 13)] :: WS) rL_reset X S sz [.ref (xa X 0), .int p0, .int p1] Post 1 6 := by
  refine uM.of (cc := cL_reset) (maxL := 4) (by decide) rfl rfl (Nat.le_of_ble_eq_true rfl) ?_
  intro p e s m args below meth c ls Q hC htb hN hQ hw hl
  obtain ⟨hx, hb, hml, hown, hts, hE, hi⟩ := id hC
  have hK := hE.1
  have hl : lv_has ls 4 [(0, .ref (xa X 0)), (1, .int p0), (2, .int p1)] := hl
  rw [pL_reset] at hf
  refine lv_aload_n hx hb dL_reset_0 rfl (lv_at hl 0 rfl) ?_
  refine lv_iload_n hx hb dL_reset_1 rfl (lv_at hl 1 rfl) ?_
  refine lv_iload_n hx hb dL_reset_2 rfl (lv_at hl 2 rfl) ?_
  refine y_cv (y_rV (As := [.int p0, .int p1]) (rest := []) hC hw (kX8_reset l hlt X S _ p0 p1 _ _ hf) (cwV 2 hts (gV q_131 q_132 q_133 q_2 q_134) rfl rfl rfl (by decide +kernel) ⟨Nat.le_of_ble_eq_true rfl, Nat.le_of_ble_eq_true rfl⟩) (x_recv hK hw (k := 0) (by decide) rfl rfl) rfl hl.1 rfl (Nat.le_of_ble_eq_true rfl) dL_reset_3 ⟨Nat.le_of_ble_eq_true rfl, Nat.le_of_ble_eq_true rfl⟩) hw hi (fun E ce q9 S9 H locs hp hw h1 h2 h3 => ?_) (fun S1 H locs hf hw => ?_)
  · rcases hp with ⟨rfl, hf⟩
    · refine vx_catch (name := "java/lang/IllegalArgumentException") hown ([]) ⟨0, 6, 9, 13⟩ ([]) (by rw [htb]; rfl) (fun z hz => absurd hz List.not_mem_nil) (by decide) (by decide) (hts _ q_130) (va_Nw.use rfl (hE.2.1 _ (by decide +kernel))) h1 h2 h3 ?_
      refine W.eq (g2 := F0 m 9 ls [.ref q9]) rfl ?_
      refine lv_astore_n (lv' := [(3, .ref q9), (0, .ref (xa X 0)), (1, .int p0), (2, .int p1)]) hx hb dL_reset_9 rfl hl (by decide) rfl (fun ls hl => ?_)
      refine lv_iconst (v := 1) hx hb dL_reset_10 (by decide) ?_
      exact hQ _ _ _ _ _ _ _ _ hf hw dL_reset_11 (Nat.le_of_ble_eq_true rfl) (Nat.le_of_ble_eq_true rfl)
  · refine lv_goto (tgt := 12) hx hb dL_reset_6 (by decide) ?_
    refine lv_iconst (v := 0) hx hb dL_reset_12 (by decide) ?_
    exact hQ _ _ _ _ _ _ _ _ hf hw dL_reset_13 (Nat.le_of_ble_eq_true rfl) (Nat.le_of_ble_eq_true rfl)
def pL_addProduction (p0 : Int32) (p1 : Int32) (p2 : Int32) (p3 : Int32) (S : gS) (Post : Int32 → gS → Prop) : Prop :=
  pX8_addProduction p0 p1 p2 p3 S (fun r S1 => Post 0 (uB S1 32 (0 : Int32).toNatClampNeg r.toInt64)) (fun E S1 => (E = "java/lang/IllegalArgumentException" ∧ Post 1 S1) ∨ (E = "java/lang/IllegalStateException" ∧ Post 2 S1))
def rL_addProduction : Room := { frames := 7, cells := 1, slots := 6, locals := 115 }
set_option maxHeartbeats 40000000 in
set_option maxRecDepth 100000 in
theorem kL_addProduction (l : Launch) (hlt : l.stackTraces = false) (X : xG) (S : gS) (sz : Nat) (p0 : Int32) (p1 : Int32) (p2 : Int32) (p3 : Int32) (Post : Int32 → gS → Prop) (hf : pL_addProduction p0 p1 p2 p3 S Post) : uM l yL_addProduction (Cond.codeWith yL_addProduction cL_addProduction 7 (some .int) [(0, 14, 17, 13), (0, 14, 21, 19)] :: WS) rL_addProduction X S sz [.ref (xa X 0), .int p0, .int p1, .int p2, .int p3, .ref (xa X 32)] Post 1 6 := by
  refine uM.of (cc := cL_addProduction) (maxL := 7) (by decide) rfl rfl (Nat.le_of_ble_eq_true rfl) ?_
  intro p e s m args below meth c ls Q hC htb hN hQ hw hl
  obtain ⟨hx, hb, hml, hown, hts, hE, hi⟩ := id hC
  have hK := hE.1
  have hl : lv_has ls 7 [(0, .ref (xa X 0)), (1, .int p0), (2, .int p1), (3, .int p2), (4, .int p3), (5, .ref (xa X 32))] := hl
  rw [pL_addProduction] at hf
  refine lv_aload hx hb dL_addProduction_0 (lv_at hl 5 rfl) ?_
  refine lv_iconst (v := 0) hx hb dL_addProduction_2 (by decide) ?_
  refine lv_aload_n hx hb dL_addProduction_3 rfl (lv_at hl 0 rfl) ?_
  refine lv_iload_n hx hb dL_addProduction_4 rfl (lv_at hl 1 rfl) ?_
  refine lv_iload_n hx hb dL_addProduction_5 rfl (lv_at hl 2 rfl) ?_
  refine lv_iload_n hx hb dL_addProduction_6 rfl (lv_at hl 3 rfl) ?_
  refine lv_iload hx hb dL_addProduction_7 (lv_at hl 4 rfl) ?_
  refine y_ci (y_rV (As := [.int p0, .int p1, .int p2, .int p3]) (rest := [.int 0, .ref (xa X 32)]) hC hw (kX8_addProduction l hlt X S _ p0 p1 p2 p3 _ _ hf) (cwV 4 hts (gV q_175 q_176 q_177 q_2 q_178) rfl rfl rfl (by decide +kernel) ⟨Nat.le_of_ble_eq_true rfl, Nat.le_of_ble_eq_true rfl⟩) (x_recv hK hw (k := 0) (by decide) rfl rfl) rfl hl.1 rfl (Nat.le_of_ble_eq_true rfl) dL_addProduction_9 ⟨Nat.le_of_ble_eq_true rfl, Nat.le_of_ble_eq_true rfl⟩) hw hi (fun E ce q9 S9 H locs hp hw h1 h2 h3 => ?_) (fun r S1 H locs hf hw => ?_)
  · rcases hp with ⟨rfl, hf⟩ | ⟨rfl, hf⟩
    · refine vx_catch (name := "java/lang/IllegalArgumentException") hown ([]) ⟨0, 14, 17, 13⟩ (tableOf [(0, 14, 21, 19)]) (by rw [htb]; rfl) (fun z hz => absurd hz List.not_mem_nil) (by decide) (by decide) (hts _ q_130) (va_Nw.use rfl (hE.2.1 _ (by decide +kernel))) h1 h2 h3 ?_
      refine W.eq (g2 := F0 m 17 ls [.ref q9]) rfl ?_
      refine lv_astore (lv' := [(6, .ref q9), (0, .ref (xa X 0)), (1, .int p0), (2, .int p1), (3, .int p2), (4, .int p3), (5, .ref (xa X 32))]) hx hb dL_addProduction_17 hl (by decide) rfl (fun ls hl => ?_)
      refine lv_iconst (v := 1) hx hb dL_addProduction_19 (by decide) ?_
      exact hQ _ _ _ _ _ _ _ _ hf hw dL_addProduction_20 (Nat.le_of_ble_eq_true rfl) (Nat.le_of_ble_eq_true rfl)
    · refine vx_catch (name := "java/lang/IllegalStateException") hown (tableOf [(0, 14, 17, 13)]) ⟨0, 14, 21, 19⟩ ([]) (by rw [htb]; rfl) (fun z hz => by
          have hz : z = ⟨0, 14, 17, 13⟩ := by simpa [tableOf] using hz
          rcases hz with rfl
          · exact Or.inr ⟨by decide, "java/lang/IllegalArgumentException", hts _ q_130, hN ("java/lang/IllegalStateException", "java/lang/IllegalArgumentException") (by decide)⟩) (by decide) (by decide) (hts _ q_661) (va_Nw.use rfl (hE.2.1 _ (by decide +kernel))) h1 h2 h3 ?_
      refine W.eq (g2 := F0 m 21 ls [.ref q9]) rfl ?_
      refine lv_astore (lv' := [(6, .ref q9), (0, .ref (xa X 0)), (1, .int p0), (2, .int p1), (3, .int p2), (4, .int p3), (5, .ref (xa X 32))]) hx hb dL_addProduction_21 hl (by decide) rfl (fun ls hl => ?_)
      refine lv_iconst (v := 2) hx hb dL_addProduction_23 (by decide) ?_
      exact hQ _ _ _ _ _ _ _ _ hf hw dL_addProduction_24 (Nat.le_of_ble_eq_true rfl) (Nat.le_of_ble_eq_true rfl)
  · refine lv_i2l hx hb dL_addProduction_12 rfl ?_
    refine x_lst (k := 32) (n := 1) hx hb hK hw (by decide) rfl rfl (by unfold vp_in; decide +kernel) dL_addProduction_13 (uX_A32 X S1 _ _) (fun H locs hw => ?_)
    refine lv_goto (tgt := 25) hx hb dL_addProduction_14 (by decide) ?_
    refine lv_iconst (v := 0) hx hb dL_addProduction_25 (by decide) ?_
    exact hQ _ _ _ _ _ _ _ _ hf hw dL_addProduction_26 (Nat.le_of_ble_eq_true rfl) (Nat.le_of_ble_eq_true rfl)
def pL_removeProduction (p0 : Int32) (S : gS) (Post : Int32 → gS → Prop) : Prop :=
  pX8_removeProduction p0 S (fun r S1 => Post 0 (uB S1 32 (0 : Int32).toNatClampNeg r.toInt64)) (fun E S1 => (E = "java/lang/IllegalArgumentException" ∧ Post 1 S1))
def rL_removeProduction : Room := { frames := 8, cells := 1, slots := 6, locals := 132 }
set_option maxHeartbeats 40000000 in
set_option maxRecDepth 100000 in
theorem kL_removeProduction (l : Launch) (hlt : l.stackTraces = false) (X : xG) (S : gS) (sz : Nat) (p0 : Int32) (Post : Int32 → gS → Prop) (hf : pL_removeProduction p0 S Post) : uM l yL_removeProduction (Cond.codeWith yL_removeProduction cL_removeProduction 4 (some .int) [(0, 9, 12, 13)] :: WS) rL_removeProduction X S sz [.ref (xa X 0), .int p0, .ref (xa X 32)] Post 1 6 := by
  refine uM.of (cc := cL_removeProduction) (maxL := 4) (by decide) rfl rfl (Nat.le_of_ble_eq_true rfl) ?_
  intro p e s m args below meth c ls Q hC htb hN hQ hw hl
  obtain ⟨hx, hb, hml, hown, hts, hE, hi⟩ := id hC
  have hK := hE.1
  have hl : lv_has ls 4 [(0, .ref (xa X 0)), (1, .int p0), (2, .ref (xa X 32))] := hl
  rw [pL_removeProduction] at hf
  refine lv_aload_n hx hb dL_removeProduction_0 rfl (lv_at hl 2 rfl) ?_
  refine lv_iconst (v := 0) hx hb dL_removeProduction_1 (by decide) ?_
  refine lv_aload_n hx hb dL_removeProduction_2 rfl (lv_at hl 0 rfl) ?_
  refine lv_iload_n hx hb dL_removeProduction_3 rfl (lv_at hl 1 rfl) ?_
  refine y_ci (y_rV (As := [.int p0]) (rest := [.int 0, .ref (xa X 32)]) hC hw (kX8_removeProduction l hlt X S _ p0 _ _ hf) (cwV 1 hts (gV q_229 q_230 q_231 q_2 q_232) rfl rfl rfl (by decide +kernel) ⟨Nat.le_of_ble_eq_true rfl, Nat.le_of_ble_eq_true rfl⟩) (x_recv hK hw (k := 0) (by decide) rfl rfl) rfl hl.1 rfl (Nat.le_of_ble_eq_true rfl) dL_removeProduction_4 ⟨Nat.le_of_ble_eq_true rfl, Nat.le_of_ble_eq_true rfl⟩) hw hi (fun E ce q9 S9 H locs hp hw h1 h2 h3 => ?_) (fun r S1 H locs hf hw => ?_)
  · rcases hp with ⟨rfl, hf⟩
    · refine vx_catch (name := "java/lang/IllegalArgumentException") hown ([]) ⟨0, 9, 12, 13⟩ ([]) (by rw [htb]; rfl) (fun z hz => absurd hz List.not_mem_nil) (by decide) (by decide) (hts _ q_130) (va_Nw.use rfl (hE.2.1 _ (by decide +kernel))) h1 h2 h3 ?_
      refine W.eq (g2 := F0 m 12 ls [.ref q9]) rfl ?_
      refine lv_astore_n (lv' := [(3, .ref q9), (0, .ref (xa X 0)), (1, .int p0), (2, .ref (xa X 32))]) hx hb dL_removeProduction_12 rfl hl (by decide) rfl (fun ls hl => ?_)
      refine lv_iconst (v := 1) hx hb dL_removeProduction_13 (by decide) ?_
      exact hQ _ _ _ _ _ _ _ _ hf hw dL_removeProduction_14 (Nat.le_of_ble_eq_true rfl) (Nat.le_of_ble_eq_true rfl)
  · refine lv_i2l hx hb dL_removeProduction_7 rfl ?_
    refine x_lst (k := 32) (n := 1) hx hb hK hw (by decide) rfl rfl (by unfold vp_in; decide +kernel) dL_removeProduction_8 (uX_A32 X S1 _ _) (fun H locs hw => ?_)
    refine lv_goto (tgt := 15) hx hb dL_removeProduction_9 (by decide) ?_
    refine lv_iconst (v := 0) hx hb dL_removeProduction_15 (by decide) ?_
    exact hQ _ _ _ _ _ _ _ _ hf hw dL_removeProduction_16 (Nat.le_of_ble_eq_true rfl) (Nat.le_of_ble_eq_true rfl)
def pL_productionSymbol (p0 : Int32) (p1 : Int32) (S : gS) (Post : Int32 → gS → Prop) : Prop :=
  pX8_productionSymbol p0 p1 S (fun r => Post 0 (uB S 32 (0 : Int32).toNatClampNeg r.toInt64)) (fun E S1 => (E = "java/lang/IllegalArgumentException" ∧ Post 1 S1) ∨ (E = "java/lang/IndexOutOfBoundsException" ∧ Post 2 S1))
def rL_productionSymbol : Room := { frames := 8, cells := 2, slots := 12, locals := 133 }
set_option maxHeartbeats 40000000 in
set_option maxRecDepth 100000 in
theorem kL_productionSymbol (l : Launch) (hlt : l.stackTraces = false) (X : xG) (S : gS) (sz : Nat) (p0 : Int32) (p1 : Int32) (Post : Int32 → gS → Prop) (hf : pL_productionSymbol p0 p1 S Post) : uM l yL_productionSymbol (Cond.codeWith yL_productionSymbol cL_productionSymbol 5 (some .int) [(0, 10, 13, 13), (0, 10, 17, 29)] :: WS) rL_productionSymbol X S sz [.ref (xa X 0), .int p0, .int p1, .ref (xa X 32)] Post 2 12 := by
  refine uM.of (cc := cL_productionSymbol) (maxL := 5) (by decide) rfl rfl (Nat.le_of_ble_eq_true rfl) ?_
  intro p e s m args below meth c ls Q hC htb hN hQ hw hl
  obtain ⟨hx, hb, hml, hown, hts, hE, hi⟩ := id hC
  have hK := hE.1
  have hl : lv_has ls 5 [(0, .ref (xa X 0)), (1, .int p0), (2, .int p1), (3, .ref (xa X 32))] := hl
  rw [pL_productionSymbol] at hf
  refine lv_aload_n hx hb dL_productionSymbol_0 rfl (lv_at hl 3 rfl) ?_
  refine lv_iconst (v := 0) hx hb dL_productionSymbol_1 (by decide) ?_
  refine lv_aload_n hx hb dL_productionSymbol_2 rfl (lv_at hl 0 rfl) ?_
  refine lv_iload_n hx hb dL_productionSymbol_3 rfl (lv_at hl 1 rfl) ?_
  refine lv_iload_n hx hb dL_productionSymbol_4 rfl (lv_at hl 2 rfl) ?_
  refine y_ci (y_rV (As := [.int p0, .int p1]) (rest := [.int 0, .ref (xa X 32)]) hC hw (kX8_productionSymbol l hlt X S _ p0 p1 _ _ hf) (cwV 2 hts (gV q_311 q_312 q_313 q_2 q_314) rfl rfl rfl (by decide +kernel) ⟨Nat.le_of_ble_eq_true rfl, Nat.le_of_ble_eq_true rfl⟩) (x_recv hK hw (k := 0) (by decide) rfl rfl) rfl hl.1 rfl (Nat.le_of_ble_eq_true rfl) dL_productionSymbol_5 ⟨Nat.le_of_ble_eq_true rfl, Nat.le_of_ble_eq_true rfl⟩) hw hi (fun E ce q9 S9 H locs hp hw h1 h2 h3 => ?_) (fun r S1 H locs hf hw => ?_)
  · rcases hp with ⟨rfl, hf⟩ | ⟨rfl, hf⟩
    · refine vx_catch (name := "java/lang/IllegalArgumentException") hown ([]) ⟨0, 10, 13, 13⟩ (tableOf [(0, 10, 17, 29)]) (by rw [htb]; rfl) (fun z hz => absurd hz List.not_mem_nil) (by decide) (by decide) (hts _ q_130) (va_Nw.use rfl (hE.2.1 _ (by decide +kernel))) h1 h2 h3 ?_
      refine W.eq (g2 := F0 m 13 ls [.ref q9]) rfl ?_
      refine lv_astore (lv' := [(4, .ref q9), (0, .ref (xa X 0)), (1, .int p0), (2, .int p1), (3, .ref (xa X 32))]) hx hb dL_productionSymbol_13 hl (by decide) rfl (fun ls hl => ?_)
      refine lv_iconst (v := 1) hx hb dL_productionSymbol_15 (by decide) ?_
      exact hQ _ _ _ _ _ _ _ _ hf hw dL_productionSymbol_16 (Nat.le_of_ble_eq_true rfl) (Nat.le_of_ble_eq_true rfl)
    · refine vx_catch (name := "java/lang/IndexOutOfBoundsException") hown (tableOf [(0, 10, 13, 13)]) ⟨0, 10, 17, 29⟩ ([]) (by rw [htb]; rfl) (fun z hz => by
          have hz : z = ⟨0, 10, 13, 13⟩ := by simpa [tableOf] using hz
          rcases hz with rfl
          · exact Or.inr ⟨by decide, "java/lang/IllegalArgumentException", hts _ q_130, hN ("java/lang/IndexOutOfBoundsException", "java/lang/IllegalArgumentException") (by decide)⟩) (by decide) (by decide) (hts _ q_380) (va_Nw.use rfl (hE.2.1 _ (by decide +kernel))) h1 h2 h3 ?_
      refine W.eq (g2 := F0 m 17 ls [.ref q9]) rfl ?_
      refine lv_astore (lv' := [(4, .ref q9), (0, .ref (xa X 0)), (1, .int p0), (2, .int p1), (3, .ref (xa X 32))]) hx hb dL_productionSymbol_17 hl (by decide) rfl (fun ls hl => ?_)
      refine lv_iconst (v := 2) hx hb dL_productionSymbol_19 (by decide) ?_
      exact hQ _ _ _ _ _ _ _ _ hf hw dL_productionSymbol_20 (Nat.le_of_ble_eq_true rfl) (Nat.le_of_ble_eq_true rfl)
  · obtain ⟨hf, rfl⟩ := hf
    refine lv_i2l hx hb dL_productionSymbol_8 rfl ?_
    refine x_lst (k := 32) (n := 1) hx hb hK hw (by decide) rfl rfl (by unfold vp_in; decide +kernel) dL_productionSymbol_9 (uX_A32 X S _ _) (fun H locs hw => ?_)
    refine lv_goto (tgt := 21) hx hb dL_productionSymbol_10 (by decide) ?_
    refine lv_iconst (v := 0) hx hb dL_productionSymbol_21 (by decide) ?_
    exact hQ _ _ _ _ _ _ _ _ hf hw dL_productionSymbol_22 (Nat.le_of_ble_eq_true rfl) (Nat.le_of_ble_eq_true rfl)
def pL_setStart (p0 : Int32) (S : gS) (Post : Int32 → gS → Prop) : Prop :=
  pX8_setStart p0 S (fun r S1 => Post 0 (uB S1 32 (0 : Int32).toNatClampNeg r.toInt64)) (fun E S1 => (E = "java/lang/IllegalArgumentException" ∧ Post 1 S1))
def rL_setStart : Room := { frames := 8, cells := 1, slots := 6, locals := 133 }
set_option maxHeartbeats 40000000 in
set_option maxRecDepth 100000 in
theorem kL_setStart (l : Launch) (hlt : l.stackTraces = false) (X : xG) (S : gS) (sz : Nat) (p0 : Int32) (Post : Int32 → gS → Prop) (hf : pL_setStart p0 S Post) : uM l yL_setStart (Cond.codeWith yL_setStart cL_setStart 4 (some .int) [(0, 9, 12, 13)] :: WS) rL_setStart X S sz [.ref (xa X 0), .int p0, .ref (xa X 32)] Post 1 6 := by
  refine uM.of (cc := cL_setStart) (maxL := 4) (by decide) rfl rfl (Nat.le_of_ble_eq_true rfl) ?_
  intro p e s m args below meth c ls Q hC htb hN hQ hw hl
  obtain ⟨hx, hb, hml, hown, hts, hE, hi⟩ := id hC
  have hK := hE.1
  have hl : lv_has ls 4 [(0, .ref (xa X 0)), (1, .int p0), (2, .ref (xa X 32))] := hl
  rw [pL_setStart] at hf
  refine lv_aload_n hx hb dL_setStart_0 rfl (lv_at hl 2 rfl) ?_
  refine lv_iconst (v := 0) hx hb dL_setStart_1 (by decide) ?_
  refine lv_aload_n hx hb dL_setStart_2 rfl (lv_at hl 0 rfl) ?_
  refine lv_iload_n hx hb dL_setStart_3 rfl (lv_at hl 1 rfl) ?_
  refine y_ci (y_rV (As := [.int p0]) (rest := [.int 0, .ref (xa X 32)]) hC hw (kX8_setStart l hlt X S _ p0 _ _ hf) (cwV 1 hts (gV q_324 q_325 q_326 q_2 q_327) rfl rfl rfl (by decide +kernel) ⟨Nat.le_of_ble_eq_true rfl, Nat.le_of_ble_eq_true rfl⟩) (x_recv hK hw (k := 0) (by decide) rfl rfl) rfl hl.1 rfl (Nat.le_of_ble_eq_true rfl) dL_setStart_4 ⟨Nat.le_of_ble_eq_true rfl, Nat.le_of_ble_eq_true rfl⟩) hw hi (fun E ce q9 S9 H locs hp hw h1 h2 h3 => ?_) (fun r S1 H locs hf hw => ?_)
  · rcases hp with ⟨rfl, hf⟩
    · refine vx_catch (name := "java/lang/IllegalArgumentException") hown ([]) ⟨0, 9, 12, 13⟩ ([]) (by rw [htb]; rfl) (fun z hz => absurd hz List.not_mem_nil) (by decide) (by decide) (hts _ q_130) (va_Nw.use rfl (hE.2.1 _ (by decide +kernel))) h1 h2 h3 ?_
      refine W.eq (g2 := F0 m 12 ls [.ref q9]) rfl ?_
      refine lv_astore_n (lv' := [(3, .ref q9), (0, .ref (xa X 0)), (1, .int p0), (2, .ref (xa X 32))]) hx hb dL_setStart_12 rfl hl (by decide) rfl (fun ls hl => ?_)
      refine lv_iconst (v := 1) hx hb dL_setStart_13 (by decide) ?_
      exact hQ _ _ _ _ _ _ _ _ hf hw dL_setStart_14 (Nat.le_of_ble_eq_true rfl) (Nat.le_of_ble_eq_true rfl)
  · refine lv_i2l hx hb dL_setStart_7 rfl ?_
    refine x_lst (k := 32) (n := 1) hx hb hK hw (by decide) rfl rfl (by unfold vp_in; decide +kernel) dL_setStart_8 (uX_A32 X S1 _ _) (fun H locs hw => ?_)
    refine lv_goto (tgt := 15) hx hb dL_setStart_9 (by decide) ?_
    refine lv_iconst (v := 0) hx hb dL_setStart_15 (by decide) ?_
    exact hQ _ _ _ _ _ _ _ _ hf hw dL_setStart_16 (Nat.le_of_ble_eq_true rfl) (Nat.le_of_ble_eq_true rfl)
def pL_shortestLength (p0 : Int32) (S : gS) (Post : Int32 → gS → Prop) : Prop :=
  pX8_shortestLength p0 S (fun r S1 => Post 0 (uB S1 32 (0 : Int32).toNatClampNeg r.toInt64)) (fun E S1 => (E = "java/lang/IllegalArgumentException" ∧ Post 1 S1))
def rL_shortestLength : Room := { frames := 8, cells := 1, slots := 6, locals := 132 }
set_option maxHeartbeats 40000000 in
set_option maxRecDepth 100000 in
theorem kL_shortestLength (l : Launch) (hlt : l.stackTraces = false) (X : xG) (S : gS) (sz : Nat) (p0 : Int32) (Post : Int32 → gS → Prop) (hf : pL_shortestLength p0 S Post) : uM l yL_shortestLength (Cond.codeWith yL_shortestLength cL_shortestLength 4 (some .int) [(0, 9, 12, 13)] :: WS) rL_shortestLength X S sz [.ref (xa X 0), .int p0, .ref (xa X 32)] Post 1 6 := by
  refine uM.of (cc := cL_shortestLength) (maxL := 4) (by decide) rfl rfl (Nat.le_of_ble_eq_true rfl) ?_
  intro p e s m args below meth c ls Q hC htb hN hQ hw hl
  obtain ⟨hx, hb, hml, hown, hts, hE, hi⟩ := id hC
  have hK := hE.1
  have hl : lv_has ls 4 [(0, .ref (xa X 0)), (1, .int p0), (2, .ref (xa X 32))] := hl
  rw [pL_shortestLength] at hf
  refine lv_aload_n hx hb dL_shortestLength_0 rfl (lv_at hl 2 rfl) ?_
  refine lv_iconst (v := 0) hx hb dL_shortestLength_1 (by decide) ?_
  refine lv_aload_n hx hb dL_shortestLength_2 rfl (lv_at hl 0 rfl) ?_
  refine lv_iload_n hx hb dL_shortestLength_3 rfl (lv_at hl 1 rfl) ?_
  refine y_ci (y_rV (As := [.int p0]) (rest := [.int 0, .ref (xa X 32)]) hC hw (kX8_shortestLength l hlt X S _ p0 _ _ hf) (cwV 1 hts (gV q_339 q_340 q_341 q_2 q_342) rfl rfl rfl (by decide +kernel) ⟨Nat.le_of_ble_eq_true rfl, Nat.le_of_ble_eq_true rfl⟩) (x_recv hK hw (k := 0) (by decide) rfl rfl) rfl hl.1 rfl (Nat.le_of_ble_eq_true rfl) dL_shortestLength_4 ⟨Nat.le_of_ble_eq_true rfl, Nat.le_of_ble_eq_true rfl⟩) hw hi (fun E ce q9 S9 H locs hp hw h1 h2 h3 => ?_) (fun r S1 H locs hf hw => ?_)
  · rcases hp with ⟨rfl, hf⟩
    · refine vx_catch (name := "java/lang/IllegalArgumentException") hown ([]) ⟨0, 9, 12, 13⟩ ([]) (by rw [htb]; rfl) (fun z hz => absurd hz List.not_mem_nil) (by decide) (by decide) (hts _ q_130) (va_Nw.use rfl (hE.2.1 _ (by decide +kernel))) h1 h2 h3 ?_
      refine W.eq (g2 := F0 m 12 ls [.ref q9]) rfl ?_
      refine lv_astore_n (lv' := [(3, .ref q9), (0, .ref (xa X 0)), (1, .int p0), (2, .ref (xa X 32))]) hx hb dL_shortestLength_12 rfl hl (by decide) rfl (fun ls hl => ?_)
      refine lv_iconst (v := 1) hx hb dL_shortestLength_13 (by decide) ?_
      exact hQ _ _ _ _ _ _ _ _ hf hw dL_shortestLength_14 (Nat.le_of_ble_eq_true rfl) (Nat.le_of_ble_eq_true rfl)
  · refine lv_i2l hx hb dL_shortestLength_7 rfl ?_
    refine x_lst (k := 32) (n := 1) hx hb hK hw (by decide) rfl rfl (by unfold vp_in; decide +kernel) dL_shortestLength_8 (uX_A32 X S1 _ _) (fun H locs hw => ?_)
    refine lv_goto (tgt := 15) hx hb dL_shortestLength_9 (by decide) ?_
    refine lv_iconst (v := 0) hx hb dL_shortestLength_15 (by decide) ?_
    exact hQ _ _ _ _ _ _ _ _ hf hw dL_shortestLength_16 (Nat.le_of_ble_eq_true rfl) (Nat.le_of_ble_eq_true rfl)
def pL_append (p0 : Int32) (S : gS) (Post : Int32 → gS → Prop) : Prop :=
  pX8_append p0 S (fun r S1 => Post 0 (uB S1 32 (0 : Int32).toNatClampNeg r.toInt64)) (fun E S1 => (E = "java/lang/IllegalArgumentException" ∧ Post 1 S1) ∨ (E = "java/lang/IllegalStateException" ∧ Post 2 S1))
def rL_append : Room := { frames := 7, cells := 1, slots := 6, locals := 111 }
set_option maxHeartbeats 40000000 in
set_option maxRecDepth 100000 in
theorem kL_append (l : Launch) (hlt : l.stackTraces = false) (X : xG) (S : gS) (sz : Nat) (p0 : Int32) (Post : Int32 → gS → Prop) (hf : pL_append p0 S Post) : uM l yL_append (Cond.codeWith yL_append cL_append 4 (some .int) [(0, 9, 12, 13), (0, 9, 15, 19)] :: WS) rL_append X S sz [.ref (xa X 0), .int p0, .ref (xa X 32)] Post 1 6 := by
  refine uM.of (cc := cL_append) (maxL := 4) (by decide) rfl rfl (Nat.le_of_ble_eq_true rfl) ?_
  intro p e s m args below meth c ls Q hC htb hN hQ hw hl
  obtain ⟨hx, hb, hml, hown, hts, hE, hi⟩ := id hC
  have hK := hE.1
  have hl : lv_has ls 4 [(0, .ref (xa X 0)), (1, .int p0), (2, .ref (xa X 32))] := hl
  rw [pL_append] at hf
  refine lv_aload_n hx hb dL_append_0 rfl (lv_at hl 2 rfl) ?_
  refine lv_iconst (v := 0) hx hb dL_append_1 (by decide) ?_
  refine lv_aload_n hx hb dL_append_2 rfl (lv_at hl 0 rfl) ?_
  refine lv_iload_n hx hb dL_append_3 rfl (lv_at hl 1 rfl) ?_
  refine y_ci (y_rV (As := [.int p0]) (rest := [.int 0, .ref (xa X 32)]) hC hw (kX8_append l hlt X S _ p0 _ _ hf) (cwV 1 hts (gV q_350 q_351 q_352 q_2 q_353) rfl rfl rfl (by decide +kernel) ⟨Nat.le_of_ble_eq_true rfl, Nat.le_of_ble_eq_true rfl⟩) (x_recv hK hw (k := 0) (by decide) rfl rfl) rfl hl.1 rfl (Nat.le_of_ble_eq_true rfl) dL_append_4 ⟨Nat.le_of_ble_eq_true rfl, Nat.le_of_ble_eq_true rfl⟩) hw hi (fun E ce q9 S9 H locs hp hw h1 h2 h3 => ?_) (fun r S1 H locs hf hw => ?_)
  · rcases hp with ⟨rfl, hf⟩ | ⟨rfl, hf⟩
    · refine vx_catch (name := "java/lang/IllegalArgumentException") hown ([]) ⟨0, 9, 12, 13⟩ (tableOf [(0, 9, 15, 19)]) (by rw [htb]; rfl) (fun z hz => absurd hz List.not_mem_nil) (by decide) (by decide) (hts _ q_130) (va_Nw.use rfl (hE.2.1 _ (by decide +kernel))) h1 h2 h3 ?_
      refine W.eq (g2 := F0 m 12 ls [.ref q9]) rfl ?_
      refine lv_astore_n (lv' := [(3, .ref q9), (0, .ref (xa X 0)), (1, .int p0), (2, .ref (xa X 32))]) hx hb dL_append_12 rfl hl (by decide) rfl (fun ls hl => ?_)
      refine lv_iconst (v := 1) hx hb dL_append_13 (by decide) ?_
      exact hQ _ _ _ _ _ _ _ _ hf hw dL_append_14 (Nat.le_of_ble_eq_true rfl) (Nat.le_of_ble_eq_true rfl)
    · refine vx_catch (name := "java/lang/IllegalStateException") hown (tableOf [(0, 9, 12, 13)]) ⟨0, 9, 15, 19⟩ ([]) (by rw [htb]; rfl) (fun z hz => by
          have hz : z = ⟨0, 9, 12, 13⟩ := by simpa [tableOf] using hz
          rcases hz with rfl
          · exact Or.inr ⟨by decide, "java/lang/IllegalArgumentException", hts _ q_130, hN ("java/lang/IllegalStateException", "java/lang/IllegalArgumentException") (by decide)⟩) (by decide) (by decide) (hts _ q_661) (va_Nw.use rfl (hE.2.1 _ (by decide +kernel))) h1 h2 h3 ?_
      refine W.eq (g2 := F0 m 15 ls [.ref q9]) rfl ?_
      refine lv_astore_n (lv' := [(3, .ref q9), (0, .ref (xa X 0)), (1, .int p0), (2, .ref (xa X 32))]) hx hb dL_append_15 rfl hl (by decide) rfl (fun ls hl => ?_)
      refine lv_iconst (v := 2) hx hb dL_append_16 (by decide) ?_
      exact hQ _ _ _ _ _ _ _ _ hf hw dL_append_17 (Nat.le_of_ble_eq_true rfl) (Nat.le_of_ble_eq_true rfl)
  · refine lv_i2l hx hb dL_append_7 rfl ?_
    refine x_lst (k := 32) (n := 1) hx hb hK hw (by decide) rfl rfl (by unfold vp_in; decide +kernel) dL_append_8 (uX_A32 X S1 _ _) (fun H locs hw => ?_)
    refine lv_goto (tgt := 18) hx hb dL_append_9 (by decide) ?_
    refine lv_iconst (v := 0) hx hb dL_append_18 (by decide) ?_
    exact hQ _ _ _ _ _ _ _ _ hf hw dL_append_19 (Nat.le_of_ble_eq_true rfl) (Nat.le_of_ble_eq_true rfl)
def pL_terminalAt (p0 : Int32) (S : gS) (Post : Int32 → gS → Prop) : Prop :=
  pX8_terminalAt p0 S (fun r => Post 0 (uB S 32 (0 : Int32).toNatClampNeg r.toInt64)) (fun E S1 => (E = "java/lang/IndexOutOfBoundsException" ∧ Post 1 S1))
def rL_terminalAt : Room := { frames := 7, cells := 1, slots := 6, locals := 111 }
set_option maxHeartbeats 40000000 in
set_option maxRecDepth 100000 in
theorem kL_terminalAt (l : Launch) (hlt : l.stackTraces = false) (X : xG) (S : gS) (sz : Nat) (p0 : Int32) (Post : Int32 → gS → Prop) (hf : pL_terminalAt p0 S Post) : uM l yL_terminalAt (Cond.codeWith yL_terminalAt cL_terminalAt 4 (some .int) [(0, 9, 12, 29)] :: WS) rL_terminalAt X S sz [.ref (xa X 0), .int p0, .ref (xa X 32)] Post 1 6 := by
  refine uM.of (cc := cL_terminalAt) (maxL := 4) (by decide) rfl rfl (Nat.le_of_ble_eq_true rfl) ?_
  intro p e s m args below meth c ls Q hC htb hN hQ hw hl
  obtain ⟨hx, hb, hml, hown, hts, hE, hi⟩ := id hC
  have hK := hE.1
  have hl : lv_has ls 4 [(0, .ref (xa X 0)), (1, .int p0), (2, .ref (xa X 32))] := hl
  rw [pL_terminalAt] at hf
  refine lv_aload_n hx hb dL_terminalAt_0 rfl (lv_at hl 2 rfl) ?_
  refine lv_iconst (v := 0) hx hb dL_terminalAt_1 (by decide) ?_
  refine lv_aload_n hx hb dL_terminalAt_2 rfl (lv_at hl 0 rfl) ?_
  refine lv_iload_n hx hb dL_terminalAt_3 rfl (lv_at hl 1 rfl) ?_
  refine y_ci (y_rV (As := [.int p0]) (rest := [.int 0, .ref (xa X 32)]) hC hw (kX8_terminalAt l hlt X S _ p0 _ _ hf) (cwV 1 hts (gV q_381 q_382 q_383 q_2 q_384) rfl rfl rfl (by decide +kernel) ⟨Nat.le_of_ble_eq_true rfl, Nat.le_of_ble_eq_true rfl⟩) (x_recv hK hw (k := 0) (by decide) rfl rfl) rfl hl.1 rfl (Nat.le_of_ble_eq_true rfl) dL_terminalAt_4 ⟨Nat.le_of_ble_eq_true rfl, Nat.le_of_ble_eq_true rfl⟩) hw hi (fun E ce q9 S9 H locs hp hw h1 h2 h3 => ?_) (fun r S1 H locs hf hw => ?_)
  · rcases hp with ⟨rfl, hf⟩
    · refine vx_catch (name := "java/lang/IndexOutOfBoundsException") hown ([]) ⟨0, 9, 12, 29⟩ ([]) (by rw [htb]; rfl) (fun z hz => absurd hz List.not_mem_nil) (by decide) (by decide) (hts _ q_380) (va_Nw.use rfl (hE.2.1 _ (by decide +kernel))) h1 h2 h3 ?_
      refine W.eq (g2 := F0 m 12 ls [.ref q9]) rfl ?_
      refine lv_astore_n (lv' := [(3, .ref q9), (0, .ref (xa X 0)), (1, .int p0), (2, .ref (xa X 32))]) hx hb dL_terminalAt_12 rfl hl (by decide) rfl (fun ls hl => ?_)
      refine lv_iconst (v := 1) hx hb dL_terminalAt_13 (by decide) ?_
      exact hQ _ _ _ _ _ _ _ _ hf hw dL_terminalAt_14 (Nat.le_of_ble_eq_true rfl) (Nat.le_of_ble_eq_true rfl)
  · obtain ⟨hf, rfl⟩ := hf
    refine lv_i2l hx hb dL_terminalAt_7 rfl ?_
    refine x_lst (k := 32) (n := 1) hx hb hK hw (by decide) rfl rfl (by unfold vp_in; decide +kernel) dL_terminalAt_8 (uX_A32 X S _ _) (fun H locs hw => ?_)
    refine lv_goto (tgt := 15) hx hb dL_terminalAt_9 (by decide) ?_
    refine lv_iconst (v := 0) hx hb dL_terminalAt_15 (by decide) ?_
    exact hQ _ _ _ _ _ _ _ _ hf hw dL_terminalAt_16 (Nat.le_of_ble_eq_true rfl) (Nat.le_of_ble_eq_true rfl)
def pL_treesOfLength (p0 : Int32) (S : gS) (Post : Int32 → gS → Prop) : Prop :=
  pX8_treesOfLength p0 S (fun r S1 => Post 0 (uB S1 32 (0 : Int32).toNatClampNeg r)) (fun E S1 => (E = "java/lang/IllegalArgumentException" ∧ Post 1 S1))
def rL_treesOfLength : Room := { frames := 8, cells := 1, slots := 6, locals := 204 }
set_option maxHeartbeats 40000000 in
set_option maxRecDepth 100000 in
theorem kL_treesOfLength (l : Launch) (hlt : l.stackTraces = false) (X : xG) (S : gS) (sz : Nat) (p0 : Int32) (Post : Int32 → gS → Prop) (hf : pL_treesOfLength p0 S Post) : uM l yL_treesOfLength (Cond.codeWith yL_treesOfLength cL_treesOfLength 4 (some .int) [(0, 8, 11, 13)] :: WS) rL_treesOfLength X S sz [.ref (xa X 0), .int p0, .ref (xa X 32)] Post 1 6 := by
  refine uM.of (cc := cL_treesOfLength) (maxL := 4) (by decide) rfl rfl (Nat.le_of_ble_eq_true rfl) ?_
  intro p e s m args below meth c ls Q hC htb hN hQ hw hl
  obtain ⟨hx, hb, hml, hown, hts, hE, hi⟩ := id hC
  have hK := hE.1
  have hl : lv_has ls 4 [(0, .ref (xa X 0)), (1, .int p0), (2, .ref (xa X 32))] := hl
  rw [pL_treesOfLength] at hf
  refine lv_aload_n hx hb dL_treesOfLength_0 rfl (lv_at hl 2 rfl) ?_
  refine lv_iconst (v := 0) hx hb dL_treesOfLength_1 (by decide) ?_
  refine lv_aload_n hx hb dL_treesOfLength_2 rfl (lv_at hl 0 rfl) ?_
  refine lv_iload_n hx hb dL_treesOfLength_3 rfl (lv_at hl 1 rfl) ?_
  refine y_cl (y_rV (As := [.int p0]) (rest := [.int 0, .ref (xa X 32)]) hC hw (kX8_treesOfLength l hlt X S _ p0 _ _ hf) (cwV 1 hts (gV q_504 q_505 q_506 q_2 q_507) rfl rfl rfl (by decide +kernel) ⟨Nat.le_of_ble_eq_true rfl, Nat.le_of_ble_eq_true rfl⟩) (x_recv hK hw (k := 0) (by decide) rfl rfl) rfl hl.1 rfl (Nat.le_of_ble_eq_true rfl) dL_treesOfLength_4 ⟨Nat.le_of_ble_eq_true rfl, Nat.le_of_ble_eq_true rfl⟩) hw hi (fun E ce q9 S9 H locs hp hw h1 h2 h3 => ?_) (fun r S1 H locs hf hw => ?_)
  · rcases hp with ⟨rfl, hf⟩
    · refine vx_catch (name := "java/lang/IllegalArgumentException") hown ([]) ⟨0, 8, 11, 13⟩ ([]) (by rw [htb]; rfl) (fun z hz => absurd hz List.not_mem_nil) (by decide) (by decide) (hts _ q_130) (va_Nw.use rfl (hE.2.1 _ (by decide +kernel))) h1 h2 h3 ?_
      refine W.eq (g2 := F0 m 11 ls [.ref q9]) rfl ?_
      refine lv_astore_n (lv' := [(3, .ref q9), (0, .ref (xa X 0)), (1, .int p0), (2, .ref (xa X 32))]) hx hb dL_treesOfLength_11 rfl hl (by decide) rfl (fun ls hl => ?_)
      refine lv_iconst (v := 1) hx hb dL_treesOfLength_12 (by decide) ?_
      exact hQ _ _ _ _ _ _ _ _ hf hw dL_treesOfLength_13 (Nat.le_of_ble_eq_true rfl) (Nat.le_of_ble_eq_true rfl)
  · refine x_lst (k := 32) (n := 1) hx hb hK hw (by decide) rfl rfl (by unfold vp_in; decide +kernel) dL_treesOfLength_7 (uX_A32 X S1 _ _) (fun H locs hw => ?_)
    refine lv_goto (tgt := 14) hx hb dL_treesOfLength_8 (by decide) ?_
    refine lv_iconst (v := 0) hx hb dL_treesOfLength_14 (by decide) ?_
    exact hQ _ _ _ _ _ _ _ _ hf hw dL_treesOfLength_15 (Nat.le_of_ble_eq_true rfl) (Nat.le_of_ble_eq_true rfl)
def pL_wordsOfLength (p0 : Int32) (p1 : Int32) (S : gS) (Post : Int32 → gS → Prop) : Prop :=
  pX8_wordsOfLength p0 p1 S (fun r S1 => Post 0 (uB S1 32 (0 : Int32).toNatClampNeg r.toInt64)) (fun E S1 => (E = "java/lang/IllegalArgumentException" ∧ Post 1 S1))
def rL_wordsOfLength : Room := { frames := 8, cells := 2, slots := 12, locals := 207 }
set_option maxHeartbeats 40000000 in
set_option maxRecDepth 100000 in
theorem kL_wordsOfLength (l : Launch) (hlt : l.stackTraces = false) (X : xG) (S : gS) (sz : Nat) (p0 : Int32) (p1 : Int32) (Post : Int32 → gS → Prop) (hf : pL_wordsOfLength p0 p1 S Post) : uM l yL_wordsOfLength (Cond.codeWith yL_wordsOfLength cL_wordsOfLength 5 (some .int) [(0, 10, 13, 13)] :: WS) rL_wordsOfLength X S sz [.ref (xa X 0), .int p0, .int p1, .ref (xa X 32)] Post 2 12 := by
  refine uM.of (cc := cL_wordsOfLength) (maxL := 5) (by decide) rfl rfl (Nat.le_of_ble_eq_true rfl) ?_
  intro p e s m args below meth c ls Q hC htb hN hQ hw hl
  obtain ⟨hx, hb, hml, hown, hts, hE, hi⟩ := id hC
  have hK := hE.1
  have hl : lv_has ls 5 [(0, .ref (xa X 0)), (1, .int p0), (2, .int p1), (3, .ref (xa X 32))] := hl
  rw [pL_wordsOfLength] at hf
  refine lv_aload_n hx hb dL_wordsOfLength_0 rfl (lv_at hl 3 rfl) ?_
  refine lv_iconst (v := 0) hx hb dL_wordsOfLength_1 (by decide) ?_
  refine lv_aload_n hx hb dL_wordsOfLength_2 rfl (lv_at hl 0 rfl) ?_
  refine lv_iload_n hx hb dL_wordsOfLength_3 rfl (lv_at hl 1 rfl) ?_
  refine lv_iload_n hx hb dL_wordsOfLength_4 rfl (lv_at hl 2 rfl) ?_
  refine y_ci (y_rV (As := [.int p0, .int p1]) (rest := [.int 0, .ref (xa X 32)]) hC hw (kX8_wordsOfLength l hlt X S _ p0 p1 _ _ hf) (cwV 2 hts (gV q_540 q_541 q_542 q_2 q_543) rfl rfl rfl (by decide +kernel) ⟨Nat.le_of_ble_eq_true rfl, Nat.le_of_ble_eq_true rfl⟩) (x_recv hK hw (k := 0) (by decide) rfl rfl) rfl hl.1 rfl (Nat.le_of_ble_eq_true rfl) dL_wordsOfLength_5 ⟨Nat.le_of_ble_eq_true rfl, Nat.le_of_ble_eq_true rfl⟩) hw hi (fun E ce q9 S9 H locs hp hw h1 h2 h3 => ?_) (fun r S1 H locs hf hw => ?_)
  · rcases hp with ⟨rfl, hf⟩
    · refine vx_catch (name := "java/lang/IllegalArgumentException") hown ([]) ⟨0, 10, 13, 13⟩ ([]) (by rw [htb]; rfl) (fun z hz => absurd hz List.not_mem_nil) (by decide) (by decide) (hts _ q_130) (va_Nw.use rfl (hE.2.1 _ (by decide +kernel))) h1 h2 h3 ?_
      refine W.eq (g2 := F0 m 13 ls [.ref q9]) rfl ?_
      refine lv_astore (lv' := [(4, .ref q9), (0, .ref (xa X 0)), (1, .int p0), (2, .int p1), (3, .ref (xa X 32))]) hx hb dL_wordsOfLength_13 hl (by decide) rfl (fun ls hl => ?_)
      refine lv_iconst (v := 1) hx hb dL_wordsOfLength_15 (by decide) ?_
      exact hQ _ _ _ _ _ _ _ _ hf hw dL_wordsOfLength_16 (Nat.le_of_ble_eq_true rfl) (Nat.le_of_ble_eq_true rfl)
  · refine lv_i2l hx hb dL_wordsOfLength_8 rfl ?_
    refine x_lst (k := 32) (n := 1) hx hb hK hw (by decide) rfl rfl (by unfold vp_in; decide +kernel) dL_wordsOfLength_9 (uX_A32 X S1 _ _) (fun H locs hw => ?_)
    refine lv_goto (tgt := 17) hx hb dL_wordsOfLength_10 (by decide) ?_
    refine lv_iconst (v := 0) hx hb dL_wordsOfLength_17 (by decide) ?_
    exact hQ _ _ _ _ _ _ _ _ hf hw dL_wordsOfLength_18 (Nat.le_of_ble_eq_true rfl) (Nat.le_of_ble_eq_true rfl)
def pL_unambiguousShare (p0 : Int32) (S : gS) (Post : Int32 → gS → Prop) : Prop :=
  pX8_unambiguousShare p0 S (fun r S1 => Post 0 (uB S1 33 (0 : Int32).toNatClampNeg r.toInt64)) (fun E S1 => (E = "java/lang/IllegalArgumentException" ∧ Post 1 S1))
def rL_unambiguousShare : Room := { frames := 8, cells := 1, slots := 6, locals := 206 }
set_option maxHeartbeats 40000000 in
set_option maxRecDepth 100000 in
theorem kL_unambiguousShare (l : Launch) (hlt : l.stackTraces = false) (X : xG) (S : gS) (sz : Nat) (p0 : Int32) (Post : Int32 → gS → Prop) (hf : pL_unambiguousShare p0 S Post) : uM l yL_unambiguousShare (Cond.codeWith yL_unambiguousShare cL_unambiguousShare 4 (some .int) [(0, 8, 11, 13)] :: WS) rL_unambiguousShare X S sz [.ref (xa X 0), .int p0, .ref (xa X 33)] Post 1 6 := by
  refine uM.of (cc := cL_unambiguousShare) (maxL := 4) (by decide) rfl rfl (Nat.le_of_ble_eq_true rfl) ?_
  intro p e s m args below meth c ls Q hC htb hN hQ hw hl
  obtain ⟨hx, hb, hml, hown, hts, hE, hi⟩ := id hC
  have hK := hE.1
  have hl : lv_has ls 4 [(0, .ref (xa X 0)), (1, .int p0), (2, .ref (xa X 33))] := hl
  rw [pL_unambiguousShare] at hf
  refine lv_aload_n hx hb dL_unambiguousShare_0 rfl (lv_at hl 2 rfl) ?_
  refine lv_iconst (v := 0) hx hb dL_unambiguousShare_1 (by decide) ?_
  refine lv_aload_n hx hb dL_unambiguousShare_2 rfl (lv_at hl 0 rfl) ?_
  refine lv_iload_n hx hb dL_unambiguousShare_3 rfl (lv_at hl 1 rfl) ?_
  refine y_cd (y_rV (As := [.int p0]) (rest := [.int 0, .ref (xa X 33)]) hC hw (kX8_unambiguousShare l hlt X S _ p0 _ _ hf) (cwV 1 hts (gV q_610 q_611 q_612 q_2 q_613) rfl rfl rfl (by decide +kernel) ⟨Nat.le_of_ble_eq_true rfl, Nat.le_of_ble_eq_true rfl⟩) (x_recv hK hw (k := 0) (by decide) rfl rfl) rfl hl.1 rfl (Nat.le_of_ble_eq_true rfl) dL_unambiguousShare_4 ⟨Nat.le_of_ble_eq_true rfl, Nat.le_of_ble_eq_true rfl⟩) hw hi (fun E ce q9 S9 H locs hp hw h1 h2 h3 => ?_) (fun r S1 H locs hf hw => ?_)
  · rcases hp with ⟨rfl, hf⟩
    · refine vx_catch (name := "java/lang/IllegalArgumentException") hown ([]) ⟨0, 8, 11, 13⟩ ([]) (by rw [htb]; rfl) (fun z hz => absurd hz List.not_mem_nil) (by decide) (by decide) (hts _ q_130) (va_Nw.use rfl (hE.2.1 _ (by decide +kernel))) h1 h2 h3 ?_
      refine W.eq (g2 := F0 m 11 ls [.ref q9]) rfl ?_
      refine lv_astore_n (lv' := [(3, .ref q9), (0, .ref (xa X 0)), (1, .int p0), (2, .ref (xa X 33))]) hx hb dL_unambiguousShare_11 rfl hl (by decide) rfl (fun ls hl => ?_)
      refine lv_iconst (v := 1) hx hb dL_unambiguousShare_12 (by decide) ?_
      exact hQ _ _ _ _ _ _ _ _ hf hw dL_unambiguousShare_13 (Nat.le_of_ble_eq_true rfl) (Nat.le_of_ble_eq_true rfl)
  · refine x_dst hx hb hK hw (by unfold vp_in; decide +kernel) dL_unambiguousShare_7 (fun H locs hw => ?_)
    refine lv_goto (tgt := 14) hx hb dL_unambiguousShare_8 (by decide) ?_
    refine lv_iconst (v := 0) hx hb dL_unambiguousShare_14 (by decide) ?_
    exact hQ _ _ _ _ _ _ _ _ hf hw dL_unambiguousShare_15 (Nat.le_of_ble_eq_true rfl) (Nat.le_of_ble_eq_true rfl)
def pL_averageTrees (p0 : Int32) (S : gS) (Post : Int32 → gS → Prop) : Prop :=
  pX8_averageTrees p0 S (fun r S1 => Post 0 (uB S1 33 (0 : Int32).toNatClampNeg r.toInt64)) (fun E S1 => (E = "java/lang/IllegalArgumentException" ∧ Post 1 S1) ∨ (E = "java/util/NoSuchElementException" ∧ Post 2 S1))
def rL_averageTrees : Room := { frames := 8, cells := 2, slots := 12, locals := 205 }
set_option maxHeartbeats 40000000 in
set_option maxRecDepth 100000 in
theorem kL_averageTrees (l : Launch) (hlt : l.stackTraces = false) (X : xG) (S : gS) (sz : Nat) (p0 : Int32) (Post : Int32 → gS → Prop) (hf : pL_averageTrees p0 S Post) : uM l yL_averageTrees (Cond.codeWith yL_averageTrees cL_averageTrees 4 (some .int) [(0, 8, 11, 13), (0, 8, 14, 57)] :: WS) rL_averageTrees X S sz [.ref (xa X 0), .int p0, .ref (xa X 33)] Post 2 12 := by
  refine uM.of (cc := cL_averageTrees) (maxL := 4) (by decide) rfl rfl (Nat.le_of_ble_eq_true rfl) ?_
  intro p e s m args below meth c ls Q hC htb hN hQ hw hl
  obtain ⟨hx, hb, hml, hown, hts, hE, hi⟩ := id hC
  have hK := hE.1
  have hl : lv_has ls 4 [(0, .ref (xa X 0)), (1, .int p0), (2, .ref (xa X 33))] := hl
  rw [pL_averageTrees] at hf
  refine lv_aload_n hx hb dL_averageTrees_0 rfl (lv_at hl 2 rfl) ?_
  refine lv_iconst (v := 0) hx hb dL_averageTrees_1 (by decide) ?_
  refine lv_aload_n hx hb dL_averageTrees_2 rfl (lv_at hl 0 rfl) ?_
  refine lv_iload_n hx hb dL_averageTrees_3 rfl (lv_at hl 1 rfl) ?_
  refine y_cd (y_rV (As := [.int p0]) (rest := [.int 0, .ref (xa X 33)]) hC hw (kX8_averageTrees l hlt X S _ p0 _ _ hf) (cwV 1 hts (gV q_621 q_622 q_623 q_2 q_624) rfl rfl rfl (by decide +kernel) ⟨Nat.le_of_ble_eq_true rfl, Nat.le_of_ble_eq_true rfl⟩) (x_recv hK hw (k := 0) (by decide) rfl rfl) rfl hl.1 rfl (Nat.le_of_ble_eq_true rfl) dL_averageTrees_4 ⟨Nat.le_of_ble_eq_true rfl, Nat.le_of_ble_eq_true rfl⟩) hw hi (fun E ce q9 S9 H locs hp hw h1 h2 h3 => ?_) (fun r S1 H locs hf hw => ?_)
  · rcases hp with ⟨rfl, hf⟩ | ⟨rfl, hf⟩
    · refine vx_catch (name := "java/lang/IllegalArgumentException") hown ([]) ⟨0, 8, 11, 13⟩ (tableOf [(0, 8, 14, 57)]) (by rw [htb]; rfl) (fun z hz => absurd hz List.not_mem_nil) (by decide) (by decide) (hts _ q_130) (va_Nw.use rfl (hE.2.1 _ (by decide +kernel))) h1 h2 h3 ?_
      refine W.eq (g2 := F0 m 11 ls [.ref q9]) rfl ?_
      refine lv_astore_n (lv' := [(3, .ref q9), (0, .ref (xa X 0)), (1, .int p0), (2, .ref (xa X 33))]) hx hb dL_averageTrees_11 rfl hl (by decide) rfl (fun ls hl => ?_)
      refine lv_iconst (v := 1) hx hb dL_averageTrees_12 (by decide) ?_
      exact hQ _ _ _ _ _ _ _ _ hf hw dL_averageTrees_13 (Nat.le_of_ble_eq_true rfl) (Nat.le_of_ble_eq_true rfl)
    · refine vx_catch (name := "java/util/NoSuchElementException") hown (tableOf [(0, 8, 11, 13)]) ⟨0, 8, 14, 57⟩ ([]) (by rw [htb]; rfl) (fun z hz => by
          have hz : z = ⟨0, 8, 11, 13⟩ := by simpa [tableOf] using hz
          rcases hz with rfl
          · exact Or.inr ⟨by decide, "java/lang/IllegalArgumentException", hts _ q_130, hN ("java/util/NoSuchElementException", "java/lang/IllegalArgumentException") (by decide)⟩) (by decide) (by decide) (hts _ q_786) (va_Nw.use rfl (hE.2.1 _ (by decide +kernel))) h1 h2 h3 ?_
      refine W.eq (g2 := F0 m 14 ls [.ref q9]) rfl ?_
      refine lv_astore_n (lv' := [(3, .ref q9), (0, .ref (xa X 0)), (1, .int p0), (2, .ref (xa X 33))]) hx hb dL_averageTrees_14 rfl hl (by decide) rfl (fun ls hl => ?_)
      refine lv_iconst (v := 2) hx hb dL_averageTrees_15 (by decide) ?_
      exact hQ _ _ _ _ _ _ _ _ hf hw dL_averageTrees_16 (Nat.le_of_ble_eq_true rfl) (Nat.le_of_ble_eq_true rfl)
  · refine x_dst hx hb hK hw (by unfold vp_in; decide +kernel) dL_averageTrees_7 (fun H locs hw => ?_)
    refine lv_goto (tgt := 17) hx hb dL_averageTrees_8 (by decide) ?_
    refine lv_iconst (v := 0) hx hb dL_averageTrees_17 (by decide) ?_
    exact hQ _ _ _ _ _ _ _ _ hf hw dL_averageTrees_18 (Nat.le_of_ble_eq_true rfl) (Nat.le_of_ble_eq_true rfl)
def pL_firstAmbiguous (p0 : Int32) (S : gS) (Post : Int32 → gS → Prop) : Prop :=
  pX8_firstAmbiguous p0 S (fun r S1 => Post 0 (uB S1 32 (0 : Int32).toNatClampNeg r.toInt64)) (fun E S1 => (E = "java/lang/IllegalArgumentException" ∧ Post 1 S1) ∨ (E = "java/util/NoSuchElementException" ∧ Post 2 S1))
def rL_firstAmbiguous : Room := { frames := 8, cells := 2, slots := 12, locals := 206 }
set_option maxHeartbeats 40000000 in
set_option maxRecDepth 100000 in
theorem kL_firstAmbiguous (l : Launch) (hlt : l.stackTraces = false) (X : xG) (S : gS) (sz : Nat) (p0 : Int32) (Post : Int32 → gS → Prop) (hf : pL_firstAmbiguous p0 S Post) : uM l yL_firstAmbiguous (Cond.codeWith yL_firstAmbiguous cL_firstAmbiguous 4 (some .int) [(0, 9, 12, 13), (0, 9, 15, 57)] :: WS) rL_firstAmbiguous X S sz [.ref (xa X 0), .int p0, .ref (xa X 32)] Post 2 12 := by
  refine uM.of (cc := cL_firstAmbiguous) (maxL := 4) (by decide) rfl rfl (Nat.le_of_ble_eq_true rfl) ?_
  intro p e s m args below meth c ls Q hC htb hN hQ hw hl
  obtain ⟨hx, hb, hml, hown, hts, hE, hi⟩ := id hC
  have hK := hE.1
  have hl : lv_has ls 4 [(0, .ref (xa X 0)), (1, .int p0), (2, .ref (xa X 32))] := hl
  rw [pL_firstAmbiguous] at hf
  refine lv_aload_n hx hb dL_firstAmbiguous_0 rfl (lv_at hl 2 rfl) ?_
  refine lv_iconst (v := 0) hx hb dL_firstAmbiguous_1 (by decide) ?_
  refine lv_aload_n hx hb dL_firstAmbiguous_2 rfl (lv_at hl 0 rfl) ?_
  refine lv_iload_n hx hb dL_firstAmbiguous_3 rfl (lv_at hl 1 rfl) ?_
  refine y_ci (y_rV (As := [.int p0]) (rest := [.int 0, .ref (xa X 32)]) hC hw (kX8_firstAmbiguous l hlt X S _ p0 _ _ hf) (cwV 1 hts (gV q_634 q_635 q_636 q_2 q_637) rfl rfl rfl (by decide +kernel) ⟨Nat.le_of_ble_eq_true rfl, Nat.le_of_ble_eq_true rfl⟩) (x_recv hK hw (k := 0) (by decide) rfl rfl) rfl hl.1 rfl (Nat.le_of_ble_eq_true rfl) dL_firstAmbiguous_4 ⟨Nat.le_of_ble_eq_true rfl, Nat.le_of_ble_eq_true rfl⟩) hw hi (fun E ce q9 S9 H locs hp hw h1 h2 h3 => ?_) (fun r S1 H locs hf hw => ?_)
  · rcases hp with ⟨rfl, hf⟩ | ⟨rfl, hf⟩
    · refine vx_catch (name := "java/lang/IllegalArgumentException") hown ([]) ⟨0, 9, 12, 13⟩ (tableOf [(0, 9, 15, 57)]) (by rw [htb]; rfl) (fun z hz => absurd hz List.not_mem_nil) (by decide) (by decide) (hts _ q_130) (va_Nw.use rfl (hE.2.1 _ (by decide +kernel))) h1 h2 h3 ?_
      refine W.eq (g2 := F0 m 12 ls [.ref q9]) rfl ?_
      refine lv_astore_n (lv' := [(3, .ref q9), (0, .ref (xa X 0)), (1, .int p0), (2, .ref (xa X 32))]) hx hb dL_firstAmbiguous_12 rfl hl (by decide) rfl (fun ls hl => ?_)
      refine lv_iconst (v := 1) hx hb dL_firstAmbiguous_13 (by decide) ?_
      exact hQ _ _ _ _ _ _ _ _ hf hw dL_firstAmbiguous_14 (Nat.le_of_ble_eq_true rfl) (Nat.le_of_ble_eq_true rfl)
    · refine vx_catch (name := "java/util/NoSuchElementException") hown (tableOf [(0, 9, 12, 13)]) ⟨0, 9, 15, 57⟩ ([]) (by rw [htb]; rfl) (fun z hz => by
          have hz : z = ⟨0, 9, 12, 13⟩ := by simpa [tableOf] using hz
          rcases hz with rfl
          · exact Or.inr ⟨by decide, "java/lang/IllegalArgumentException", hts _ q_130, hN ("java/util/NoSuchElementException", "java/lang/IllegalArgumentException") (by decide)⟩) (by decide) (by decide) (hts _ q_786) (va_Nw.use rfl (hE.2.1 _ (by decide +kernel))) h1 h2 h3 ?_
      refine W.eq (g2 := F0 m 15 ls [.ref q9]) rfl ?_
      refine lv_astore_n (lv' := [(3, .ref q9), (0, .ref (xa X 0)), (1, .int p0), (2, .ref (xa X 32))]) hx hb dL_firstAmbiguous_15 rfl hl (by decide) rfl (fun ls hl => ?_)
      refine lv_iconst (v := 2) hx hb dL_firstAmbiguous_16 (by decide) ?_
      exact hQ _ _ _ _ _ _ _ _ hf hw dL_firstAmbiguous_17 (Nat.le_of_ble_eq_true rfl) (Nat.le_of_ble_eq_true rfl)
  · refine lv_i2l hx hb dL_firstAmbiguous_7 rfl ?_
    refine x_lst (k := 32) (n := 1) hx hb hK hw (by decide) rfl rfl (by unfold vp_in; decide +kernel) dL_firstAmbiguous_8 (uX_A32 X S1 _ _) (fun H locs hw => ?_)
    refine lv_goto (tgt := 18) hx hb dL_firstAmbiguous_9 (by decide) ?_
    refine lv_iconst (v := 0) hx hb dL_firstAmbiguous_18 (by decide) ?_
    exact hQ _ _ _ _ _ _ _ _ hf hw dL_firstAmbiguous_19 (Nat.le_of_ble_eq_true rfl) (Nat.le_of_ble_eq_true rfl)
def pL_wordRank (S : gS) (Post : Int32 → gS → Prop) : Prop :=
  pX8_wordRank  S (fun r S1 => Post 0 (uB S1 32 (0 : Int32).toNatClampNeg r.toInt64)) (fun E S1 => (E = "java/lang/IllegalStateException" ∧ Post 1 S1) ∨ (E = "java/util/NoSuchElementException" ∧ Post 2 S1))
def rL_wordRank : Room := { frames := 8, cells := 1, slots := 6, locals := 204 }
set_option maxHeartbeats 40000000 in
set_option maxRecDepth 100000 in
theorem kL_wordRank (l : Launch) (hlt : l.stackTraces = false) (X : xG) (S : gS) (sz : Nat) (Post : Int32 → gS → Prop) (hf : pL_wordRank S Post) : uM l yL_wordRank (Cond.codeWith yL_wordRank cL_wordRank 3 (some .int) [(0, 8, 11, 19), (0, 8, 14, 57)] :: WS) rL_wordRank X S sz [.ref (xa X 0), .ref (xa X 32)] Post 1 6 := by
  refine uM.of (cc := cL_wordRank) (maxL := 3) (by decide) rfl rfl (Nat.le_of_ble_eq_true rfl) ?_
  intro p e s m args below meth c ls Q hC htb hN hQ hw hl
  obtain ⟨hx, hb, hml, hown, hts, hE, hi⟩ := id hC
  have hK := hE.1
  have hl : lv_has ls 3 [(0, .ref (xa X 0)), (1, .ref (xa X 32))] := hl
  rw [pL_wordRank] at hf
  refine lv_aload_n hx hb dL_wordRank_0 rfl (lv_at hl 1 rfl) ?_
  refine lv_iconst (v := 0) hx hb dL_wordRank_1 (by decide) ?_
  refine lv_aload_n hx hb dL_wordRank_2 rfl (lv_at hl 0 rfl) ?_
  refine y_ci (y_rV (As := []) (rest := [.int 0, .ref (xa X 32)]) hC hw (kX8_wordRank l hlt X S _  _ _ hf) (cwV 0 hts (gV q_662 q_663 q_664 q_2 q_665) rfl rfl rfl (by decide +kernel) ⟨Nat.le_of_ble_eq_true rfl, Nat.le_of_ble_eq_true rfl⟩) (x_recv hK hw (k := 0) (by decide) rfl rfl) rfl hl.1 rfl (Nat.le_of_ble_eq_true rfl) dL_wordRank_3 ⟨Nat.le_of_ble_eq_true rfl, Nat.le_of_ble_eq_true rfl⟩) hw hi (fun E ce q9 S9 H locs hp hw h1 h2 h3 => ?_) (fun r S1 H locs hf hw => ?_)
  · rcases hp with ⟨rfl, hf⟩ | ⟨rfl, hf⟩
    · refine vx_catch (name := "java/lang/IllegalStateException") hown ([]) ⟨0, 8, 11, 19⟩ (tableOf [(0, 8, 14, 57)]) (by rw [htb]; rfl) (fun z hz => absurd hz List.not_mem_nil) (by decide) (by decide) (hts _ q_661) (va_Nw.use rfl (hE.2.1 _ (by decide +kernel))) h1 h2 h3 ?_
      refine W.eq (g2 := F0 m 11 ls [.ref q9]) rfl ?_
      refine lv_astore_n (lv' := [(2, .ref q9), (0, .ref (xa X 0)), (1, .ref (xa X 32))]) hx hb dL_wordRank_11 rfl hl (by decide) rfl (fun ls hl => ?_)
      refine lv_iconst (v := 1) hx hb dL_wordRank_12 (by decide) ?_
      exact hQ _ _ _ _ _ _ _ _ hf hw dL_wordRank_13 (Nat.le_of_ble_eq_true rfl) (Nat.le_of_ble_eq_true rfl)
    · refine vx_catch (name := "java/util/NoSuchElementException") hown (tableOf [(0, 8, 11, 19)]) ⟨0, 8, 14, 57⟩ ([]) (by rw [htb]; rfl) (fun z hz => by
          have hz : z = ⟨0, 8, 11, 19⟩ := by simpa [tableOf] using hz
          rcases hz with rfl
          · exact Or.inr ⟨by decide, "java/lang/IllegalStateException", hts _ q_661, hN ("java/util/NoSuchElementException", "java/lang/IllegalStateException") (by decide)⟩) (by decide) (by decide) (hts _ q_786) (va_Nw.use rfl (hE.2.1 _ (by decide +kernel))) h1 h2 h3 ?_
      refine W.eq (g2 := F0 m 14 ls [.ref q9]) rfl ?_
      refine lv_astore_n (lv' := [(2, .ref q9), (0, .ref (xa X 0)), (1, .ref (xa X 32))]) hx hb dL_wordRank_14 rfl hl (by decide) rfl (fun ls hl => ?_)
      refine lv_iconst (v := 2) hx hb dL_wordRank_15 (by decide) ?_
      exact hQ _ _ _ _ _ _ _ _ hf hw dL_wordRank_16 (Nat.le_of_ble_eq_true rfl) (Nat.le_of_ble_eq_true rfl)
  · refine lv_i2l hx hb dL_wordRank_6 rfl ?_
    refine x_lst (k := 32) (n := 1) hx hb hK hw (by decide) rfl rfl (by unfold vp_in; decide +kernel) dL_wordRank_7 (uX_A32 X S1 _ _) (fun H locs hw => ?_)
    refine lv_goto (tgt := 17) hx hb dL_wordRank_8 (by decide) ?_
    refine lv_iconst (v := 0) hx hb dL_wordRank_17 (by decide) ?_
    exact hQ _ _ _ _ _ _ _ _ hf hw dL_wordRank_18 (Nat.le_of_ble_eq_true rfl) (Nat.le_of_ble_eq_true rfl)
def pL_takeWord (p0 : Int32) (p1 : Int32) (S : gS) (Post : Int32 → gS → Prop) : Prop :=
  pX8_takeWord p0 p1 S (fun S1 => Post 0 S1) (fun E S1 => (E = "java/lang/IllegalArgumentException" ∧ Post 1 S1) ∨ (E = "java/util/NoSuchElementException" ∧ Post 2 S1))
def rL_takeWord : Room := { frames := 8, cells := 2, slots := 12, locals := 206 }
set_option maxHeartbeats 40000000 in
set_option maxRecDepth 100000 in
theorem kL_takeWord (l : Launch) (hlt : l.stackTraces = false) (X : xG) (S : gS) (sz : Nat) (p0 : Int32) (p1 : Int32) (Post : Int32 → gS → Prop) (hf : pL_takeWord p0 p1 S Post) : uM l yL_takeWord (Cond.codeWith yL_takeWord cL_takeWord 4 (some .int) [(0, 6, 9, 13), (0, 6, 12, 57)] :: WS) rL_takeWord X S sz [.ref (xa X 0), .int p0, .int p1] Post 2 12 := by
  refine uM.of (cc := cL_takeWord) (maxL := 4) (by decide) rfl rfl (Nat.le_of_ble_eq_true rfl) ?_
  intro p e s m args below meth c ls Q hC htb hN hQ hw hl
  obtain ⟨hx, hb, hml, hown, hts, hE, hi⟩ := id hC
  have hK := hE.1
  have hl : lv_has ls 4 [(0, .ref (xa X 0)), (1, .int p0), (2, .int p1)] := hl
  rw [pL_takeWord] at hf
  refine lv_aload_n hx hb dL_takeWord_0 rfl (lv_at hl 0 rfl) ?_
  refine lv_iload_n hx hb dL_takeWord_1 rfl (lv_at hl 1 rfl) ?_
  refine lv_iload_n hx hb dL_takeWord_2 rfl (lv_at hl 2 rfl) ?_
  refine y_cv (y_rV (As := [.int p0, .int p1]) (rest := []) hC hw (kX8_takeWord l hlt X S _ p0 p1 _ _ hf) (cwV 2 hts (gV q_677 q_678 q_679 q_2 q_680) rfl rfl rfl (by decide +kernel) ⟨Nat.le_of_ble_eq_true rfl, Nat.le_of_ble_eq_true rfl⟩) (x_recv hK hw (k := 0) (by decide) rfl rfl) rfl hl.1 rfl (Nat.le_of_ble_eq_true rfl) dL_takeWord_3 ⟨Nat.le_of_ble_eq_true rfl, Nat.le_of_ble_eq_true rfl⟩) hw hi (fun E ce q9 S9 H locs hp hw h1 h2 h3 => ?_) (fun S1 H locs hf hw => ?_)
  · rcases hp with ⟨rfl, hf⟩ | ⟨rfl, hf⟩
    · refine vx_catch (name := "java/lang/IllegalArgumentException") hown ([]) ⟨0, 6, 9, 13⟩ (tableOf [(0, 6, 12, 57)]) (by rw [htb]; rfl) (fun z hz => absurd hz List.not_mem_nil) (by decide) (by decide) (hts _ q_130) (va_Nw.use rfl (hE.2.1 _ (by decide +kernel))) h1 h2 h3 ?_
      refine W.eq (g2 := F0 m 9 ls [.ref q9]) rfl ?_
      refine lv_astore_n (lv' := [(3, .ref q9), (0, .ref (xa X 0)), (1, .int p0), (2, .int p1)]) hx hb dL_takeWord_9 rfl hl (by decide) rfl (fun ls hl => ?_)
      refine lv_iconst (v := 1) hx hb dL_takeWord_10 (by decide) ?_
      exact hQ _ _ _ _ _ _ _ _ hf hw dL_takeWord_11 (Nat.le_of_ble_eq_true rfl) (Nat.le_of_ble_eq_true rfl)
    · refine vx_catch (name := "java/util/NoSuchElementException") hown (tableOf [(0, 6, 9, 13)]) ⟨0, 6, 12, 57⟩ ([]) (by rw [htb]; rfl) (fun z hz => by
          have hz : z = ⟨0, 6, 9, 13⟩ := by simpa [tableOf] using hz
          rcases hz with rfl
          · exact Or.inr ⟨by decide, "java/lang/IllegalArgumentException", hts _ q_130, hN ("java/util/NoSuchElementException", "java/lang/IllegalArgumentException") (by decide)⟩) (by decide) (by decide) (hts _ q_786) (va_Nw.use rfl (hE.2.1 _ (by decide +kernel))) h1 h2 h3 ?_
      refine W.eq (g2 := F0 m 12 ls [.ref q9]) rfl ?_
      refine lv_astore_n (lv' := [(3, .ref q9), (0, .ref (xa X 0)), (1, .int p0), (2, .int p1)]) hx hb dL_takeWord_12 rfl hl (by decide) rfl (fun ls hl => ?_)
      refine lv_iconst (v := 2) hx hb dL_takeWord_13 (by decide) ?_
      exact hQ _ _ _ _ _ _ _ _ hf hw dL_takeWord_14 (Nat.le_of_ble_eq_true rfl) (Nat.le_of_ble_eq_true rfl)
  · refine lv_goto (tgt := 15) hx hb dL_takeWord_6 (by decide) ?_
    refine lv_iconst (v := 0) hx hb dL_takeWord_15 (by decide) ?_
    exact hQ _ _ _ _ _ _ _ _ hf hw dL_takeWord_16 (Nat.le_of_ble_eq_true rfl) (Nat.le_of_ble_eq_true rfl)
def pL_drawWord (p0 : Int64) (p1 : Int32) (S : gS) (Post : Int32 → gS → Prop) : Prop :=
  pX8_drawWord p0 p1 S (fun r S1 => Post 0 (uB S1 32 (0 : Int32).toNatClampNeg r.toInt64)) (fun E S1 => (E = "java/lang/IllegalArgumentException" ∧ Post 1 S1) ∨ (E = "java/util/NoSuchElementException" ∧ Post 2 S1))
def rL_drawWord : Room := { frames := 8, cells := 2, slots := 12, locals := 208 }
set_option maxHeartbeats 40000000 in
set_option maxRecDepth 100000 in
theorem kL_drawWord (l : Launch) (hlt : l.stackTraces = false) (X : xG) (S : gS) (sz : Nat) (p0 : Int64) (p1 : Int32) (Post : Int32 → gS → Prop) (hf : pL_drawWord p0 p1 S Post) : uM l yL_drawWord (Cond.codeWith yL_drawWord cL_drawWord 6 (some .int) [(0, 11, 14, 13), (0, 11, 18, 57)] :: WS) rL_drawWord X S sz [.ref (xa X 0), .long p0, .int p1, .ref (xa X 32)] Post 2 12 := by
  refine uM.of (cc := cL_drawWord) (maxL := 6) (by decide) rfl rfl (Nat.le_of_ble_eq_true rfl) ?_
  intro p e s m args below meth c ls Q hC htb hN hQ hw hl
  obtain ⟨hx, hb, hml, hown, hts, hE, hi⟩ := id hC
  have hK := hE.1
  have hl : lv_has ls 6 [(0, .ref (xa X 0)), (1, .long p0), (3, .int p1), (4, .ref (xa X 32))] := hl
  rw [pL_drawWord] at hf
  refine lv_aload hx hb dL_drawWord_0 (lv_at hl 3 rfl) ?_
  refine lv_iconst (v := 0) hx hb dL_drawWord_2 (by decide) ?_
  refine lv_aload_n hx hb dL_drawWord_3 rfl (lv_at hl 0 rfl) ?_
  refine lv_lload_n hx hb dL_drawWord_4 rfl (lv_at hl 1 rfl) ?_
  refine lv_iload_n hx hb dL_drawWord_5 rfl (lv_at hl 2 rfl) ?_
  refine y_ci (y_rV (As := [.long p0, .int p1]) (rest := [.int 0, .ref (xa X 32)]) hC hw (kX8_drawWord l hlt X S _ p0 p1 _ _ hf) (cwV 2 hts (gV q_692 q_693 q_694 q_2 q_695) rfl rfl rfl (by decide +kernel) ⟨Nat.le_of_ble_eq_true rfl, Nat.le_of_ble_eq_true rfl⟩) (x_recv hK hw (k := 0) (by decide) rfl rfl) rfl hl.1 rfl (Nat.le_of_ble_eq_true rfl) dL_drawWord_6 ⟨Nat.le_of_ble_eq_true rfl, Nat.le_of_ble_eq_true rfl⟩) hw hi (fun E ce q9 S9 H locs hp hw h1 h2 h3 => ?_) (fun r S1 H locs hf hw => ?_)
  · rcases hp with ⟨rfl, hf⟩ | ⟨rfl, hf⟩
    · refine vx_catch (name := "java/lang/IllegalArgumentException") hown ([]) ⟨0, 11, 14, 13⟩ (tableOf [(0, 11, 18, 57)]) (by rw [htb]; rfl) (fun z hz => absurd hz List.not_mem_nil) (by decide) (by decide) (hts _ q_130) (va_Nw.use rfl (hE.2.1 _ (by decide +kernel))) h1 h2 h3 ?_
      refine W.eq (g2 := F0 m 14 ls [.ref q9]) rfl ?_
      refine lv_astore (lv' := [(5, .ref q9), (0, .ref (xa X 0)), (1, .long p0), (3, .int p1), (4, .ref (xa X 32))]) hx hb dL_drawWord_14 hl (by decide) rfl (fun ls hl => ?_)
      refine lv_iconst (v := 1) hx hb dL_drawWord_16 (by decide) ?_
      exact hQ _ _ _ _ _ _ _ _ hf hw dL_drawWord_17 (Nat.le_of_ble_eq_true rfl) (Nat.le_of_ble_eq_true rfl)
    · refine vx_catch (name := "java/util/NoSuchElementException") hown (tableOf [(0, 11, 14, 13)]) ⟨0, 11, 18, 57⟩ ([]) (by rw [htb]; rfl) (fun z hz => by
          have hz : z = ⟨0, 11, 14, 13⟩ := by simpa [tableOf] using hz
          rcases hz with rfl
          · exact Or.inr ⟨by decide, "java/lang/IllegalArgumentException", hts _ q_130, hN ("java/util/NoSuchElementException", "java/lang/IllegalArgumentException") (by decide)⟩) (by decide) (by decide) (hts _ q_786) (va_Nw.use rfl (hE.2.1 _ (by decide +kernel))) h1 h2 h3 ?_
      refine W.eq (g2 := F0 m 18 ls [.ref q9]) rfl ?_
      refine lv_astore (lv' := [(5, .ref q9), (0, .ref (xa X 0)), (1, .long p0), (3, .int p1), (4, .ref (xa X 32))]) hx hb dL_drawWord_18 hl (by decide) rfl (fun ls hl => ?_)
      refine lv_iconst (v := 2) hx hb dL_drawWord_20 (by decide) ?_
      exact hQ _ _ _ _ _ _ _ _ hf hw dL_drawWord_21 (Nat.le_of_ble_eq_true rfl) (Nat.le_of_ble_eq_true rfl)
  · refine lv_i2l hx hb dL_drawWord_9 rfl ?_
    refine x_lst (k := 32) (n := 1) hx hb hK hw (by decide) rfl rfl (by unfold vp_in; decide +kernel) dL_drawWord_10 (uX_A32 X S1 _ _) (fun H locs hw => ?_)
    refine lv_goto (tgt := 22) hx hb dL_drawWord_11 (by decide) ?_
    refine lv_iconst (v := 0) hx hb dL_drawWord_22 (by decide) ?_
    exact hQ _ _ _ _ _ _ _ _ hf hw dL_drawWord_23 (Nat.le_of_ble_eq_true rfl) (Nat.le_of_ble_eq_true rfl)
def pL_drawTree (p0 : Int64) (p1 : Int32) (S : gS) (Post : Int32 → gS → Prop) : Prop :=
  pX8_drawTree p0 p1 S (fun r S1 => Post 0 (uB S1 32 (0 : Int32).toNatClampNeg r)) (fun E S1 => (E = "java/lang/IllegalArgumentException" ∧ Post 1 S1) ∨ (E = "java/util/NoSuchElementException" ∧ Post 2 S1))
def rL_drawTree : Room := { frames := 20, cells := 2, slots := 12, locals := 1069 }
set_option maxHeartbeats 40000000 in
set_option maxRecDepth 100000 in
theorem kL_drawTree (l : Launch) (hlt : l.stackTraces = false) (X : xG) (S : gS) (sz : Nat) (p0 : Int64) (p1 : Int32) (Post : Int32 → gS → Prop) (hf : pL_drawTree p0 p1 S Post) : uM l yL_drawTree (Cond.codeWith yL_drawTree cL_drawTree 6 (some .int) [(0, 10, 13, 13), (0, 10, 17, 57)] :: WS) rL_drawTree X S sz [.ref (xa X 0), .long p0, .int p1, .ref (xa X 32)] Post 2 12 := by
  refine uM.of (cc := cL_drawTree) (maxL := 6) (by decide) rfl rfl (Nat.le_of_ble_eq_true rfl) ?_
  intro p e s m args below meth c ls Q hC htb hN hQ hw hl
  obtain ⟨hx, hb, hml, hown, hts, hE, hi⟩ := id hC
  have hK := hE.1
  have hl : lv_has ls 6 [(0, .ref (xa X 0)), (1, .long p0), (3, .int p1), (4, .ref (xa X 32))] := hl
  rw [pL_drawTree] at hf
  refine lv_aload hx hb dL_drawTree_0 (lv_at hl 3 rfl) ?_
  refine lv_iconst (v := 0) hx hb dL_drawTree_2 (by decide) ?_
  refine lv_aload_n hx hb dL_drawTree_3 rfl (lv_at hl 0 rfl) ?_
  refine lv_lload_n hx hb dL_drawTree_4 rfl (lv_at hl 1 rfl) ?_
  refine lv_iload_n hx hb dL_drawTree_5 rfl (lv_at hl 2 rfl) ?_
  refine y_cl (y_rV (As := [.long p0, .int p1]) (rest := [.int 0, .ref (xa X 32)]) hC hw (kX8_drawTree l hlt X S _ p0 p1 _ _ hf) (cwV 2 hts (gV q_713 q_714 q_715 q_2 q_716) rfl rfl rfl (by decide +kernel) ⟨Nat.le_of_ble_eq_true rfl, Nat.le_of_ble_eq_true rfl⟩) (x_recv hK hw (k := 0) (by decide) rfl rfl) rfl hl.1 rfl (Nat.le_of_ble_eq_true rfl) dL_drawTree_6 ⟨Nat.le_of_ble_eq_true rfl, Nat.le_of_ble_eq_true rfl⟩) hw hi (fun E ce q9 S9 H locs hp hw h1 h2 h3 => ?_) (fun r S1 H locs hf hw => ?_)
  · rcases hp with ⟨rfl, hf⟩ | ⟨rfl, hf⟩
    · refine vx_catch (name := "java/lang/IllegalArgumentException") hown ([]) ⟨0, 10, 13, 13⟩ (tableOf [(0, 10, 17, 57)]) (by rw [htb]; rfl) (fun z hz => absurd hz List.not_mem_nil) (by decide) (by decide) (hts _ q_130) (va_Nw.use rfl (hE.2.1 _ (by decide +kernel))) h1 h2 h3 ?_
      refine W.eq (g2 := F0 m 13 ls [.ref q9]) rfl ?_
      refine lv_astore (lv' := [(5, .ref q9), (0, .ref (xa X 0)), (1, .long p0), (3, .int p1), (4, .ref (xa X 32))]) hx hb dL_drawTree_13 hl (by decide) rfl (fun ls hl => ?_)
      refine lv_iconst (v := 1) hx hb dL_drawTree_15 (by decide) ?_
      exact hQ _ _ _ _ _ _ _ _ hf hw dL_drawTree_16 (Nat.le_of_ble_eq_true rfl) (Nat.le_of_ble_eq_true rfl)
    · refine vx_catch (name := "java/util/NoSuchElementException") hown (tableOf [(0, 10, 13, 13)]) ⟨0, 10, 17, 57⟩ ([]) (by rw [htb]; rfl) (fun z hz => by
          have hz : z = ⟨0, 10, 13, 13⟩ := by simpa [tableOf] using hz
          rcases hz with rfl
          · exact Or.inr ⟨by decide, "java/lang/IllegalArgumentException", hts _ q_130, hN ("java/util/NoSuchElementException", "java/lang/IllegalArgumentException") (by decide)⟩) (by decide) (by decide) (hts _ q_786) (va_Nw.use rfl (hE.2.1 _ (by decide +kernel))) h1 h2 h3 ?_
      refine W.eq (g2 := F0 m 17 ls [.ref q9]) rfl ?_
      refine lv_astore (lv' := [(5, .ref q9), (0, .ref (xa X 0)), (1, .long p0), (3, .int p1), (4, .ref (xa X 32))]) hx hb dL_drawTree_17 hl (by decide) rfl (fun ls hl => ?_)
      refine lv_iconst (v := 2) hx hb dL_drawTree_19 (by decide) ?_
      exact hQ _ _ _ _ _ _ _ _ hf hw dL_drawTree_20 (Nat.le_of_ble_eq_true rfl) (Nat.le_of_ble_eq_true rfl)
  · refine x_lst (k := 32) (n := 1) hx hb hK hw (by decide) rfl rfl (by unfold vp_in; decide +kernel) dL_drawTree_9 (uX_A32 X S1 _ _) (fun H locs hw => ?_)
    refine lv_goto (tgt := 21) hx hb dL_drawTree_10 (by decide) ?_
    refine lv_iconst (v := 0) hx hb dL_drawTree_21 (by decide) ?_
    exact hQ _ _ _ _ _ _ _ _ hf hw dL_drawTree_22 (Nat.le_of_ble_eq_true rfl) (Nat.le_of_ble_eq_true rfl)
def pL_takeTree (p0 : Int64) (S : gS) (Post : Int32 → gS → Prop) : Prop :=
  pX8_takeTree p0 S (fun r S1 => Post 0 (uB S1 32 (0 : Int32).toNatClampNeg r.toInt64)) (fun E S1 => (E = "java/util/NoSuchElementException" ∧ Post 1 S1))
def rL_takeTree : Room := { frames := 20, cells := 1, slots := 6, locals := 1064 }
set_option maxHeartbeats 40000000 in
set_option maxRecDepth 100000 in
theorem kL_takeTree (l : Launch) (hlt : l.stackTraces = false) (X : xG) (S : gS) (sz : Nat) (p0 : Int64) (Post : Int32 → gS → Prop) (hf : pL_takeTree p0 S Post) : uM l yL_takeTree (Cond.codeWith yL_takeTree cL_takeTree 5 (some .int) [(0, 9, 12, 57)] :: WS) rL_takeTree X S sz [.ref (xa X 0), .long p0, .ref (xa X 32)] Post 1 6 := by
  refine uM.of (cc := cL_takeTree) (maxL := 5) (by decide) rfl rfl (Nat.le_of_ble_eq_true rfl) ?_
  intro p e s m args below meth c ls Q hC htb hN hQ hw hl
  obtain ⟨hx, hb, hml, hown, hts, hE, hi⟩ := id hC
  have hK := hE.1
  have hl : lv_has ls 5 [(0, .ref (xa X 0)), (1, .long p0), (3, .ref (xa X 32))] := hl
  rw [pL_takeTree] at hf
  refine lv_aload_n hx hb dL_takeTree_0 rfl (lv_at hl 2 rfl) ?_
  refine lv_iconst (v := 0) hx hb dL_takeTree_1 (by decide) ?_
  refine lv_aload_n hx hb dL_takeTree_2 rfl (lv_at hl 0 rfl) ?_
  refine lv_lload_n hx hb dL_takeTree_3 rfl (lv_at hl 1 rfl) ?_
  refine y_ci (y_rV (As := [.long p0]) (rest := [.int 0, .ref (xa X 32)]) hC hw (kX8_takeTree l hlt X S _ p0 _ _ hf) (cwV 1 hts (gV q_787 q_788 q_789 q_2 q_790) rfl rfl rfl (by decide +kernel) ⟨Nat.le_of_ble_eq_true rfl, Nat.le_of_ble_eq_true rfl⟩) (x_recv hK hw (k := 0) (by decide) rfl rfl) rfl hl.1 rfl (Nat.le_of_ble_eq_true rfl) dL_takeTree_4 ⟨Nat.le_of_ble_eq_true rfl, Nat.le_of_ble_eq_true rfl⟩) hw hi (fun E ce q9 S9 H locs hp hw h1 h2 h3 => ?_) (fun r S1 H locs hf hw => ?_)
  · rcases hp with ⟨rfl, hf⟩
    · refine vx_catch (name := "java/util/NoSuchElementException") hown ([]) ⟨0, 9, 12, 57⟩ ([]) (by rw [htb]; rfl) (fun z hz => absurd hz List.not_mem_nil) (by decide) (by decide) (hts _ q_786) (va_Nw.use rfl (hE.2.1 _ (by decide +kernel))) h1 h2 h3 ?_
      refine W.eq (g2 := F0 m 12 ls [.ref q9]) rfl ?_
      refine lv_astore (lv' := [(4, .ref q9), (0, .ref (xa X 0)), (1, .long p0), (3, .ref (xa X 32))]) hx hb dL_takeTree_12 hl (by decide) rfl (fun ls hl => ?_)
      refine lv_iconst (v := 1) hx hb dL_takeTree_14 (by decide) ?_
      exact hQ _ _ _ _ _ _ _ _ hf hw dL_takeTree_15 (Nat.le_of_ble_eq_true rfl) (Nat.le_of_ble_eq_true rfl)
  · refine lv_i2l hx hb dL_takeTree_7 rfl ?_
    refine x_lst (k := 32) (n := 1) hx hb hK hw (by decide) rfl rfl (by unfold vp_in; decide +kernel) dL_takeTree_8 (uX_A32 X S1 _ _) (fun H locs hw => ?_)
    refine lv_goto (tgt := 16) hx hb dL_takeTree_9 (by decide) ?_
    refine lv_iconst (v := 0) hx hb dL_takeTree_16 (by decide) ?_
    exact hQ _ _ _ _ _ _ _ _ hf hw dL_takeTree_17 (Nat.le_of_ble_eq_true rfl) (Nat.le_of_ble_eq_true rfl)
def pL_treeNumber (S : gS) (Post : Int32 → gS → Prop) : Prop :=
  pX8_treeNumber  S (fun r => Post 0 (uB S 32 (0 : Int32).toNatClampNeg r)) (fun E S1 => (E = "java/lang/IllegalStateException" ∧ Post 1 S1))
def rL_treeNumber : Room := { frames := 8, cells := 1, slots := 6, locals := 130 }
set_option maxHeartbeats 40000000 in
set_option maxRecDepth 100000 in
theorem kL_treeNumber (l : Launch) (hlt : l.stackTraces = false) (X : xG) (S : gS) (sz : Nat) (Post : Int32 → gS → Prop) (hf : pL_treeNumber S Post) : uM l yL_treeNumber (Cond.codeWith yL_treeNumber cL_treeNumber 3 (some .int) [(0, 7, 10, 19)] :: WS) rL_treeNumber X S sz [.ref (xa X 0), .ref (xa X 32)] Post 1 6 := by
  refine uM.of (cc := cL_treeNumber) (maxL := 3) (by decide) rfl rfl (Nat.le_of_ble_eq_true rfl) ?_
  intro p e s m args below meth c ls Q hC htb hN hQ hw hl
  obtain ⟨hx, hb, hml, hown, hts, hE, hi⟩ := id hC
  have hK := hE.1
  have hl : lv_has ls 3 [(0, .ref (xa X 0)), (1, .ref (xa X 32))] := hl
  rw [pL_treeNumber] at hf
  refine lv_aload_n hx hb dL_treeNumber_0 rfl (lv_at hl 1 rfl) ?_
  refine lv_iconst (v := 0) hx hb dL_treeNumber_1 (by decide) ?_
  refine lv_aload_n hx hb dL_treeNumber_2 rfl (lv_at hl 0 rfl) ?_
  refine y_cl (y_rV (As := []) (rest := [.int 0, .ref (xa X 32)]) hC hw (kX8_treeNumber l hlt X S _  _ _ hf) (cwV 0 hts (gV q_798 q_799 q_800 q_2 q_801) rfl rfl rfl (by decide +kernel) ⟨Nat.le_of_ble_eq_true rfl, Nat.le_of_ble_eq_true rfl⟩) (x_recv hK hw (k := 0) (by decide) rfl rfl) rfl hl.1 rfl (Nat.le_of_ble_eq_true rfl) dL_treeNumber_3 ⟨Nat.le_of_ble_eq_true rfl, Nat.le_of_ble_eq_true rfl⟩) hw hi (fun E ce q9 S9 H locs hp hw h1 h2 h3 => ?_) (fun r S1 H locs hf hw => ?_)
  · rcases hp with ⟨rfl, hf⟩
    · refine vx_catch (name := "java/lang/IllegalStateException") hown ([]) ⟨0, 7, 10, 19⟩ ([]) (by rw [htb]; rfl) (fun z hz => absurd hz List.not_mem_nil) (by decide) (by decide) (hts _ q_661) (va_Nw.use rfl (hE.2.1 _ (by decide +kernel))) h1 h2 h3 ?_
      refine W.eq (g2 := F0 m 10 ls [.ref q9]) rfl ?_
      refine lv_astore_n (lv' := [(2, .ref q9), (0, .ref (xa X 0)), (1, .ref (xa X 32))]) hx hb dL_treeNumber_10 rfl hl (by decide) rfl (fun ls hl => ?_)
      refine lv_iconst (v := 1) hx hb dL_treeNumber_11 (by decide) ?_
      exact hQ _ _ _ _ _ _ _ _ hf hw dL_treeNumber_12 (Nat.le_of_ble_eq_true rfl) (Nat.le_of_ble_eq_true rfl)
  · obtain ⟨hf, rfl⟩ := hf
    refine x_lst (k := 32) (n := 1) hx hb hK hw (by decide) rfl rfl (by unfold vp_in; decide +kernel) dL_treeNumber_6 (uX_A32 X S _ _) (fun H locs hw => ?_)
    refine lv_goto (tgt := 13) hx hb dL_treeNumber_7 (by decide) ?_
    refine lv_iconst (v := 0) hx hb dL_treeNumber_13 (by decide) ?_
    exact hQ _ _ _ _ _ _ _ _ hf hw dL_treeNumber_14 (Nat.le_of_ble_eq_true rfl) (Nat.le_of_ble_eq_true rfl)
def pL_treeSize (S : gS) (Post : Int32 → gS → Prop) : Prop :=
  pX8_treeSize  S (fun r => Post 0 (uB S 32 (0 : Int32).toNatClampNeg r.toInt64)) (fun E S1 => (E = "java/lang/IllegalStateException" ∧ Post 1 S1))
def rL_treeSize : Room := { frames := 8, cells := 1, slots := 6, locals := 130 }
set_option maxHeartbeats 40000000 in
set_option maxRecDepth 100000 in
theorem kL_treeSize (l : Launch) (hlt : l.stackTraces = false) (X : xG) (S : gS) (sz : Nat) (Post : Int32 → gS → Prop) (hf : pL_treeSize S Post) : uM l yL_treeSize (Cond.codeWith yL_treeSize cL_treeSize 3 (some .int) [(0, 8, 11, 19)] :: WS) rL_treeSize X S sz [.ref (xa X 0), .ref (xa X 32)] Post 1 6 := by
  refine uM.of (cc := cL_treeSize) (maxL := 3) (by decide) rfl rfl (Nat.le_of_ble_eq_true rfl) ?_
  intro p e s m args below meth c ls Q hC htb hN hQ hw hl
  obtain ⟨hx, hb, hml, hown, hts, hE, hi⟩ := id hC
  have hK := hE.1
  have hl : lv_has ls 3 [(0, .ref (xa X 0)), (1, .ref (xa X 32))] := hl
  rw [pL_treeSize] at hf
  refine lv_aload_n hx hb dL_treeSize_0 rfl (lv_at hl 1 rfl) ?_
  refine lv_iconst (v := 0) hx hb dL_treeSize_1 (by decide) ?_
  refine lv_aload_n hx hb dL_treeSize_2 rfl (lv_at hl 0 rfl) ?_
  refine y_ci (y_rV (As := []) (rest := [.int 0, .ref (xa X 32)]) hC hw (kX8_treeSize l hlt X S _  _ _ hf) (cwV 0 hts (gV q_826 q_827 q_828 q_2 q_829) rfl rfl rfl (by decide +kernel) ⟨Nat.le_of_ble_eq_true rfl, Nat.le_of_ble_eq_true rfl⟩) (x_recv hK hw (k := 0) (by decide) rfl rfl) rfl hl.1 rfl (Nat.le_of_ble_eq_true rfl) dL_treeSize_3 ⟨Nat.le_of_ble_eq_true rfl, Nat.le_of_ble_eq_true rfl⟩) hw hi (fun E ce q9 S9 H locs hp hw h1 h2 h3 => ?_) (fun r S1 H locs hf hw => ?_)
  · rcases hp with ⟨rfl, hf⟩
    · refine vx_catch (name := "java/lang/IllegalStateException") hown ([]) ⟨0, 8, 11, 19⟩ ([]) (by rw [htb]; rfl) (fun z hz => absurd hz List.not_mem_nil) (by decide) (by decide) (hts _ q_661) (va_Nw.use rfl (hE.2.1 _ (by decide +kernel))) h1 h2 h3 ?_
      refine W.eq (g2 := F0 m 11 ls [.ref q9]) rfl ?_
      refine lv_astore_n (lv' := [(2, .ref q9), (0, .ref (xa X 0)), (1, .ref (xa X 32))]) hx hb dL_treeSize_11 rfl hl (by decide) rfl (fun ls hl => ?_)
      refine lv_iconst (v := 1) hx hb dL_treeSize_12 (by decide) ?_
      exact hQ _ _ _ _ _ _ _ _ hf hw dL_treeSize_13 (Nat.le_of_ble_eq_true rfl) (Nat.le_of_ble_eq_true rfl)
  · obtain ⟨hf, rfl⟩ := hf
    refine lv_i2l hx hb dL_treeSize_6 rfl ?_
    refine x_lst (k := 32) (n := 1) hx hb hK hw (by decide) rfl rfl (by unfold vp_in; decide +kernel) dL_treeSize_7 (uX_A32 X S _ _) (fun H locs hw => ?_)
    refine lv_goto (tgt := 14) hx hb dL_treeSize_8 (by decide) ?_
    refine lv_iconst (v := 0) hx hb dL_treeSize_14 (by decide) ?_
    exact hQ _ _ _ _ _ _ _ _ hf hw dL_treeSize_15 (Nat.le_of_ble_eq_true rfl) (Nat.le_of_ble_eq_true rfl)
def pL_treeNode (p0 : Int32) (p1 : Int32) (S : gS) (Post : Int32 → gS → Prop) : Prop :=
  pX8_treeNode p0 p1 S (fun r => Post 0 (uB S 32 (0 : Int32).toNatClampNeg r.toInt64)) (fun E S1 => (E = "java/lang/IllegalStateException" ∧ Post 1 S1) ∨ (E = "java/lang/IndexOutOfBoundsException" ∧ Post 2 S1) ∨ (E = "java/lang/IllegalArgumentException" ∧ Post 3 S1))
def rL_treeNode : Room := { frames := 8, cells := 2, slots := 12, locals := 132 }
set_option maxHeartbeats 40000000 in
set_option maxRecDepth 100000 in
theorem kL_treeNode (l : Launch) (hlt : l.stackTraces = false) (X : xG) (S : gS) (sz : Nat) (p0 : Int32) (p1 : Int32) (Post : Int32 → gS → Prop) (hf : pL_treeNode p0 p1 S Post) : uM l yL_treeNode (Cond.codeWith yL_treeNode cL_treeNode 5 (some .int) [(0, 10, 13, 19), (0, 10, 17, 29), (0, 10, 21, 13)] :: WS) rL_treeNode X S sz [.ref (xa X 0), .int p0, .int p1, .ref (xa X 32)] Post 2 12 := by
  refine uM.of (cc := cL_treeNode) (maxL := 5) (by decide) rfl rfl (Nat.le_of_ble_eq_true rfl) ?_
  intro p e s m args below meth c ls Q hC htb hN hQ hw hl
  obtain ⟨hx, hb, hml, hown, hts, hE, hi⟩ := id hC
  have hK := hE.1
  have hl : lv_has ls 5 [(0, .ref (xa X 0)), (1, .int p0), (2, .int p1), (3, .ref (xa X 32))] := hl
  rw [pL_treeNode] at hf
  refine lv_aload_n hx hb dL_treeNode_0 rfl (lv_at hl 3 rfl) ?_
  refine lv_iconst (v := 0) hx hb dL_treeNode_1 (by decide) ?_
  refine lv_aload_n hx hb dL_treeNode_2 rfl (lv_at hl 0 rfl) ?_
  refine lv_iload_n hx hb dL_treeNode_3 rfl (lv_at hl 1 rfl) ?_
  refine lv_iload_n hx hb dL_treeNode_4 rfl (lv_at hl 2 rfl) ?_
  refine y_ci (y_rV (As := [.int p0, .int p1]) (rest := [.int 0, .ref (xa X 32)]) hC hw (kX8_treeNode l hlt X S _ p0 p1 _ _ hf) (cwV 2 hts (gV q_837 q_838 q_839 q_2 q_840) rfl rfl rfl (by decide +kernel) ⟨Nat.le_of_ble_eq_true rfl, Nat.le_of_ble_eq_true rfl⟩) (x_recv hK hw (k := 0) (by decide) rfl rfl) rfl hl.1 rfl (Nat.le_of_ble_eq_true rfl) dL_treeNode_5 ⟨Nat.le_of_ble_eq_true rfl, Nat.le_of_ble_eq_true rfl⟩) hw hi (fun E ce q9 S9 H locs hp hw h1 h2 h3 => ?_) (fun r S1 H locs hf hw => ?_)
  · rcases hp with ⟨rfl, hf⟩ | ⟨rfl, hf⟩ | ⟨rfl, hf⟩
    · refine vx_catch (name := "java/lang/IllegalStateException") hown ([]) ⟨0, 10, 13, 19⟩ (tableOf [(0, 10, 17, 29), (0, 10, 21, 13)]) (by rw [htb]; rfl) (fun z hz => absurd hz List.not_mem_nil) (by decide) (by decide) (hts _ q_661) (va_Nw.use rfl (hE.2.1 _ (by decide +kernel))) h1 h2 h3 ?_
      refine W.eq (g2 := F0 m 13 ls [.ref q9]) rfl ?_
      refine lv_astore (lv' := [(4, .ref q9), (0, .ref (xa X 0)), (1, .int p0), (2, .int p1), (3, .ref (xa X 32))]) hx hb dL_treeNode_13 hl (by decide) rfl (fun ls hl => ?_)
      refine lv_iconst (v := 1) hx hb dL_treeNode_15 (by decide) ?_
      exact hQ _ _ _ _ _ _ _ _ hf hw dL_treeNode_16 (Nat.le_of_ble_eq_true rfl) (Nat.le_of_ble_eq_true rfl)
    · refine vx_catch (name := "java/lang/IndexOutOfBoundsException") hown (tableOf [(0, 10, 13, 19)]) ⟨0, 10, 17, 29⟩ (tableOf [(0, 10, 21, 13)]) (by rw [htb]; rfl) (fun z hz => by
          have hz : z = ⟨0, 10, 13, 19⟩ := by simpa [tableOf] using hz
          rcases hz with rfl
          · exact Or.inr ⟨by decide, "java/lang/IllegalStateException", hts _ q_661, hN ("java/lang/IndexOutOfBoundsException", "java/lang/IllegalStateException") (by decide)⟩) (by decide) (by decide) (hts _ q_380) (va_Nw.use rfl (hE.2.1 _ (by decide +kernel))) h1 h2 h3 ?_
      refine W.eq (g2 := F0 m 17 ls [.ref q9]) rfl ?_
      refine lv_astore (lv' := [(4, .ref q9), (0, .ref (xa X 0)), (1, .int p0), (2, .int p1), (3, .ref (xa X 32))]) hx hb dL_treeNode_17 hl (by decide) rfl (fun ls hl => ?_)
      refine lv_iconst (v := 2) hx hb dL_treeNode_19 (by decide) ?_
      exact hQ _ _ _ _ _ _ _ _ hf hw dL_treeNode_20 (Nat.le_of_ble_eq_true rfl) (Nat.le_of_ble_eq_true rfl)
    · refine vx_catch (name := "java/lang/IllegalArgumentException") hown (tableOf [(0, 10, 13, 19), (0, 10, 17, 29)]) ⟨0, 10, 21, 13⟩ ([]) (by rw [htb]; rfl) (fun z hz => by
          have hz : z = ⟨0, 10, 13, 19⟩ ∨ z = ⟨0, 10, 17, 29⟩ := by simpa [tableOf] using hz
          rcases hz with rfl | rfl
          · exact Or.inr ⟨by decide, "java/lang/IllegalStateException", hts _ q_661, hN ("java/lang/IllegalArgumentException", "java/lang/IllegalStateException") (by decide)⟩
          · exact Or.inr ⟨by decide, "java/lang/IndexOutOfBoundsException", hts _ q_380, hN ("java/lang/IllegalArgumentException", "java/lang/IndexOutOfBoundsException") (by decide)⟩) (by decide) (by decide) (hts _ q_130) (va_Nw.use rfl (hE.2.1 _ (by decide +kernel))) h1 h2 h3 ?_
      refine W.eq (g2 := F0 m 21 ls [.ref q9]) rfl ?_
      refine lv_astore (lv' := [(4, .ref q9), (0, .ref (xa X 0)), (1, .int p0), (2, .int p1), (3, .ref (xa X 32))]) hx hb dL_treeNode_21 hl (by decide) rfl (fun ls hl => ?_)
      refine lv_iconst (v := 3) hx hb dL_treeNode_23 (by decide) ?_
      exact hQ _ _ _ _ _ _ _ _ hf hw dL_treeNode_24 (Nat.le_of_ble_eq_true rfl) (Nat.le_of_ble_eq_true rfl)
  · obtain ⟨hf, rfl⟩ := hf
    refine lv_i2l hx hb dL_treeNode_8 rfl ?_
    refine x_lst (k := 32) (n := 1) hx hb hK hw (by decide) rfl rfl (by unfold vp_in; decide +kernel) dL_treeNode_9 (uX_A32 X S _ _) (fun H locs hw => ?_)
    refine lv_goto (tgt := 25) hx hb dL_treeNode_10 (by decide) ?_
    refine lv_iconst (v := 0) hx hb dL_treeNode_25 (by decide) ?_
    exact hQ _ _ _ _ _ _ _ _ hf hw dL_treeNode_26 (Nat.le_of_ble_eq_true rfl) (Nat.le_of_ble_eq_true rfl)
def pL_allocate (p0 : Int32) (p1 : Int32) (p2 : Int32) (S : gS) (Post : Int32 → gS → Prop) : Prop :=
  pX8_allocate p0 p1 p2 S (fun S1 => Post 0 S1) (fun E S1 => (E = "java/lang/IllegalArgumentException" ∧ Post 1 S1))
def rL_allocate : Room := { frames := 8, cells := 2, slots := 12, locals := 133 }
set_option maxHeartbeats 40000000 in
set_option maxRecDepth 100000 in
theorem kL_allocate (l : Launch) (hlt : l.stackTraces = false) (X : xG) (S : gS) (sz : Nat) (p0 : Int32) (p1 : Int32) (p2 : Int32) (Post : Int32 → gS → Prop) (hf : pL_allocate p0 p1 p2 S Post) : uM l yL_allocate (Cond.codeWith yL_allocate cL_allocate 5 (some .int) [(0, 7, 10, 13)] :: WS) rL_allocate X S sz [.ref (xa X 0), .int p0, .int p1, .int p2] Post 2 12 := by
  refine uM.of (cc := cL_allocate) (maxL := 5) (by decide) rfl rfl (Nat.le_of_ble_eq_true rfl) ?_
  intro p e s m args below meth c ls Q hC htb hN hQ hw hl
  obtain ⟨hx, hb, hml, hown, hts, hE, hi⟩ := id hC
  have hK := hE.1
  have hl : lv_has ls 5 [(0, .ref (xa X 0)), (1, .int p0), (2, .int p1), (3, .int p2)] := hl
  rw [pL_allocate] at hf
  refine lv_aload_n hx hb dL_allocate_0 rfl (lv_at hl 0 rfl) ?_
  refine lv_iload_n hx hb dL_allocate_1 rfl (lv_at hl 1 rfl) ?_
  refine lv_iload_n hx hb dL_allocate_2 rfl (lv_at hl 2 rfl) ?_
  refine lv_iload_n hx hb dL_allocate_3 rfl (lv_at hl 3 rfl) ?_
  refine y_cv (y_rV (As := [.int p0, .int p1, .int p2]) (rest := []) hC hw (kX8_allocate l hlt X S _ p0 p1 p2 _ _ hf) (cwV 3 hts (gV q_848 q_849 q_850 q_2 q_851) rfl rfl rfl (by decide +kernel) ⟨Nat.le_of_ble_eq_true rfl, Nat.le_of_ble_eq_true rfl⟩) (x_recv hK hw (k := 0) (by decide) rfl rfl) rfl hl.1 rfl (Nat.le_of_ble_eq_true rfl) dL_allocate_4 ⟨Nat.le_of_ble_eq_true rfl, Nat.le_of_ble_eq_true rfl⟩) hw hi (fun E ce q9 S9 H locs hp hw h1 h2 h3 => ?_) (fun S1 H locs hf hw => ?_)
  · rcases hp with ⟨rfl, hf⟩
    · refine vx_catch (name := "java/lang/IllegalArgumentException") hown ([]) ⟨0, 7, 10, 13⟩ ([]) (by rw [htb]; rfl) (fun z hz => absurd hz List.not_mem_nil) (by decide) (by decide) (hts _ q_130) (va_Nw.use rfl (hE.2.1 _ (by decide +kernel))) h1 h2 h3 ?_
      refine W.eq (g2 := F0 m 10 ls [.ref q9]) rfl ?_
      refine lv_astore (lv' := [(4, .ref q9), (0, .ref (xa X 0)), (1, .int p0), (2, .int p1), (3, .int p2)]) hx hb dL_allocate_10 hl (by decide) rfl (fun ls hl => ?_)
      refine lv_iconst (v := 1) hx hb dL_allocate_12 (by decide) ?_
      exact hQ _ _ _ _ _ _ _ _ hf hw dL_allocate_13 (Nat.le_of_ble_eq_true rfl) (Nat.le_of_ble_eq_true rfl)
  · refine lv_goto (tgt := 14) hx hb dL_allocate_7 (by decide) ?_
    refine lv_iconst (v := 0) hx hb dL_allocate_14 (by decide) ?_
    exact hQ _ _ _ _ _ _ _ _ hf hw dL_allocate_15 (Nat.le_of_ble_eq_true rfl) (Nat.le_of_ble_eq_true rfl)
def pL_setElement (p0 : Int32) (p1 : Int32) (p2 : Int32) (S : gS) (Post : Int32 → gS → Prop) : Prop :=
  pX8_setElement p0 p1 p2 S (fun r S1 => Post 0 (uB S1 32 (0 : Int32).toNatClampNeg r.toInt64)) (fun E S1 => (E = "java/lang/IllegalArgumentException" ∧ Post 1 S1) ∨ (E = "java/lang/IllegalStateException" ∧ Post 2 S1) ∨ (E = "java/lang/IndexOutOfBoundsException" ∧ Post 3 S1))
def rL_setElement : Room := { frames := 8, cells := 3, slots := 18, locals := 137 }
set_option maxHeartbeats 40000000 in
set_option maxRecDepth 100000 in
theorem kL_setElement (l : Launch) (hlt : l.stackTraces = false) (X : xG) (S : gS) (sz : Nat) (p0 : Int32) (p1 : Int32) (p2 : Int32) (Post : Int32 → gS → Prop) (hf : pL_setElement p0 p1 p2 S Post) : uM l yL_setElement (Cond.codeWith yL_setElement cL_setElement 6 (some .int) [(0, 12, 15, 13), (0, 12, 19, 19), (0, 12, 23, 29)] :: WS) rL_setElement X S sz [.ref (xa X 0), .int p0, .int p1, .int p2, .ref (xa X 32)] Post 3 18 := by
  refine uM.of (cc := cL_setElement) (maxL := 6) (by decide) rfl rfl (Nat.le_of_ble_eq_true rfl) ?_
  intro p e s m args below meth c ls Q hC htb hN hQ hw hl
  obtain ⟨hx, hb, hml, hown, hts, hE, hi⟩ := id hC
  have hK := hE.1
  have hl : lv_has ls 6 [(0, .ref (xa X 0)), (1, .int p0), (2, .int p1), (3, .int p2), (4, .ref (xa X 32))] := hl
  rw [pL_setElement] at hf
  refine lv_aload hx hb dL_setElement_0 (lv_at hl 4 rfl) ?_
  refine lv_iconst (v := 0) hx hb dL_setElement_2 (by decide) ?_
  refine lv_aload_n hx hb dL_setElement_3 rfl (lv_at hl 0 rfl) ?_
  refine lv_iload_n hx hb dL_setElement_4 rfl (lv_at hl 1 rfl) ?_
  refine lv_iload_n hx hb dL_setElement_5 rfl (lv_at hl 2 rfl) ?_
  refine lv_iload_n hx hb dL_setElement_6 rfl (lv_at hl 3 rfl) ?_
  refine y_ci (y_rV (As := [.int p0, .int p1, .int p2]) (rest := [.int 0, .ref (xa X 32)]) hC hw (kX8_setElement l hlt X S _ p0 p1 p2 _ _ hf) (cwV 3 hts (gV q_868 q_869 q_870 q_2 q_871) rfl rfl rfl (by decide +kernel) ⟨Nat.le_of_ble_eq_true rfl, Nat.le_of_ble_eq_true rfl⟩) (x_recv hK hw (k := 0) (by decide) rfl rfl) rfl hl.1 rfl (Nat.le_of_ble_eq_true rfl) dL_setElement_7 ⟨Nat.le_of_ble_eq_true rfl, Nat.le_of_ble_eq_true rfl⟩) hw hi (fun E ce q9 S9 H locs hp hw h1 h2 h3 => ?_) (fun r S1 H locs hf hw => ?_)
  · rcases hp with ⟨rfl, hf⟩ | ⟨rfl, hf⟩ | ⟨rfl, hf⟩
    · refine vx_catch (name := "java/lang/IllegalArgumentException") hown ([]) ⟨0, 12, 15, 13⟩ (tableOf [(0, 12, 19, 19), (0, 12, 23, 29)]) (by rw [htb]; rfl) (fun z hz => absurd hz List.not_mem_nil) (by decide) (by decide) (hts _ q_130) (va_Nw.use rfl (hE.2.1 _ (by decide +kernel))) h1 h2 h3 ?_
      refine W.eq (g2 := F0 m 15 ls [.ref q9]) rfl ?_
      refine lv_astore (lv' := [(5, .ref q9), (0, .ref (xa X 0)), (1, .int p0), (2, .int p1), (3, .int p2), (4, .ref (xa X 32))]) hx hb dL_setElement_15 hl (by decide) rfl (fun ls hl => ?_)
      refine lv_iconst (v := 1) hx hb dL_setElement_17 (by decide) ?_
      exact hQ _ _ _ _ _ _ _ _ hf hw dL_setElement_18 (Nat.le_of_ble_eq_true rfl) (Nat.le_of_ble_eq_true rfl)
    · refine vx_catch (name := "java/lang/IllegalStateException") hown (tableOf [(0, 12, 15, 13)]) ⟨0, 12, 19, 19⟩ (tableOf [(0, 12, 23, 29)]) (by rw [htb]; rfl) (fun z hz => by
          have hz : z = ⟨0, 12, 15, 13⟩ := by simpa [tableOf] using hz
          rcases hz with rfl
          · exact Or.inr ⟨by decide, "java/lang/IllegalArgumentException", hts _ q_130, hN ("java/lang/IllegalStateException", "java/lang/IllegalArgumentException") (by decide)⟩) (by decide) (by decide) (hts _ q_661) (va_Nw.use rfl (hE.2.1 _ (by decide +kernel))) h1 h2 h3 ?_
      refine W.eq (g2 := F0 m 19 ls [.ref q9]) rfl ?_
      refine lv_astore (lv' := [(5, .ref q9), (0, .ref (xa X 0)), (1, .int p0), (2, .int p1), (3, .int p2), (4, .ref (xa X 32))]) hx hb dL_setElement_19 hl (by decide) rfl (fun ls hl => ?_)
      refine lv_iconst (v := 2) hx hb dL_setElement_21 (by decide) ?_
      exact hQ _ _ _ _ _ _ _ _ hf hw dL_setElement_22 (Nat.le_of_ble_eq_true rfl) (Nat.le_of_ble_eq_true rfl)
    · refine vx_catch (name := "java/lang/IndexOutOfBoundsException") hown (tableOf [(0, 12, 15, 13), (0, 12, 19, 19)]) ⟨0, 12, 23, 29⟩ ([]) (by rw [htb]; rfl) (fun z hz => by
          have hz : z = ⟨0, 12, 15, 13⟩ ∨ z = ⟨0, 12, 19, 19⟩ := by simpa [tableOf] using hz
          rcases hz with rfl | rfl
          · exact Or.inr ⟨by decide, "java/lang/IllegalArgumentException", hts _ q_130, hN ("java/lang/IndexOutOfBoundsException", "java/lang/IllegalArgumentException") (by decide)⟩
          · exact Or.inr ⟨by decide, "java/lang/IllegalStateException", hts _ q_661, hN ("java/lang/IndexOutOfBoundsException", "java/lang/IllegalStateException") (by decide)⟩) (by decide) (by decide) (hts _ q_380) (va_Nw.use rfl (hE.2.1 _ (by decide +kernel))) h1 h2 h3 ?_
      refine W.eq (g2 := F0 m 23 ls [.ref q9]) rfl ?_
      refine lv_astore (lv' := [(5, .ref q9), (0, .ref (xa X 0)), (1, .int p0), (2, .int p1), (3, .int p2), (4, .ref (xa X 32))]) hx hb dL_setElement_23 hl (by decide) rfl (fun ls hl => ?_)
      refine lv_iconst (v := 3) hx hb dL_setElement_25 (by decide) ?_
      exact hQ _ _ _ _ _ _ _ _ hf hw dL_setElement_26 (Nat.le_of_ble_eq_true rfl) (Nat.le_of_ble_eq_true rfl)
  · refine lv_i2l hx hb dL_setElement_10 rfl ?_
    refine x_lst (k := 32) (n := 1) hx hb hK hw (by decide) rfl rfl (by unfold vp_in; decide +kernel) dL_setElement_11 (uX_A32 X S1 _ _) (fun H locs hw => ?_)
    refine lv_goto (tgt := 27) hx hb dL_setElement_12 (by decide) ?_
    refine lv_iconst (v := 0) hx hb dL_setElement_27 (by decide) ?_
    exact hQ _ _ _ _ _ _ _ _ hf hw dL_setElement_28 (Nat.le_of_ble_eq_true rfl) (Nat.le_of_ble_eq_true rfl)
def pL_storeCounts (p0 : Int32) (p1 : Int32) (S : gS) (Post : Int32 → gS → Prop) : Prop :=
  pX8_storeCounts p0 p1 S (fun S1 => Post 0 S1) (fun E S1 => (E = "java/lang/IllegalArgumentException" ∧ Post 1 S1) ∨ (E = "java/lang/IllegalStateException" ∧ Post 2 S1) ∨ (E = "java/lang/IndexOutOfBoundsException" ∧ Post 3 S1))
def rL_storeCounts : Room := { frames := 8, cells := 3, slots := 18, locals := 206 }
set_option maxHeartbeats 40000000 in
set_option maxRecDepth 100000 in
theorem kL_storeCounts (l : Launch) (hlt : l.stackTraces = false) (X : xG) (S : gS) (sz : Nat) (p0 : Int32) (p1 : Int32) (Post : Int32 → gS → Prop) (hf : pL_storeCounts p0 p1 S Post) : uM l yL_storeCounts (Cond.codeWith yL_storeCounts cL_storeCounts 4 (some .int) [(0, 6, 9, 13), (0, 6, 12, 19), (0, 6, 15, 29)] :: WS) rL_storeCounts X S sz [.ref (xa X 0), .int p0, .int p1] Post 3 18 := by
  refine uM.of (cc := cL_storeCounts) (maxL := 4) (by decide) rfl rfl (Nat.le_of_ble_eq_true rfl) ?_
  intro p e s m args below meth c ls Q hC htb hN hQ hw hl
  obtain ⟨hx, hb, hml, hown, hts, hE, hi⟩ := id hC
  have hK := hE.1
  have hl : lv_has ls 4 [(0, .ref (xa X 0)), (1, .int p0), (2, .int p1)] := hl
  rw [pL_storeCounts] at hf
  refine lv_aload_n hx hb dL_storeCounts_0 rfl (lv_at hl 0 rfl) ?_
  refine lv_iload_n hx hb dL_storeCounts_1 rfl (lv_at hl 1 rfl) ?_
  refine lv_iload_n hx hb dL_storeCounts_2 rfl (lv_at hl 2 rfl) ?_
  refine y_cv (y_rV (As := [.int p0, .int p1]) (rest := []) hC hw (kX8_storeCounts l hlt X S _ p0 p1 _ _ hf) (cwV 2 hts (gV q_908 q_909 q_910 q_2 q_911) rfl rfl rfl (by decide +kernel) ⟨Nat.le_of_ble_eq_true rfl, Nat.le_of_ble_eq_true rfl⟩) (x_recv hK hw (k := 0) (by decide) rfl rfl) rfl hl.1 rfl (Nat.le_of_ble_eq_true rfl) dL_storeCounts_3 ⟨Nat.le_of_ble_eq_true rfl, Nat.le_of_ble_eq_true rfl⟩) hw hi (fun E ce q9 S9 H locs hp hw h1 h2 h3 => ?_) (fun S1 H locs hf hw => ?_)
  · rcases hp with ⟨rfl, hf⟩ | ⟨rfl, hf⟩ | ⟨rfl, hf⟩
    · refine vx_catch (name := "java/lang/IllegalArgumentException") hown ([]) ⟨0, 6, 9, 13⟩ (tableOf [(0, 6, 12, 19), (0, 6, 15, 29)]) (by rw [htb]; rfl) (fun z hz => absurd hz List.not_mem_nil) (by decide) (by decide) (hts _ q_130) (va_Nw.use rfl (hE.2.1 _ (by decide +kernel))) h1 h2 h3 ?_
      refine W.eq (g2 := F0 m 9 ls [.ref q9]) rfl ?_
      refine lv_astore_n (lv' := [(3, .ref q9), (0, .ref (xa X 0)), (1, .int p0), (2, .int p1)]) hx hb dL_storeCounts_9 rfl hl (by decide) rfl (fun ls hl => ?_)
      refine lv_iconst (v := 1) hx hb dL_storeCounts_10 (by decide) ?_
      exact hQ _ _ _ _ _ _ _ _ hf hw dL_storeCounts_11 (Nat.le_of_ble_eq_true rfl) (Nat.le_of_ble_eq_true rfl)
    · refine vx_catch (name := "java/lang/IllegalStateException") hown (tableOf [(0, 6, 9, 13)]) ⟨0, 6, 12, 19⟩ (tableOf [(0, 6, 15, 29)]) (by rw [htb]; rfl) (fun z hz => by
          have hz : z = ⟨0, 6, 9, 13⟩ := by simpa [tableOf] using hz
          rcases hz with rfl
          · exact Or.inr ⟨by decide, "java/lang/IllegalArgumentException", hts _ q_130, hN ("java/lang/IllegalStateException", "java/lang/IllegalArgumentException") (by decide)⟩) (by decide) (by decide) (hts _ q_661) (va_Nw.use rfl (hE.2.1 _ (by decide +kernel))) h1 h2 h3 ?_
      refine W.eq (g2 := F0 m 12 ls [.ref q9]) rfl ?_
      refine lv_astore_n (lv' := [(3, .ref q9), (0, .ref (xa X 0)), (1, .int p0), (2, .int p1)]) hx hb dL_storeCounts_12 rfl hl (by decide) rfl (fun ls hl => ?_)
      refine lv_iconst (v := 2) hx hb dL_storeCounts_13 (by decide) ?_
      exact hQ _ _ _ _ _ _ _ _ hf hw dL_storeCounts_14 (Nat.le_of_ble_eq_true rfl) (Nat.le_of_ble_eq_true rfl)
    · refine vx_catch (name := "java/lang/IndexOutOfBoundsException") hown (tableOf [(0, 6, 9, 13), (0, 6, 12, 19)]) ⟨0, 6, 15, 29⟩ ([]) (by rw [htb]; rfl) (fun z hz => by
          have hz : z = ⟨0, 6, 9, 13⟩ ∨ z = ⟨0, 6, 12, 19⟩ := by simpa [tableOf] using hz
          rcases hz with rfl | rfl
          · exact Or.inr ⟨by decide, "java/lang/IllegalArgumentException", hts _ q_130, hN ("java/lang/IndexOutOfBoundsException", "java/lang/IllegalArgumentException") (by decide)⟩
          · exact Or.inr ⟨by decide, "java/lang/IllegalStateException", hts _ q_661, hN ("java/lang/IndexOutOfBoundsException", "java/lang/IllegalStateException") (by decide)⟩) (by decide) (by decide) (hts _ q_380) (va_Nw.use rfl (hE.2.1 _ (by decide +kernel))) h1 h2 h3 ?_
      refine W.eq (g2 := F0 m 15 ls [.ref q9]) rfl ?_
      refine lv_astore_n (lv' := [(3, .ref q9), (0, .ref (xa X 0)), (1, .int p0), (2, .int p1)]) hx hb dL_storeCounts_15 rfl hl (by decide) rfl (fun ls hl => ?_)
      refine lv_iconst (v := 3) hx hb dL_storeCounts_16 (by decide) ?_
      exact hQ _ _ _ _ _ _ _ _ hf hw dL_storeCounts_17 (Nat.le_of_ble_eq_true rfl) (Nat.le_of_ble_eq_true rfl)
  · refine lv_goto (tgt := 18) hx hb dL_storeCounts_6 (by decide) ?_
    refine lv_iconst (v := 0) hx hb dL_storeCounts_18 (by decide) ?_
    exact hQ _ _ _ _ _ _ _ _ hf hw dL_storeCounts_19 (Nat.le_of_ble_eq_true rfl) (Nat.le_of_ble_eq_true rfl)
def pL_loadWord (p0 : Int32) (p1 : Int32) (p2 : Int32) (S : gS) (Post : Int32 → gS → Prop) : Prop :=
  pX8_loadWord p0 p1 p2 S (fun S1 => Post 0 S1) (fun E S1 => (E = "java/lang/IllegalArgumentException" ∧ Post 1 S1) ∨ (E = "java/lang/IllegalStateException" ∧ Post 2 S1) ∨ (E = "java/lang/IndexOutOfBoundsException" ∧ Post 3 S1) ∨ (E = "java/util/NoSuchElementException" ∧ Post 4 S1))
def rL_loadWord : Room := { frames := 8, cells := 4, slots := 24, locals := 137 }
set_option maxHeartbeats 40000000 in
set_option maxRecDepth 100000 in
theorem kL_loadWord (l : Launch) (hlt : l.stackTraces = false) (X : xG) (S : gS) (sz : Nat) (p0 : Int32) (p1 : Int32) (p2 : Int32) (Post : Int32 → gS → Prop) (hf : pL_loadWord p0 p1 p2 S Post) : uM l yL_loadWord (Cond.codeWith yL_loadWord cL_loadWord 5 (some .int) [(0, 7, 10, 13), (0, 7, 14, 19), (0, 7, 18, 29), (0, 7, 22, 57)] :: WS) rL_loadWord X S sz [.ref (xa X 0), .int p0, .int p1, .int p2] Post 4 24 := by
  refine uM.of (cc := cL_loadWord) (maxL := 5) (by decide) rfl rfl (Nat.le_of_ble_eq_true rfl) ?_
  intro p e s m args below meth c ls Q hC htb hN hQ hw hl
  obtain ⟨hx, hb, hml, hown, hts, hE, hi⟩ := id hC
  have hK := hE.1
  have hl : lv_has ls 5 [(0, .ref (xa X 0)), (1, .int p0), (2, .int p1), (3, .int p2)] := hl
  rw [pL_loadWord] at hf
  refine lv_aload_n hx hb dL_loadWord_0 rfl (lv_at hl 0 rfl) ?_
  refine lv_iload_n hx hb dL_loadWord_1 rfl (lv_at hl 1 rfl) ?_
  refine lv_iload_n hx hb dL_loadWord_2 rfl (lv_at hl 2 rfl) ?_
  refine lv_iload_n hx hb dL_loadWord_3 rfl (lv_at hl 3 rfl) ?_
  refine y_cv (y_rV (As := [.int p0, .int p1, .int p2]) (rest := []) hC hw (kX8_loadWord l hlt X S _ p0 p1 p2 _ _ hf) (cwV 3 hts (gV q_919 q_920 q_921 q_2 q_922) rfl rfl rfl (by decide +kernel) ⟨Nat.le_of_ble_eq_true rfl, Nat.le_of_ble_eq_true rfl⟩) (x_recv hK hw (k := 0) (by decide) rfl rfl) rfl hl.1 rfl (Nat.le_of_ble_eq_true rfl) dL_loadWord_4 ⟨Nat.le_of_ble_eq_true rfl, Nat.le_of_ble_eq_true rfl⟩) hw hi (fun E ce q9 S9 H locs hp hw h1 h2 h3 => ?_) (fun S1 H locs hf hw => ?_)
  · rcases hp with ⟨rfl, hf⟩ | ⟨rfl, hf⟩ | ⟨rfl, hf⟩ | ⟨rfl, hf⟩
    · refine vx_catch (name := "java/lang/IllegalArgumentException") hown ([]) ⟨0, 7, 10, 13⟩ (tableOf [(0, 7, 14, 19), (0, 7, 18, 29), (0, 7, 22, 57)]) (by rw [htb]; rfl) (fun z hz => absurd hz List.not_mem_nil) (by decide) (by decide) (hts _ q_130) (va_Nw.use rfl (hE.2.1 _ (by decide +kernel))) h1 h2 h3 ?_
      refine W.eq (g2 := F0 m 10 ls [.ref q9]) rfl ?_
      refine lv_astore (lv' := [(4, .ref q9), (0, .ref (xa X 0)), (1, .int p0), (2, .int p1), (3, .int p2)]) hx hb dL_loadWord_10 hl (by decide) rfl (fun ls hl => ?_)
      refine lv_iconst (v := 1) hx hb dL_loadWord_12 (by decide) ?_
      exact hQ _ _ _ _ _ _ _ _ hf hw dL_loadWord_13 (Nat.le_of_ble_eq_true rfl) (Nat.le_of_ble_eq_true rfl)
    · refine vx_catch (name := "java/lang/IllegalStateException") hown (tableOf [(0, 7, 10, 13)]) ⟨0, 7, 14, 19⟩ (tableOf [(0, 7, 18, 29), (0, 7, 22, 57)]) (by rw [htb]; rfl) (fun z hz => by
          have hz : z = ⟨0, 7, 10, 13⟩ := by simpa [tableOf] using hz
          rcases hz with rfl
          · exact Or.inr ⟨by decide, "java/lang/IllegalArgumentException", hts _ q_130, hN ("java/lang/IllegalStateException", "java/lang/IllegalArgumentException") (by decide)⟩) (by decide) (by decide) (hts _ q_661) (va_Nw.use rfl (hE.2.1 _ (by decide +kernel))) h1 h2 h3 ?_
      refine W.eq (g2 := F0 m 14 ls [.ref q9]) rfl ?_
      refine lv_astore (lv' := [(4, .ref q9), (0, .ref (xa X 0)), (1, .int p0), (2, .int p1), (3, .int p2)]) hx hb dL_loadWord_14 hl (by decide) rfl (fun ls hl => ?_)
      refine lv_iconst (v := 2) hx hb dL_loadWord_16 (by decide) ?_
      exact hQ _ _ _ _ _ _ _ _ hf hw dL_loadWord_17 (Nat.le_of_ble_eq_true rfl) (Nat.le_of_ble_eq_true rfl)
    · refine vx_catch (name := "java/lang/IndexOutOfBoundsException") hown (tableOf [(0, 7, 10, 13), (0, 7, 14, 19)]) ⟨0, 7, 18, 29⟩ (tableOf [(0, 7, 22, 57)]) (by rw [htb]; rfl) (fun z hz => by
          have hz : z = ⟨0, 7, 10, 13⟩ ∨ z = ⟨0, 7, 14, 19⟩ := by simpa [tableOf] using hz
          rcases hz with rfl | rfl
          · exact Or.inr ⟨by decide, "java/lang/IllegalArgumentException", hts _ q_130, hN ("java/lang/IndexOutOfBoundsException", "java/lang/IllegalArgumentException") (by decide)⟩
          · exact Or.inr ⟨by decide, "java/lang/IllegalStateException", hts _ q_661, hN ("java/lang/IndexOutOfBoundsException", "java/lang/IllegalStateException") (by decide)⟩) (by decide) (by decide) (hts _ q_380) (va_Nw.use rfl (hE.2.1 _ (by decide +kernel))) h1 h2 h3 ?_
      refine W.eq (g2 := F0 m 18 ls [.ref q9]) rfl ?_
      refine lv_astore (lv' := [(4, .ref q9), (0, .ref (xa X 0)), (1, .int p0), (2, .int p1), (3, .int p2)]) hx hb dL_loadWord_18 hl (by decide) rfl (fun ls hl => ?_)
      refine lv_iconst (v := 3) hx hb dL_loadWord_20 (by decide) ?_
      exact hQ _ _ _ _ _ _ _ _ hf hw dL_loadWord_21 (Nat.le_of_ble_eq_true rfl) (Nat.le_of_ble_eq_true rfl)
    · refine vx_catch (name := "java/util/NoSuchElementException") hown (tableOf [(0, 7, 10, 13), (0, 7, 14, 19), (0, 7, 18, 29)]) ⟨0, 7, 22, 57⟩ ([]) (by rw [htb]; rfl) (fun z hz => by
          have hz : z = ⟨0, 7, 10, 13⟩ ∨ z = ⟨0, 7, 14, 19⟩ ∨ z = ⟨0, 7, 18, 29⟩ := by simpa [tableOf] using hz
          rcases hz with rfl | rfl | rfl
          · exact Or.inr ⟨by decide, "java/lang/IllegalArgumentException", hts _ q_130, hN ("java/util/NoSuchElementException", "java/lang/IllegalArgumentException") (by decide)⟩
          · exact Or.inr ⟨by decide, "java/lang/IllegalStateException", hts _ q_661, hN ("java/util/NoSuchElementException", "java/lang/IllegalStateException") (by decide)⟩
          · exact Or.inr ⟨by decide, "java/lang/IndexOutOfBoundsException", hts _ q_380, hN ("java/util/NoSuchElementException", "java/lang/IndexOutOfBoundsException") (by decide)⟩) (by decide) (by decide) (hts _ q_786) (va_Nw.use rfl (hE.2.1 _ (by decide +kernel))) h1 h2 h3 ?_
      refine W.eq (g2 := F0 m 22 ls [.ref q9]) rfl ?_
      refine lv_astore (lv' := [(4, .ref q9), (0, .ref (xa X 0)), (1, .int p0), (2, .int p1), (3, .int p2)]) hx hb dL_loadWord_22 hl (by decide) rfl (fun ls hl => ?_)
      refine lv_iconst (v := 4) hx hb dL_loadWord_24 (by decide) ?_
      exact hQ _ _ _ _ _ _ _ _ hf hw dL_loadWord_25 (Nat.le_of_ble_eq_true rfl) (Nat.le_of_ble_eq_true rfl)
  · refine lv_goto (tgt := 26) hx hb dL_loadWord_7 (by decide) ?_
    refine lv_iconst (v := 0) hx hb dL_loadWord_26 (by decide) ?_
    exact hQ _ _ _ _ _ _ _ _ hf hw dL_loadWord_27 (Nat.le_of_ble_eq_true rfl) (Nat.le_of_ble_eq_true rfl)
def pL_restore (S : gS) (Post : Int32 → gS → Prop) : Prop :=
  pX8_restore  S (fun S1 => Post 0 S1) (fun E S1 => (E = "java/lang/IllegalStateException" ∧ Post 1 S1))
def rL_restore : Room := { frames := 7, cells := 1, slots := 6, locals := 110 }
set_option maxHeartbeats 40000000 in
set_option maxRecDepth 100000 in
theorem kL_restore (l : Launch) (hlt : l.stackTraces = false) (X : xG) (S : gS) (sz : Nat) (Post : Int32 → gS → Prop) (hf : pL_restore S Post) : uM l yL_restore (Cond.codeWith yL_restore cL_restore 2 (some .int) [(0, 4, 7, 19)] :: WS) rL_restore X S sz [.ref (xa X 0)] Post 1 6 := by
  refine uM.of (cc := cL_restore) (maxL := 2) (by decide) rfl rfl (Nat.le_of_ble_eq_true rfl) ?_
  intro p e s m args below meth c ls Q hC htb hN hQ hw hl
  obtain ⟨hx, hb, hml, hown, hts, hE, hi⟩ := id hC
  have hK := hE.1
  have hl : lv_has ls 2 [(0, .ref (xa X 0))] := hl
  rw [pL_restore] at hf
  refine lv_aload_n hx hb dL_restore_0 rfl (lv_at hl 0 rfl) ?_
  refine y_cv (y_rV (As := []) (rest := []) hC hw (kX8_restore l hlt X S _  _ _ hf) (cwV 0 hts (gV q_957 q_958 q_959 q_2 q_960) rfl rfl rfl (by decide +kernel) ⟨Nat.le_of_ble_eq_true rfl, Nat.le_of_ble_eq_true rfl⟩) (x_recv hK hw (k := 0) (by decide) rfl rfl) rfl hl.1 rfl (Nat.le_of_ble_eq_true rfl) dL_restore_1 ⟨Nat.le_of_ble_eq_true rfl, Nat.le_of_ble_eq_true rfl⟩) hw hi (fun E ce q9 S9 H locs hp hw h1 h2 h3 => ?_) (fun S1 H locs hf hw => ?_)
  · rcases hp with ⟨rfl, hf⟩
    · refine vx_catch (name := "java/lang/IllegalStateException") hown ([]) ⟨0, 4, 7, 19⟩ ([]) (by rw [htb]; rfl) (fun z hz => absurd hz List.not_mem_nil) (by decide) (by decide) (hts _ q_661) (va_Nw.use rfl (hE.2.1 _ (by decide +kernel))) h1 h2 h3 ?_
      refine W.eq (g2 := F0 m 7 ls [.ref q9]) rfl ?_
      refine lv_astore_n (lv' := [(1, .ref q9), (0, .ref (xa X 0))]) hx hb dL_restore_7 rfl hl (by decide) rfl (fun ls hl => ?_)
      refine lv_iconst (v := 1) hx hb dL_restore_8 (by decide) ?_
      exact hQ _ _ _ _ _ _ _ _ hf hw dL_restore_9 (Nat.le_of_ble_eq_true rfl) (Nat.le_of_ble_eq_true rfl)
  · refine lv_goto (tgt := 10) hx hb dL_restore_4 (by decide) ?_
    refine lv_iconst (v := 0) hx hb dL_restore_10 (by decide) ?_
    exact hQ _ _ _ _ _ _ _ _ hf hw dL_restore_11 (Nat.le_of_ble_eq_true rfl) (Nat.le_of_ble_eq_true rfl)
