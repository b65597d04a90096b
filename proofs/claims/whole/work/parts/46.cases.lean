/-! The law's cases (printed by wip/whole/gen/law.py): what case k asks of both sides (qL_k), and the walk from its first row to the loop's end under that. -/
theorem l_sldv {p : Program} {l : Launch} {e : Env} {R : Room} {s : State} {m : MethodId} {args : Array Value} {below : List Frame} {meth : Method} {c : Code} {H : Heap} {locs : List Loc} {Q : State → Prop} {cells slots pc : Nat} {ls : Array Slot} {rest : List Value} {X Y : xG} {A : Nat → Prop} {b L : Nat} {xs : Nat → Int32} {Sx Sm : gS} (hC : LC X Y A b L xs p s m args c) (hw : LW X Y A s.heap Sx Sm H locs) {i v : Int32} (hin : vp_in i L) (hv : xs i.toNatClampNeg = v) (hdg : decode code pc = .ok (.iaload, 1)) (kk : W p l e R s m args below meth c H locs cells slots Q (F0 m (pc + 1) ls (.int v :: rest))) : W p l e R s m args below meth c H locs cells slots Q (F0 m pc ls (.int i :: .ref b :: rest)) := by
  subst hv
  exact l_sld hC hw hin hdg kk
def qL_0 (a1 a2 a3 a4 : Int32) (Sx Sm : gS) (Post : gS → gS → Prop) : Prop :=
  (pL_reset a1 a2 Sx (fun k_1 Sx_2 => (pX9_reset a1 a2 Sm (fun Sm_4 => (pX9_thrown  Sm_4 (fun r_5 => ((r_5 = k_1 → Post Sx_2 Sm_4) ∧ (¬ r_5 = k_1 → False))))))))
set_option maxHeartbeats 40000000 in
set_option maxRecDepth 100000 in
theorem lawc_0 {p : Program} {l : Launch} {e : Env} {s : State} {m : MethodId} {args : Array Value} {below : List Frame} {meth : Method} {c : Code} {H : Heap} {locs : List Loc} {Q : State → Prop} {cells slots : Nat} {ls : Array Slot} {X Y : xG} {A : Nat → Prop} {b L : Nat} {xs : Nat → Int32} {Sx Sm : gS} {i0 a1 a2 a3 a4 : Int32} {Post : gS → gS → Prop} (hlt : l.stackTraces = false) (hC : LC X Y A b L xs p s m args c) (hi1 : vp_in (i0 + 1) L) (hi2 : vp_in (i0 + 2) L) (hi3 : vp_in (i0 + 3) L) (hi4 : vp_in (i0 + 4) L) (ea1 : xs (i0 + 1).toNatClampNeg = a1) (ea2 : xs (i0 + 2).toNatClampNeg = a2) (ea3 : xs (i0 + 3).toNatClampNeg = a3) (ea4 : xs (i0 + 4).toNatClampNeg = a4) (hcs : cells + 4 ≤ 601024) (hss : slots + 24 ≤ 7293034) (hf : qL_0 a1 a2 a3 a4 Sx Sm Post) (hw : LW X Y A s.heap Sx Sm H locs) (hl : lv_has ls 9 [(0, .ref b), (1, .ref (xa X 0)), (2, .ref (xa Y 0)), (3, .ref (xa X 32)), (4, .ref (xa X 33)), (5, .int i0)])
    (kk : ∀ (Sx' Sm' : gS) (H1 : Heap) (locs1 : List Loc) (ls1 : Array Slot), Post Sx' Sm' → LW X Y A s.heap Sx' Sm' H1 locs1 → lv_has ls1 9 [(0, .ref b), (1, .ref (xa X 0)), (2, .ref (xa Y 0)), (3, .ref (xa X 32)), (4, .ref (xa X 33)), (5, .int i0)] → W p l e room_1 s m args below meth c H1 locs1 (cells + 4) (slots + 24) Q (F0 m 1908 ls1 [])) : W p l e room_1 s m args below meth c H locs cells slots Q (F0 m 188 ls []) := by
  obtain ⟨hx, hb, hml, hown, hts, -⟩ := id hC
  rw [qL_0] at hf
  refine lv_aload_n hx hb dL_law_188 rfl (lv_at hl 1 rfl) ?_
  refine lv_aload_n hx hb dL_law_189 rfl (lv_at hl 0 rfl) ?_
  refine lv_iload hx hb dL_law_190 (lv_at hl 5 rfl) ?_
  refine lv_iconst (v := 1) hx hb dL_law_192 (by decide) ?_
  refine lv_iadd hx hb dL_law_193 ?_
  refine l_sldv hC hw hi1 ea1 dL_law_194 ?_
  refine lv_aload_n hx hb dL_law_195 rfl (lv_at hl 0 rfl) ?_
  refine lv_iload hx hb dL_law_196 (lv_at hl 5 rfl) ?_
  refine lv_iconst (v := 2) hx hb dL_law_198 (by decide) ?_
  refine lv_iadd hx hb dL_law_199 ?_
  refine l_sldv hC hw hi2 ea2 dL_law_200 ?_
  refine l_cXi hC hw (l_rH (As := [.ref (xa X 0), .int a1, .int a2]) (rest := []) hC hw (kL_reset l hlt X Sx _ a1 a2 _ hf) (vx_cwSW 3 hts (gSw q_126 q_127 q_128 q_129) rfl rfl rfl (by decide +kernel) ⟨Nat.le_of_ble_eq_true rfl, Nat.le_of_ble_eq_true rfl⟩) rfl hl.1 rfl (Nat.le_of_ble_eq_true rfl) dL_law_201 ⟨by show _ ≤ 601024; omega, by show _ ≤ 7293034; omega⟩) (fun k_1 Sx_2 H locs hf hw => ?_)
  refine lv_istore (lv' := [(6, .int k_1), (0, .ref b), (1, .ref (xa X 0)), (2, .ref (xa Y 0)), (3, .ref (xa X 32)), (4, .ref (xa X 33)), (5, .int i0)]) hx hb dL_law_204 hl (by decide) rfl (fun ls hl => ?_)
  refine lv_aload_n hx hb dL_law_206 rfl (lv_at hl 3 rfl) ?_
  refine lv_aload_n hx hb dL_law_207 rfl (lv_at hl 1 rfl) ?_
  refine lv_iload hx hb dL_law_208 (lv_at hl 6 rfl) ?_
  refine lv_iconst (v := 1) hx hb dL_law_210 (by decide) ?_
  refine lv_iadd hx hb dL_law_211 ?_
  refine l_sldv hC hw hi1 ea1 dL_law_212 ?_
  refine lv_aload_n hx hb dL_law_213 rfl (lv_at hl 1 rfl) ?_
  refine lv_iload hx hb dL_law_214 (lv_at hl 6 rfl) ?_
  refine lv_iconst (v := 2) hx hb dL_law_216 (by decide) ?_
  refine lv_iadd hx hb dL_law_217 ?_
  refine l_sldv hC hw hi2 ea2 dL_law_218 ?_
  refine l_cYv hC hw (l_rY (As := [.int a1, .int a2]) (rest := []) hC hw (kX9_reset l Y Sm _ a1 a2 _ hf) (cwV 2 hts (gV q_152 q_153 q_154 q_5 q_155) rfl rfl rfl (by decide +kernel) ⟨Nat.le_of_ble_eq_true rfl, Nat.le_of_ble_eq_true rfl⟩) rfl hl.1 rfl (Nat.le_of_ble_eq_true rfl) dL_law_219 ⟨by show _ ≤ 601024; omega, by show _ ≤ 7293034; omega⟩) (fun Sm_4 H locs hf hw => ?_)
  refine lv_aload_n hx hb dL_law_222 rfl (lv_at hl 3 rfl) ?_
  refine l_cYi hC hw (l_rY (As := []) (rest := []) hC hw (kX9_thrown l Y Sm_4 _  _ hf) (cwV 0 hts (gV q_168 q_169 q_170 q_5 q_171) rfl rfl rfl (by decide +kernel) ⟨Nat.le_of_ble_eq_true rfl, Nat.le_of_ble_eq_true rfl⟩) rfl hl.1 rfl (Nat.le_of_ble_eq_true rfl) dL_law_223 ⟨by show _ ≤ 601024; omega, by show _ ≤ 7293034; omega⟩) (fun r_5 Sm_6 H locs hf hw => ?_)
  obtain ⟨hf, rfl⟩ := hf
  refine lv_iload hx hb dL_law_226 (lv_at hl 0 rfl) ?_
  refine lv_icmp_eq (tgt := 233) hx hb dL_law_228 (by decide) (fun c_7 => ?_) (fun c_7 => ?_)
  · replace hf := hf.1 c_7
    refine lv_goto (tgt := 1908) hx hb dL_law_233 (by decide) ?_
    refine W.widen (k := cells + 4) (n := slots + 24) (by omega) (by omega) ?_
    exact kk _ _ _ _ _ hf hw (lv_sub hl [1, 2, 3, 4, 5, 6] rfl)
  · replace hf := hf.2 c_7
    refine lv_iconst (v := 0) hx hb dL_law_231 (by decide) ?_
    exact hf.elim
def qL_1 (a1 a2 a3 a4 : Int32) (Sx Sm : gS) (Post : gS → gS → Prop) : Prop :=
  (pL_addProduction a1 a2 a3 a4 Sx (fun k_1 Sx_2 => (pX9_addProduction a1 a2 a3 a4 Sm (fun r_3 Sm_4 => (pX9_thrown  Sm_4 (fun r_5 => ((r_5 = k_1 → ((¬ k_1 = 0 → Post Sx_2 Sm_4) ∧ (k_1 = 0 → (((lg_cmp (gB Sx_2 32 0) r_3.toInt64) = 0 → Post Sx_2 Sm_4) ∧ (¬ (lg_cmp (gB Sx_2 32 0) r_3.toInt64) = 0 → False))))) ∧ (¬ r_5 = k_1 → False))))))))
set_option maxHeartbeats 40000000 in
set_option maxRecDepth 100000 in
theorem lawc_1 {p : Program} {l : Launch} {e : Env} {s : State} {m : MethodId} {args : Array Value} {below : List Frame} {meth : Method} {c : Code} {H : Heap} {locs : List Loc} {Q : State → Prop} {cells slots : Nat} {ls : Array Slot} {X Y : xG} {A : Nat → Prop} {b L : Nat} {xs : Nat → Int32} {Sx Sm : gS} {i0 a1 a2 a3 a4 : Int32} {Post : gS → gS → Prop} (hlt : l.stackTraces = false) (hC : LC X Y A b L xs p s m args c) (hi1 : vp_in (i0 + 1) L) (hi2 : vp_in (i0 + 2) L) (hi3 : vp_in (i0 + 3) L) (hi4 : vp_in (i0 + 4) L) (ea1 : xs (i0 + 1).toNatClampNeg = a1) (ea2 : xs (i0 + 2).toNatClampNeg = a2) (ea3 : xs (i0 + 3).toNatClampNeg = a3) (ea4 : xs (i0 + 4).toNatClampNeg = a4) (hcs : cells + 4 ≤ 601024) (hss : slots + 24 ≤ 7293034) (hf : qL_1 a1 a2 a3 a4 Sx Sm Post) (hw : LW X Y A s.heap Sx Sm H locs) (hl : lv_has ls 9 [(0, .ref b), (1, .ref (xa X 0)), (2, .ref (xa Y 0)), (3, .ref (xa X 32)), (4, .ref (xa X 33)), (5, .int i0)])
    (kk : ∀ (Sx' Sm' : gS) (H1 : Heap) (locs1 : List Loc) (ls1 : Array Slot), Post Sx' Sm' → LW X Y A s.heap Sx' Sm' H1 locs1 → lv_has ls1 9 [(0, .ref b), (1, .ref (xa X 0)), (2, .ref (xa Y 0)), (3, .ref (xa X 32)), (4, .ref (xa X 33)), (5, .int i0)] → W p l e room_1 s m args below meth c H1 locs1 (cells + 4) (slots + 24) Q (F0 m 1908 ls1 [])) : W p l e room_1 s m args below meth c H locs cells slots Q (F0 m 236 ls []) := by
  obtain ⟨hx, hb, hml, hown, hts, -⟩ := id hC
  rw [qL_1] at hf
  refine lv_aload_n hx hb dL_law_236 rfl (lv_at hl 1 rfl) ?_
  refine lv_aload_n hx hb dL_law_237 rfl (lv_at hl 0 rfl) ?_
  refine lv_iload hx hb dL_law_238 (lv_at hl 5 rfl) ?_
  refine lv_iconst (v := 1) hx hb dL_law_240 (by decide) ?_
  refine lv_iadd hx hb dL_law_241 ?_
  refine l_sldv hC hw hi1 ea1 dL_law_242 ?_
  refine lv_aload_n hx hb dL_law_243 rfl (lv_at hl 0 rfl) ?_
  refine lv_iload hx hb dL_law_244 (lv_at hl 5 rfl) ?_
  refine lv_iconst (v := 2) hx hb dL_law_246 (by decide) ?_
  refine lv_iadd hx hb dL_law_247 ?_
  refine l_sldv hC hw hi2 ea2 dL_law_248 ?_
  refine lv_aload_n hx hb dL_law_249 rfl (lv_at hl 0 rfl) ?_
  refine lv_iload hx hb dL_law_250 (lv_at hl 5 rfl) ?_
  refine lv_iconst (v := 3) hx hb dL_law_252 (by decide) ?_
  refine lv_iadd hx hb dL_law_253 ?_
  refine l_sldv hC hw hi3 ea3 dL_law_254 ?_
  refine lv_aload_n hx hb dL_law_255 rfl (lv_at hl 0 rfl) ?_
  refine lv_iload hx hb dL_law_256 (lv_at hl 5 rfl) ?_
  refine lv_iconst (v := 4) hx hb dL_law_258 (by decide) ?_
  refine lv_iadd hx hb dL_law_259 ?_
  refine l_sldv hC hw hi4 ea4 dL_law_260 ?_
  refine lv_aload_n hx hb dL_law_261 rfl (lv_at hl 3 rfl) ?_
  refine l_cXi hC hw (l_rH (As := [.ref (xa X 0), .int a1, .int a2, .int a3, .int a4, .ref (xa X 32)]) (rest := []) hC hw (kL_addProduction l hlt X Sx _ a1 a2 a3 a4 _ hf) (vx_cwSW 6 hts (gSw q_172 q_173 q_128 q_174) rfl rfl rfl (by decide +kernel) ⟨Nat.le_of_ble_eq_true rfl, Nat.le_of_ble_eq_true rfl⟩) rfl hl.1 rfl (Nat.le_of_ble_eq_true rfl) dL_law_262 ⟨by show _ ≤ 601024; omega, by show _ ≤ 7293034; omega⟩) (fun k_1 Sx_2 H locs hf hw => ?_)
  refine lv_istore (lv' := [(6, .int k_1), (0, .ref b), (1, .ref (xa X 0)), (2, .ref (xa Y 0)), (3, .ref (xa X 32)), (4, .ref (xa X 33)), (5, .int i0)]) hx hb dL_law_265 hl (by decide) rfl (fun ls hl => ?_)
  refine lv_aload_n hx hb dL_law_267 rfl (lv_at hl 3 rfl) ?_
  refine lv_aload_n hx hb dL_law_268 rfl (lv_at hl 1 rfl) ?_
  refine lv_iload hx hb dL_law_269 (lv_at hl 6 rfl) ?_
  refine lv_iconst (v := 1) hx hb dL_law_271 (by decide) ?_
  refine lv_iadd hx hb dL_law_272 ?_
  refine l_sldv hC hw hi1 ea1 dL_law_273 ?_
  refine lv_aload_n hx hb dL_law_274 rfl (lv_at hl 1 rfl) ?_
  refine lv_iload hx hb dL_law_275 (lv_at hl 6 rfl) ?_
  refine lv_iconst (v := 2) hx hb dL_law_277 (by decide) ?_
  refine lv_iadd hx hb dL_law_278 ?_
  refine l_sldv hC hw hi2 ea2 dL_law_279 ?_
  refine lv_aload_n hx hb dL_law_280 rfl (lv_at hl 1 rfl) ?_
  refine lv_iload hx hb dL_law_281 (lv_at hl 6 rfl) ?_
  refine lv_iconst (v := 3) hx hb dL_law_283 (by decide) ?_
  refine lv_iadd hx hb dL_law_284 ?_
  refine l_sldv hC hw hi3 ea3 dL_law_285 ?_
  refine lv_aload_n hx hb dL_law_286 rfl (lv_at hl 1 rfl) ?_
  refine lv_iload hx hb dL_law_287 (lv_at hl 6 rfl) ?_
  refine lv_iconst (v := 4) hx hb dL_law_289 (by decide) ?_
  refine lv_iadd hx hb dL_law_290 ?_
  refine l_sldv hC hw hi4 ea4 dL_law_291 ?_
  refine l_cYi hC hw (l_rY (As := [.int a1, .int a2, .int a3, .int a4]) (rest := []) hC hw (kX9_addProduction l Y Sm _ a1 a2 a3 a4 _ hf) (cwV 4 hts (gV q_206 q_207 q_208 q_5 q_209) rfl rfl rfl (by decide +kernel) ⟨Nat.le_of_ble_eq_true rfl, Nat.le_of_ble_eq_true rfl⟩) rfl hl.1 rfl (Nat.le_of_ble_eq_true rfl) dL_law_292 ⟨by show _ ≤ 601024; omega, by show _ ≤ 7293034; omega⟩) (fun r_3 Sm_4 H locs hf hw => ?_)
  refine lv_istore (lv' := [(7, .int r_3), (6, .int k_1), (0, .ref b), (1, .ref (xa X 0)), (2, .ref (xa Y 0)), (3, .ref (xa X 32)), (4, .ref (xa X 33)), (5, .int i0)]) hx hb dL_law_295 hl (by decide) rfl (fun ls hl => ?_)
  refine lv_aload_n hx hb dL_law_297 rfl (lv_at hl 4 rfl) ?_
  refine l_cYi hC hw (l_rY (As := []) (rest := []) hC hw (kX9_thrown l Y Sm_4 _  _ hf) (cwV 0 hts (gV q_168 q_169 q_170 q_5 q_171) rfl rfl rfl (by decide +kernel) ⟨Nat.le_of_ble_eq_true rfl, Nat.le_of_ble_eq_true rfl⟩) rfl hl.1 rfl (Nat.le_of_ble_eq_true rfl) dL_law_298 ⟨by show _ ≤ 601024; omega, by show _ ≤ 7293034; omega⟩) (fun r_5 Sm_6 H locs hf hw => ?_)
  obtain ⟨hf, rfl⟩ := hf
  refine lv_iload hx hb dL_law_301 (lv_at hl 1 rfl) ?_
  refine lv_icmp_eq (tgt := 308) hx hb dL_law_303 (by decide) (fun c_7 => ?_) (fun c_7 => ?_)
  · replace hf := hf.1 c_7
    refine lv_iload hx hb dL_law_308 (lv_at hl 1 rfl) ?_
    refine lv_if_ne (tgt := 325) hx hb dL_law_310 (by decide) (fun c_8 => ?_) (fun c_8 => ?_)
    · replace hf := hf.1 c_8
      refine lv_goto (tgt := 1908) hx hb dL_law_325 (by decide) ?_
      refine W.widen (k := cells + 4) (n := slots + 24) (by omega) (by omega) ?_
      exact kk _ _ _ _ _ hf hw (lv_sub hl [2, 3, 4, 5, 6, 7] rfl)
    · replace hf := hf.2 c_8
      refine lv_aload_n hx hb dL_law_313 rfl (lv_at hl 5 rfl) ?_
      refine lv_iconst (v := 0) hx hb dL_law_314 (by decide) ?_
      refine l_out hC hw dL_law_315 ?_
      refine lv_iload hx hb dL_law_316 (lv_at hl 0 rfl) ?_
      refine lv_i2l hx hb dL_law_318 rfl ?_
      refine W.lcmp hx hb dL_law_319 ?_
      refine lv_if_eq (tgt := 325) hx hb dL_law_320 (by decide) (fun c_9 => ?_) (fun c_9 => ?_)
      · replace hf := hf.1 c_9
        refine lv_goto (tgt := 1908) hx hb dL_law_325 (by decide) ?_
        refine W.widen (k := cells + 4) (n := slots + 24) (by omega) (by omega) ?_
        exact kk _ _ _ _ _ hf hw (lv_sub hl [2, 3, 4, 5, 6, 7] rfl)
      · replace hf := hf.2 c_9
        refine lv_iconst (v := 0) hx hb dL_law_323 (by decide) ?_
        exact hf.elim
  · replace hf := hf.2 c_7
    refine lv_iconst (v := 0) hx hb dL_law_306 (by decide) ?_
    exact hf.elim
def qL_2 (a1 a2 a3 a4 : Int32) (Sx Sm : gS) (Post : gS → gS → Prop) : Prop :=
  (pL_removeProduction a1 Sx (fun k_1 Sx_2 => (pX9_removeProduction a1 Sm (fun r_3 Sm_4 => (pX9_thrown  Sm_4 (fun r_5 => ((r_5 = k_1 → ((¬ k_1 = 0 → Post Sx_2 Sm_4) ∧ (k_1 = 0 → (((lg_cmp (gB Sx_2 32 0) r_3.toInt64) = 0 → Post Sx_2 Sm_4) ∧ (¬ (lg_cmp (gB Sx_2 32 0) r_3.toInt64) = 0 → False))))) ∧ (¬ r_5 = k_1 → False))))))))
set_option maxHeartbeats 40000000 in
set_option maxRecDepth 100000 in
theorem lawc_2 {p : Program} {l : Launch} {e : Env} {s : State} {m : MethodId} {args : Array Value} {below : List Frame} {meth : Method} {c : Code} {H : Heap} {locs : List Loc} {Q : State → Prop} {cells slots : Nat} {ls : Array Slot} {X Y : xG} {A : Nat → Prop} {b L : Nat} {xs : Nat → Int32} {Sx Sm : gS} {i0 a1 a2 a3 a4 : Int32} {Post : gS → gS → Prop} (hlt : l.stackTraces = false) (hC : LC X Y A b L xs p s m args c) (hi1 : vp_in (i0 + 1) L) (hi2 : vp_in (i0 + 2) L) (hi3 : vp_in (i0 + 3) L) (hi4 : vp_in (i0 + 4) L) (ea1 : xs (i0 + 1).toNatClampNeg = a1) (ea2 : xs (i0 + 2).toNatClampNeg = a2) (ea3 : xs (i0 + 3).toNatClampNeg = a3) (ea4 : xs (i0 + 4).toNatClampNeg = a4) (hcs : cells + 4 ≤ 601024) (hss : slots + 24 ≤ 7293034) (hf : qL_2 a1 a2 a3 a4 Sx Sm Post) (hw : LW X Y A s.heap Sx Sm H locs) (hl : lv_has ls 9 [(0, .ref b), (1, .ref (xa X 0)), (2, .ref (xa Y 0)), (3, .ref (xa X 32)), (4, .ref (xa X 33)), (5, .int i0)])
    (kk : ∀ (Sx' Sm' : gS) (H1 : Heap) (locs1 : List Loc) (ls1 : Array Slot), Post Sx' Sm' → LW X Y A s.heap Sx' Sm' H1 locs1 → lv_has ls1 9 [(0, .ref b), (1, .ref (xa X 0)), (2, .ref (xa Y 0)), (3, .ref (xa X 32)), (4, .ref (xa X 33)), (5, .int i0)] → W p l e room_1 s m args below meth c H1 locs1 (cells + 4) (slots + 24) Q (F0 m 1908 ls1 [])) : W p l e room_1 s m args below meth c H locs cells slots Q (F0 m 328 ls []) := by
  obtain ⟨hx, hb, hml, hown, hts, -⟩ := id hC
  rw [qL_2] at hf
  refine lv_aload_n hx hb dL_law_328 rfl (lv_at hl 1 rfl) ?_
  refine lv_aload_n hx hb dL_law_329 rfl (lv_at hl 0 rfl) ?_
  refine lv_iload hx hb dL_law_330 (lv_at hl 5 rfl) ?_
  refine lv_iconst (v := 1) hx hb dL_law_332 (by decide) ?_
  refine lv_iadd hx hb dL_law_333 ?_
  refine l_sldv hC hw hi1 ea1 dL_law_334 ?_
  refine lv_aload_n hx hb dL_law_335 rfl (lv_at hl 3 rfl) ?_
  refine l_cXi hC hw (l_rH (As := [.ref (xa X 0), .int a1, .ref (xa X 32)]) (rest := []) hC hw (kL_removeProduction l hlt X Sx _ a1 _ hf) (vx_cwSW 3 hts (gSw q_226 q_227 q_128 q_228) rfl rfl rfl (by decide +kernel) ⟨Nat.le_of_ble_eq_true rfl, Nat.le_of_ble_eq_true rfl⟩) rfl hl.1 rfl (Nat.le_of_ble_eq_true rfl) dL_law_336 ⟨by show _ ≤ 601024; omega, by show _ ≤ 7293034; omega⟩) (fun k_1 Sx_2 H locs hf hw => ?_)
  refine lv_istore (lv' := [(6, .int k_1), (0, .ref b), (1, .ref (xa X 0)), (2, .ref (xa Y 0)), (3, .ref (xa X 32)), (4, .ref (xa X 33)), (5, .int i0)]) hx hb dL_law_339 hl (by decide) rfl (fun ls hl => ?_)
  refine lv_aload_n hx hb dL_law_341 rfl (lv_at hl 3 rfl) ?_
  refine lv_aload_n hx hb dL_law_342 rfl (lv_at hl 1 rfl) ?_
  refine lv_iload hx hb dL_law_343 (lv_at hl 6 rfl) ?_
  refine lv_iconst (v := 1) hx hb dL_law_345 (by decide) ?_
  refine lv_iadd hx hb dL_law_346 ?_
  refine l_sldv hC hw hi1 ea1 dL_law_347 ?_
  refine l_cYi hC hw (l_rY (As := [.int a1]) (rest := []) hC hw (kX9_removeProduction l Y Sm _ a1 _ hf) (cwV 1 hts (gV q_240 q_241 q_242 q_5 q_243) rfl rfl rfl (by decide +kernel) ⟨Nat.le_of_ble_eq_true rfl, Nat.le_of_ble_eq_true rfl⟩) rfl hl.1 rfl (Nat.le_of_ble_eq_true rfl) dL_law_348 ⟨by show _ ≤ 601024; omega, by show _ ≤ 7293034; omega⟩) (fun r_3 Sm_4 H locs hf hw => ?_)
  refine lv_istore (lv' := [(7, .int r_3), (6, .int k_1), (0, .ref b), (1, .ref (xa X 0)), (2, .ref (xa Y 0)), (3, .ref (xa X 32)), (4, .ref (xa X 33)), (5, .int i0)]) hx hb dL_law_351 hl (by decide) rfl (fun ls hl => ?_)
  refine lv_aload_n hx hb dL_law_353 rfl (lv_at hl 4 rfl) ?_
  refine l_cYi hC hw (l_rY (As := []) (rest := []) hC hw (kX9_thrown l Y Sm_4 _  _ hf) (cwV 0 hts (gV q_168 q_169 q_170 q_5 q_171) rfl rfl rfl (by decide +kernel) ⟨Nat.le_of_ble_eq_true rfl, Nat.le_of_ble_eq_true rfl⟩) rfl hl.1 rfl (Nat.le_of_ble_eq_true rfl) dL_law_354 ⟨by show _ ≤ 601024; omega, by show _ ≤ 7293034; omega⟩) (fun r_5 Sm_6 H locs hf hw => ?_)
  obtain ⟨hf, rfl⟩ := hf
  refine lv_iload hx hb dL_law_357 (lv_at hl 1 rfl) ?_
  refine lv_icmp_eq (tgt := 364) hx hb dL_law_359 (by decide) (fun c_7 => ?_) (fun c_7 => ?_)
  · replace hf := hf.1 c_7
    refine lv_iload hx hb dL_law_364 (lv_at hl 1 rfl) ?_
    refine lv_if_ne (tgt := 381) hx hb dL_law_366 (by decide) (fun c_8 => ?_) (fun c_8 => ?_)
    · replace hf := hf.1 c_8
      refine lv_goto (tgt := 1908) hx hb dL_law_381 (by decide) ?_
      refine W.widen (k := cells + 4) (n := slots + 24) (by omega) (by omega) ?_
      exact kk _ _ _ _ _ hf hw (lv_sub hl [2, 3, 4, 5, 6, 7] rfl)
    · replace hf := hf.2 c_8
      refine lv_aload_n hx hb dL_law_369 rfl (lv_at hl 5 rfl) ?_
      refine lv_iconst (v := 0) hx hb dL_law_370 (by decide) ?_
      refine l_out hC hw dL_law_371 ?_
      refine lv_iload hx hb dL_law_372 (lv_at hl 0 rfl) ?_
      refine lv_i2l hx hb dL_law_374 rfl ?_
      refine W.lcmp hx hb dL_law_375 ?_
      refine lv_if_eq (tgt := 381) hx hb dL_law_376 (by decide) (fun c_9 => ?_) (fun c_9 => ?_)
      · replace hf := hf.1 c_9
        refine lv_goto (tgt := 1908) hx hb dL_law_381 (by decide) ?_
        refine W.widen (k := cells + 4) (n := slots + 24) (by omega) (by omega) ?_
        exact kk _ _ _ _ _ hf hw (lv_sub hl [2, 3, 4, 5, 6, 7] rfl)
      · replace hf := hf.2 c_9
        refine lv_iconst (v := 0) hx hb dL_law_379 (by decide) ?_
        exact hf.elim
  · replace hf := hf.2 c_7
    refine lv_iconst (v := 0) hx hb dL_law_362 (by decide) ?_
    exact hf.elim
def qL_3 (a1 a2 a3 a4 : Int32) (Sx Sm : gS) (Post : gS → gS → Prop) : Prop :=
  (pX8_removeUseless  Sx (fun r_1 Sx_2 => (pX9_removeUseless  Sm (fun r_3 Sm_4 => ((r_1 = r_3 → Post Sx_2 Sm_4) ∧ (¬ r_1 = r_3 → False))))))
set_option maxHeartbeats 40000000 in
set_option maxRecDepth 100000 in
theorem lawc_3 {p : Program} {l : Launch} {e : Env} {s : State} {m : MethodId} {args : Array Value} {below : List Frame} {meth : Method} {c : Code} {H : Heap} {locs : List Loc} {Q : State → Prop} {cells slots : Nat} {ls : Array Slot} {X Y : xG} {A : Nat → Prop} {b L : Nat} {xs : Nat → Int32} {Sx Sm : gS} {i0 a1 a2 a3 a4 : Int32} {Post : gS → gS → Prop} (hlt : l.stackTraces = false) (hC : LC X Y A b L xs p s m args c) (hi1 : vp_in (i0 + 1) L) (hi2 : vp_in (i0 + 2) L) (hi3 : vp_in (i0 + 3) L) (hi4 : vp_in (i0 + 4) L) (ea1 : xs (i0 + 1).toNatClampNeg = a1) (ea2 : xs (i0 + 2).toNatClampNeg = a2) (ea3 : xs (i0 + 3).toNatClampNeg = a3) (ea4 : xs (i0 + 4).toNatClampNeg = a4) (hcs : cells + 4 ≤ 601024) (hss : slots + 24 ≤ 7293034) (hf : qL_3 a1 a2 a3 a4 Sx Sm Post) (hw : LW X Y A s.heap Sx Sm H locs) (hl : lv_has ls 9 [(0, .ref b), (1, .ref (xa X 0)), (2, .ref (xa Y 0)), (3, .ref (xa X 32)), (4, .ref (xa X 33)), (5, .int i0)])
    (kk : ∀ (Sx' Sm' : gS) (H1 : Heap) (locs1 : List Loc) (ls1 : Array Slot), Post Sx' Sm' → LW X Y A s.heap Sx' Sm' H1 locs1 → lv_has ls1 9 [(0, .ref b), (1, .ref (xa X 0)), (2, .ref (xa Y 0)), (3, .ref (xa X 32)), (4, .ref (xa X 33)), (5, .int i0)] → W p l e room_1 s m args below meth c H1 locs1 (cells + 4) (slots + 24) Q (F0 m 1908 ls1 [])) : W p l e room_1 s m args below meth c H locs cells slots Q (F0 m 384 ls []) := by
  obtain ⟨hx, hb, hml, hown, hts, -⟩ := id hC
  rw [qL_3] at hf
  refine lv_aload_n hx hb dL_law_384 rfl (lv_at hl 1 rfl) ?_
  refine l_cXi hC hw (l_rX (As := []) (rest := []) hC hw (kX8_removeUseless l X Sx _  _ hf) (cwV 0 hts (gV q_252 q_253 q_254 q_2 q_255) rfl rfl rfl (by decide +kernel) ⟨Nat.le_of_ble_eq_true rfl, Nat.le_of_ble_eq_true rfl⟩) rfl hl.1 rfl (Nat.le_of_ble_eq_true rfl) dL_law_385 ⟨by show _ ≤ 601024; omega, by show _ ≤ 7293034; omega⟩) (fun r_1 Sx_2 H locs hf hw => ?_)
  refine lv_aload_n hx hb dL_law_388 rfl (lv_at hl 2 rfl) ?_
  refine l_cYi hC hw (l_rY (As := []) (rest := [.int r_1]) hC hw (kX9_removeUseless l Y Sm _  _ hf) (cwV 0 hts (gV q_288 q_289 q_290 q_5 q_291) rfl rfl rfl (by decide +kernel) ⟨Nat.le_of_ble_eq_true rfl, Nat.le_of_ble_eq_true rfl⟩) rfl hl.1 rfl (Nat.le_of_ble_eq_true rfl) dL_law_389 ⟨by show _ ≤ 601024; omega, by show _ ≤ 7293034; omega⟩) (fun r_3 Sm_4 H locs hf hw => ?_)
  refine lv_icmp_eq (tgt := 1908) hx hb dL_law_392 (by decide) (fun c_5 => ?_) (fun c_5 => ?_)
  · replace hf := hf.1 c_5
    refine W.widen (k := cells + 4) (n := slots + 24) (by omega) (by omega) ?_
    exact kk _ _ _ _ _ hf hw (lv_sub hl [0, 1, 2, 3, 4, 5] rfl)
  · replace hf := hf.2 c_5
    refine lv_iconst (v := 0) hx hb dL_law_395 (by decide) ?_
    exact hf.elim
def qL_4 (a1 a2 a3 a4 : Int32) (Sx Sm : gS) (Post : gS → gS → Prop) : Prop :=
  (pX8_productionCount  Sx (fun r_1 => (pX9_productionCount  Sm (fun r_3 Sm_4 => ((r_1 = r_3 → Post Sx Sm_4) ∧ (¬ r_1 = r_3 → False))))))
set_option maxHeartbeats 40000000 in
set_option maxRecDepth 100000 in
theorem lawc_4 {p : Program} {l : Launch} {e : Env} {s : State} {m : MethodId} {args : Array Value} {below : List Frame} {meth : Method} {c : Code} {H : Heap} {locs : List Loc} {Q : State → Prop} {cells slots : Nat} {ls : Array Slot} {X Y : xG} {A : Nat → Prop} {b L : Nat} {xs : Nat → Int32} {Sx Sm : gS} {i0 a1 a2 a3 a4 : Int32} {Post : gS → gS → Prop} (hlt : l.stackTraces = false) (hC : LC X Y A b L xs p s m args c) (hi1 : vp_in (i0 + 1) L) (hi2 : vp_in (i0 + 2) L) (hi3 : vp_in (i0 + 3) L) (hi4 : vp_in (i0 + 4) L) (ea1 : xs (i0 + 1).toNatClampNeg = a1) (ea2 : xs (i0 + 2).toNatClampNeg = a2) (ea3 : xs (i0 + 3).toNatClampNeg = a3) (ea4 : xs (i0 + 4).toNatClampNeg = a4) (hcs : cells + 4 ≤ 601024) (hss : slots + 24 ≤ 7293034) (hf : qL_4 a1 a2 a3 a4 Sx Sm Post) (hw : LW X Y A s.heap Sx Sm H locs) (hl : lv_has ls 9 [(0, .ref b), (1, .ref (xa X 0)), (2, .ref (xa Y 0)), (3, .ref (xa X 32)), (4, .ref (xa X 33)), (5, .int i0)])
    (kk : ∀ (Sx' Sm' : gS) (H1 : Heap) (locs1 : List Loc) (ls1 : Array Slot), Post Sx' Sm' → LW X Y A s.heap Sx' Sm' H1 locs1 → lv_has ls1 9 [(0, .ref b), (1, .ref (xa X 0)), (2, .ref (xa Y 0)), (3, .ref (xa X 32)), (4, .ref (xa X 33)), (5, .int i0)] → W p l e room_1 s m args below meth c H1 locs1 (cells + 4) (slots + 24) Q (F0 m 1908 ls1 [])) : W p l e room_1 s m args below meth c H locs cells slots Q (F0 m 397 ls []) := by
  obtain ⟨hx, hb, hml, hown, hts, -⟩ := id hC
  rw [qL_4] at hf
  refine lv_aload_n hx hb dL_law_397 rfl (lv_at hl 1 rfl) ?_
  refine l_cXi hC hw (l_rX (As := []) (rest := []) hC hw (kX8_productionCount l X Sx _  _ hf) (cwV 0 hts (gV q_300 q_301 q_302 q_2 q_303) rfl rfl rfl (by decide +kernel) ⟨Nat.le_of_ble_eq_true rfl, Nat.le_of_ble_eq_true rfl⟩) rfl hl.1 rfl (Nat.le_of_ble_eq_true rfl) dL_law_398 ⟨by show _ ≤ 601024; omega, by show _ ≤ 7293034; omega⟩) (fun r_1 Sx_2 H locs hf hw => ?_)
  obtain ⟨hf, rfl⟩ := hf
  refine lv_aload_n hx hb dL_law_401 rfl (lv_at hl 2 rfl) ?_
  refine l_cYi hC hw (l_rY (As := []) (rest := [.int r_1]) hC hw (kX9_productionCount l Y Sm _  _ hf) (cwV 0 hts (gV q_304 q_305 q_306 q_5 q_307) rfl rfl rfl (by decide +kernel) ⟨Nat.le_of_ble_eq_true rfl, Nat.le_of_ble_eq_true rfl⟩) rfl hl.1 rfl (Nat.le_of_ble_eq_true rfl) dL_law_402 ⟨by show _ ≤ 601024; omega, by show _ ≤ 7293034; omega⟩) (fun r_3 Sm_4 H locs hf hw => ?_)
  refine lv_icmp_eq (tgt := 1908) hx hb dL_law_405 (by decide) (fun c_5 => ?_) (fun c_5 => ?_)
  · replace hf := hf.1 c_5
    refine W.widen (k := cells + 4) (n := slots + 24) (by omega) (by omega) ?_
    exact kk _ _ _ _ _ hf hw (lv_sub hl [0, 1, 2, 3, 4, 5] rfl)
  · replace hf := hf.2 c_5
    refine lv_iconst (v := 0) hx hb dL_law_408 (by decide) ?_
    exact hf.elim
def qL_5 (a1 a2 a3 a4 : Int32) (Sx Sm : gS) (Post : gS → gS → Prop) : Prop :=
  (pL_productionSymbol a1 a2 Sx (fun k_1 Sx_2 => (pX9_productionSymbol a1 a2 Sm (fun r_3 Sm_4 => (pX9_thrown  Sm_4 (fun r_5 => ((r_5 = k_1 → ((¬ k_1 = 0 → Post Sx_2 Sm_4) ∧ (k_1 = 0 → (((lg_cmp (gB Sx_2 32 0) r_3.toInt64) = 0 → Post Sx_2 Sm_4) ∧ (¬ (lg_cmp (gB Sx_2 32 0) r_3.toInt64) = 0 → False))))) ∧ (¬ r_5 = k_1 → False))))))))
set_option maxHeartbeats 40000000 in
set_option maxRecDepth 100000 in
theorem lawc_5 {p : Program} {l : Launch} {e : Env} {s : State} {m : MethodId} {args : Array Value} {below : List Frame} {meth : Method} {c : Code} {H : Heap} {locs : List Loc} {Q : State → Prop} {cells slots : Nat} {ls : Array Slot} {X Y : xG} {A : Nat → Prop} {b L : Nat} {xs : Nat → Int32} {Sx Sm : gS} {i0 a1 a2 a3 a4 : Int32} {Post : gS → gS → Prop} (hlt : l.stackTraces = false) (hC : LC X Y A b L xs p s m args c) (hi1 : vp_in (i0 + 1) L) (hi2 : vp_in (i0 + 2) L) (hi3 : vp_in (i0 + 3) L) (hi4 : vp_in (i0 + 4) L) (ea1 : xs (i0 + 1).toNatClampNeg = a1) (ea2 : xs (i0 + 2).toNatClampNeg = a2) (ea3 : xs (i0 + 3).toNatClampNeg = a3) (ea4 : xs (i0 + 4).toNatClampNeg = a4) (hcs : cells + 4 ≤ 601024) (hss : slots + 24 ≤ 7293034) (hf : qL_5 a1 a2 a3 a4 Sx Sm Post) (hw : LW X Y A s.heap Sx Sm H locs) (hl : lv_has ls 9 [(0, .ref b), (1, .ref (xa X 0)), (2, .ref (xa Y 0)), (3, .ref (xa X 32)), (4, .ref (xa X 33)), (5, .int i0)])
    (kk : ∀ (Sx' Sm' : gS) (H1 : Heap) (locs1 : List Loc) (ls1 : Array Slot), Post Sx' Sm' → LW X Y A s.heap Sx' Sm' H1 locs1 → lv_has ls1 9 [(0, .ref b), (1, .ref (xa X 0)), (2, .ref (xa Y 0)), (3, .ref (xa X 32)), (4, .ref (xa X 33)), (5, .int i0)] → W p l e room_1 s m args below meth c H1 locs1 (cells + 4) (slots + 24) Q (F0 m 1908 ls1 [])) : W p l e room_1 s m args below meth c H locs cells slots Q (F0 m 410 ls []) := by
  obtain ⟨hx, hb, hml, hown, hts, -⟩ := id hC
  rw [qL_5] at hf
  refine lv_aload_n hx hb dL_law_410 rfl (lv_at hl 1 rfl) ?_
  refine lv_aload_n hx hb dL_law_411 rfl (lv_at hl 0 rfl) ?_
  refine lv_iload hx hb dL_law_412 (lv_at hl 5 rfl) ?_
  refine lv_iconst (v := 1) hx hb dL_law_414 (by decide) ?_
  refine lv_iadd hx hb dL_law_415 ?_
  refine l_sldv hC hw hi1 ea1 dL_law_416 ?_
  refine lv_aload_n hx hb dL_law_417 rfl (lv_at hl 0 rfl) ?_
  refine lv_iload hx hb dL_law_418 (lv_at hl 5 rfl) ?_
  refine lv_iconst (v := 2) hx hb dL_law_420 (by decide) ?_
  refine lv_iadd hx hb dL_law_421 ?_
  refine l_sldv hC hw hi2 ea2 dL_law_422 ?_
  refine lv_aload_n hx hb dL_law_423 rfl (lv_at hl 3 rfl) ?_
  refine l_cXi hC hw (l_rH (As := [.ref (xa X 0), .int a1, .int a2, .ref (xa X 32)]) (rest := []) hC hw (kL_productionSymbol l hlt X Sx _ a1 a2 _ hf) (vx_cwSW 4 hts (gSw q_308 q_309 q_128 q_310) rfl rfl rfl (by decide +kernel) ⟨Nat.le_of_ble_eq_true rfl, Nat.le_of_ble_eq_true rfl⟩) rfl hl.1 rfl (Nat.le_of_ble_eq_true rfl) dL_law_424 ⟨by show _ ≤ 601024; omega, by show _ ≤ 7293034; omega⟩) (fun k_1 Sx_2 H locs hf hw => ?_)
  refine lv_istore (lv' := [(6, .int k_1), (0, .ref b), (1, .ref (xa X 0)), (2, .ref (xa Y 0)), (3, .ref (xa X 32)), (4, .ref (xa X 33)), (5, .int i0)]) hx hb dL_law_427 hl (by decide) rfl (fun ls hl => ?_)
  refine lv_aload_n hx hb dL_law_429 rfl (lv_at hl 3 rfl) ?_
  refine lv_aload_n hx hb dL_law_430 rfl (lv_at hl 1 rfl) ?_
  refine lv_iload hx hb dL_law_431 (lv_at hl 6 rfl) ?_
  refine lv_iconst (v := 1) hx hb dL_law_433 (by decide) ?_
  refine lv_iadd hx hb dL_law_434 ?_
  refine l_sldv hC hw hi1 ea1 dL_law_435 ?_
  refine lv_aload_n hx hb dL_law_436 rfl (lv_at hl 1 rfl) ?_
  refine lv_iload hx hb dL_law_437 (lv_at hl 6 rfl) ?_
  refine lv_iconst (v := 2) hx hb dL_law_439 (by decide) ?_
  refine lv_iadd hx hb dL_law_440 ?_
  refine l_sldv hC hw hi2 ea2 dL_law_441 ?_
  refine l_cYi hC hw (l_rY (As := [.int a1, .int a2]) (rest := []) hC hw (kX9_productionSymbol l Y Sm _ a1 a2 _ hf) (cwV 2 hts (gV q_317 q_318 q_319 q_5 q_320) rfl rfl rfl (by decide +kernel) ⟨Nat.le_of_ble_eq_true rfl, Nat.le_of_ble_eq_true rfl⟩) rfl hl.1 rfl (Nat.le_of_ble_eq_true rfl) dL_law_442 ⟨by show _ ≤ 601024; omega, by show _ ≤ 7293034; omega⟩) (fun r_3 Sm_4 H locs hf hw => ?_)
  refine lv_istore (lv' := [(7, .int r_3), (6, .int k_1), (0, .ref b), (1, .ref (xa X 0)), (2, .ref (xa Y 0)), (3, .ref (xa X 32)), (4, .ref (xa X 33)), (5, .int i0)]) hx hb dL_law_445 hl (by decide) rfl (fun ls hl => ?_)
  refine lv_aload_n hx hb dL_law_447 rfl (lv_at hl 4 rfl) ?_
  refine l_cYi hC hw (l_rY (As := []) (rest := []) hC hw (kX9_thrown l Y Sm_4 _  _ hf) (cwV 0 hts (gV q_168 q_169 q_170 q_5 q_171) rfl rfl rfl (by decide +kernel) ⟨Nat.le_of_ble_eq_true rfl, Nat.le_of_ble_eq_true rfl⟩) rfl hl.1 rfl (Nat.le_of_ble_eq_true rfl) dL_law_448 ⟨by show _ ≤ 601024; omega, by show _ ≤ 7293034; omega⟩) (fun r_5 Sm_6 H locs hf hw => ?_)
  obtain ⟨hf, rfl⟩ := hf
  refine lv_iload hx hb dL_law_451 (lv_at hl 1 rfl) ?_
  refine lv_icmp_eq (tgt := 458) hx hb dL_law_453 (by decide) (fun c_7 => ?_) (fun c_7 => ?_)
  · replace hf := hf.1 c_7
    refine lv_iload hx hb dL_law_458 (lv_at hl 1 rfl) ?_
    refine lv_if_ne (tgt := 475) hx hb dL_law_460 (by decide) (fun c_8 => ?_) (fun c_8 => ?_)
    · replace hf := hf.1 c_8
      refine lv_goto (tgt := 1908) hx hb dL_law_475 (by decide) ?_
      refine W.widen (k := cells + 4) (n := slots + 24) (by omega) (by omega) ?_
      exact kk _ _ _ _ _ hf hw (lv_sub hl [2, 3, 4, 5, 6, 7] rfl)
    · replace hf := hf.2 c_8
      refine lv_aload_n hx hb dL_law_463 rfl (lv_at hl 5 rfl) ?_
      refine lv_iconst (v := 0) hx hb dL_law_464 (by decide) ?_
      refine l_out hC hw dL_law_465 ?_
      refine lv_iload hx hb dL_law_466 (lv_at hl 0 rfl) ?_
      refine lv_i2l hx hb dL_law_468 rfl ?_
      refine W.lcmp hx hb dL_law_469 ?_
      refine lv_if_eq (tgt := 475) hx hb dL_law_470 (by decide) (fun c_9 => ?_) (fun c_9 => ?_)
      · replace hf := hf.1 c_9
        refine lv_goto (tgt := 1908) hx hb dL_law_475 (by decide) ?_
        refine W.widen (k := cells + 4) (n := slots + 24) (by omega) (by omega) ?_
        exact kk _ _ _ _ _ hf hw (lv_sub hl [2, 3, 4, 5, 6, 7] rfl)
      · replace hf := hf.2 c_9
        refine lv_iconst (v := 0) hx hb dL_law_473 (by decide) ?_
        exact hf.elim
  · replace hf := hf.2 c_7
    refine lv_iconst (v := 0) hx hb dL_law_456 (by decide) ?_
    exact hf.elim
def qL_6 (a1 a2 a3 a4 : Int32) (Sx Sm : gS) (Post : gS → gS → Prop) : Prop :=
  (pL_setStart a1 Sx (fun k_1 Sx_2 => (pX9_setStart a1 Sm (fun r_3 Sm_4 => (pX9_thrown  Sm_4 (fun r_5 => ((r_5 = k_1 → ((¬ k_1 = 0 → Post Sx_2 Sm_4) ∧ (k_1 = 0 → (((lg_cmp (gB Sx_2 32 0) r_3.toInt64) = 0 → Post Sx_2 Sm_4) ∧ (¬ (lg_cmp (gB Sx_2 32 0) r_3.toInt64) = 0 → False))))) ∧ (¬ r_5 = k_1 → False))))))))
set_option maxHeartbeats 40000000 in
set_option maxRecDepth 100000 in
theorem lawc_6 {p : Program} {l : Launch} {e : Env} {s : State} {m : MethodId} {args : Array Value} {below : List Frame} {meth : Method} {c : Code} {H : Heap} {locs : List Loc} {Q : State → Prop} {cells slots : Nat} {ls : Array Slot} {X Y : xG} {A : Nat → Prop} {b L : Nat} {xs : Nat → Int32} {Sx Sm : gS} {i0 a1 a2 a3 a4 : Int32} {Post : gS → gS → Prop} (hlt : l.stackTraces = false) (hC : LC X Y A b L xs p s m args c) (hi1 : vp_in (i0 + 1) L) (hi2 : vp_in (i0 + 2) L) (hi3 : vp_in (i0 + 3) L) (hi4 : vp_in (i0 + 4) L) (ea1 : xs (i0 + 1).toNatClampNeg = a1) (ea2 : xs (i0 + 2).toNatClampNeg = a2) (ea3 : xs (i0 + 3).toNatClampNeg = a3) (ea4 : xs (i0 + 4).toNatClampNeg = a4) (hcs : cells + 4 ≤ 601024) (hss : slots + 24 ≤ 7293034) (hf : qL_6 a1 a2 a3 a4 Sx Sm Post) (hw : LW X Y A s.heap Sx Sm H locs) (hl : lv_has ls 9 [(0, .ref b), (1, .ref (xa X 0)), (2, .ref (xa Y 0)), (3, .ref (xa X 32)), (4, .ref (xa X 33)), (5, .int i0)])
    (kk : ∀ (Sx' Sm' : gS) (H1 : Heap) (locs1 : List Loc) (ls1 : Array Slot), Post Sx' Sm' → LW X Y A s.heap Sx' Sm' H1 locs1 → lv_has ls1 9 [(0, .ref b), (1, .ref (xa X 0)), (2, .ref (xa Y 0)), (3, .ref (xa X 32)), (4, .ref (xa X 33)), (5, .int i0)] → W p l e room_1 s m args below meth c H1 locs1 (cells + 4) (slots + 24) Q (F0 m 1908 ls1 [])) : W p l e room_1 s m args below meth c H locs cells slots Q (F0 m 478 ls []) := by
  obtain ⟨hx, hb, hml, hown, hts, -⟩ := id hC
  rw [qL_6] at hf
  refine lv_aload_n hx hb dL_law_478 rfl (lv_at hl 1 rfl) ?_
  refine lv_aload_n hx hb dL_law_479 rfl (lv_at hl 0 rfl) ?_
  refine lv_iload hx hb dL_law_480 (lv_at hl 5 rfl) ?_
  refine lv_iconst (v := 1) hx hb dL_law_482 (by decide) ?_
  refine lv_iadd hx hb dL_law_483 ?_
  refine l_sldv hC hw hi1 ea1 dL_law_484 ?_
  refine lv_aload_n hx hb dL_law_485 rfl (lv_at hl 3 rfl) ?_
  refine l_cXi hC hw (l_rH (As := [.ref (xa X 0), .int a1, .ref (xa X 32)]) (rest := []) hC hw (kL_setStart l hlt X Sx _ a1 _ hf) (vx_cwSW 3 hts (gSw q_321 q_322 q_128 q_323) rfl rfl rfl (by decide +kernel) ⟨Nat.le_of_ble_eq_true rfl, Nat.le_of_ble_eq_true rfl⟩) rfl hl.1 rfl (Nat.le_of_ble_eq_true rfl) dL_law_486 ⟨by show _ ≤ 601024; omega, by show _ ≤ 7293034; omega⟩) (fun k_1 Sx_2 H locs hf hw => ?_)
  refine lv_istore (lv' := [(6, .int k_1), (0, .ref b), (1, .ref (xa X 0)), (2, .ref (xa Y 0)), (3, .ref (xa X 32)), (4, .ref (xa X 33)), (5, .int i0)]) hx hb dL_law_489 hl (by decide) rfl (fun ls hl => ?_)
  refine lv_aload_n hx hb dL_law_491 rfl (lv_at hl 3 rfl) ?_
  refine lv_aload_n hx hb dL_law_492 rfl (lv_at hl 1 rfl) ?_
  refine lv_iload hx hb dL_law_493 (lv_at hl 6 rfl) ?_
  refine lv_iconst (v := 1) hx hb dL_law_495 (by decide) ?_
  refine lv_iadd hx hb dL_law_496 ?_
  refine l_sldv hC hw hi1 ea1 dL_law_497 ?_
  refine l_cYi hC hw (l_rY (As := [.int a1]) (rest := []) hC hw (kX9_setStart l Y Sm _ a1 _ hf) (cwV 1 hts (gV q_332 q_333 q_334 q_5 q_335) rfl rfl rfl (by decide +kernel) ⟨Nat.le_of_ble_eq_true rfl, Nat.le_of_ble_eq_true rfl⟩) rfl hl.1 rfl (Nat.le_of_ble_eq_true rfl) dL_law_498 ⟨by show _ ≤ 601024; omega, by show _ ≤ 7293034; omega⟩) (fun r_3 Sm_4 H locs hf hw => ?_)
  refine lv_istore (lv' := [(7, .int r_3), (6, .int k_1), (0, .ref b), (1, .ref (xa X 0)), (2, .ref (xa Y 0)), (3, .ref (xa X 32)), (4, .ref (xa X 33)), (5, .int i0)]) hx hb dL_law_501 hl (by decide) rfl (fun ls hl => ?_)
  refine lv_aload_n hx hb dL_law_503 rfl (lv_at hl 4 rfl) ?_
  refine l_cYi hC hw (l_rY (As := []) (rest := []) hC hw (kX9_thrown l Y Sm_4 _  _ hf) (cwV 0 hts (gV q_168 q_169 q_170 q_5 q_171) rfl rfl rfl (by decide +kernel) ⟨Nat.le_of_ble_eq_true rfl, Nat.le_of_ble_eq_true rfl⟩) rfl hl.1 rfl (Nat.le_of_ble_eq_true rfl) dL_law_504 ⟨by show _ ≤ 601024; omega, by show _ ≤ 7293034; omega⟩) (fun r_5 Sm_6 H locs hf hw => ?_)
  obtain ⟨hf, rfl⟩ := hf
  refine lv_iload hx hb dL_law_507 (lv_at hl 1 rfl) ?_
  refine lv_icmp_eq (tgt := 514) hx hb dL_law_509 (by decide) (fun c_7 => ?_) (fun c_7 => ?_)
  · replace hf := hf.1 c_7
    refine lv_iload hx hb dL_law_514 (lv_at hl 1 rfl) ?_
    refine lv_if_ne (tgt := 531) hx hb dL_law_516 (by decide) (fun c_8 => ?_) (fun c_8 => ?_)
    · replace hf := hf.1 c_8
      refine lv_goto (tgt := 1908) hx hb dL_law_531 (by decide) ?_
      refine W.widen (k := cells + 4) (n := slots + 24) (by omega) (by omega) ?_
      exact kk _ _ _ _ _ hf hw (lv_sub hl [2, 3, 4, 5, 6, 7] rfl)
    · replace hf := hf.2 c_8
      refine lv_aload_n hx hb dL_law_519 rfl (lv_at hl 5 rfl) ?_
      refine lv_iconst (v := 0) hx hb dL_law_520 (by decide) ?_
      refine l_out hC hw dL_law_521 ?_
      refine lv_iload hx hb dL_law_522 (lv_at hl 0 rfl) ?_
      refine lv_i2l hx hb dL_law_524 rfl ?_
      refine W.lcmp hx hb dL_law_525 ?_
      refine lv_if_eq (tgt := 531) hx hb dL_law_526 (by decide) (fun c_9 => ?_) (fun c_9 => ?_)
      · replace hf := hf.1 c_9
        refine lv_goto (tgt := 1908) hx hb dL_law_531 (by decide) ?_
        refine W.widen (k := cells + 4) (n := slots + 24) (by omega) (by omega) ?_
        exact kk _ _ _ _ _ hf hw (lv_sub hl [2, 3, 4, 5, 6, 7] rfl)
      · replace hf := hf.2 c_9
        refine lv_iconst (v := 0) hx hb dL_law_529 (by decide) ?_
        exact hf.elim
  · replace hf := hf.2 c_7
    refine lv_iconst (v := 0) hx hb dL_law_512 (by decide) ?_
    exact hf.elim
def qL_7 (a1 a2 a3 a4 : Int32) (Sx Sm : gS) (Post : gS → gS → Prop) : Prop :=
  (pL_shortestLength a1 Sx (fun k_1 Sx_2 => (pX9_shortestLength a1 Sm (fun r_3 Sm_4 => (pX9_thrown  Sm_4 (fun r_5 => ((r_5 = k_1 → ((¬ k_1 = 0 → Post Sx_2 Sm_4) ∧ (k_1 = 0 → (((lg_cmp (gB Sx_2 32 0) r_3.toInt64) = 0 → Post Sx_2 Sm_4) ∧ (¬ (lg_cmp (gB Sx_2 32 0) r_3.toInt64) = 0 → False))))) ∧ (¬ r_5 = k_1 → False))))))))
set_option maxHeartbeats 40000000 in
set_option maxRecDepth 100000 in
theorem lawc_7 {p : Program} {l : Launch} {e : Env} {s : State} {m : MethodId} {args : Array Value} {below : List Frame} {meth : Method} {c : Code} {H : Heap} {locs : List Loc} {Q : State → Prop} {cells slots : Nat} {ls : Array Slot} {X Y : xG} {A : Nat → Prop} {b L : Nat} {xs : Nat → Int32} {Sx Sm : gS} {i0 a1 a2 a3 a4 : Int32} {Post : gS → gS → Prop} (hlt : l.stackTraces = false) (hC : LC X Y A b L xs p s m args c) (hi1 : vp_in (i0 + 1) L) (hi2 : vp_in (i0 + 2) L) (hi3 : vp_in (i0 + 3) L) (hi4 : vp_in (i0 + 4) L) (ea1 : xs (i0 + 1).toNatClampNeg = a1) (ea2 : xs (i0 + 2).toNatClampNeg = a2) (ea3 : xs (i0 + 3).toNatClampNeg = a3) (ea4 : xs (i0 + 4).toNatClampNeg = a4) (hcs : cells + 4 ≤ 601024) (hss : slots + 24 ≤ 7293034) (hf : qL_7 a1 a2 a3 a4 Sx Sm Post) (hw : LW X Y A s.heap Sx Sm H locs) (hl : lv_has ls 9 [(0, .ref b), (1, .ref (xa X 0)), (2, .ref (xa Y 0)), (3, .ref (xa X 32)), (4, .ref (xa X 33)), (5, .int i0)])
    (kk : ∀ (Sx' Sm' : gS) (H1 : Heap) (locs1 : List Loc) (ls1 : Array Slot), Post Sx' Sm' → LW X Y A s.heap Sx' Sm' H1 locs1 → lv_has ls1 9 [(0, .ref b), (1, .ref (xa X 0)), (2, .ref (xa Y 0)), (3, .ref (xa X 32)), (4, .ref (xa X 33)), (5, .int i0)] → W p l e room_1 s m args below meth c H1 locs1 (cells + 4) (slots + 24) Q (F0 m 1908 ls1 [])) : W p l e room_1 s m args below meth c H locs cells slots Q (F0 m 534 ls []) := by
  obtain ⟨hx, hb, hml, hown, hts, -⟩ := id hC
  rw [qL_7] at hf
  refine lv_aload_n hx hb dL_law_534 rfl (lv_at hl 1 rfl) ?_
  refine lv_aload_n hx hb dL_law_535 rfl (lv_at hl 0 rfl) ?_
  refine lv_iload hx hb dL_law_536 (lv_at hl 5 rfl) ?_
  refine lv_iconst (v := 1) hx hb dL_law_538 (by decide) ?_
  refine lv_iadd hx hb dL_law_539 ?_
  refine l_sldv hC hw hi1 ea1 dL_law_540 ?_
  refine lv_aload_n hx hb dL_law_541 rfl (lv_at hl 3 rfl) ?_
  refine l_cXi hC hw (l_rH (As := [.ref (xa X 0), .int a1, .ref (xa X 32)]) (rest := []) hC hw (kL_shortestLength l hlt X Sx _ a1 _ hf) (vx_cwSW 3 hts (gSw q_336 q_337 q_128 q_338) rfl rfl rfl (by decide +kernel) ⟨Nat.le_of_ble_eq_true rfl, Nat.le_of_ble_eq_true rfl⟩) rfl hl.1 rfl (Nat.le_of_ble_eq_true rfl) dL_law_542 ⟨by show _ ≤ 601024; omega, by show _ ≤ 7293034; omega⟩) (fun k_1 Sx_2 H locs hf hw => ?_)
  refine lv_istore (lv' := [(6, .int k_1), (0, .ref b), (1, .ref (xa X 0)), (2, .ref (xa Y 0)), (3, .ref (xa X 32)), (4, .ref (xa X 33)), (5, .int i0)]) hx hb dL_law_545 hl (by decide) rfl (fun ls hl => ?_)
  refine lv_aload_n hx hb dL_law_547 rfl (lv_at hl 3 rfl) ?_
  refine lv_aload_n hx hb dL_law_548 rfl (lv_at hl 1 rfl) ?_
  refine lv_iload hx hb dL_law_549 (lv_at hl 6 rfl) ?_
  refine lv_iconst (v := 1) hx hb dL_law_551 (by decide) ?_
  refine lv_iadd hx hb dL_law_552 ?_
  refine l_sldv hC hw hi1 ea1 dL_law_553 ?_
  refine l_cYi hC hw (l_rY (As := [.int a1]) (rest := []) hC hw (kX9_shortestLength l Y Sm _ a1 _ hf) (cwV 1 hts (gV q_343 q_344 q_345 q_5 q_346) rfl rfl rfl (by decide +kernel) ⟨Nat.le_of_ble_eq_true rfl, Nat.le_of_ble_eq_true rfl⟩) rfl hl.1 rfl (Nat.le_of_ble_eq_true rfl) dL_law_554 ⟨by show _ ≤ 601024; omega, by show _ ≤ 7293034; omega⟩) (fun r_3 Sm_4 H locs hf hw => ?_)
  refine lv_istore (lv' := [(7, .int r_3), (6, .int k_1), (0, .ref b), (1, .ref (xa X 0)), (2, .ref (xa Y 0)), (3, .ref (xa X 32)), (4, .ref (xa X 33)), (5, .int i0)]) hx hb dL_law_557 hl (by decide) rfl (fun ls hl => ?_)
  refine lv_aload_n hx hb dL_law_559 rfl (lv_at hl 4 rfl) ?_
  refine l_cYi hC hw (l_rY (As := []) (rest := []) hC hw (kX9_thrown l Y Sm_4 _  _ hf) (cwV 0 hts (gV q_168 q_169 q_170 q_5 q_171) rfl rfl rfl (by decide +kernel) ⟨Nat.le_of_ble_eq_true rfl, Nat.le_of_ble_eq_true rfl⟩) rfl hl.1 rfl (Nat.le_of_ble_eq_true rfl) dL_law_560 ⟨by show _ ≤ 601024; omega, by show _ ≤ 7293034; omega⟩) (fun r_5 Sm_6 H locs hf hw => ?_)
  obtain ⟨hf, rfl⟩ := hf
  refine lv_iload hx hb dL_law_563 (lv_at hl 1 rfl) ?_
  refine lv_icmp_eq (tgt := 570) hx hb dL_law_565 (by decide) (fun c_7 => ?_) (fun c_7 => ?_)
  · replace hf := hf.1 c_7
    refine lv_iload hx hb dL_law_570 (lv_at hl 1 rfl) ?_
    refine lv_if_ne (tgt := 587) hx hb dL_law_572 (by decide) (fun c_8 => ?_) (fun c_8 => ?_)
    · replace hf := hf.1 c_8
      refine lv_goto (tgt := 1908) hx hb dL_law_587 (by decide) ?_
      refine W.widen (k := cells + 4) (n := slots + 24) (by omega) (by omega) ?_
      exact kk _ _ _ _ _ hf hw (lv_sub hl [2, 3, 4, 5, 6, 7] rfl)
    · replace hf := hf.2 c_8
      refine lv_aload_n hx hb dL_law_575 rfl (lv_at hl 5 rfl) ?_
      refine lv_iconst (v := 0) hx hb dL_law_576 (by decide) ?_
      refine l_out hC hw dL_law_577 ?_
      refine lv_iload hx hb dL_law_578 (lv_at hl 0 rfl) ?_
      refine lv_i2l hx hb dL_law_580 rfl ?_
      refine W.lcmp hx hb dL_law_581 ?_
      refine lv_if_eq (tgt := 587) hx hb dL_law_582 (by decide) (fun c_9 => ?_) (fun c_9 => ?_)
      · replace hf := hf.1 c_9
        refine lv_goto (tgt := 1908) hx hb dL_law_587 (by decide) ?_
        refine W.widen (k := cells + 4) (n := slots + 24) (by omega) (by omega) ?_
        exact kk _ _ _ _ _ hf hw (lv_sub hl [2, 3, 4, 5, 6, 7] rfl)
      · replace hf := hf.2 c_9
        refine lv_iconst (v := 0) hx hb dL_law_585 (by decide) ?_
        exact hf.elim
  · replace hf := hf.2 c_7
    refine lv_iconst (v := 0) hx hb dL_law_568 (by decide) ?_
    exact hf.elim
def qL_8 (a1 a2 a3 a4 : Int32) (Sx Sm : gS) (Post : gS → gS → Prop) : Prop :=
  (pL_append a1 Sx (fun k_1 Sx_2 => (pX9_append a1 Sm (fun r_3 Sm_4 => (pX9_thrown  Sm_4 (fun r_5 => ((r_5 = k_1 → ((¬ k_1 = 0 → Post Sx_2 Sm_4) ∧ (k_1 = 0 → (((lg_cmp (gB Sx_2 32 0) r_3.toInt64) = 0 → Post Sx_2 Sm_4) ∧ (¬ (lg_cmp (gB Sx_2 32 0) r_3.toInt64) = 0 → False))))) ∧ (¬ r_5 = k_1 → False))))))))
set_option maxHeartbeats 40000000 in
set_option maxRecDepth 100000 in
theorem lawc_8 {p : Program} {l : Launch} {e : Env} {s : State} {m : MethodId} {args : Array Value} {below : List Frame} {meth : Method} {c : Code} {H : Heap} {locs : List Loc} {Q : State → Prop} {cells slots : Nat} {ls : Array Slot} {X Y : xG} {A : Nat → Prop} {b L : Nat} {xs : Nat → Int32} {Sx Sm : gS} {i0 a1 a2 a3 a4 : Int32} {Post : gS → gS → Prop} (hlt : l.stackTraces = false) (hC : LC X Y A b L xs p s m args c) (hi1 : vp_in (i0 + 1) L) (hi2 : vp_in (i0 + 2) L) (hi3 : vp_in (i0 + 3) L) (hi4 : vp_in (i0 + 4) L) (ea1 : xs (i0 + 1).toNatClampNeg = a1) (ea2 : xs (i0 + 2).toNatClampNeg = a2) (ea3 : xs (i0 + 3).toNatClampNeg = a3) (ea4 : xs (i0 + 4).toNatClampNeg = a4) (hcs : cells + 4 ≤ 601024) (hss : slots + 24 ≤ 7293034) (hf : qL_8 a1 a2 a3 a4 Sx Sm Post) (hw : LW X Y A s.heap Sx Sm H locs) (hl : lv_has ls 9 [(0, .ref b), (1, .ref (xa X 0)), (2, .ref (xa Y 0)), (3, .ref (xa X 32)), (4, .ref (xa X 33)), (5, .int i0)])
    (kk : ∀ (Sx' Sm' : gS) (H1 : Heap) (locs1 : List Loc) (ls1 : Array Slot), Post Sx' Sm' → LW X Y A s.heap Sx' Sm' H1 locs1 → lv_has ls1 9 [(0, .ref b), (1, .ref (xa X 0)), (2, .ref (xa Y 0)), (3, .ref (xa X 32)), (4, .ref (xa X 33)), (5, .int i0)] → W p l e room_1 s m args below meth c H1 locs1 (cells + 4) (slots + 24) Q (F0 m 1908 ls1 [])) : W p l e room_1 s m args below meth c H locs cells slots Q (F0 m 590 ls []) := by
  obtain ⟨hx, hb, hml, hown, hts, -⟩ := id hC
  rw [qL_8] at hf
  refine lv_aload_n hx hb dL_law_590 rfl (lv_at hl 1 rfl) ?_
  refine lv_aload_n hx hb dL_law_591 rfl (lv_at hl 0 rfl) ?_
  refine lv_iload hx hb dL_law_592 (lv_at hl 5 rfl) ?_
  refine lv_iconst (v := 1) hx hb dL_law_594 (by decide) ?_
  refine lv_iadd hx hb dL_law_595 ?_
  refine l_sldv hC hw hi1 ea1 dL_law_596 ?_
  refine lv_aload_n hx hb dL_law_597 rfl (lv_at hl 3 rfl) ?_
  refine l_cXi hC hw (l_rH (As := [.ref (xa X 0), .int a1, .ref (xa X 32)]) (rest := []) hC hw (kL_append l hlt X Sx _ a1 _ hf) (vx_cwSW 3 hts (gSw q_347 q_348 q_128 q_349) rfl rfl rfl (by decide +kernel) ⟨Nat.le_of_ble_eq_true rfl, Nat.le_of_ble_eq_true rfl⟩) rfl hl.1 rfl (Nat.le_of_ble_eq_true rfl) dL_law_598 ⟨by show _ ≤ 601024; omega, by show _ ≤ 7293034; omega⟩) (fun k_1 Sx_2 H locs hf hw => ?_)
  refine lv_istore (lv' := [(6, .int k_1), (0, .ref b), (1, .ref (xa X 0)), (2, .ref (xa Y 0)), (3, .ref (xa X 32)), (4, .ref (xa X 33)), (5, .int i0)]) hx hb dL_law_601 hl (by decide) rfl (fun ls hl => ?_)
  refine lv_aload_n hx hb dL_law_603 rfl (lv_at hl 3 rfl) ?_
  refine lv_aload_n hx hb dL_law_604 rfl (lv_at hl 1 rfl) ?_
  refine lv_iload hx hb dL_law_605 (lv_at hl 6 rfl) ?_
  refine lv_iconst (v := 1) hx hb dL_law_607 (by decide) ?_
  refine lv_iadd hx hb dL_law_608 ?_
  refine l_sldv hC hw hi1 ea1 dL_law_609 ?_
  refine l_cYi hC hw (l_rY (As := [.int a1]) (rest := []) hC hw (kX9_append l Y Sm _ a1 _ hf) (cwV 1 hts (gV q_357 q_358 q_359 q_5 q_360) rfl rfl rfl (by decide +kernel) ⟨Nat.le_of_ble_eq_true rfl, Nat.le_of_ble_eq_true rfl⟩) rfl hl.1 rfl (Nat.le_of_ble_eq_true rfl) dL_law_610 ⟨by show _ ≤ 601024; omega, by show _ ≤ 7293034; omega⟩) (fun r_3 Sm_4 H locs hf hw => ?_)
  refine lv_istore (lv' := [(7, .int r_3), (6, .int k_1), (0, .ref b), (1, .ref (xa X 0)), (2, .ref (xa Y 0)), (3, .ref (xa X 32)), (4, .ref (xa X 33)), (5, .int i0)]) hx hb dL_law_613 hl (by decide) rfl (fun ls hl => ?_)
  refine lv_aload_n hx hb dL_law_615 rfl (lv_at hl 4 rfl) ?_
  refine l_cYi hC hw (l_rY (As := []) (rest := []) hC hw (kX9_thrown l Y Sm_4 _  _ hf) (cwV 0 hts (gV q_168 q_169 q_170 q_5 q_171) rfl rfl rfl (by decide +kernel) ⟨Nat.le_of_ble_eq_true rfl, Nat.le_of_ble_eq_true rfl⟩) rfl hl.1 rfl (Nat.le_of_ble_eq_true rfl) dL_law_616 ⟨by show _ ≤ 601024; omega, by show _ ≤ 7293034; omega⟩) (fun r_5 Sm_6 H locs hf hw => ?_)
  obtain ⟨hf, rfl⟩ := hf
  refine lv_iload hx hb dL_law_619 (lv_at hl 1 rfl) ?_
  refine lv_icmp_eq (tgt := 626) hx hb dL_law_621 (by decide) (fun c_7 => ?_) (fun c_7 => ?_)
  · replace hf := hf.1 c_7
    refine lv_iload hx hb dL_law_626 (lv_at hl 1 rfl) ?_
    refine lv_if_ne (tgt := 643) hx hb dL_law_628 (by decide) (fun c_8 => ?_) (fun c_8 => ?_)
    · replace hf := hf.1 c_8
      refine lv_goto (tgt := 1908) hx hb dL_law_643 (by decide) ?_
      refine W.widen (k := cells + 4) (n := slots + 24) (by omega) (by omega) ?_
      exact kk _ _ _ _ _ hf hw (lv_sub hl [2, 3, 4, 5, 6, 7] rfl)
    · replace hf := hf.2 c_8
      refine lv_aload_n hx hb dL_law_631 rfl (lv_at hl 5 rfl) ?_
      refine lv_iconst (v := 0) hx hb dL_law_632 (by decide) ?_
      refine l_out hC hw dL_law_633 ?_
      refine lv_iload hx hb dL_law_634 (lv_at hl 0 rfl) ?_
      refine lv_i2l hx hb dL_law_636 rfl ?_
      refine W.lcmp hx hb dL_law_637 ?_
      refine lv_if_eq (tgt := 643) hx hb dL_law_638 (by decide) (fun c_9 => ?_) (fun c_9 => ?_)
      · replace hf := hf.1 c_9
        refine lv_goto (tgt := 1908) hx hb dL_law_643 (by decide) ?_
        refine W.widen (k := cells + 4) (n := slots + 24) (by omega) (by omega) ?_
        exact kk _ _ _ _ _ hf hw (lv_sub hl [2, 3, 4, 5, 6, 7] rfl)
      · replace hf := hf.2 c_9
        refine lv_iconst (v := 0) hx hb dL_law_641 (by decide) ?_
        exact hf.elim
  · replace hf := hf.2 c_7
    refine lv_iconst (v := 0) hx hb dL_law_624 (by decide) ?_
    exact hf.elim
def qL_9 (a1 a2 a3 a4 : Int32) (Sx Sm : gS) (Post : gS → gS → Prop) : Prop :=
  (pX8_clearWord  Sx (fun r_1 Sx_2 => (pX9_clearWord  Sm (fun r_3 Sm_4 => ((r_1 = r_3 → Post Sx_2 Sm_4) ∧ (¬ r_1 = r_3 → False))))))
set_option maxHeartbeats 40000000 in
set_option maxRecDepth 100000 in
theorem lawc_9 {p : Program} {l : Launch} {e : Env} {s : State} {m : MethodId} {args : Array Value} {below : List Frame} {meth : Method} {c : Code} {H : Heap} {locs : List Loc} {Q : State → Prop} {cells slots : Nat} {ls : Array Slot} {X Y : xG} {A : Nat → Prop} {b L : Nat} {xs : Nat → Int32} {Sx Sm : gS} {i0 a1 a2 a3 a4 : Int32} {Post : gS → gS → Prop} (hlt : l.stackTraces = false) (hC : LC X Y A b L xs p s m args c) (hi1 : vp_in (i0 + 1) L) (hi2 : vp_in (i0 + 2) L) (hi3 : vp_in (i0 + 3) L) (hi4 : vp_in (i0 + 4) L) (ea1 : xs (i0 + 1).toNatClampNeg = a1) (ea2 : xs (i0 + 2).toNatClampNeg = a2) (ea3 : xs (i0 + 3).toNatClampNeg = a3) (ea4 : xs (i0 + 4).toNatClampNeg = a4) (hcs : cells + 4 ≤ 601024) (hss : slots + 24 ≤ 7293034) (hf : qL_9 a1 a2 a3 a4 Sx Sm Post) (hw : LW X Y A s.heap Sx Sm H locs) (hl : lv_has ls 9 [(0, .ref b), (1, .ref (xa X 0)), (2, .ref (xa Y 0)), (3, .ref (xa X 32)), (4, .ref (xa X 33)), (5, .int i0)])
    (kk : ∀ (Sx' Sm' : gS) (H1 : Heap) (locs1 : List Loc) (ls1 : Array Slot), Post Sx' Sm' → LW X Y A s.heap Sx' Sm' H1 locs1 → lv_has ls1 9 [(0, .ref b), (1, .ref (xa X 0)), (2, .ref (xa Y 0)), (3, .ref (xa X 32)), (4, .ref (xa X 33)), (5, .int i0)] → W p l e room_1 s m args below meth c H1 locs1 (cells + 4) (slots + 24) Q (F0 m 1908 ls1 [])) : W p l e room_1 s m args below meth c H locs cells slots Q (F0 m 646 ls []) := by
  obtain ⟨hx, hb, hml, hown, hts, -⟩ := id hC
  rw [qL_9] at hf
  refine lv_aload_n hx hb dL_law_646 rfl (lv_at hl 1 rfl) ?_
  refine l_cXi hC hw (l_rX (As := []) (rest := []) hC hw (kX8_clearWord l X Sx _  _ hf) (cwV 0 hts (gV q_361 q_362 q_363 q_2 q_364) rfl rfl rfl (by decide +kernel) ⟨Nat.le_of_ble_eq_true rfl, Nat.le_of_ble_eq_true rfl⟩) rfl hl.1 rfl (Nat.le_of_ble_eq_true rfl) dL_law_647 ⟨by show _ ≤ 601024; omega, by show _ ≤ 7293034; omega⟩) (fun r_1 Sx_2 H locs hf hw => ?_)
  refine lv_aload_n hx hb dL_law_650 rfl (lv_at hl 2 rfl) ?_
  refine l_cYi hC hw (l_rY (As := []) (rest := [.int r_1]) hC hw (kX9_clearWord l Y Sm _  _ hf) (cwV 0 hts (gV q_365 q_366 q_367 q_5 q_368) rfl rfl rfl (by decide +kernel) ⟨Nat.le_of_ble_eq_true rfl, Nat.le_of_ble_eq_true rfl⟩) rfl hl.1 rfl (Nat.le_of_ble_eq_true rfl) dL_law_651 ⟨by show _ ≤ 601024; omega, by show _ ≤ 7293034; omega⟩) (fun r_3 Sm_4 H locs hf hw => ?_)
  refine lv_icmp_eq (tgt := 1908) hx hb dL_law_654 (by decide) (fun c_5 => ?_) (fun c_5 => ?_)
  · replace hf := hf.1 c_5
    refine W.widen (k := cells + 4) (n := slots + 24) (by omega) (by omega) ?_
    exact kk _ _ _ _ _ hf hw (lv_sub hl [0, 1, 2, 3, 4, 5] rfl)
  · replace hf := hf.2 c_5
    refine lv_iconst (v := 0) hx hb dL_law_657 (by decide) ?_
    exact hf.elim
def qL_10 (a1 a2 a3 a4 : Int32) (Sx Sm : gS) (Post : gS → gS → Prop) : Prop :=
  (pX8_wordLength  Sx (fun r_1 => (pX9_wordLength  Sm (fun r_3 Sm_4 => ((r_1 = r_3 → Post Sx Sm_4) ∧ (¬ r_1 = r_3 → False))))))
set_option maxHeartbeats 40000000 in
set_option maxRecDepth 100000 in
theorem lawc_10 {p : Program} {l : Launch} {e : Env} {s : State} {m : MethodId} {args : Array Value} {below : List Frame} {meth : Method} {c : Code} {H : Heap} {locs : List Loc} {Q : State → Prop} {cells slots : Nat} {ls : Array Slot} {X Y : xG} {A : Nat → Prop} {b L : Nat} {xs : Nat → Int32} {Sx Sm : gS} {i0 a1 a2 a3 a4 : Int32} {Post : gS → gS → Prop} (hlt : l.stackTraces = false) (hC : LC X Y A b L xs p s m args c) (hi1 : vp_in (i0 + 1) L) (hi2 : vp_in (i0 + 2) L) (hi3 : vp_in (i0 + 3) L) (hi4 : vp_in (i0 + 4) L) (ea1 : xs (i0 + 1).toNatClampNeg = a1) (ea2 : xs (i0 + 2).toNatClampNeg = a2) (ea3 : xs (i0 + 3).toNatClampNeg = a3) (ea4 : xs (i0 + 4).toNatClampNeg = a4) (hcs : cells + 4 ≤ 601024) (hss : slots + 24 ≤ 7293034) (hf : qL_10 a1 a2 a3 a4 Sx Sm Post) (hw : LW X Y A s.heap Sx Sm H locs) (hl : lv_has ls 9 [(0, .ref b), (1, .ref (xa X 0)), (2, .ref (xa Y 0)), (3, .ref (xa X 32)), (4, .ref (xa X 33)), (5, .int i0)])
    (kk : ∀ (Sx' Sm' : gS) (H1 : Heap) (locs1 : List Loc) (ls1 : Array Slot), Post Sx' Sm' → LW X Y A s.heap Sx' Sm' H1 locs1 → lv_has ls1 9 [(0, .ref b), (1, .ref (xa X 0)), (2, .ref (xa Y 0)), (3, .ref (xa X 32)), (4, .ref (xa X 33)), (5, .int i0)] → W p l e room_1 s m args below meth c H1 locs1 (cells + 4) (slots + 24) Q (F0 m 1908 ls1 [])) : W p l e room_1 s m args below meth c H locs cells slots Q (F0 m 659 ls []) := by
  obtain ⟨hx, hb, hml, hown, hts, -⟩ := id hC
  rw [qL_10] at hf
  refine lv_aload_n hx hb dL_law_659 rfl (lv_at hl 1 rfl) ?_
  refine l_cXi hC hw (l_rX (As := []) (rest := []) hC hw (kX8_wordLength l X Sx _  _ hf) (cwV 0 hts (gV q_369 q_370 q_371 q_2 q_372) rfl rfl rfl (by decide +kernel) ⟨Nat.le_of_ble_eq_true rfl, Nat.le_of_ble_eq_true rfl⟩) rfl hl.1 rfl (Nat.le_of_ble_eq_true rfl) dL_law_660 ⟨by show _ ≤ 601024; omega, by show _ ≤ 7293034; omega⟩) (fun r_1 Sx_2 H locs hf hw => ?_)
  obtain ⟨hf, rfl⟩ := hf
  refine lv_aload_n hx hb dL_law_663 rfl (lv_at hl 2 rfl) ?_
  refine l_cYi hC hw (l_rY (As := []) (rest := [.int r_1]) hC hw (kX9_wordLength l Y Sm _  _ hf) (cwV 0 hts (gV q_373 q_374 q_375 q_5 q_376) rfl rfl rfl (by decide +kernel) ⟨Nat.le_of_ble_eq_true rfl, Nat.le_of_ble_eq_true rfl⟩) rfl hl.1 rfl (Nat.le_of_ble_eq_true rfl) dL_law_664 ⟨by show _ ≤ 601024; omega, by show _ ≤ 7293034; omega⟩) (fun r_3 Sm_4 H locs hf hw => ?_)
  refine lv_icmp_eq (tgt := 1908) hx hb dL_law_667 (by decide) (fun c_5 => ?_) (fun c_5 => ?_)
  · replace hf := hf.1 c_5
    refine W.widen (k := cells + 4) (n := slots + 24) (by omega) (by omega) ?_
    exact kk _ _ _ _ _ hf hw (lv_sub hl [0, 1, 2, 3, 4, 5] rfl)
  · replace hf := hf.2 c_5
    refine lv_iconst (v := 0) hx hb dL_law_670 (by decide) ?_
    exact hf.elim
def qL_11 (a1 a2 a3 a4 : Int32) (Sx Sm : gS) (Post : gS → gS → Prop) : Prop :=
  (pL_terminalAt a1 Sx (fun k_1 Sx_2 => (pX9_terminalAt a1 Sm (fun r_3 Sm_4 => (pX9_thrown  Sm_4 (fun r_5 => ((r_5 = k_1 → ((¬ k_1 = 0 → Post Sx_2 Sm_4) ∧ (k_1 = 0 → (((lg_cmp (gB Sx_2 32 0) r_3.toInt64) = 0 → Post Sx_2 Sm_4) ∧ (¬ (lg_cmp (gB Sx_2 32 0) r_3.toInt64) = 0 → False))))) ∧ (¬ r_5 = k_1 → False))))))))
set_option maxHeartbeats 40000000 in
set_option maxRecDepth 100000 in
theorem lawc_11 {p : Program} {l : Launch} {e : Env} {s : State} {m : MethodId} {args : Array Value} {below : List Frame} {meth : Method} {c : Code} {H : Heap} {locs : List Loc} {Q : State → Prop} {cells slots : Nat} {ls : Array Slot} {X Y : xG} {A : Nat → Prop} {b L : Nat} {xs : Nat → Int32} {Sx Sm : gS} {i0 a1 a2 a3 a4 : Int32} {Post : gS → gS → Prop} (hlt : l.stackTraces = false) (hC : LC X Y A b L xs p s m args c) (hi1 : vp_in (i0 + 1) L) (hi2 : vp_in (i0 + 2) L) (hi3 : vp_in (i0 + 3) L) (hi4 : vp_in (i0 + 4) L) (ea1 : xs (i0 + 1).toNatClampNeg = a1) (ea2 : xs (i0 + 2).toNatClampNeg = a2) (ea3 : xs (i0 + 3).toNatClampNeg = a3) (ea4 : xs (i0 + 4).toNatClampNeg = a4) (hcs : cells + 4 ≤ 601024) (hss : slots + 24 ≤ 7293034) (hf : qL_11 a1 a2 a3 a4 Sx Sm Post) (hw : LW X Y A s.heap Sx Sm H locs) (hl : lv_has ls 9 [(0, .ref b), (1, .ref (xa X 0)), (2, .ref (xa Y 0)), (3, .ref (xa X 32)), (4, .ref (xa X 33)), (5, .int i0)])
    (kk : ∀ (Sx' Sm' : gS) (H1 : Heap) (locs1 : List Loc) (ls1 : Array Slot), Post Sx' Sm' → LW X Y A s.heap Sx' Sm' H1 locs1 → lv_has ls1 9 [(0, .ref b), (1, .ref (xa X 0)), (2, .ref (xa Y 0)), (3, .ref (xa X 32)), (4, .ref (xa X 33)), (5, .int i0)] → W p l e room_1 s m args below meth c H1 locs1 (cells + 4) (slots + 24) Q (F0 m 1908 ls1 [])) : W p l e room_1 s m args below meth c H locs cells slots Q (F0 m 672 ls []) := by
  obtain ⟨hx, hb, hml, hown, hts, -⟩ := id hC
  rw [qL_11] at hf
  refine lv_aload_n hx hb dL_law_672 rfl (lv_at hl 1 rfl) ?_
  refine lv_aload_n hx hb dL_law_673 rfl (lv_at hl 0 rfl) ?_
  refine lv_iload hx hb dL_law_674 (lv_at hl 5 rfl) ?_
  refine lv_iconst (v := 1) hx hb dL_law_676 (by decide) ?_
  refine lv_iadd hx hb dL_law_677 ?_
  refine l_sldv hC hw hi1 ea1 dL_law_678 ?_
  refine lv_aload_n hx hb dL_law_679 rfl (lv_at hl 3 rfl) ?_
  refine l_cXi hC hw (l_rH (As := [.ref (xa X 0), .int a1, .ref (xa X 32)]) (rest := []) hC hw (kL_terminalAt l hlt X Sx _ a1 _ hf) (vx_cwSW 3 hts (gSw q_377 q_378 q_128 q_379) rfl rfl rfl (by decide +kernel) ⟨Nat.le_of_ble_eq_true rfl, Nat.le_of_ble_eq_true rfl⟩) rfl hl.1 rfl (Nat.le_of_ble_eq_true rfl) dL_law_680 ⟨by show _ ≤ 601024; omega, by show _ ≤ 7293034; omega⟩) (fun k_1 Sx_2 H locs hf hw => ?_)
  refine lv_istore (lv' := [(6, .int k_1), (0, .ref b), (1, .ref (xa X 0)), (2, .ref (xa Y 0)), (3, .ref (xa X 32)), (4, .ref (xa X 33)), (5, .int i0)]) hx hb dL_law_683 hl (by decide) rfl (fun ls hl => ?_)
  refine lv_aload_n hx hb dL_law_685 rfl (lv_at hl 3 rfl) ?_
  refine lv_aload_n hx hb dL_law_686 rfl (lv_at hl 1 rfl) ?_
  refine lv_iload hx hb dL_law_687 (lv_at hl 6 rfl) ?_
  refine lv_iconst (v := 1) hx hb dL_law_689 (by decide) ?_
  refine lv_iadd hx hb dL_law_690 ?_
  refine l_sldv hC hw hi1 ea1 dL_law_691 ?_
  refine l_cYi hC hw (l_rY (As := [.int a1]) (rest := []) hC hw (kX9_terminalAt l Y Sm _ a1 _ hf) (cwV 1 hts (gV q_388 q_389 q_390 q_5 q_391) rfl rfl rfl (by decide +kernel) ⟨Nat.le_of_ble_eq_true rfl, Nat.le_of_ble_eq_true rfl⟩) rfl hl.1 rfl (Nat.le_of_ble_eq_true rfl) dL_law_692 ⟨by show _ ≤ 601024; omega, by show _ ≤ 7293034; omega⟩) (fun r_3 Sm_4 H locs hf hw => ?_)
  refine lv_istore (lv' := [(7, .int r_3), (6, .int k_1), (0, .ref b), (1, .ref (xa X 0)), (2, .ref (xa Y 0)), (3, .ref (xa X 32)), (4, .ref (xa X 33)), (5, .int i0)]) hx hb dL_law_695 hl (by decide) rfl (fun ls hl => ?_)
  refine lv_aload_n hx hb dL_law_697 rfl (lv_at hl 4 rfl) ?_
  refine l_cYi hC hw (l_rY (As := []) (rest := []) hC hw (kX9_thrown l Y Sm_4 _  _ hf) (cwV 0 hts (gV q_168 q_169 q_170 q_5 q_171) rfl rfl rfl (by decide +kernel) ⟨Nat.le_of_ble_eq_true rfl, Nat.le_of_ble_eq_true rfl⟩) rfl hl.1 rfl (Nat.le_of_ble_eq_true rfl) dL_law_698 ⟨by show _ ≤ 601024; omega, by show _ ≤ 7293034; omega⟩) (fun r_5 Sm_6 H locs hf hw => ?_)
  obtain ⟨hf, rfl⟩ := hf
  refine lv_iload hx hb dL_law_701 (lv_at hl 1 rfl) ?_
  refine lv_icmp_eq (tgt := 708) hx hb dL_law_703 (by decide) (fun c_7 => ?_) (fun c_7 => ?_)
  · replace hf := hf.1 c_7
    refine lv_iload hx hb dL_law_708 (lv_at hl 1 rfl) ?_
    refine lv_if_ne (tgt := 725) hx hb dL_law_710 (by decide) (fun c_8 => ?_) (fun c_8 => ?_)
    · replace hf := hf.1 c_8
      refine lv_goto (tgt := 1908) hx hb dL_law_725 (by decide) ?_
      refine W.widen (k := cells + 4) (n := slots + 24) (by omega) (by omega) ?_
      exact kk _ _ _ _ _ hf hw (lv_sub hl [2, 3, 4, 5, 6, 7] rfl)
    · replace hf := hf.2 c_8
      refine lv_aload_n hx hb dL_law_713 rfl (lv_at hl 5 rfl) ?_
      refine lv_iconst (v := 0) hx hb dL_law_714 (by decide) ?_
      refine l_out hC hw dL_law_715 ?_
      refine lv_iload hx hb dL_law_716 (lv_at hl 0 rfl) ?_
      refine lv_i2l hx hb dL_law_718 rfl ?_
      refine W.lcmp hx hb dL_law_719 ?_
      refine lv_if_eq (tgt := 725) hx hb dL_law_720 (by decide) (fun c_9 => ?_) (fun c_9 => ?_)
      · replace hf := hf.1 c_9
        refine lv_goto (tgt := 1908) hx hb dL_law_725 (by decide) ?_
        refine W.widen (k := cells + 4) (n := slots + 24) (by omega) (by omega) ?_
        exact kk _ _ _ _ _ hf hw (lv_sub hl [2, 3, 4, 5, 6, 7] rfl)
      · replace hf := hf.2 c_9
        refine lv_iconst (v := 0) hx hb dL_law_723 (by decide) ?_
        exact hf.elim
  · replace hf := hf.2 c_7
    refine lv_iconst (v := 0) hx hb dL_law_706 (by decide) ?_
    exact hf.elim
def qL_12 (a1 a2 a3 a4 : Int32) (Sx Sm : gS) (Post : gS → gS → Prop) : Prop :=
  (pX8_treeCount  Sx (fun r_1 Sx_2 => (pX9_treeCount  Sm (fun r_3 Sm_4 => (((lg_cmp r_1 r_3) = 0 → Post Sx_2 Sm_4) ∧ (¬ (lg_cmp r_1 r_3) = 0 → False))))))
set_option maxHeartbeats 40000000 in
set_option maxRecDepth 100000 in
theorem lawc_12 {p : Program} {l : Launch} {e : Env} {s : State} {m : MethodId} {args : Array Value} {below : List Frame} {meth : Method} {c : Code} {H : Heap} {locs : List Loc} {Q : State → Prop} {cells slots : Nat} {ls : Array Slot} {X Y : xG} {A : Nat → Prop} {b L : Nat} {xs : Nat → Int32} {Sx Sm : gS} {i0 a1 a2 a3 a4 : Int32} {Post : gS → gS → Prop} (hlt : l.stackTraces = false) (hC : LC X Y A b L xs p s m args c) (hi1 : vp_in (i0 + 1) L) (hi2 : vp_in (i0 + 2) L) (hi3 : vp_in (i0 + 3) L) (hi4 : vp_in (i0 + 4) L) (ea1 : xs (i0 + 1).toNatClampNeg = a1) (ea2 : xs (i0 + 2).toNatClampNeg = a2) (ea3 : xs (i0 + 3).toNatClampNeg = a3) (ea4 : xs (i0 + 4).toNatClampNeg = a4) (hcs : cells + 4 ≤ 601024) (hss : slots + 24 ≤ 7293034) (hf : qL_12 a1 a2 a3 a4 Sx Sm Post) (hw : LW X Y A s.heap Sx Sm H locs) (hl : lv_has ls 9 [(0, .ref b), (1, .ref (xa X 0)), (2, .ref (xa Y 0)), (3, .ref (xa X 32)), (4, .ref (xa X 33)), (5, .int i0)])
    (kk : ∀ (Sx' Sm' : gS) (H1 : Heap) (locs1 : List Loc) (ls1 : Array Slot), Post Sx' Sm' → LW X Y A s.heap Sx' Sm' H1 locs1 → lv_has ls1 9 [(0, .ref b), (1, .ref (xa X 0)), (2, .ref (xa Y 0)), (3, .ref (xa X 32)), (4, .ref (xa X 33)), (5, .int i0)] → W p l e room_1 s m args below meth c H1 locs1 (cells + 4) (slots + 24) Q (F0 m 1908 ls1 [])) : W p l e room_1 s m args below meth c H locs cells slots Q (F0 m 728 ls []) := by
  obtain ⟨hx, hb, hml, hown, hts, -⟩ := id hC
  rw [qL_12] at hf
  refine lv_aload_n hx hb dL_law_728 rfl (lv_at hl 1 rfl) ?_
  refine l_cXl hC hw (l_rX (As := []) (rest := []) hC hw (kX8_treeCount l X Sx _  _ hf) (cwV 0 hts (gV q_392 q_393 q_394 q_2 q_395) rfl rfl rfl (by decide +kernel) ⟨Nat.le_of_ble_eq_true rfl, Nat.le_of_ble_eq_true rfl⟩) rfl hl.1 rfl (Nat.le_of_ble_eq_true rfl) dL_law_729 ⟨by show _ ≤ 601024; omega, by show _ ≤ 7293034; omega⟩) (fun r_1 Sx_2 H locs hf hw => ?_)
  refine lv_aload_n hx hb dL_law_732 rfl (lv_at hl 2 rfl) ?_
  refine l_cYl hC hw (l_rY (As := []) (rest := [.long r_1]) hC hw (kX9_treeCount l Y Sm _  _ hf) (cwV 0 hts (gV q_477 q_478 q_479 q_5 q_480) rfl rfl rfl (by decide +kernel) ⟨Nat.le_of_ble_eq_true rfl, Nat.le_of_ble_eq_true rfl⟩) rfl hl.1 rfl (Nat.le_of_ble_eq_true rfl) dL_law_733 ⟨by show _ ≤ 601024; omega, by show _ ≤ 7293034; omega⟩) (fun r_3 Sm_4 H locs hf hw => ?_)
  refine W.lcmp hx hb dL_law_736 ?_
  refine lv_if_eq (tgt := 1908) hx hb dL_law_737 (by decide) (fun c_5 => ?_) (fun c_5 => ?_)
  · replace hf := hf.1 c_5
    refine W.widen (k := cells + 4) (n := slots + 24) (by omega) (by omega) ?_
    exact kk _ _ _ _ _ hf hw (lv_sub hl [0, 1, 2, 3, 4, 5] rfl)
  · replace hf := hf.2 c_5
    refine lv_iconst (v := 0) hx hb dL_law_740 (by decide) ?_
    exact hf.elim
def qL_13 (a1 a2 a3 a4 : Int32) (Sx Sm : gS) (Post : gS → gS → Prop) : Prop :=
  (pL_treesOfLength a1 Sx (fun k_1 Sx_2 => (pX9_treesOfLength a1 Sm (fun r_3 Sm_4 => (pX9_thrown  Sm_4 (fun r_5 => ((r_5 = k_1 → ((¬ k_1 = 0 → Post Sx_2 Sm_4) ∧ (k_1 = 0 → (((lg_cmp (gB Sx_2 32 0) r_3) = 0 → Post Sx_2 Sm_4) ∧ (¬ (lg_cmp (gB Sx_2 32 0) r_3) = 0 → False))))) ∧ (¬ r_5 = k_1 → False))))))))
set_option maxHeartbeats 40000000 in
set_option maxRecDepth 100000 in
theorem lawc_13 {p : Program} {l : Launch} {e : Env} {s : State} {m : MethodId} {args : Array Value} {below : List Frame} {meth : Method} {c : Code} {H : Heap} {locs : List Loc} {Q : State → Prop} {cells slots : Nat} {ls : Array Slot} {X Y : xG} {A : Nat → Prop} {b L : Nat} {xs : Nat → Int32} {Sx Sm : gS} {i0 a1 a2 a3 a4 : Int32} {Post : gS → gS → Prop} (hlt : l.stackTraces = false) (hC : LC X Y A b L xs p s m args c) (hi1 : vp_in (i0 + 1) L) (hi2 : vp_in (i0 + 2) L) (hi3 : vp_in (i0 + 3) L) (hi4 : vp_in (i0 + 4) L) (ea1 : xs (i0 + 1).toNatClampNeg = a1) (ea2 : xs (i0 + 2).toNatClampNeg = a2) (ea3 : xs (i0 + 3).toNatClampNeg = a3) (ea4 : xs (i0 + 4).toNatClampNeg = a4) (hcs : cells + 4 ≤ 601024) (hss : slots + 24 ≤ 7293034) (hf : qL_13 a1 a2 a3 a4 Sx Sm Post) (hw : LW X Y A s.heap Sx Sm H locs) (hl : lv_has ls 9 [(0, .ref b), (1, .ref (xa X 0)), (2, .ref (xa Y 0)), (3, .ref (xa X 32)), (4, .ref (xa X 33)), (5, .int i0)])
    (kk : ∀ (Sx' Sm' : gS) (H1 : Heap) (locs1 : List Loc) (ls1 : Array Slot), Post Sx' Sm' → LW X Y A s.heap Sx' Sm' H1 locs1 → lv_has ls1 9 [(0, .ref b), (1, .ref (xa X 0)), (2, .ref (xa Y 0)), (3, .ref (xa X 32)), (4, .ref (xa X 33)), (5, .int i0)] → W p l e room_1 s m args below meth c H1 locs1 (cells + 4) (slots + 24) Q (F0 m 1908 ls1 [])) : W p l e room_1 s m args below meth c H locs cells slots Q (F0 m 742 ls []) := by
  obtain ⟨hx, hb, hml, hown, hts, -⟩ := id hC
  rw [qL_13] at hf
  refine lv_aload_n hx hb dL_law_742 rfl (lv_at hl 1 rfl) ?_
  refine lv_aload_n hx hb dL_law_743 rfl (lv_at hl 0 rfl) ?_
  refine lv_iload hx hb dL_law_744 (lv_at hl 5 rfl) ?_
  refine lv_iconst (v := 1) hx hb dL_law_746 (by decide) ?_
  refine lv_iadd hx hb dL_law_747 ?_
  refine l_sldv hC hw hi1 ea1 dL_law_748 ?_
  refine lv_aload_n hx hb dL_law_749 rfl (lv_at hl 3 rfl) ?_
  refine l_cXi hC hw (l_rH (As := [.ref (xa X 0), .int a1, .ref (xa X 32)]) (rest := []) hC hw (kL_treesOfLength l hlt X Sx _ a1 _ hf) (vx_cwSW 3 hts (gSw q_501 q_502 q_128 q_503) rfl rfl rfl (by decide +kernel) ⟨Nat.le_of_ble_eq_true rfl, Nat.le_of_ble_eq_true rfl⟩) rfl hl.1 rfl (Nat.le_of_ble_eq_true rfl) dL_law_750 ⟨by show _ ≤ 601024; omega, by show _ ≤ 7293034; omega⟩) (fun k_1 Sx_2 H locs hf hw => ?_)
  refine lv_istore (lv' := [(6, .int k_1), (0, .ref b), (1, .ref (xa X 0)), (2, .ref (xa Y 0)), (3, .ref (xa X 32)), (4, .ref (xa X 33)), (5, .int i0)]) hx hb dL_law_753 hl (by decide) rfl (fun ls hl => ?_)
  refine lv_aload_n hx hb dL_law_755 rfl (lv_at hl 3 rfl) ?_
  refine lv_aload_n hx hb dL_law_756 rfl (lv_at hl 1 rfl) ?_
  refine lv_iload hx hb dL_law_757 (lv_at hl 6 rfl) ?_
  refine lv_iconst (v := 1) hx hb dL_law_759 (by decide) ?_
  refine lv_iadd hx hb dL_law_760 ?_
  refine l_sldv hC hw hi1 ea1 dL_law_761 ?_
  refine l_cYl hC hw (l_rY (As := [.int a1]) (rest := []) hC hw (kX9_treesOfLength l Y Sm _ a1 _ hf) (cwV 1 hts (gV q_521 q_522 q_523 q_5 q_524) rfl rfl rfl (by decide +kernel) ⟨Nat.le_of_ble_eq_true rfl, Nat.le_of_ble_eq_true rfl⟩) rfl hl.1 rfl (Nat.le_of_ble_eq_true rfl) dL_law_762 ⟨by show _ ≤ 601024; omega, by show _ ≤ 7293034; omega⟩) (fun r_3 Sm_4 H locs hf hw => ?_)
  refine lv_lstore (lv' := [(7, .long r_3), (6, .int k_1), (0, .ref b), (1, .ref (xa X 0)), (2, .ref (xa Y 0)), (3, .ref (xa X 32)), (4, .ref (xa X 33)), (5, .int i0)]) hx hb dL_law_765 hl (by decide) rfl (fun ls hl => ?_)
  refine lv_aload_n hx hb dL_law_767 rfl (lv_at hl 4 rfl) ?_
  refine l_cYi hC hw (l_rY (As := []) (rest := []) hC hw (kX9_thrown l Y Sm_4 _  _ hf) (cwV 0 hts (gV q_168 q_169 q_170 q_5 q_171) rfl rfl rfl (by decide +kernel) ⟨Nat.le_of_ble_eq_true rfl, Nat.le_of_ble_eq_true rfl⟩) rfl hl.1 rfl (Nat.le_of_ble_eq_true rfl) dL_law_768 ⟨by show _ ≤ 601024; omega, by show _ ≤ 7293034; omega⟩) (fun r_5 Sm_6 H locs hf hw => ?_)
  obtain ⟨hf, rfl⟩ := hf
  refine lv_iload hx hb dL_law_771 (lv_at hl 1 rfl) ?_
  refine lv_icmp_eq (tgt := 778) hx hb dL_law_773 (by decide) (fun c_7 => ?_) (fun c_7 => ?_)
  · replace hf := hf.1 c_7
    refine lv_iload hx hb dL_law_778 (lv_at hl 1 rfl) ?_
    refine lv_if_ne (tgt := 794) hx hb dL_law_780 (by decide) (fun c_8 => ?_) (fun c_8 => ?_)
    · replace hf := hf.1 c_8
      refine lv_goto (tgt := 1908) hx hb dL_law_794 (by decide) ?_
      refine W.widen (k := cells + 4) (n := slots + 24) (by omega) (by omega) ?_
      exact kk _ _ _ _ _ hf hw (lv_sub hl [2, 3, 4, 5, 6, 7] rfl)
    · replace hf := hf.2 c_8
      refine lv_aload_n hx hb dL_law_783 rfl (lv_at hl 5 rfl) ?_
      refine lv_iconst (v := 0) hx hb dL_law_784 (by decide) ?_
      refine l_out hC hw dL_law_785 ?_
      refine lv_lload hx hb dL_law_786 (lv_at hl 0 rfl) ?_
      refine W.lcmp hx hb dL_law_788 ?_
      refine lv_if_eq (tgt := 794) hx hb dL_law_789 (by decide) (fun c_9 => ?_) (fun c_9 => ?_)
      · replace hf := hf.1 c_9
        refine lv_goto (tgt := 1908) hx hb dL_law_794 (by decide) ?_
        refine W.widen (k := cells + 4) (n := slots + 24) (by omega) (by omega) ?_
        exact kk _ _ _ _ _ hf hw (lv_sub hl [2, 3, 4, 5, 6, 7] rfl)
      · replace hf := hf.2 c_9
        refine lv_iconst (v := 0) hx hb dL_law_792 (by decide) ?_
        exact hf.elim
  · replace hf := hf.2 c_7
    refine lv_iconst (v := 0) hx hb dL_law_776 (by decide) ?_
    exact hf.elim
def qL_14 (a1 a2 a3 a4 : Int32) (Sx Sm : gS) (Post : gS → gS → Prop) : Prop :=
  (pL_wordsOfLength a1 a2 Sx (fun k_1 Sx_2 => (pX9_wordsOfLength a1 a2 Sm (fun r_3 Sm_4 => (pX9_thrown  Sm_4 (fun r_5 => ((r_5 = k_1 → ((¬ k_1 = 0 → Post Sx_2 Sm_4) ∧ (k_1 = 0 → (((lg_cmp (gB Sx_2 32 0) r_3.toInt64) = 0 → Post Sx_2 Sm_4) ∧ (¬ (lg_cmp (gB Sx_2 32 0) r_3.toInt64) = 0 → False))))) ∧ (¬ r_5 = k_1 → False))))))))
set_option maxHeartbeats 40000000 in
set_option maxRecDepth 100000 in
theorem lawc_14 {p : Program} {l : Launch} {e : Env} {s : State} {m : MethodId} {args : Array Value} {below : List Frame} {meth : Method} {c : Code} {H : Heap} {locs : List Loc} {Q : State → Prop} {cells slots : Nat} {ls : Array Slot} {X Y : xG} {A : Nat → Prop} {b L : Nat} {xs : Nat → Int32} {Sx Sm : gS} {i0 a1 a2 a3 a4 : Int32} {Post : gS → gS → Prop} (hlt : l.stackTraces = false) (hC : LC X Y A b L xs p s m args c) (hi1 : vp_in (i0 + 1) L) (hi2 : vp_in (i0 + 2) L) (hi3 : vp_in (i0 + 3) L) (hi4 : vp_in (i0 + 4) L) (ea1 : xs (i0 + 1).toNatClampNeg = a1) (ea2 : xs (i0 + 2).toNatClampNeg = a2) (ea3 : xs (i0 + 3).toNatClampNeg = a3) (ea4 : xs (i0 + 4).toNatClampNeg = a4) (hcs : cells + 4 ≤ 601024) (hss : slots + 24 ≤ 7293034) (hf : qL_14 a1 a2 a3 a4 Sx Sm Post) (hw : LW X Y A s.heap Sx Sm H locs) (hl : lv_has ls 9 [(0, .ref b), (1, .ref (xa X 0)), (2, .ref (xa Y 0)), (3, .ref (xa X 32)), (4, .ref (xa X 33)), (5, .int i0)])
    (kk : ∀ (Sx' Sm' : gS) (H1 : Heap) (locs1 : List Loc) (ls1 : Array Slot), Post Sx' Sm' → LW X Y A s.heap Sx' Sm' H1 locs1 → lv_has ls1 9 [(0, .ref b), (1, .ref (xa X 0)), (2, .ref (xa Y 0)), (3, .ref (xa X 32)), (4, .ref (xa X 33)), (5, .int i0)] → W p l e room_1 s m args below meth c H1 locs1 (cells + 4) (slots + 24) Q (F0 m 1908 ls1 [])) : W p l e room_1 s m args below meth c H locs cells slots Q (F0 m 797 ls []) := by
  obtain ⟨hx, hb, hml, hown, hts, -⟩ := id hC
  rw [qL_14] at hf
  refine lv_aload_n hx hb dL_law_797 rfl (lv_at hl 1 rfl) ?_
  refine lv_aload_n hx hb dL_law_798 rfl (lv_at hl 0 rfl) ?_
  refine lv_iload hx hb dL_law_799 (lv_at hl 5 rfl) ?_
  refine lv_iconst (v := 1) hx hb dL_law_801 (by decide) ?_
  refine lv_iadd hx hb dL_law_802 ?_
  refine l_sldv hC hw hi1 ea1 dL_law_803 ?_
  refine lv_aload_n hx hb dL_law_804 rfl (lv_at hl 0 rfl) ?_
  refine lv_iload hx hb dL_law_805 (lv_at hl 5 rfl) ?_
  refine lv_iconst (v := 2) hx hb dL_law_807 (by decide) ?_
  refine lv_iadd hx hb dL_law_808 ?_
  refine l_sldv hC hw hi2 ea2 dL_law_809 ?_
  refine lv_aload_n hx hb dL_law_810 rfl (lv_at hl 3 rfl) ?_
  refine l_cXi hC hw (l_rH (As := [.ref (xa X 0), .int a1, .int a2, .ref (xa X 32)]) (rest := []) hC hw (kL_wordsOfLength l hlt X Sx _ a1 a2 _ hf) (vx_cwSW 4 hts (gSw q_537 q_538 q_128 q_539) rfl rfl rfl (by decide +kernel) ⟨Nat.le_of_ble_eq_true rfl, Nat.le_of_ble_eq_true rfl⟩) rfl hl.1 rfl (Nat.le_of_ble_eq_true rfl) dL_law_811 ⟨by show _ ≤ 601024; omega, by show _ ≤ 7293034; omega⟩) (fun k_1 Sx_2 H locs hf hw => ?_)
  refine lv_istore (lv' := [(6, .int k_1), (0, .ref b), (1, .ref (xa X 0)), (2, .ref (xa Y 0)), (3, .ref (xa X 32)), (4, .ref (xa X 33)), (5, .int i0)]) hx hb dL_law_814 hl (by decide) rfl (fun ls hl => ?_)
  refine lv_aload_n hx hb dL_law_816 rfl (lv_at hl 3 rfl) ?_
  refine lv_aload_n hx hb dL_law_817 rfl (lv_at hl 1 rfl) ?_
  refine lv_iload hx hb dL_law_818 (lv_at hl 6 rfl) ?_
  refine lv_iconst (v := 1) hx hb dL_law_820 (by decide) ?_
  refine lv_iadd hx hb dL_law_821 ?_
  refine l_sldv hC hw hi1 ea1 dL_law_822 ?_
  refine lv_aload_n hx hb dL_law_823 rfl (lv_at hl 1 rfl) ?_
  refine lv_iload hx hb dL_law_824 (lv_at hl 6 rfl) ?_
  refine lv_iconst (v := 2) hx hb dL_law_826 (by decide) ?_
  refine lv_iadd hx hb dL_law_827 ?_
  refine l_sldv hC hw hi2 ea2 dL_law_828 ?_
  refine l_cYi hC hw (l_rY (As := [.int a1, .int a2]) (rest := []) hC hw (kX9_wordsOfLength l Y Sm _ a1 a2 _ hf) (cwV 2 hts (gV q_588 q_589 q_590 q_5 q_591) rfl rfl rfl (by decide +kernel) ⟨Nat.le_of_ble_eq_true rfl, Nat.le_of_ble_eq_true rfl⟩) rfl hl.1 rfl (Nat.le_of_ble_eq_true rfl) dL_law_829 ⟨by show _ ≤ 601024; omega, by show _ ≤ 7293034; omega⟩) (fun r_3 Sm_4 H locs hf hw => ?_)
  refine lv_istore (lv' := [(7, .int r_3), (6, .int k_1), (0, .ref b), (1, .ref (xa X 0)), (2, .ref (xa Y 0)), (3, .ref (xa X 32)), (4, .ref (xa X 33)), (5, .int i0)]) hx hb dL_law_832 hl (by decide) rfl (fun ls hl => ?_)
  refine lv_aload_n hx hb dL_law_834 rfl (lv_at hl 4 rfl) ?_
  refine l_cYi hC hw (l_rY (As := []) (rest := []) hC hw (kX9_thrown l Y Sm_4 _  _ hf) (cwV 0 hts (gV q_168 q_169 q_170 q_5 q_171) rfl rfl rfl (by decide +kernel) ⟨Nat.le_of_ble_eq_true rfl, Nat.le_of_ble_eq_true rfl⟩) rfl hl.1 rfl (Nat.le_of_ble_eq_true rfl) dL_law_835 ⟨by show _ ≤ 601024; omega, by show _ ≤ 7293034; omega⟩) (fun r_5 Sm_6 H locs hf hw => ?_)
  obtain ⟨hf, rfl⟩ := hf
  refine lv_iload hx hb dL_law_838 (lv_at hl 1 rfl) ?_
  refine lv_icmp_eq (tgt := 845) hx hb dL_law_840 (by decide) (fun c_7 => ?_) (fun c_7 => ?_)
  · replace hf := hf.1 c_7
    refine lv_iload hx hb dL_law_845 (lv_at hl 1 rfl) ?_
    refine lv_if_ne (tgt := 862) hx hb dL_law_847 (by decide) (fun c_8 => ?_) (fun c_8 => ?_)
    · replace hf := hf.1 c_8
      refine lv_goto (tgt := 1908) hx hb dL_law_862 (by decide) ?_
      refine W.widen (k := cells + 4) (n := slots + 24) (by omega) (by omega) ?_
      exact kk _ _ _ _ _ hf hw (lv_sub hl [2, 3, 4, 5, 6, 7] rfl)
    · replace hf := hf.2 c_8
      refine lv_aload_n hx hb dL_law_850 rfl (lv_at hl 5 rfl) ?_
      refine lv_iconst (v := 0) hx hb dL_law_851 (by decide) ?_
      refine l_out hC hw dL_law_852 ?_
      refine lv_iload hx hb dL_law_853 (lv_at hl 0 rfl) ?_
      refine lv_i2l hx hb dL_law_855 rfl ?_
      refine W.lcmp hx hb dL_law_856 ?_
      refine lv_if_eq (tgt := 862) hx hb dL_law_857 (by decide) (fun c_9 => ?_) (fun c_9 => ?_)
      · replace hf := hf.1 c_9
        refine lv_goto (tgt := 1908) hx hb dL_law_862 (by decide) ?_
        refine W.widen (k := cells + 4) (n := slots + 24) (by omega) (by omega) ?_
        exact kk _ _ _ _ _ hf hw (lv_sub hl [2, 3, 4, 5, 6, 7] rfl)
      · replace hf := hf.2 c_9
        refine lv_iconst (v := 0) hx hb dL_law_860 (by decide) ?_
        exact hf.elim
  · replace hf := hf.2 c_7
    refine lv_iconst (v := 0) hx hb dL_law_843 (by decide) ?_
    exact hf.elim
def qL_15 (a1 a2 a3 a4 : Int32) (Sx Sm : gS) (Post : gS → gS → Prop) : Prop :=
  (pL_unambiguousShare a1 Sx (fun k_1 Sx_2 => (pX9_unambiguousShare a1 Sm (fun r_3 Sm_4 => (pX9_thrown  Sm_4 (fun r_5 => ((r_5 = k_1 → ((¬ k_1 = 0 → Post Sx_2 Sm_4) ∧ (k_1 = 0 → (((Op.cmpValue (FP.dcmp ((gB Sx_2 33 0).toUInt64) r_3) .l) = 0 → Post Sx_2 Sm_4) ∧ (¬ (Op.cmpValue (FP.dcmp ((gB Sx_2 33 0).toUInt64) r_3) .l) = 0 → (((Op.cmpValue (FP.dcmp ((gB Sx_2 33 0).toUInt64) ((gB Sx_2 33 0).toUInt64)) .l) = 0 → False) ∧ (¬ (Op.cmpValue (FP.dcmp ((gB Sx_2 33 0).toUInt64) ((gB Sx_2 33 0).toUInt64)) .l) = 0 → ((¬ (Op.cmpValue (FP.dcmp r_3 r_3) .l) = 0 → Post Sx_2 Sm_4) ∧ ((Op.cmpValue (FP.dcmp r_3 r_3) .l) = 0 → False))))))))) ∧ (¬ r_5 = k_1 → False))))))))
set_option maxHeartbeats 40000000 in
set_option maxRecDepth 100000 in
theorem lawc_15 {p : Program} {l : Launch} {e : Env} {s : State} {m : MethodId} {args : Array Value} {below : List Frame} {meth : Method} {c : Code} {H : Heap} {locs : List Loc} {Q : State → Prop} {cells slots : Nat} {ls : Array Slot} {X Y : xG} {A : Nat → Prop} {b L : Nat} {xs : Nat → Int32} {Sx Sm : gS} {i0 a1 a2 a3 a4 : Int32} {Post : gS → gS → Prop} (hlt : l.stackTraces = false) (hC : LC X Y A b L xs p s m args c) (hi1 : vp_in (i0 + 1) L) (hi2 : vp_in (i0 + 2) L) (hi3 : vp_in (i0 + 3) L) (hi4 : vp_in (i0 + 4) L) (ea1 : xs (i0 + 1).toNatClampNeg = a1) (ea2 : xs (i0 + 2).toNatClampNeg = a2) (ea3 : xs (i0 + 3).toNatClampNeg = a3) (ea4 : xs (i0 + 4).toNatClampNeg = a4) (hcs : cells + 4 ≤ 601024) (hss : slots + 24 ≤ 7293034) (hf : qL_15 a1 a2 a3 a4 Sx Sm Post) (hw : LW X Y A s.heap Sx Sm H locs) (hl : lv_has ls 9 [(0, .ref b), (1, .ref (xa X 0)), (2, .ref (xa Y 0)), (3, .ref (xa X 32)), (4, .ref (xa X 33)), (5, .int i0)])
    (kk : ∀ (Sx' Sm' : gS) (H1 : Heap) (locs1 : List Loc) (ls1 : Array Slot), Post Sx' Sm' → LW X Y A s.heap Sx' Sm' H1 locs1 → lv_has ls1 9 [(0, .ref b), (1, .ref (xa X 0)), (2, .ref (xa Y 0)), (3, .ref (xa X 32)), (4, .ref (xa X 33)), (5, .int i0)] → W p l e room_1 s m args below meth c H1 locs1 (cells + 4) (slots + 24) Q (F0 m 1908 ls1 [])) : W p l e room_1 s m args below meth c H locs cells slots Q (F0 m 865 ls []) := by
  obtain ⟨hx, hb, hml, hown, hts, -⟩ := id hC
  rw [qL_15] at hf
  refine lv_aload_n hx hb dL_law_865 rfl (lv_at hl 1 rfl) ?_
  refine lv_aload_n hx hb dL_law_866 rfl (lv_at hl 0 rfl) ?_
  refine lv_iload hx hb dL_law_867 (lv_at hl 5 rfl) ?_
  refine lv_iconst (v := 1) hx hb dL_law_869 (by decide) ?_
  refine lv_iadd hx hb dL_law_870 ?_
  refine l_sldv hC hw hi1 ea1 dL_law_871 ?_
  refine lv_aload hx hb dL_law_872 (lv_at hl 4 rfl) ?_
  refine l_cXi hC hw (l_rH (As := [.ref (xa X 0), .int a1, .ref (xa X 33)]) (rest := []) hC hw (kL_unambiguousShare l hlt X Sx _ a1 _ hf) (vx_cwSW 3 hts (gSw q_607 q_608 q_128 q_609) rfl rfl rfl (by decide +kernel) ⟨Nat.le_of_ble_eq_true rfl, Nat.le_of_ble_eq_true rfl⟩) rfl hl.1 rfl (Nat.le_of_ble_eq_true rfl) dL_law_874 ⟨by show _ ≤ 601024; omega, by show _ ≤ 7293034; omega⟩) (fun k_1 Sx_2 H locs hf hw => ?_)
  refine lv_istore (lv' := [(6, .int k_1), (0, .ref b), (1, .ref (xa X 0)), (2, .ref (xa Y 0)), (3, .ref (xa X 32)), (4, .ref (xa X 33)), (5, .int i0)]) hx hb dL_law_877 hl (by decide) rfl (fun ls hl => ?_)
  refine lv_aload_n hx hb dL_law_879 rfl (lv_at hl 3 rfl) ?_
  refine lv_aload_n hx hb dL_law_880 rfl (lv_at hl 1 rfl) ?_
  refine lv_iload hx hb dL_law_881 (lv_at hl 6 rfl) ?_
  refine lv_iconst (v := 1) hx hb dL_law_883 (by decide) ?_
  refine lv_iadd hx hb dL_law_884 ?_
  refine l_sldv hC hw hi1 ea1 dL_law_885 ?_
  refine l_cYd hC hw (l_rY (As := [.int a1]) (rest := []) hC hw (kX9_unambiguousShare l Y Sm _ a1 _ hf) (cwV 1 hts (gV q_614 q_615 q_616 q_5 q_617) rfl rfl rfl (by decide +kernel) ⟨Nat.le_of_ble_eq_true rfl, Nat.le_of_ble_eq_true rfl⟩) rfl hl.1 rfl (Nat.le_of_ble_eq_true rfl) dL_law_886 ⟨by show _ ≤ 601024; omega, by show _ ≤ 7293034; omega⟩) (fun r_3 Sm_4 H locs hf hw => ?_)
  refine lv_dstore (lv' := [(7, .double r_3), (6, .int k_1), (0, .ref b), (1, .ref (xa X 0)), (2, .ref (xa Y 0)), (3, .ref (xa X 32)), (4, .ref (xa X 33)), (5, .int i0)]) hx hb dL_law_889 hl (by decide) rfl (fun ls hl => ?_)
  refine lv_aload_n hx hb dL_law_891 rfl (lv_at hl 4 rfl) ?_
  refine l_cYi hC hw (l_rY (As := []) (rest := []) hC hw (kX9_thrown l Y Sm_4 _  _ hf) (cwV 0 hts (gV q_168 q_169 q_170 q_5 q_171) rfl rfl rfl (by decide +kernel) ⟨Nat.le_of_ble_eq_true rfl, Nat.le_of_ble_eq_true rfl⟩) rfl hl.1 rfl (Nat.le_of_ble_eq_true rfl) dL_law_892 ⟨by show _ ≤ 601024; omega, by show _ ≤ 7293034; omega⟩) (fun r_5 Sm_6 H locs hf hw => ?_)
  obtain ⟨hf, rfl⟩ := hf
  refine lv_iload hx hb dL_law_895 (lv_at hl 1 rfl) ?_
  refine lv_icmp_eq (tgt := 902) hx hb dL_law_897 (by decide) (fun c_7 => ?_) (fun c_7 => ?_)
  · replace hf := hf.1 c_7
    refine lv_iload hx hb dL_law_902 (lv_at hl 1 rfl) ?_
    refine lv_if_ne (tgt := 939) hx hb dL_law_904 (by decide) (fun c_8 => ?_) (fun c_8 => ?_)
    · replace hf := hf.1 c_8
      refine lv_goto (tgt := 1908) hx hb dL_law_939 (by decide) ?_
      refine W.widen (k := cells + 4) (n := slots + 24) (by omega) (by omega) ?_
      exact kk _ _ _ _ _ hf hw (lv_sub hl [2, 3, 4, 5, 6, 7] rfl)
    · replace hf := hf.2 c_8
      refine lv_aload hx hb dL_law_907 (lv_at hl 6 rfl) ?_
      refine lv_iconst (v := 0) hx hb dL_law_909 (by decide) ?_
      refine l_outD hC hw dL_law_910 ?_
      refine lv_dload hx hb dL_law_911 (lv_at hl 0 rfl) ?_
      refine lv_dcmp hx hb dL_law_913 ?_
      refine lv_if_eq (tgt := 939) hx hb dL_law_914 (by decide) (fun c_9 => ?_) (fun c_9 => ?_)
      · replace hf := hf.1 c_9
        refine lv_goto (tgt := 1908) hx hb dL_law_939 (by decide) ?_
        refine W.widen (k := cells + 4) (n := slots + 24) (by omega) (by omega) ?_
        exact kk _ _ _ _ _ hf hw (lv_sub hl [2, 3, 4, 5, 6, 7] rfl)
      · replace hf := hf.2 c_9
        refine lv_aload hx hb dL_law_917 (lv_at hl 6 rfl) ?_
        refine lv_iconst (v := 0) hx hb dL_law_919 (by decide) ?_
        refine l_outD hC hw dL_law_920 ?_
        refine lv_aload hx hb dL_law_921 (lv_at hl 6 rfl) ?_
        refine lv_iconst (v := 0) hx hb dL_law_923 (by decide) ?_
        refine l_outD hC hw dL_law_924 ?_
        refine lv_dcmp hx hb dL_law_925 ?_
        refine lv_if_eq (tgt := 937) hx hb dL_law_926 (by decide) (fun c_10 => ?_) (fun c_10 => ?_)
        · replace hf := hf.1 c_10
          refine lv_iconst (v := 0) hx hb dL_law_937 (by decide) ?_
          exact hf.elim
        · replace hf := hf.2 c_10
          refine lv_dload hx hb dL_law_929 (lv_at hl 0 rfl) ?_
          refine lv_dload hx hb dL_law_931 (lv_at hl 0 rfl) ?_
          refine lv_dcmp hx hb dL_law_933 ?_
          refine lv_if_ne (tgt := 939) hx hb dL_law_934 (by decide) (fun c_11 => ?_) (fun c_11 => ?_)
          · replace hf := hf.1 c_11
            refine lv_goto (tgt := 1908) hx hb dL_law_939 (by decide) ?_
            refine W.widen (k := cells + 4) (n := slots + 24) (by omega) (by omega) ?_
            exact kk _ _ _ _ _ hf hw (lv_sub hl [2, 3, 4, 5, 6, 7] rfl)
          · replace hf := hf.2 c_11
            refine lv_iconst (v := 0) hx hb dL_law_937 (by decide) ?_
            exact hf.elim
  · replace hf := hf.2 c_7
    refine lv_iconst (v := 0) hx hb dL_law_900 (by decide) ?_
    exact hf.elim
def qL_16 (a1 a2 a3 a4 : Int32) (Sx Sm : gS) (Post : gS → gS → Prop) : Prop :=
  (pL_averageTrees a1 Sx (fun k_1 Sx_2 => (pX9_averageTrees a1 Sm (fun r_3 Sm_4 => (pX9_thrown  Sm_4 (fun r_5 => ((r_5 = k_1 → ((¬ k_1 = 0 → Post Sx_2 Sm_4) ∧ (k_1 = 0 → (((Op.cmpValue (FP.dcmp ((gB Sx_2 33 0).toUInt64) r_3) .l) = 0 → Post Sx_2 Sm_4) ∧ (¬ (Op.cmpValue (FP.dcmp ((gB Sx_2 33 0).toUInt64) r_3) .l) = 0 → (((Op.cmpValue (FP.dcmp ((gB Sx_2 33 0).toUInt64) ((gB Sx_2 33 0).toUInt64)) .l) = 0 → False) ∧ (¬ (Op.cmpValue (FP.dcmp ((gB Sx_2 33 0).toUInt64) ((gB Sx_2 33 0).toUInt64)) .l) = 0 → ((¬ (Op.cmpValue (FP.dcmp r_3 r_3) .l) = 0 → Post Sx_2 Sm_4) ∧ ((Op.cmpValue (FP.dcmp r_3 r_3) .l) = 0 → False))))))))) ∧ (¬ r_5 = k_1 → False))))))))
set_option maxHeartbeats 40000000 in
set_option maxRecDepth 100000 in
theorem lawc_16 {p : Program} {l : Launch} {e : Env} {s : State} {m : MethodId} {args : Array Value} {below : List Frame} {meth : Method} {c : Code} {H : Heap} {locs : List Loc} {Q : State → Prop} {cells slots : Nat} {ls : Array Slot} {X Y : xG} {A : Nat → Prop} {b L : Nat} {xs : Nat → Int32} {Sx Sm : gS} {i0 a1 a2 a3 a4 : Int32} {Post : gS → gS → Prop} (hlt : l.stackTraces = false) (hC : LC X Y A b L xs p s m args c) (hi1 : vp_in (i0 + 1) L) (hi2 : vp_in (i0 + 2) L) (hi3 : vp_in (i0 + 3) L) (hi4 : vp_in (i0 + 4) L) (ea1 : xs (i0 + 1).toNatClampNeg = a1) (ea2 : xs (i0 + 2).toNatClampNeg = a2) (ea3 : xs (i0 + 3).toNatClampNeg = a3) (ea4 : xs (i0 + 4).toNatClampNeg = a4) (hcs : cells + 4 ≤ 601024) (hss : slots + 24 ≤ 7293034) (hf : qL_16 a1 a2 a3 a4 Sx Sm Post) (hw : LW X Y A s.heap Sx Sm H locs) (hl : lv_has ls 9 [(0, .ref b), (1, .ref (xa X 0)), (2, .ref (xa Y 0)), (3, .ref (xa X 32)), (4, .ref (xa X 33)), (5, .int i0)])
    (kk : ∀ (Sx' Sm' : gS) (H1 : Heap) (locs1 : List Loc) (ls1 : Array Slot), Post Sx' Sm' → LW X Y A s.heap Sx' Sm' H1 locs1 → lv_has ls1 9 [(0, .ref b), (1, .ref (xa X 0)), (2, .ref (xa Y 0)), (3, .ref (xa X 32)), (4, .ref (xa X 33)), (5, .int i0)] → W p l e room_1 s m args below meth c H1 locs1 (cells + 4) (slots + 24) Q (F0 m 1908 ls1 [])) : W p l e room_1 s m args below meth c H locs cells slots Q (F0 m 942 ls []) := by
  obtain ⟨hx, hb, hml, hown, hts, -⟩ := id hC
  rw [qL_16] at hf
  refine lv_aload_n hx hb dL_law_942 rfl (lv_at hl 1 rfl) ?_
  refine lv_aload_n hx hb dL_law_943 rfl (lv_at hl 0 rfl) ?_
  refine lv_iload hx hb dL_law_944 (lv_at hl 5 rfl) ?_
  refine lv_iconst (v := 1) hx hb dL_law_946 (by decide) ?_
  refine lv_iadd hx hb dL_law_947 ?_
  refine l_sldv hC hw hi1 ea1 dL_law_948 ?_
  refine lv_aload hx hb dL_law_949 (lv_at hl 4 rfl) ?_
  refine l_cXi hC hw (l_rH (As := [.ref (xa X 0), .int a1, .ref (xa X 33)]) (rest := []) hC hw (kL_averageTrees l hlt X Sx _ a1 _ hf) (vx_cwSW 3 hts (gSw q_618 q_619 q_128 q_620) rfl rfl rfl (by decide +kernel) ⟨Nat.le_of_ble_eq_true rfl, Nat.le_of_ble_eq_true rfl⟩) rfl hl.1 rfl (Nat.le_of_ble_eq_true rfl) dL_law_951 ⟨by show _ ≤ 601024; omega, by show _ ≤ 7293034; omega⟩) (fun k_1 Sx_2 H locs hf hw => ?_)
  refine lv_istore (lv' := [(6, .int k_1), (0, .ref b), (1, .ref (xa X 0)), (2, .ref (xa Y 0)), (3, .ref (xa X 32)), (4, .ref (xa X 33)), (5, .int i0)]) hx hb dL_law_954 hl (by decide) rfl (fun ls hl => ?_)
  refine lv_aload_n hx hb dL_law_956 rfl (lv_at hl 3 rfl) ?_
  refine lv_aload_n hx hb dL_law_957 rfl (lv_at hl 1 rfl) ?_
  refine lv_iload hx hb dL_law_958 (lv_at hl 6 rfl) ?_
  refine lv_iconst (v := 1) hx hb dL_law_960 (by decide) ?_
  refine lv_iadd hx hb dL_law_961 ?_
  refine l_sldv hC hw hi1 ea1 dL_law_962 ?_
  refine l_cYd hC hw (l_rY (As := [.int a1]) (rest := []) hC hw (kX9_averageTrees l Y Sm _ a1 _ hf) (cwV 1 hts (gV q_627 q_628 q_629 q_5 q_630) rfl rfl rfl (by decide +kernel) ⟨Nat.le_of_ble_eq_true rfl, Nat.le_of_ble_eq_true rfl⟩) rfl hl.1 rfl (Nat.le_of_ble_eq_true rfl) dL_law_963 ⟨by show _ ≤ 601024; omega, by show _ ≤ 7293034; omega⟩) (fun r_3 Sm_4 H locs hf hw => ?_)
  refine lv_dstore (lv' := [(7, .double r_3), (6, .int k_1), (0, .ref b), (1, .ref (xa X 0)), (2, .ref (xa Y 0)), (3, .ref (xa X 32)), (4, .ref (xa X 33)), (5, .int i0)]) hx hb dL_law_966 hl (by decide) rfl (fun ls hl => ?_)
  refine lv_aload_n hx hb dL_law_968 rfl (lv_at hl 4 rfl) ?_
  refine l_cYi hC hw (l_rY (As := []) (rest := []) hC hw (kX9_thrown l Y Sm_4 _  _ hf) (cwV 0 hts (gV q_168 q_169 q_170 q_5 q_171) rfl rfl rfl (by decide +kernel) ⟨Nat.le_of_ble_eq_true rfl, Nat.le_of_ble_eq_true rfl⟩) rfl hl.1 rfl (Nat.le_of_ble_eq_true rfl) dL_law_969 ⟨by show _ ≤ 601024; omega, by show _ ≤ 7293034; omega⟩) (fun r_5 Sm_6 H locs hf hw => ?_)
  obtain ⟨hf, rfl⟩ := hf
  refine lv_iload hx hb dL_law_972 (lv_at hl 1 rfl) ?_
  refine lv_icmp_eq (tgt := 979) hx hb dL_law_974 (by decide) (fun c_7 => ?_) (fun c_7 => ?_)
  · replace hf := hf.1 c_7
    refine lv_iload hx hb dL_law_979 (lv_at hl 1 rfl) ?_
    refine lv_if_ne (tgt := 1016) hx hb dL_law_981 (by decide) (fun c_8 => ?_) (fun c_8 => ?_)
    · replace hf := hf.1 c_8
      refine lv_goto (tgt := 1908) hx hb dL_law_1016 (by decide) ?_
      refine W.widen (k := cells + 4) (n := slots + 24) (by omega) (by omega) ?_
      exact kk _ _ _ _ _ hf hw (lv_sub hl [2, 3, 4, 5, 6, 7] rfl)
    · replace hf := hf.2 c_8
      refine lv_aload hx hb dL_law_984 (lv_at hl 6 rfl) ?_
      refine lv_iconst (v := 0) hx hb dL_law_986 (by decide) ?_
      refine l_outD hC hw dL_law_987 ?_
      refine lv_dload hx hb dL_law_988 (lv_at hl 0 rfl) ?_
      refine lv_dcmp hx hb dL_law_990 ?_
      refine lv_if_eq (tgt := 1016) hx hb dL_law_991 (by decide) (fun c_9 => ?_) (fun c_9 => ?_)
      · replace hf := hf.1 c_9
        refine lv_goto (tgt := 1908) hx hb dL_law_1016 (by decide) ?_
        refine W.widen (k := cells + 4) (n := slots + 24) (by omega) (by omega) ?_
        exact kk _ _ _ _ _ hf hw (lv_sub hl [2, 3, 4, 5, 6, 7] rfl)
      · replace hf := hf.2 c_9
        refine lv_aload hx hb dL_law_994 (lv_at hl 6 rfl) ?_
        refine lv_iconst (v := 0) hx hb dL_law_996 (by decide) ?_
        refine l_outD hC hw dL_law_997 ?_
        refine lv_aload hx hb dL_law_998 (lv_at hl 6 rfl) ?_
        refine lv_iconst (v := 0) hx hb dL_law_1000 (by decide) ?_
        refine l_outD hC hw dL_law_1001 ?_
        refine lv_dcmp hx hb dL_law_1002 ?_
        refine lv_if_eq (tgt := 1014) hx hb dL_law_1003 (by decide) (fun c_10 => ?_) (fun c_10 => ?_)
        · replace hf := hf.1 c_10
          refine lv_iconst (v := 0) hx hb dL_law_1014 (by decide) ?_
          exact hf.elim
        · replace hf := hf.2 c_10
          refine lv_dload hx hb dL_law_1006 (lv_at hl 0 rfl) ?_
          refine lv_dload hx hb dL_law_1008 (lv_at hl 0 rfl) ?_
          refine lv_dcmp hx hb dL_law_1010 ?_
          refine lv_if_ne (tgt := 1016) hx hb dL_law_1011 (by decide) (fun c_11 => ?_) (fun c_11 => ?_)
          · replace hf := hf.1 c_11
            refine lv_goto (tgt := 1908) hx hb dL_law_1016 (by decide) ?_
            refine W.widen (k := cells + 4) (n := slots + 24) (by omega) (by omega) ?_
            exact kk _ _ _ _ _ hf hw (lv_sub hl [2, 3, 4, 5, 6, 7] rfl)
          · replace hf := hf.2 c_11
            refine lv_iconst (v := 0) hx hb dL_law_1014 (by decide) ?_
            exact hf.elim
  · replace hf := hf.2 c_7
    refine lv_iconst (v := 0) hx hb dL_law_977 (by decide) ?_
    exact hf.elim
def qL_17 (a1 a2 a3 a4 : Int32) (Sx Sm : gS) (Post : gS → gS → Prop) : Prop :=
  (pL_firstAmbiguous a1 Sx (fun k_1 Sx_2 => (pX9_firstAmbiguous a1 Sm (fun r_3 Sm_4 => (pX9_thrown  Sm_4 (fun r_5 => ((r_5 = k_1 → ((¬ k_1 = 0 → Post Sx_2 Sm_4) ∧ (k_1 = 0 → (((lg_cmp (gB Sx_2 32 0) r_3.toInt64) = 0 → Post Sx_2 Sm_4) ∧ (¬ (lg_cmp (gB Sx_2 32 0) r_3.toInt64) = 0 → False))))) ∧ (¬ r_5 = k_1 → False))))))))
set_option maxHeartbeats 40000000 in
set_option maxRecDepth 100000 in
theorem lawc_17 {p : Program} {l : Launch} {e : Env} {s : State} {m : MethodId} {args : Array Value} {below : List Frame} {meth : Method} {c : Code} {H : Heap} {locs : List Loc} {Q : State → Prop} {cells slots : Nat} {ls : Array Slot} {X Y : xG} {A : Nat → Prop} {b L : Nat} {xs : Nat → Int32} {Sx Sm : gS} {i0 a1 a2 a3 a4 : Int32} {Post : gS → gS → Prop} (hlt : l.stackTraces = false) (hC : LC X Y A b L xs p s m args c) (hi1 : vp_in (i0 + 1) L) (hi2 : vp_in (i0 + 2) L) (hi3 : vp_in (i0 + 3) L) (hi4 : vp_in (i0 + 4) L) (ea1 : xs (i0 + 1).toNatClampNeg = a1) (ea2 : xs (i0 + 2).toNatClampNeg = a2) (ea3 : xs (i0 + 3).toNatClampNeg = a3) (ea4 : xs (i0 + 4).toNatClampNeg = a4) (hcs : cells + 4 ≤ 601024) (hss : slots + 24 ≤ 7293034) (hf : qL_17 a1 a2 a3 a4 Sx Sm Post) (hw : LW X Y A s.heap Sx Sm H locs) (hl : lv_has ls 9 [(0, .ref b), (1, .ref (xa X 0)), (2, .ref (xa Y 0)), (3, .ref (xa X 32)), (4, .ref (xa X 33)), (5, .int i0)])
    (kk : ∀ (Sx' Sm' : gS) (H1 : Heap) (locs1 : List Loc) (ls1 : Array Slot), Post Sx' Sm' → LW X Y A s.heap Sx' Sm' H1 locs1 → lv_has ls1 9 [(0, .ref b), (1, .ref (xa X 0)), (2, .ref (xa Y 0)), (3, .ref (xa X 32)), (4, .ref (xa X 33)), (5, .int i0)] → W p l e room_1 s m args below meth c H1 locs1 (cells + 4) (slots + 24) Q (F0 m 1908 ls1 [])) : W p l e room_1 s m args below meth c H locs cells slots Q (F0 m 1019 ls []) := by
  obtain ⟨hx, hb, hml, hown, hts, -⟩ := id hC
  rw [qL_17] at hf
  refine lv_aload_n hx hb dL_law_1019 rfl (lv_at hl 1 rfl) ?_
  refine lv_aload_n hx hb dL_law_1020 rfl (lv_at hl 0 rfl) ?_
  refine lv_iload hx hb dL_law_1021 (lv_at hl 5 rfl) ?_
  refine lv_iconst (v := 1) hx hb dL_law_1023 (by decide) ?_
  refine lv_iadd hx hb dL_law_1024 ?_
  refine l_sldv hC hw hi1 ea1 dL_law_1025 ?_
  refine lv_aload_n hx hb dL_law_1026 rfl (lv_at hl 3 rfl) ?_
  refine l_cXi hC hw (l_rH (As := [.ref (xa X 0), .int a1, .ref (xa X 32)]) (rest := []) hC hw (kL_firstAmbiguous l hlt X Sx _ a1 _ hf) (vx_cwSW 3 hts (gSw q_631 q_632 q_128 q_633) rfl rfl rfl (by decide +kernel) ⟨Nat.le_of_ble_eq_true rfl, Nat.le_of_ble_eq_true rfl⟩) rfl hl.1 rfl (Nat.le_of_ble_eq_true rfl) dL_law_1027 ⟨by show _ ≤ 601024; omega, by show _ ≤ 7293034; omega⟩) (fun k_1 Sx_2 H locs hf hw => ?_)
  refine lv_istore (lv' := [(6, .int k_1), (0, .ref b), (1, .ref (xa X 0)), (2, .ref (xa Y 0)), (3, .ref (xa X 32)), (4, .ref (xa X 33)), (5, .int i0)]) hx hb dL_law_1030 hl (by decide) rfl (fun ls hl => ?_)
  refine lv_aload_n hx hb dL_law_1032 rfl (lv_at hl 3 rfl) ?_
  refine lv_aload_n hx hb dL_law_1033 rfl (lv_at hl 1 rfl) ?_
  refine lv_iload hx hb dL_law_1034 (lv_at hl 6 rfl) ?_
  refine lv_iconst (v := 1) hx hb dL_law_1036 (by decide) ?_
  refine lv_iadd hx hb dL_law_1037 ?_
  refine l_sldv hC hw hi1 ea1 dL_law_1038 ?_
  refine l_cYi hC hw (l_rY (As := [.int a1]) (rest := []) hC hw (kX9_firstAmbiguous l Y Sm _ a1 _ hf) (cwV 1 hts (gV q_650 q_651 q_652 q_5 q_653) rfl rfl rfl (by decide +kernel) ⟨Nat.le_of_ble_eq_true rfl, Nat.le_of_ble_eq_true rfl⟩) rfl hl.1 rfl (Nat.le_of_ble_eq_true rfl) dL_law_1039 ⟨by show _ ≤ 601024; omega, by show _ ≤ 7293034; omega⟩) (fun r_3 Sm_4 H locs hf hw => ?_)
  refine lv_istore (lv' := [(7, .int r_3), (6, .int k_1), (0, .ref b), (1, .ref (xa X 0)), (2, .ref (xa Y 0)), (3, .ref (xa X 32)), (4, .ref (xa X 33)), (5, .int i0)]) hx hb dL_law_1042 hl (by decide) rfl (fun ls hl => ?_)
  refine lv_aload_n hx hb dL_law_1044 rfl (lv_at hl 4 rfl) ?_
  refine l_cYi hC hw (l_rY (As := []) (rest := []) hC hw (kX9_thrown l Y Sm_4 _  _ hf) (cwV 0 hts (gV q_168 q_169 q_170 q_5 q_171) rfl rfl rfl (by decide +kernel) ⟨Nat.le_of_ble_eq_true rfl, Nat.le_of_ble_eq_true rfl⟩) rfl hl.1 rfl (Nat.le_of_ble_eq_true rfl) dL_law_1045 ⟨by show _ ≤ 601024; omega, by show _ ≤ 7293034; omega⟩) (fun r_5 Sm_6 H locs hf hw => ?_)
  obtain ⟨hf, rfl⟩ := hf
  refine lv_iload hx hb dL_law_1048 (lv_at hl 1 rfl) ?_
  refine lv_icmp_eq (tgt := 1055) hx hb dL_law_1050 (by decide) (fun c_7 => ?_) (fun c_7 => ?_)
  · replace hf := hf.1 c_7
    refine lv_iload hx hb dL_law_1055 (lv_at hl 1 rfl) ?_
    refine lv_if_ne (tgt := 1072) hx hb dL_law_1057 (by decide) (fun c_8 => ?_) (fun c_8 => ?_)
    · replace hf := hf.1 c_8
      refine lv_goto (tgt := 1908) hx hb dL_law_1072 (by decide) ?_
      refine W.widen (k := cells + 4) (n := slots + 24) (by omega) (by omega) ?_
      exact kk _ _ _ _ _ hf hw (lv_sub hl [2, 3, 4, 5, 6, 7] rfl)
    · replace hf := hf.2 c_8
      refine lv_aload_n hx hb dL_law_1060 rfl (lv_at hl 5 rfl) ?_
      refine lv_iconst (v := 0) hx hb dL_law_1061 (by decide) ?_
      refine l_out hC hw dL_law_1062 ?_
      refine lv_iload hx hb dL_law_1063 (lv_at hl 0 rfl) ?_
      refine lv_i2l hx hb dL_law_1065 rfl ?_
      refine W.lcmp hx hb dL_law_1066 ?_
      refine lv_if_eq (tgt := 1072) hx hb dL_law_1067 (by decide) (fun c_9 => ?_) (fun c_9 => ?_)
      · replace hf := hf.1 c_9
        refine lv_goto (tgt := 1908) hx hb dL_law_1072 (by decide) ?_
        refine W.widen (k := cells + 4) (n := slots + 24) (by omega) (by omega) ?_
        exact kk _ _ _ _ _ hf hw (lv_sub hl [2, 3, 4, 5, 6, 7] rfl)
      · replace hf := hf.2 c_9
        refine lv_iconst (v := 0) hx hb dL_law_1070 (by decide) ?_
        exact hf.elim
  · replace hf := hf.2 c_7
    refine lv_iconst (v := 0) hx hb dL_law_1053 (by decide) ?_
    exact hf.elim
def qL_18 (a1 a2 a3 a4 : Int32) (Sx Sm : gS) (Post : gS → gS → Prop) : Prop :=
  (pL_wordRank  Sx (fun k_1 Sx_2 => (pX9_wordRank  Sm (fun r_3 Sm_4 => (pX9_thrown  Sm_4 (fun r_5 => ((r_5 = k_1 → ((¬ k_1 = 0 → Post Sx_2 Sm_4) ∧ (k_1 = 0 → (((lg_cmp (gB Sx_2 32 0) r_3.toInt64) = 0 → Post Sx_2 Sm_4) ∧ (¬ (lg_cmp (gB Sx_2 32 0) r_3.toInt64) = 0 → False))))) ∧ (¬ r_5 = k_1 → False))))))))
set_option maxHeartbeats 40000000 in
set_option maxRecDepth 100000 in
theorem lawc_18 {p : Program} {l : Launch} {e : Env} {s : State} {m : MethodId} {args : Array Value} {below : List Frame} {meth : Method} {c : Code} {H : Heap} {locs : List Loc} {Q : State → Prop} {cells slots : Nat} {ls : Array Slot} {X Y : xG} {A : Nat → Prop} {b L : Nat} {xs : Nat → Int32} {Sx Sm : gS} {i0 a1 a2 a3 a4 : Int32} {Post : gS → gS → Prop} (hlt : l.stackTraces = false) (hC : LC X Y A b L xs p s m args c) (hi1 : vp_in (i0 + 1) L) (hi2 : vp_in (i0 + 2) L) (hi3 : vp_in (i0 + 3) L) (hi4 : vp_in (i0 + 4) L) (ea1 : xs (i0 + 1).toNatClampNeg = a1) (ea2 : xs (i0 + 2).toNatClampNeg = a2) (ea3 : xs (i0 + 3).toNatClampNeg = a3) (ea4 : xs (i0 + 4).toNatClampNeg = a4) (hcs : cells + 4 ≤ 601024) (hss : slots + 24 ≤ 7293034) (hf : qL_18 a1 a2 a3 a4 Sx Sm Post) (hw : LW X Y A s.heap Sx Sm H locs) (hl : lv_has ls 9 [(0, .ref b), (1, .ref (xa X 0)), (2, .ref (xa Y 0)), (3, .ref (xa X 32)), (4, .ref (xa X 33)), (5, .int i0)])
    (kk : ∀ (Sx' Sm' : gS) (H1 : Heap) (locs1 : List Loc) (ls1 : Array Slot), Post Sx' Sm' → LW X Y A s.heap Sx' Sm' H1 locs1 → lv_has ls1 9 [(0, .ref b), (1, .ref (xa X 0)), (2, .ref (xa Y 0)), (3, .ref (xa X 32)), (4, .ref (xa X 33)), (5, .int i0)] → W p l e room_1 s m args below meth c H1 locs1 (cells + 4) (slots + 24) Q (F0 m 1908 ls1 [])) : W p l e room_1 s m args below meth c H locs cells slots Q (F0 m 1075 ls []) := by
  obtain ⟨hx, hb, hml, hown, hts, -⟩ := id hC
  rw [qL_18] at hf
  refine lv_aload_n hx hb dL_law_1075 rfl (lv_at hl 1 rfl) ?_
  refine lv_aload_n hx hb dL_law_1076 rfl (lv_at hl 3 rfl) ?_
  refine l_cXi hC hw (l_rH (As := [.ref (xa X 0), .ref (xa X 32)]) (rest := []) hC hw (kL_wordRank l hlt X Sx _  _ hf) (vx_cwSW 2 hts (gSw q_658 q_659 q_128 q_660) rfl rfl rfl (by decide +kernel) ⟨Nat.le_of_ble_eq_true rfl, Nat.le_of_ble_eq_true rfl⟩) rfl hl.1 rfl (Nat.le_of_ble_eq_true rfl) dL_law_1077 ⟨by show _ ≤ 601024; omega, by show _ ≤ 7293034; omega⟩) (fun k_1 Sx_2 H locs hf hw => ?_)
  refine lv_istore (lv' := [(6, .int k_1), (0, .ref b), (1, .ref (xa X 0)), (2, .ref (xa Y 0)), (3, .ref (xa X 32)), (4, .ref (xa X 33)), (5, .int i0)]) hx hb dL_law_1080 hl (by decide) rfl (fun ls hl => ?_)
  refine lv_aload_n hx hb dL_law_1082 rfl (lv_at hl 3 rfl) ?_
  refine l_cYi hC hw (l_rY (As := []) (rest := []) hC hw (kX9_wordRank l Y Sm _  _ hf) (cwV 0 hts (gV q_670 q_671 q_672 q_5 q_673) rfl rfl rfl (by decide +kernel) ⟨Nat.le_of_ble_eq_true rfl, Nat.le_of_ble_eq_true rfl⟩) rfl hl.1 rfl (Nat.le_of_ble_eq_true rfl) dL_law_1083 ⟨by show _ ≤ 601024; omega, by show _ ≤ 7293034; omega⟩) (fun r_3 Sm_4 H locs hf hw => ?_)
  refine lv_istore (lv' := [(7, .int r_3), (6, .int k_1), (0, .ref b), (1, .ref (xa X 0)), (2, .ref (xa Y 0)), (3, .ref (xa X 32)), (4, .ref (xa X 33)), (5, .int i0)]) hx hb dL_law_1086 hl (by decide) rfl (fun ls hl => ?_)
  refine lv_aload_n hx hb dL_law_1088 rfl (lv_at hl 4 rfl) ?_
  refine l_cYi hC hw (l_rY (As := []) (rest := []) hC hw (kX9_thrown l Y Sm_4 _  _ hf) (cwV 0 hts (gV q_168 q_169 q_170 q_5 q_171) rfl rfl rfl (by decide +kernel) ⟨Nat.le_of_ble_eq_true rfl, Nat.le_of_ble_eq_true rfl⟩) rfl hl.1 rfl (Nat.le_of_ble_eq_true rfl) dL_law_1089 ⟨by show _ ≤ 601024; omega, by show _ ≤ 7293034; omega⟩) (fun r_5 Sm_6 H locs hf hw => ?_)
  obtain ⟨hf, rfl⟩ := hf
  refine lv_iload hx hb dL_law_1092 (lv_at hl 1 rfl) ?_
  refine lv_icmp_eq (tgt := 1099) hx hb dL_law_1094 (by decide) (fun c_7 => ?_) (fun c_7 => ?_)
  · replace hf := hf.1 c_7
    refine lv_iload hx hb dL_law_1099 (lv_at hl 1 rfl) ?_
    refine lv_if_ne (tgt := 1116) hx hb dL_law_1101 (by decide) (fun c_8 => ?_) (fun c_8 => ?_)
    · replace hf := hf.1 c_8
      refine lv_goto (tgt := 1908) hx hb dL_law_1116 (by decide) ?_
      refine W.widen (k := cells + 4) (n := slots + 24) (by omega) (by omega) ?_
      exact kk _ _ _ _ _ hf hw (lv_sub hl [2, 3, 4, 5, 6, 7] rfl)
    · replace hf := hf.2 c_8
      refine lv_aload_n hx hb dL_law_1104 rfl (lv_at hl 5 rfl) ?_
      refine lv_iconst (v := 0) hx hb dL_law_1105 (by decide) ?_
      refine l_out hC hw dL_law_1106 ?_
      refine lv_iload hx hb dL_law_1107 (lv_at hl 0 rfl) ?_
      refine lv_i2l hx hb dL_law_1109 rfl ?_
      refine W.lcmp hx hb dL_law_1110 ?_
      refine lv_if_eq (tgt := 1116) hx hb dL_law_1111 (by decide) (fun c_9 => ?_) (fun c_9 => ?_)
      · replace hf := hf.1 c_9
        refine lv_goto (tgt := 1908) hx hb dL_law_1116 (by decide) ?_
        refine W.widen (k := cells + 4) (n := slots + 24) (by omega) (by omega) ?_
        exact kk _ _ _ _ _ hf hw (lv_sub hl [2, 3, 4, 5, 6, 7] rfl)
      · replace hf := hf.2 c_9
        refine lv_iconst (v := 0) hx hb dL_law_1114 (by decide) ?_
        exact hf.elim
  · replace hf := hf.2 c_7
    refine lv_iconst (v := 0) hx hb dL_law_1097 (by decide) ?_
    exact hf.elim
def qL_19 (a1 a2 a3 a4 : Int32) (Sx Sm : gS) (Post : gS → gS → Prop) : Prop :=
  (pL_takeWord a1 a2 Sx (fun k_1 Sx_2 => (pX9_takeWord a1 a2 Sm (fun Sm_4 => (pX9_thrown  Sm_4 (fun r_5 => ((r_5 = k_1 → Post Sx_2 Sm_4) ∧ (¬ r_5 = k_1 → False))))))))
set_option maxHeartbeats 40000000 in
set_option maxRecDepth 100000 in
theorem lawc_19 {p : Program} {l : Launch} {e : Env} {s : State} {m : MethodId} {args : Array Value} {below : List Frame} {meth : Method} {c : Code} {H : Heap} {locs : List Loc} {Q : State → Prop} {cells slots : Nat} {ls : Array Slot} {X Y : xG} {A : Nat → Prop} {b L : Nat} {xs : Nat → Int32} {Sx Sm : gS} {i0 a1 a2 a3 a4 : Int32} {Post : gS → gS → Prop} (hlt : l.stackTraces = false) (hC : LC X Y A b L xs p s m args c) (hi1 : vp_in (i0 + 1) L) (hi2 : vp_in (i0 + 2) L) (hi3 : vp_in (i0 + 3) L) (hi4 : vp_in (i0 + 4) L) (ea1 : xs (i0 + 1).toNatClampNeg = a1) (ea2 : xs (i0 + 2).toNatClampNeg = a2) (ea3 : xs (i0 + 3).toNatClampNeg = a3) (ea4 : xs (i0 + 4).toNatClampNeg = a4) (hcs : cells + 4 ≤ 601024) (hss : slots + 24 ≤ 7293034) (hf : qL_19 a1 a2 a3 a4 Sx Sm Post) (hw : LW X Y A s.heap Sx Sm H locs) (hl : lv_has ls 9 [(0, .ref b), (1, .ref (xa X 0)), (2, .ref (xa Y 0)), (3, .ref (xa X 32)), (4, .ref (xa X 33)), (5, .int i0)])
    (kk : ∀ (Sx' Sm' : gS) (H1 : Heap) (locs1 : List Loc) (ls1 : Array Slot), Post Sx' Sm' → LW X Y A s.heap Sx' Sm' H1 locs1 → lv_has ls1 9 [(0, .ref b), (1, .ref (xa X 0)), (2, .ref (xa Y 0)), (3, .ref (xa X 32)), (4, .ref (xa X 33)), (5, .int i0)] → W p l e room_1 s m args below meth c H1 locs1 (cells + 4) (slots + 24) Q (F0 m 1908 ls1 [])) : W p l e room_1 s m args below meth c H locs cells slots Q (F0 m 1119 ls []) := by
  obtain ⟨hx, hb, hml, hown, hts, -⟩ := id hC
  rw [qL_19] at hf
  refine lv_aload_n hx hb dL_law_1119 rfl (lv_at hl 1 rfl) ?_
  refine lv_aload_n hx hb dL_law_1120 rfl (lv_at hl 0 rfl) ?_
  refine lv_iload hx hb dL_law_1121 (lv_at hl 5 rfl) ?_
  refine lv_iconst (v := 1) hx hb dL_law_1123 (by decide) ?_
  refine lv_iadd hx hb dL_law_1124 ?_
  refine l_sldv hC hw hi1 ea1 dL_law_1125 ?_
  refine lv_aload_n hx hb dL_law_1126 rfl (lv_at hl 0 rfl) ?_
  refine lv_iload hx hb dL_law_1127 (lv_at hl 5 rfl) ?_
  refine lv_iconst (v := 2) hx hb dL_law_1129 (by decide) ?_
  refine lv_iadd hx hb dL_law_1130 ?_
  refine l_sldv hC hw hi2 ea2 dL_law_1131 ?_
  refine l_cXi hC hw (l_rH (As := [.ref (xa X 0), .int a1, .int a2]) (rest := []) hC hw (kL_takeWord l hlt X Sx _ a1 a2 _ hf) (vx_cwSW 3 hts (gSw q_674 q_675 q_128 q_676) rfl rfl rfl (by decide +kernel) ⟨Nat.le_of_ble_eq_true rfl, Nat.le_of_ble_eq_true rfl⟩) rfl hl.1 rfl (Nat.le_of_ble_eq_true rfl) dL_law_1132 ⟨by show _ ≤ 601024; omega, by show _ ≤ 7293034; omega⟩) (fun k_1 Sx_2 H locs hf hw => ?_)
  refine lv_istore (lv' := [(6, .int k_1), (0, .ref b), (1, .ref (xa X 0)), (2, .ref (xa Y 0)), (3, .ref (xa X 32)), (4, .ref (xa X 33)), (5, .int i0)]) hx hb dL_law_1135 hl (by decide) rfl (fun ls hl => ?_)
  refine lv_aload_n hx hb dL_law_1137 rfl (lv_at hl 3 rfl) ?_
  refine lv_aload_n hx hb dL_law_1138 rfl (lv_at hl 1 rfl) ?_
  refine lv_iload hx hb dL_law_1139 (lv_at hl 6 rfl) ?_
  refine lv_iconst (v := 1) hx hb dL_law_1141 (by decide) ?_
  refine lv_iadd hx hb dL_law_1142 ?_
  refine l_sldv hC hw hi1 ea1 dL_law_1143 ?_
  refine lv_aload_n hx hb dL_law_1144 rfl (lv_at hl 1 rfl) ?_
  refine lv_iload hx hb dL_law_1145 (lv_at hl 6 rfl) ?_
  refine lv_iconst (v := 2) hx hb dL_law_1147 (by decide) ?_
  refine lv_iadd hx hb dL_law_1148 ?_
  refine l_sldv hC hw hi2 ea2 dL_law_1149 ?_
  refine l_cYv hC hw (l_rY (As := [.int a1, .int a2]) (rest := []) hC hw (kX9_takeWord l Y Sm _ a1 a2 _ hf) (cwV 2 hts (gV q_681 q_682 q_683 q_5 q_684) rfl rfl rfl (by decide +kernel) ⟨Nat.le_of_ble_eq_true rfl, Nat.le_of_ble_eq_true rfl⟩) rfl hl.1 rfl (Nat.le_of_ble_eq_true rfl) dL_law_1150 ⟨by show _ ≤ 601024; omega, by show _ ≤ 7293034; omega⟩) (fun Sm_4 H locs hf hw => ?_)
  refine lv_aload_n hx hb dL_law_1153 rfl (lv_at hl 3 rfl) ?_
  refine l_cYi hC hw (l_rY (As := []) (rest := []) hC hw (kX9_thrown l Y Sm_4 _  _ hf) (cwV 0 hts (gV q_168 q_169 q_170 q_5 q_171) rfl rfl rfl (by decide +kernel) ⟨Nat.le_of_ble_eq_true rfl, Nat.le_of_ble_eq_true rfl⟩) rfl hl.1 rfl (Nat.le_of_ble_eq_true rfl) dL_law_1154 ⟨by show _ ≤ 601024; omega, by show _ ≤ 7293034; omega⟩) (fun r_5 Sm_6 H locs hf hw => ?_)
  obtain ⟨hf, rfl⟩ := hf
  refine lv_iload hx hb dL_law_1157 (lv_at hl 0 rfl) ?_
  refine lv_icmp_eq (tgt := 1164) hx hb dL_law_1159 (by decide) (fun c_7 => ?_) (fun c_7 => ?_)
  · replace hf := hf.1 c_7
    refine lv_goto (tgt := 1908) hx hb dL_law_1164 (by decide) ?_
    refine W.widen (k := cells + 4) (n := slots + 24) (by omega) (by omega) ?_
    exact kk _ _ _ _ _ hf hw (lv_sub hl [1, 2, 3, 4, 5, 6] rfl)
  · replace hf := hf.2 c_7
    refine lv_iconst (v := 0) hx hb dL_law_1162 (by decide) ?_
    exact hf.elim
def qL_20 (a1 a2 a3 a4 : Int32) (Sx Sm : gS) (Post : gS → gS → Prop) : Prop :=
  (pL_drawWord ((a1.toInt64 <<< ((32 : Int32).toInt64 &&& 63)) ||| (a2.toInt64 &&& 4294967295)) a3 Sx (fun k_1 Sx_2 => (pX9_drawWord ((a1.toInt64 <<< ((32 : Int32).toInt64 &&& 63)) ||| (a2.toInt64 &&& 4294967295)) a3 Sm (fun r_3 Sm_4 => (pX9_thrown  Sm_4 (fun r_5 => ((r_5 = k_1 → ((¬ k_1 = 0 → Post Sx_2 Sm_4) ∧ (k_1 = 0 → (((lg_cmp (gB Sx_2 32 0) r_3.toInt64) = 0 → Post Sx_2 Sm_4) ∧ (¬ (lg_cmp (gB Sx_2 32 0) r_3.toInt64) = 0 → False))))) ∧ (¬ r_5 = k_1 → False))))))))
set_option maxHeartbeats 40000000 in
set_option maxRecDepth 100000 in
theorem lawc_20 {p : Program} {l : Launch} {e : Env} {s : State} {m : MethodId} {args : Array Value} {below : List Frame} {meth : Method} {c : Code} {H : Heap} {locs : List Loc} {Q : State → Prop} {cells slots : Nat} {ls : Array Slot} {X Y : xG} {A : Nat → Prop} {b L : Nat} {xs : Nat → Int32} {Sx Sm : gS} {i0 a1 a2 a3 a4 : Int32} {Post : gS → gS → Prop} (hlt : l.stackTraces = false) (hC : LC X Y A b L xs p s m args c) (hi1 : vp_in (i0 + 1) L) (hi2 : vp_in (i0 + 2) L) (hi3 : vp_in (i0 + 3) L) (hi4 : vp_in (i0 + 4) L) (ea1 : xs (i0 + 1).toNatClampNeg = a1) (ea2 : xs (i0 + 2).toNatClampNeg = a2) (ea3 : xs (i0 + 3).toNatClampNeg = a3) (ea4 : xs (i0 + 4).toNatClampNeg = a4) (hcs : cells + 4 ≤ 601024) (hss : slots + 24 ≤ 7293034) (hf : qL_20 a1 a2 a3 a4 Sx Sm Post) (hw : LW X Y A s.heap Sx Sm H locs) (hl : lv_has ls 9 [(0, .ref b), (1, .ref (xa X 0)), (2, .ref (xa Y 0)), (3, .ref (xa X 32)), (4, .ref (xa X 33)), (5, .int i0)])
    (kk : ∀ (Sx' Sm' : gS) (H1 : Heap) (locs1 : List Loc) (ls1 : Array Slot), Post Sx' Sm' → LW X Y A s.heap Sx' Sm' H1 locs1 → lv_has ls1 9 [(0, .ref b), (1, .ref (xa X 0)), (2, .ref (xa Y 0)), (3, .ref (xa X 32)), (4, .ref (xa X 33)), (5, .int i0)] → W p l e room_1 s m args below meth c H1 locs1 (cells + 4) (slots + 24) Q (F0 m 1908 ls1 [])) : W p l e room_1 s m args below meth c H locs cells slots Q (F0 m 1167 ls []) := by
  obtain ⟨hx, hb, hml, hown, hts, -⟩ := id hC
  rw [qL_20] at hf
  refine lv_aload_n hx hb dL_law_1167 rfl (lv_at hl 1 rfl) ?_
  refine lv_aload_n hx hb dL_law_1168 rfl (lv_at hl 0 rfl) ?_
  refine lv_iload hx hb dL_law_1169 (lv_at hl 5 rfl) ?_
  refine lv_iconst (v := 1) hx hb dL_law_1171 (by decide) ?_
  refine lv_iadd hx hb dL_law_1172 ?_
  refine l_sldv hC hw hi1 ea1 dL_law_1173 ?_
  refine lv_i2l hx hb dL_law_1174 rfl ?_
  refine lv_bipush (v := 32) hx hb dL_law_1175 (by decide) ?_
  refine lv_lshl hx hb dL_law_1177 rfl ?_
  refine lv_aload_n hx hb dL_law_1178 rfl (lv_at hl 0 rfl) ?_
  refine lv_iload hx hb dL_law_1179 (lv_at hl 5 rfl) ?_
  refine lv_iconst (v := 2) hx hb dL_law_1181 (by decide) ?_
  refine lv_iadd hx hb dL_law_1182 ?_
  refine l_sldv hC hw hi2 ea2 dL_law_1183 ?_
  refine lv_i2l hx hb dL_law_1184 rfl ?_
  refine lv_ldc2 (v := 4294967295) hx hb hown (hts _ q_8) dL_law_1185 ?_
  refine lv_land hx hb dL_law_1188 ?_
  refine lv_lor hx hb dL_law_1189 ?_
  refine lv_aload_n hx hb dL_law_1190 rfl (lv_at hl 0 rfl) ?_
  refine lv_iload hx hb dL_law_1191 (lv_at hl 5 rfl) ?_
  refine lv_iconst (v := 3) hx hb dL_law_1193 (by decide) ?_
  refine lv_iadd hx hb dL_law_1194 ?_
  refine l_sldv hC hw hi3 ea3 dL_law_1195 ?_
  refine lv_aload_n hx hb dL_law_1196 rfl (lv_at hl 3 rfl) ?_
  refine l_cXi hC hw (l_rH (As := [.ref (xa X 0), .long ((a1.toInt64 <<< ((32 : Int32).toInt64 &&& 63)) ||| (a2.toInt64 &&& 4294967295)), .int a3, .ref (xa X 32)]) (rest := []) hC hw (kL_drawWord l hlt X Sx _ ((a1.toInt64 <<< ((32 : Int32).toInt64 &&& 63)) ||| (a2.toInt64 &&& 4294967295)) a3 _ hf) (vx_cwSW 4 hts (gSw q_689 q_690 q_128 q_691) rfl rfl rfl (by decide +kernel) ⟨Nat.le_of_ble_eq_true rfl, Nat.le_of_ble_eq_true rfl⟩) rfl hl.1 rfl (Nat.le_of_ble_eq_true rfl) dL_law_1197 ⟨by show _ ≤ 601024; omega, by show _ ≤ 7293034; omega⟩) (fun k_1 Sx_2 H locs hf hw => ?_)
  refine lv_istore (lv' := [(6, .int k_1), (0, .ref b), (1, .ref (xa X 0)), (2, .ref (xa Y 0)), (3, .ref (xa X 32)), (4, .ref (xa X 33)), (5, .int i0)]) hx hb dL_law_1200 hl (by decide) rfl (fun ls hl => ?_)
  refine lv_aload_n hx hb dL_law_1202 rfl (lv_at hl 3 rfl) ?_
  refine lv_aload_n hx hb dL_law_1203 rfl (lv_at hl 1 rfl) ?_
  refine lv_iload hx hb dL_law_1204 (lv_at hl 6 rfl) ?_
  refine lv_iconst (v := 1) hx hb dL_law_1206 (by decide) ?_
  refine lv_iadd hx hb dL_law_1207 ?_
  refine l_sldv hC hw hi1 ea1 dL_law_1208 ?_
  refine lv_i2l hx hb dL_law_1209 rfl ?_
  refine lv_bipush (v := 32) hx hb dL_law_1210 (by decide) ?_
  refine lv_lshl hx hb dL_law_1212 rfl ?_
  refine lv_aload_n hx hb dL_law_1213 rfl (lv_at hl 1 rfl) ?_
  refine lv_iload hx hb dL_law_1214 (lv_at hl 6 rfl) ?_
  refine lv_iconst (v := 2) hx hb dL_law_1216 (by decide) ?_
  refine lv_iadd hx hb dL_law_1217 ?_
  refine l_sldv hC hw hi2 ea2 dL_law_1218 ?_
  refine lv_i2l hx hb dL_law_1219 rfl ?_
  refine lv_ldc2 (v := 4294967295) hx hb hown (hts _ q_8) dL_law_1220 ?_
  refine lv_land hx hb dL_law_1223 ?_
  refine lv_lor hx hb dL_law_1224 ?_
  refine lv_aload_n hx hb dL_law_1225 rfl (lv_at hl 1 rfl) ?_
  refine lv_iload hx hb dL_law_1226 (lv_at hl 6 rfl) ?_
  refine lv_iconst (v := 3) hx hb dL_law_1228 (by decide) ?_
  refine lv_iadd hx hb dL_law_1229 ?_
  refine l_sldv hC hw hi3 ea3 dL_law_1230 ?_
  refine l_cYi hC hw (l_rY (As := [.long ((a1.toInt64 <<< ((32 : Int32).toInt64 &&& 63)) ||| (a2.toInt64 &&& 4294967295)), .int a3]) (rest := []) hC hw (kX9_drawWord l Y Sm _ ((a1.toInt64 <<< ((32 : Int32).toInt64 &&& 63)) ||| (a2.toInt64 &&& 4294967295)) a3 _ hf) (cwV 2 hts (gV q_701 q_702 q_703 q_5 q_704) rfl rfl rfl (by decide +kernel) ⟨Nat.le_of_ble_eq_true rfl, Nat.le_of_ble_eq_true rfl⟩) rfl hl.1 rfl (Nat.le_of_ble_eq_true rfl) dL_law_1231 ⟨by show _ ≤ 601024; omega, by show _ ≤ 7293034; omega⟩) (fun r_3 Sm_4 H locs hf hw => ?_)
  refine lv_istore (lv' := [(7, .int r_3), (6, .int k_1), (0, .ref b), (1, .ref (xa X 0)), (2, .ref (xa Y 0)), (3, .ref (xa X 32)), (4, .ref (xa X 33)), (5, .int i0)]) hx hb dL_law_1234 hl (by decide) rfl (fun ls hl => ?_)
  refine lv_aload_n hx hb dL_law_1236 rfl (lv_at hl 4 rfl) ?_
  refine l_cYi hC hw (l_rY (As := []) (rest := []) hC hw (kX9_thrown l Y Sm_4 _  _ hf) (cwV 0 hts (gV q_168 q_169 q_170 q_5 q_171) rfl rfl rfl (by decide +kernel) ⟨Nat.le_of_ble_eq_true rfl, Nat.le_of_ble_eq_true rfl⟩) rfl hl.1 rfl (Nat.le_of_ble_eq_true rfl) dL_law_1237 ⟨by show _ ≤ 601024; omega, by show _ ≤ 7293034; omega⟩) (fun r_5 Sm_6 H locs hf hw => ?_)
  obtain ⟨hf, rfl⟩ := hf
  refine lv_iload hx hb dL_law_1240 (lv_at hl 1 rfl) ?_
  refine lv_icmp_eq (tgt := 1247) hx hb dL_law_1242 (by decide) (fun c_7 => ?_) (fun c_7 => ?_)
  · replace hf := hf.1 c_7
    refine lv_iload hx hb dL_law_1247 (lv_at hl 1 rfl) ?_
    refine lv_if_ne (tgt := 1264) hx hb dL_law_1249 (by decide) (fun c_8 => ?_) (fun c_8 => ?_)
    · replace hf := hf.1 c_8
      refine lv_goto (tgt := 1908) hx hb dL_law_1264 (by decide) ?_
      refine W.widen (k := cells + 4) (n := slots + 24) (by omega) (by omega) ?_
      exact kk _ _ _ _ _ hf hw (lv_sub hl [2, 3, 4, 5, 6, 7] rfl)
    · replace hf := hf.2 c_8
      refine lv_aload_n hx hb dL_law_1252 rfl (lv_at hl 5 rfl) ?_
      refine lv_iconst (v := 0) hx hb dL_law_1253 (by decide) ?_
      refine l_out hC hw dL_law_1254 ?_
      refine lv_iload hx hb dL_law_1255 (lv_at hl 0 rfl) ?_
      refine lv_i2l hx hb dL_law_1257 rfl ?_
      refine W.lcmp hx hb dL_law_1258 ?_
      refine lv_if_eq (tgt := 1264) hx hb dL_law_1259 (by decide) (fun c_9 => ?_) (fun c_9 => ?_)
      · replace hf := hf.1 c_9
        refine lv_goto (tgt := 1908) hx hb dL_law_1264 (by decide) ?_
        refine W.widen (k := cells + 4) (n := slots + 24) (by omega) (by omega) ?_
        exact kk _ _ _ _ _ hf hw (lv_sub hl [2, 3, 4, 5, 6, 7] rfl)
      · replace hf := hf.2 c_9
        refine lv_iconst (v := 0) hx hb dL_law_1262 (by decide) ?_
        exact hf.elim
  · replace hf := hf.2 c_7
    refine lv_iconst (v := 0) hx hb dL_law_1245 (by decide) ?_
    exact hf.elim
def qL_21 (a1 a2 a3 a4 : Int32) (Sx Sm : gS) (Post : gS → gS → Prop) : Prop :=
  (pL_drawTree ((a1.toInt64 <<< ((32 : Int32).toInt64 &&& 63)) ||| (a2.toInt64 &&& 4294967295)) a3 Sx (fun k_1 Sx_2 => (pX9_drawTree ((a1.toInt64 <<< ((32 : Int32).toInt64 &&& 63)) ||| (a2.toInt64 &&& 4294967295)) a3 Sm (fun r_3 Sm_4 => (pX9_thrown  Sm_4 (fun r_5 => ((r_5 = k_1 → ((¬ k_1 = 0 → Post Sx_2 Sm_4) ∧ (k_1 = 0 → (((lg_cmp (gB Sx_2 32 0) r_3) = 0 → Post Sx_2 Sm_4) ∧ (¬ (lg_cmp (gB Sx_2 32 0) r_3) = 0 → False))))) ∧ (¬ r_5 = k_1 → False))))))))
set_option maxHeartbeats 40000000 in
set_option maxRecDepth 100000 in
theorem lawc_21 {p : Program} {l : Launch} {e : Env} {s : State} {m : MethodId} {args : Array Value} {below : List Frame} {meth : Method} {c : Code} {H : Heap} {locs : List Loc} {Q : State → Prop} {cells slots : Nat} {ls : Array Slot} {X Y : xG} {A : Nat → Prop} {b L : Nat} {xs : Nat → Int32} {Sx Sm : gS} {i0 a1 a2 a3 a4 : Int32} {Post : gS → gS → Prop} (hlt : l.stackTraces = false) (hC : LC X Y A b L xs p s m args c) (hi1 : vp_in (i0 + 1) L) (hi2 : vp_in (i0 + 2) L) (hi3 : vp_in (i0 + 3) L) (hi4 : vp_in (i0 + 4) L) (ea1 : xs (i0 + 1).toNatClampNeg = a1) (ea2 : xs (i0 + 2).toNatClampNeg = a2) (ea3 : xs (i0 + 3).toNatClampNeg = a3) (ea4 : xs (i0 + 4).toNatClampNeg = a4) (hcs : cells + 4 ≤ 601024) (hss : slots + 24 ≤ 7293034) (hf : qL_21 a1 a2 a3 a4 Sx Sm Post) (hw : LW X Y A s.heap Sx Sm H locs) (hl : lv_has ls 9 [(0, .ref b), (1, .ref (xa X 0)), (2, .ref (xa Y 0)), (3, .ref (xa X 32)), (4, .ref (xa X 33)), (5, .int i0)])
    (kk : ∀ (Sx' Sm' : gS) (H1 : Heap) (locs1 : List Loc) (ls1 : Array Slot), Post Sx' Sm' → LW X Y A s.heap Sx' Sm' H1 locs1 → lv_has ls1 9 [(0, .ref b), (1, .ref (xa X 0)), (2, .ref (xa Y 0)), (3, .ref (xa X 32)), (4, .ref (xa X 33)), (5, .int i0)] → W p l e room_1 s m args below meth c H1 locs1 (cells + 4) (slots + 24) Q (F0 m 1908 ls1 [])) : W p l e room_1 s m args below meth c H locs cells slots Q (F0 m 1267 ls []) := by
  obtain ⟨hx, hb, hml, hown, hts, -⟩ := id hC
  rw [qL_21] at hf
  refine lv_aload_n hx hb dL_law_1267 rfl (lv_at hl 1 rfl) ?_
  refine lv_aload_n hx hb dL_law_1268 rfl (lv_at hl 0 rfl) ?_
  refine lv_iload hx hb dL_law_1269 (lv_at hl 5 rfl) ?_
  refine lv_iconst (v := 1) hx hb dL_law_1271 (by decide) ?_
  refine lv_iadd hx hb dL_law_1272 ?_
  refine l_sldv hC hw hi1 ea1 dL_law_1273 ?_
  refine lv_i2l hx hb dL_law_1274 rfl ?_
  refine lv_bipush (v := 32) hx hb dL_law_1275 (by decide) ?_
  refine lv_lshl hx hb dL_law_1277 rfl ?_
  refine lv_aload_n hx hb dL_law_1278 rfl (lv_at hl 0 rfl) ?_
  refine lv_iload hx hb dL_law_1279 (lv_at hl 5 rfl) ?_
  refine lv_iconst (v := 2) hx hb dL_law_1281 (by decide) ?_
  refine lv_iadd hx hb dL_law_1282 ?_
  refine l_sldv hC hw hi2 ea2 dL_law_1283 ?_
  refine lv_i2l hx hb dL_law_1284 rfl ?_
  refine lv_ldc2 (v := 4294967295) hx hb hown (hts _ q_8) dL_law_1285 ?_
  refine lv_land hx hb dL_law_1288 ?_
  refine lv_lor hx hb dL_law_1289 ?_
  refine lv_aload_n hx hb dL_law_1290 rfl (lv_at hl 0 rfl) ?_
  refine lv_iload hx hb dL_law_1291 (lv_at hl 5 rfl) ?_
  refine lv_iconst (v := 3) hx hb dL_law_1293 (by decide) ?_
  refine lv_iadd hx hb dL_law_1294 ?_
  refine l_sldv hC hw hi3 ea3 dL_law_1295 ?_
  refine lv_aload_n hx hb dL_law_1296 rfl (lv_at hl 3 rfl) ?_
  refine l_cXi hC hw (l_rH (As := [.ref (xa X 0), .long ((a1.toInt64 <<< ((32 : Int32).toInt64 &&& 63)) ||| (a2.toInt64 &&& 4294967295)), .int a3, .ref (xa X 32)]) (rest := []) hC hw (kL_drawTree l hlt X Sx _ ((a1.toInt64 <<< ((32 : Int32).toInt64 &&& 63)) ||| (a2.toInt64 &&& 4294967295)) a3 _ hf) (vx_cwSW 4 hts (gSw q_710 q_711 q_128 q_712) rfl rfl rfl (by decide +kernel) ⟨Nat.le_of_ble_eq_true rfl, Nat.le_of_ble_eq_true rfl⟩) rfl hl.1 rfl (Nat.le_of_ble_eq_true rfl) dL_law_1297 ⟨by show _ ≤ 601024; omega, by show _ ≤ 7293034; omega⟩) (fun k_1 Sx_2 H locs hf hw => ?_)
  refine lv_istore (lv' := [(6, .int k_1), (0, .ref b), (1, .ref (xa X 0)), (2, .ref (xa Y 0)), (3, .ref (xa X 32)), (4, .ref (xa X 33)), (5, .int i0)]) hx hb dL_law_1300 hl (by decide) rfl (fun ls hl => ?_)
  refine lv_aload_n hx hb dL_law_1302 rfl (lv_at hl 3 rfl) ?_
  refine lv_aload_n hx hb dL_law_1303 rfl (lv_at hl 1 rfl) ?_
  refine lv_iload hx hb dL_law_1304 (lv_at hl 6 rfl) ?_
  refine lv_iconst (v := 1) hx hb dL_law_1306 (by decide) ?_
  refine lv_iadd hx hb dL_law_1307 ?_
  refine l_sldv hC hw hi1 ea1 dL_law_1308 ?_
  refine lv_i2l hx hb dL_law_1309 rfl ?_
  refine lv_bipush (v := 32) hx hb dL_law_1310 (by decide) ?_
  refine lv_lshl hx hb dL_law_1312 rfl ?_
  refine lv_aload_n hx hb dL_law_1313 rfl (lv_at hl 1 rfl) ?_
  refine lv_iload hx hb dL_law_1314 (lv_at hl 6 rfl) ?_
  refine lv_iconst (v := 2) hx hb dL_law_1316 (by decide) ?_
  refine lv_iadd hx hb dL_law_1317 ?_
  refine l_sldv hC hw hi2 ea2 dL_law_1318 ?_
  refine lv_i2l hx hb dL_law_1319 rfl ?_
  refine lv_ldc2 (v := 4294967295) hx hb hown (hts _ q_8) dL_law_1320 ?_
  refine lv_land hx hb dL_law_1323 ?_
  refine lv_lor hx hb dL_law_1324 ?_
  refine lv_aload_n hx hb dL_law_1325 rfl (lv_at hl 1 rfl) ?_
  refine lv_iload hx hb dL_law_1326 (lv_at hl 6 rfl) ?_
  refine lv_iconst (v := 3) hx hb dL_law_1328 (by decide) ?_
  refine lv_iadd hx hb dL_law_1329 ?_
  refine l_sldv hC hw hi3 ea3 dL_law_1330 ?_
  refine l_cYl hC hw (l_rY (As := [.long ((a1.toInt64 <<< ((32 : Int32).toInt64 &&& 63)) ||| (a2.toInt64 &&& 4294967295)), .int a3]) (rest := []) hC hw (kX9_drawTree l Y Sm _ ((a1.toInt64 <<< ((32 : Int32).toInt64 &&& 63)) ||| (a2.toInt64 &&& 4294967295)) a3 _ hf) (cwV 2 hts (gV q_762 q_763 q_764 q_5 q_765) rfl rfl rfl (by decide +kernel) ⟨Nat.le_of_ble_eq_true rfl, Nat.le_of_ble_eq_true rfl⟩) rfl hl.1 rfl (Nat.le_of_ble_eq_true rfl) dL_law_1331 ⟨by show _ ≤ 601024; omega, by show _ ≤ 7293034; omega⟩) (fun r_3 Sm_4 H locs hf hw => ?_)
  refine lv_lstore (lv' := [(7, .long r_3), (6, .int k_1), (0, .ref b), (1, .ref (xa X 0)), (2, .ref (xa Y 0)), (3, .ref (xa X 32)), (4, .ref (xa X 33)), (5, .int i0)]) hx hb dL_law_1334 hl (by decide) rfl (fun ls hl => ?_)
  refine lv_aload_n hx hb dL_law_1336 rfl (lv_at hl 4 rfl) ?_
  refine l_cYi hC hw (l_rY (As := []) (rest := []) hC hw (kX9_thrown l Y Sm_4 _  _ hf) (cwV 0 hts (gV q_168 q_169 q_170 q_5 q_171) rfl rfl rfl (by decide +kernel) ⟨Nat.le_of_ble_eq_true rfl, Nat.le_of_ble_eq_true rfl⟩) rfl hl.1 rfl (Nat.le_of_ble_eq_true rfl) dL_law_1337 ⟨by show _ ≤ 601024; omega, by show _ ≤ 7293034; omega⟩) (fun r_5 Sm_6 H locs hf hw => ?_)
  obtain ⟨hf, rfl⟩ := hf
  refine lv_iload hx hb dL_law_1340 (lv_at hl 1 rfl) ?_
  refine lv_icmp_eq (tgt := 1347) hx hb dL_law_1342 (by decide) (fun c_7 => ?_) (fun c_7 => ?_)
  · replace hf := hf.1 c_7
    refine lv_iload hx hb dL_law_1347 (lv_at hl 1 rfl) ?_
    refine lv_if_ne (tgt := 1363) hx hb dL_law_1349 (by decide) (fun c_8 => ?_) (fun c_8 => ?_)
    · replace hf := hf.1 c_8
      refine lv_goto (tgt := 1908) hx hb dL_law_1363 (by decide) ?_
      refine W.widen (k := cells + 4) (n := slots + 24) (by omega) (by omega) ?_
      exact kk _ _ _ _ _ hf hw (lv_sub hl [2, 3, 4, 5, 6, 7] rfl)
    · replace hf := hf.2 c_8
      refine lv_aload_n hx hb dL_law_1352 rfl (lv_at hl 5 rfl) ?_
      refine lv_iconst (v := 0) hx hb dL_law_1353 (by decide) ?_
      refine l_out hC hw dL_law_1354 ?_
      refine lv_lload hx hb dL_law_1355 (lv_at hl 0 rfl) ?_
      refine W.lcmp hx hb dL_law_1357 ?_
      refine lv_if_eq (tgt := 1363) hx hb dL_law_1358 (by decide) (fun c_9 => ?_) (fun c_9 => ?_)
      · replace hf := hf.1 c_9
        refine lv_goto (tgt := 1908) hx hb dL_law_1363 (by decide) ?_
        refine W.widen (k := cells + 4) (n := slots + 24) (by omega) (by omega) ?_
        exact kk _ _ _ _ _ hf hw (lv_sub hl [2, 3, 4, 5, 6, 7] rfl)
      · replace hf := hf.2 c_9
        refine lv_iconst (v := 0) hx hb dL_law_1361 (by decide) ?_
        exact hf.elim
  · replace hf := hf.2 c_7
    refine lv_iconst (v := 0) hx hb dL_law_1345 (by decide) ?_
    exact hf.elim
def qL_22 (a1 a2 a3 a4 : Int32) (Sx Sm : gS) (Post : gS → gS → Prop) : Prop :=
  (pL_takeTree ((a1.toInt64 <<< ((32 : Int32).toInt64 &&& 63)) ||| (a2.toInt64 &&& 4294967295)) Sx (fun k_1 Sx_2 => (pX9_takeTree ((a1.toInt64 <<< ((32 : Int32).toInt64 &&& 63)) ||| (a2.toInt64 &&& 4294967295)) Sm (fun r_3 Sm_4 => (pX9_thrown  Sm_4 (fun r_5 => ((r_5 = k_1 → ((¬ k_1 = 0 → Post Sx_2 Sm_4) ∧ (k_1 = 0 → (((lg_cmp (gB Sx_2 32 0) r_3.toInt64) = 0 → Post Sx_2 Sm_4) ∧ (¬ (lg_cmp (gB Sx_2 32 0) r_3.toInt64) = 0 → False))))) ∧ (¬ r_5 = k_1 → False))))))))
set_option maxHeartbeats 40000000 in
set_option maxRecDepth 100000 in
theorem lawc_22 {p : Program} {l : Launch} {e : Env} {s : State} {m : MethodId} {args : Array Value} {below : List Frame} {meth : Method} {c : Code} {H : Heap} {locs : List Loc} {Q : State → Prop} {cells slots : Nat} {ls : Array Slot} {X Y : xG} {A : Nat → Prop} {b L : Nat} {xs : Nat → Int32} {Sx Sm : gS} {i0 a1 a2 a3 a4 : Int32} {Post : gS → gS → Prop} (hlt : l.stackTraces = false) (hC : LC X Y A b L xs p s m args c) (hi1 : vp_in (i0 + 1) L) (hi2 : vp_in (i0 + 2) L) (hi3 : vp_in (i0 + 3) L) (hi4 : vp_in (i0 + 4) L) (ea1 : xs (i0 + 1).toNatClampNeg = a1) (ea2 : xs (i0 + 2).toNatClampNeg = a2) (ea3 : xs (i0 + 3).toNatClampNeg = a3) (ea4 : xs (i0 + 4).toNatClampNeg = a4) (hcs : cells + 4 ≤ 601024) (hss : slots + 24 ≤ 7293034) (hf : qL_22 a1 a2 a3 a4 Sx Sm Post) (hw : LW X Y A s.heap Sx Sm H locs) (hl : lv_has ls 9 [(0, .ref b), (1, .ref (xa X 0)), (2, .ref (xa Y 0)), (3, .ref (xa X 32)), (4, .ref (xa X 33)), (5, .int i0)])
    (kk : ∀ (Sx' Sm' : gS) (H1 : Heap) (locs1 : List Loc) (ls1 : Array Slot), Post Sx' Sm' → LW X Y A s.heap Sx' Sm' H1 locs1 → lv_has ls1 9 [(0, .ref b), (1, .ref (xa X 0)), (2, .ref (xa Y 0)), (3, .ref (xa X 32)), (4, .ref (xa X 33)), (5, .int i0)] → W p l e room_1 s m args below meth c H1 locs1 (cells + 4) (slots + 24) Q (F0 m 1908 ls1 [])) : W p l e room_1 s m args below meth c H locs cells slots Q (F0 m 1366 ls []) := by
  obtain ⟨hx, hb, hml, hown, hts, -⟩ := id hC
  rw [qL_22] at hf
  refine lv_aload_n hx hb dL_law_1366 rfl (lv_at hl 1 rfl) ?_
  refine lv_aload_n hx hb dL_law_1367 rfl (lv_at hl 0 rfl) ?_
  refine lv_iload hx hb dL_law_1368 (lv_at hl 5 rfl) ?_
  refine lv_iconst (v := 1) hx hb dL_law_1370 (by decide) ?_
  refine lv_iadd hx hb dL_law_1371 ?_
  refine l_sldv hC hw hi1 ea1 dL_law_1372 ?_
  refine lv_i2l hx hb dL_law_1373 rfl ?_
  refine lv_bipush (v := 32) hx hb dL_law_1374 (by decide) ?_
  refine lv_lshl hx hb dL_law_1376 rfl ?_
  refine lv_aload_n hx hb dL_law_1377 rfl (lv_at hl 0 rfl) ?_
  refine lv_iload hx hb dL_law_1378 (lv_at hl 5 rfl) ?_
  refine lv_iconst (v := 2) hx hb dL_law_1380 (by decide) ?_
  refine lv_iadd hx hb dL_law_1381 ?_
  refine l_sldv hC hw hi2 ea2 dL_law_1382 ?_
  refine lv_i2l hx hb dL_law_1383 rfl ?_
  refine lv_ldc2 (v := 4294967295) hx hb hown (hts _ q_8) dL_law_1384 ?_
  refine lv_land hx hb dL_law_1387 ?_
  refine lv_lor hx hb dL_law_1388 ?_
  refine lv_aload_n hx hb dL_law_1389 rfl (lv_at hl 3 rfl) ?_
  refine l_cXi hC hw (l_rH (As := [.ref (xa X 0), .long ((a1.toInt64 <<< ((32 : Int32).toInt64 &&& 63)) ||| (a2.toInt64 &&& 4294967295)), .ref (xa X 32)]) (rest := []) hC hw (kL_takeTree l hlt X Sx _ ((a1.toInt64 <<< ((32 : Int32).toInt64 &&& 63)) ||| (a2.toInt64 &&& 4294967295)) _ hf) (vx_cwSW 3 hts (gSw q_783 q_784 q_128 q_785) rfl rfl rfl (by decide +kernel) ⟨Nat.le_of_ble_eq_true rfl, Nat.le_of_ble_eq_true rfl⟩) rfl hl.1 rfl (Nat.le_of_ble_eq_true rfl) dL_law_1390 ⟨by show _ ≤ 601024; omega, by show _ ≤ 7293034; omega⟩) (fun k_1 Sx_2 H locs hf hw => ?_)
  refine lv_istore (lv' := [(6, .int k_1), (0, .ref b), (1, .ref (xa X 0)), (2, .ref (xa Y 0)), (3, .ref (xa X 32)), (4, .ref (xa X 33)), (5, .int i0)]) hx hb dL_law_1393 hl (by decide) rfl (fun ls hl => ?_)
  refine lv_aload_n hx hb dL_law_1395 rfl (lv_at hl 3 rfl) ?_
  refine lv_aload_n hx hb dL_law_1396 rfl (lv_at hl 1 rfl) ?_
  refine lv_iload hx hb dL_law_1397 (lv_at hl 6 rfl) ?_
  refine lv_iconst (v := 1) hx hb dL_law_1399 (by decide) ?_
  refine lv_iadd hx hb dL_law_1400 ?_
  refine l_sldv hC hw hi1 ea1 dL_law_1401 ?_
  refine lv_i2l hx hb dL_law_1402 rfl ?_
  refine lv_bipush (v := 32) hx hb dL_law_1403 (by decide) ?_
  refine lv_lshl hx hb dL_law_1405 rfl ?_
  refine lv_aload_n hx hb dL_law_1406 rfl (lv_at hl 1 rfl) ?_
  refine lv_iload hx hb dL_law_1407 (lv_at hl 6 rfl) ?_
  refine lv_iconst (v := 2) hx hb dL_law_1409 (by decide) ?_
  refine lv_iadd hx hb dL_law_1410 ?_
  refine l_sldv hC hw hi2 ea2 dL_law_1411 ?_
  refine lv_i2l hx hb dL_law_1412 rfl ?_
  refine lv_ldc2 (v := 4294967295) hx hb hown (hts _ q_8) dL_law_1413 ?_
  refine lv_land hx hb dL_law_1416 ?_
  refine lv_lor hx hb dL_law_1417 ?_
  refine l_cYi hC hw (l_rY (As := [.long ((a1.toInt64 <<< ((32 : Int32).toInt64 &&& 63)) ||| (a2.toInt64 &&& 4294967295))]) (rest := []) hC hw (kX9_takeTree l Y Sm _ ((a1.toInt64 <<< ((32 : Int32).toInt64 &&& 63)) ||| (a2.toInt64 &&& 4294967295)) _ hf) (cwV 1 hts (gV q_791 q_792 q_793 q_5 q_794) rfl rfl rfl (by decide +kernel) ⟨Nat.le_of_ble_eq_true rfl, Nat.le_of_ble_eq_true rfl⟩) rfl hl.1 rfl (Nat.le_of_ble_eq_true rfl) dL_law_1418 ⟨by show _ ≤ 601024; omega, by show _ ≤ 7293034; omega⟩) (fun r_3 Sm_4 H locs hf hw => ?_)
  refine lv_istore (lv' := [(7, .int r_3), (6, .int k_1), (0, .ref b), (1, .ref (xa X 0)), (2, .ref (xa Y 0)), (3, .ref (xa X 32)), (4, .ref (xa X 33)), (5, .int i0)]) hx hb dL_law_1421 hl (by decide) rfl (fun ls hl => ?_)
  refine lv_aload_n hx hb dL_law_1423 rfl (lv_at hl 4 rfl) ?_
  refine l_cYi hC hw (l_rY (As := []) (rest := []) hC hw (kX9_thrown l Y Sm_4 _  _ hf) (cwV 0 hts (gV q_168 q_169 q_170 q_5 q_171) rfl rfl rfl (by decide +kernel) ⟨Nat.le_of_ble_eq_true rfl, Nat.le_of_ble_eq_true rfl⟩) rfl hl.1 rfl (Nat.le_of_ble_eq_true rfl) dL_law_1424 ⟨by show _ ≤ 601024; omega, by show _ ≤ 7293034; omega⟩) (fun r_5 Sm_6 H locs hf hw => ?_)
  obtain ⟨hf, rfl⟩ := hf
  refine lv_iload hx hb dL_law_1427 (lv_at hl 1 rfl) ?_
  refine lv_icmp_eq (tgt := 1434) hx hb dL_law_1429 (by decide) (fun c_7 => ?_) (fun c_7 => ?_)
  · replace hf := hf.1 c_7
    refine lv_iload hx hb dL_law_1434 (lv_at hl 1 rfl) ?_
    refine lv_if_ne (tgt := 1451) hx hb dL_law_1436 (by decide) (fun c_8 => ?_) (fun c_8 => ?_)
    · replace hf := hf.1 c_8
      refine lv_goto (tgt := 1908) hx hb dL_law_1451 (by decide) ?_
      refine W.widen (k := cells + 4) (n := slots + 24) (by omega) (by omega) ?_
      exact kk _ _ _ _ _ hf hw (lv_sub hl [2, 3, 4, 5, 6, 7] rfl)
    · replace hf := hf.2 c_8
      refine lv_aload_n hx hb dL_law_1439 rfl (lv_at hl 5 rfl) ?_
      refine lv_iconst (v := 0) hx hb dL_law_1440 (by decide) ?_
      refine l_out hC hw dL_law_1441 ?_
      refine lv_iload hx hb dL_law_1442 (lv_at hl 0 rfl) ?_
      refine lv_i2l hx hb dL_law_1444 rfl ?_
      refine W.lcmp hx hb dL_law_1445 ?_
      refine lv_if_eq (tgt := 1451) hx hb dL_law_1446 (by decide) (fun c_9 => ?_) (fun c_9 => ?_)
      · replace hf := hf.1 c_9
        refine lv_goto (tgt := 1908) hx hb dL_law_1451 (by decide) ?_
        refine W.widen (k := cells + 4) (n := slots + 24) (by omega) (by omega) ?_
        exact kk _ _ _ _ _ hf hw (lv_sub hl [2, 3, 4, 5, 6, 7] rfl)
      · replace hf := hf.2 c_9
        refine lv_iconst (v := 0) hx hb dL_law_1449 (by decide) ?_
        exact hf.elim
  · replace hf := hf.2 c_7
    refine lv_iconst (v := 0) hx hb dL_law_1432 (by decide) ?_
    exact hf.elim
def qL_23 (a1 a2 a3 a4 : Int32) (Sx Sm : gS) (Post : gS → gS → Prop) : Prop :=
  (pL_treeNumber  Sx (fun k_1 Sx_2 => (pX9_treeNumber  Sm (fun r_3 Sm_4 => (pX9_thrown  Sm_4 (fun r_5 => ((r_5 = k_1 → ((¬ k_1 = 0 → Post Sx_2 Sm_4) ∧ (k_1 = 0 → (((lg_cmp (gB Sx_2 32 0) r_3) = 0 → Post Sx_2 Sm_4) ∧ (¬ (lg_cmp (gB Sx_2 32 0) r_3) = 0 → False))))) ∧ (¬ r_5 = k_1 → False))))))))
set_option maxHeartbeats 40000000 in
set_option maxRecDepth 100000 in
theorem lawc_23 {p : Program} {l : Launch} {e : Env} {s : State} {m : MethodId} {args : Array Value} {below : List Frame} {meth : Method} {c : Code} {H : Heap} {locs : List Loc} {Q : State → Prop} {cells slots : Nat} {ls : Array Slot} {X Y : xG} {A : Nat → Prop} {b L : Nat} {xs : Nat → Int32} {Sx Sm : gS} {i0 a1 a2 a3 a4 : Int32} {Post : gS → gS → Prop} (hlt : l.stackTraces = false) (hC : LC X Y A b L xs p s m args c) (hi1 : vp_in (i0 + 1) L) (hi2 : vp_in (i0 + 2) L) (hi3 : vp_in (i0 + 3) L) (hi4 : vp_in (i0 + 4) L) (ea1 : xs (i0 + 1).toNatClampNeg = a1) (ea2 : xs (i0 + 2).toNatClampNeg = a2) (ea3 : xs (i0 + 3).toNatClampNeg = a3) (ea4 : xs (i0 + 4).toNatClampNeg = a4) (hcs : cells + 4 ≤ 601024) (hss : slots + 24 ≤ 7293034) (hf : qL_23 a1 a2 a3 a4 Sx Sm Post) (hw : LW X Y A s.heap Sx Sm H locs) (hl : lv_has ls 9 [(0, .ref b), (1, .ref (xa X 0)), (2, .ref (xa Y 0)), (3, .ref (xa X 32)), (4, .ref (xa X 33)), (5, .int i0)])
    (kk : ∀ (Sx' Sm' : gS) (H1 : Heap) (locs1 : List Loc) (ls1 : Array Slot), Post Sx' Sm' → LW X Y A s.heap Sx' Sm' H1 locs1 → lv_has ls1 9 [(0, .ref b), (1, .ref (xa X 0)), (2, .ref (xa Y 0)), (3, .ref (xa X 32)), (4, .ref (xa X 33)), (5, .int i0)] → W p l e room_1 s m args below meth c H1 locs1 (cells + 4) (slots + 24) Q (F0 m 1908 ls1 [])) : W p l e room_1 s m args below meth c H locs cells slots Q (F0 m 1454 ls []) := by
  obtain ⟨hx, hb, hml, hown, hts, -⟩ := id hC
  rw [qL_23] at hf
  refine lv_aload_n hx hb dL_law_1454 rfl (lv_at hl 1 rfl) ?_
  refine lv_aload_n hx hb dL_law_1455 rfl (lv_at hl 3 rfl) ?_
  refine l_cXi hC hw (l_rH (As := [.ref (xa X 0), .ref (xa X 32)]) (rest := []) hC hw (kL_treeNumber l hlt X Sx _  _ hf) (vx_cwSW 2 hts (gSw q_795 q_796 q_128 q_797) rfl rfl rfl (by decide +kernel) ⟨Nat.le_of_ble_eq_true rfl, Nat.le_of_ble_eq_true rfl⟩) rfl hl.1 rfl (Nat.le_of_ble_eq_true rfl) dL_law_1456 ⟨by show _ ≤ 601024; omega, by show _ ≤ 7293034; omega⟩) (fun k_1 Sx_2 H locs hf hw => ?_)
  refine lv_istore (lv' := [(6, .int k_1), (0, .ref b), (1, .ref (xa X 0)), (2, .ref (xa Y 0)), (3, .ref (xa X 32)), (4, .ref (xa X 33)), (5, .int i0)]) hx hb dL_law_1459 hl (by decide) rfl (fun ls hl => ?_)
  refine lv_aload_n hx hb dL_law_1461 rfl (lv_at hl 3 rfl) ?_
  refine l_cYl hC hw (l_rY (As := []) (rest := []) hC hw (kX9_treeNumber l Y Sm _  _ hf) (cwV 0 hts (gV q_806 q_807 q_808 q_5 q_809) rfl rfl rfl (by decide +kernel) ⟨Nat.le_of_ble_eq_true rfl, Nat.le_of_ble_eq_true rfl⟩) rfl hl.1 rfl (Nat.le_of_ble_eq_true rfl) dL_law_1462 ⟨by show _ ≤ 601024; omega, by show _ ≤ 7293034; omega⟩) (fun r_3 Sm_4 H locs hf hw => ?_)
  refine lv_lstore (lv' := [(7, .long r_3), (6, .int k_1), (0, .ref b), (1, .ref (xa X 0)), (2, .ref (xa Y 0)), (3, .ref (xa X 32)), (4, .ref (xa X 33)), (5, .int i0)]) hx hb dL_law_1465 hl (by decide) rfl (fun ls hl => ?_)
  refine lv_aload_n hx hb dL_law_1467 rfl (lv_at hl 4 rfl) ?_
  refine l_cYi hC hw (l_rY (As := []) (rest := []) hC hw (kX9_thrown l Y Sm_4 _  _ hf) (cwV 0 hts (gV q_168 q_169 q_170 q_5 q_171) rfl rfl rfl (by decide +kernel) ⟨Nat.le_of_ble_eq_true rfl, Nat.le_of_ble_eq_true rfl⟩) rfl hl.1 rfl (Nat.le_of_ble_eq_true rfl) dL_law_1468 ⟨by show _ ≤ 601024; omega, by show _ ≤ 7293034; omega⟩) (fun r_5 Sm_6 H locs hf hw => ?_)
  obtain ⟨hf, rfl⟩ := hf
  refine lv_iload hx hb dL_law_1471 (lv_at hl 1 rfl) ?_
  refine lv_icmp_eq (tgt := 1478) hx hb dL_law_1473 (by decide) (fun c_7 => ?_) (fun c_7 => ?_)
  · replace hf := hf.1 c_7
    refine lv_iload hx hb dL_law_1478 (lv_at hl 1 rfl) ?_
    refine lv_if_ne (tgt := 1494) hx hb dL_law_1480 (by decide) (fun c_8 => ?_) (fun c_8 => ?_)
    · replace hf := hf.1 c_8
      refine lv_goto (tgt := 1908) hx hb dL_law_1494 (by decide) ?_
      refine W.widen (k := cells + 4) (n := slots + 24) (by omega) (by omega) ?_
      exact kk _ _ _ _ _ hf hw (lv_sub hl [2, 3, 4, 5, 6, 7] rfl)
    · replace hf := hf.2 c_8
      refine lv_aload_n hx hb dL_law_1483 rfl (lv_at hl 5 rfl) ?_
      refine lv_iconst (v := 0) hx hb dL_law_1484 (by decide) ?_
      refine l_out hC hw dL_law_1485 ?_
      refine lv_lload hx hb dL_law_1486 (lv_at hl 0 rfl) ?_
      refine W.lcmp hx hb dL_law_1488 ?_
      refine lv_if_eq (tgt := 1494) hx hb dL_law_1489 (by decide) (fun c_9 => ?_) (fun c_9 => ?_)
      · replace hf := hf.1 c_9
        refine lv_goto (tgt := 1908) hx hb dL_law_1494 (by decide) ?_
        refine W.widen (k := cells + 4) (n := slots + 24) (by omega) (by omega) ?_
        exact kk _ _ _ _ _ hf hw (lv_sub hl [2, 3, 4, 5, 6, 7] rfl)
      · replace hf := hf.2 c_9
        refine lv_iconst (v := 0) hx hb dL_law_1492 (by decide) ?_
        exact hf.elim
  · replace hf := hf.2 c_7
    refine lv_iconst (v := 0) hx hb dL_law_1476 (by decide) ?_
    exact hf.elim
def qL_24 (a1 a2 a3 a4 : Int32) (Sx Sm : gS) (Post : gS → gS → Prop) : Prop :=
  (pL_treeSize  Sx (fun k_1 Sx_2 => (pX9_treeSize  Sm (fun r_3 Sm_4 => (pX9_thrown  Sm_4 (fun r_5 => ((r_5 = k_1 → ((¬ k_1 = 0 → Post Sx_2 Sm_4) ∧ (k_1 = 0 → (((lg_cmp (gB Sx_2 32 0) r_3.toInt64) = 0 → Post Sx_2 Sm_4) ∧ (¬ (lg_cmp (gB Sx_2 32 0) r_3.toInt64) = 0 → False))))) ∧ (¬ r_5 = k_1 → False))))))))
set_option maxHeartbeats 40000000 in
set_option maxRecDepth 100000 in
theorem lawc_24 {p : Program} {l : Launch} {e : Env} {s : State} {m : MethodId} {args : Array Value} {below : List Frame} {meth : Method} {c : Code} {H : Heap} {locs : List Loc} {Q : State → Prop} {cells slots : Nat} {ls : Array Slot} {X Y : xG} {A : Nat → Prop} {b L : Nat} {xs : Nat → Int32} {Sx Sm : gS} {i0 a1 a2 a3 a4 : Int32} {Post : gS → gS → Prop} (hlt : l.stackTraces = false) (hC : LC X Y A b L xs p s m args c) (hi1 : vp_in (i0 + 1) L) (hi2 : vp_in (i0 + 2) L) (hi3 : vp_in (i0 + 3) L) (hi4 : vp_in (i0 + 4) L) (ea1 : xs (i0 + 1).toNatClampNeg = a1) (ea2 : xs (i0 + 2).toNatClampNeg = a2) (ea3 : xs (i0 + 3).toNatClampNeg = a3) (ea4 : xs (i0 + 4).toNatClampNeg = a4) (hcs : cells + 4 ≤ 601024) (hss : slots + 24 ≤ 7293034) (hf : qL_24 a1 a2 a3 a4 Sx Sm Post) (hw : LW X Y A s.heap Sx Sm H locs) (hl : lv_has ls 9 [(0, .ref b), (1, .ref (xa X 0)), (2, .ref (xa Y 0)), (3, .ref (xa X 32)), (4, .ref (xa X 33)), (5, .int i0)])
    (kk : ∀ (Sx' Sm' : gS) (H1 : Heap) (locs1 : List Loc) (ls1 : Array Slot), Post Sx' Sm' → LW X Y A s.heap Sx' Sm' H1 locs1 → lv_has ls1 9 [(0, .ref b), (1, .ref (xa X 0)), (2, .ref (xa Y 0)), (3, .ref (xa X 32)), (4, .ref (xa X 33)), (5, .int i0)] → W p l e room_1 s m args below meth c H1 locs1 (cells + 4) (slots + 24) Q (F0 m 1908 ls1 [])) : W p l e room_1 s m args below meth c H locs cells slots Q (F0 m 1497 ls []) := by
  obtain ⟨hx, hb, hml, hown, hts, -⟩ := id hC
  rw [qL_24] at hf
  refine lv_aload_n hx hb dL_law_1497 rfl (lv_at hl 1 rfl) ?_
  refine lv_aload_n hx hb dL_law_1498 rfl (lv_at hl 3 rfl) ?_
  refine l_cXi hC hw (l_rH (As := [.ref (xa X 0), .ref (xa X 32)]) (rest := []) hC hw (kL_treeSize l hlt X Sx _  _ hf) (vx_cwSW 2 hts (gSw q_823 q_824 q_128 q_825) rfl rfl rfl (by decide +kernel) ⟨Nat.le_of_ble_eq_true rfl, Nat.le_of_ble_eq_true rfl⟩) rfl hl.1 rfl (Nat.le_of_ble_eq_true rfl) dL_law_1499 ⟨by show _ ≤ 601024; omega, by show _ ≤ 7293034; omega⟩) (fun k_1 Sx_2 H locs hf hw => ?_)
  refine lv_istore (lv' := [(6, .int k_1), (0, .ref b), (1, .ref (xa X 0)), (2, .ref (xa Y 0)), (3, .ref (xa X 32)), (4, .ref (xa X 33)), (5, .int i0)]) hx hb dL_law_1502 hl (by decide) rfl (fun ls hl => ?_)
  refine lv_aload_n hx hb dL_law_1504 rfl (lv_at hl 3 rfl) ?_
  refine l_cYi hC hw (l_rY (As := []) (rest := []) hC hw (kX9_treeSize l Y Sm _  _ hf) (cwV 0 hts (gV q_830 q_831 q_832 q_5 q_833) rfl rfl rfl (by decide +kernel) ⟨Nat.le_of_ble_eq_true rfl, Nat.le_of_ble_eq_true rfl⟩) rfl hl.1 rfl (Nat.le_of_ble_eq_true rfl) dL_law_1505 ⟨by show _ ≤ 601024; omega, by show _ ≤ 7293034; omega⟩) (fun r_3 Sm_4 H locs hf hw => ?_)
  refine lv_istore (lv' := [(7, .int r_3), (6, .int k_1), (0, .ref b), (1, .ref (xa X 0)), (2, .ref (xa Y 0)), (3, .ref (xa X 32)), (4, .ref (xa X 33)), (5, .int i0)]) hx hb dL_law_1508 hl (by decide) rfl (fun ls hl => ?_)
  refine lv_aload_n hx hb dL_law_1510 rfl (lv_at hl 4 rfl) ?_
  refine l_cYi hC hw (l_rY (As := []) (rest := []) hC hw (kX9_thrown l Y Sm_4 _  _ hf) (cwV 0 hts (gV q_168 q_169 q_170 q_5 q_171) rfl rfl rfl (by decide +kernel) ⟨Nat.le_of_ble_eq_true rfl, Nat.le_of_ble_eq_true rfl⟩) rfl hl.1 rfl (Nat.le_of_ble_eq_true rfl) dL_law_1511 ⟨by show _ ≤ 601024; omega, by show _ ≤ 7293034; omega⟩) (fun r_5 Sm_6 H locs hf hw => ?_)
  obtain ⟨hf, rfl⟩ := hf
  refine lv_iload hx hb dL_law_1514 (lv_at hl 1 rfl) ?_
  refine lv_icmp_eq (tgt := 1521) hx hb dL_law_1516 (by decide) (fun c_7 => ?_) (fun c_7 => ?_)
  · replace hf := hf.1 c_7
    refine lv_iload hx hb dL_law_1521 (lv_at hl 1 rfl) ?_
    refine lv_if_ne (tgt := 1538) hx hb dL_law_1523 (by decide) (fun c_8 => ?_) (fun c_8 => ?_)
    · replace hf := hf.1 c_8
      refine lv_goto (tgt := 1908) hx hb dL_law_1538 (by decide) ?_
      refine W.widen (k := cells + 4) (n := slots + 24) (by omega) (by omega) ?_
      exact kk _ _ _ _ _ hf hw (lv_sub hl [2, 3, 4, 5, 6, 7] rfl)
    · replace hf := hf.2 c_8
      refine lv_aload_n hx hb dL_law_1526 rfl (lv_at hl 5 rfl) ?_
      refine lv_iconst (v := 0) hx hb dL_law_1527 (by decide) ?_
      refine l_out hC hw dL_law_1528 ?_
      refine lv_iload hx hb dL_law_1529 (lv_at hl 0 rfl) ?_
      refine lv_i2l hx hb dL_law_1531 rfl ?_
      refine W.lcmp hx hb dL_law_1532 ?_
      refine lv_if_eq (tgt := 1538) hx hb dL_law_1533 (by decide) (fun c_9 => ?_) (fun c_9 => ?_)
      · replace hf := hf.1 c_9
        refine lv_goto (tgt := 1908) hx hb dL_law_1538 (by decide) ?_
        refine W.widen (k := cells + 4) (n := slots + 24) (by omega) (by omega) ?_
        exact kk _ _ _ _ _ hf hw (lv_sub hl [2, 3, 4, 5, 6, 7] rfl)
      · replace hf := hf.2 c_9
        refine lv_iconst (v := 0) hx hb dL_law_1536 (by decide) ?_
        exact hf.elim
  · replace hf := hf.2 c_7
    refine lv_iconst (v := 0) hx hb dL_law_1519 (by decide) ?_
    exact hf.elim
def qL_25 (a1 a2 a3 a4 : Int32) (Sx Sm : gS) (Post : gS → gS → Prop) : Prop :=
  (pL_treeNode a1 a2 Sx (fun k_1 Sx_2 => (pX9_treeNode a1 a2 Sm (fun r_3 Sm_4 => (pX9_thrown  Sm_4 (fun r_5 => ((r_5 = k_1 → ((¬ k_1 = 0 → Post Sx_2 Sm_4) ∧ (k_1 = 0 → (((lg_cmp (gB Sx_2 32 0) r_3.toInt64) = 0 → Post Sx_2 Sm_4) ∧ (¬ (lg_cmp (gB Sx_2 32 0) r_3.toInt64) = 0 → False))))) ∧ (¬ r_5 = k_1 → False))))))))
set_option maxHeartbeats 40000000 in
set_option maxRecDepth 100000 in
theorem lawc_25 {p : Program} {l : Launch} {e : Env} {s : State} {m : MethodId} {args : Array Value} {below : List Frame} {meth : Method} {c : Code} {H : Heap} {locs : List Loc} {Q : State → Prop} {cells slots : Nat} {ls : Array Slot} {X Y : xG} {A : Nat → Prop} {b L : Nat} {xs : Nat → Int32} {Sx Sm : gS} {i0 a1 a2 a3 a4 : Int32} {Post : gS → gS → Prop} (hlt : l.stackTraces = false) (hC : LC X Y A b L xs p s m args c) (hi1 : vp_in (i0 + 1) L) (hi2 : vp_in (i0 + 2) L) (hi3 : vp_in (i0 + 3) L) (hi4 : vp_in (i0 + 4) L) (ea1 : xs (i0 + 1).toNatClampNeg = a1) (ea2 : xs (i0 + 2).toNatClampNeg = a2) (ea3 : xs (i0 + 3).toNatClampNeg = a3) (ea4 : xs (i0 + 4).toNatClampNeg = a4) (hcs : cells + 4 ≤ 601024) (hss : slots + 24 ≤ 7293034) (hf : qL_25 a1 a2 a3 a4 Sx Sm Post) (hw : LW X Y A s.heap Sx Sm H locs) (hl : lv_has ls 9 [(0, .ref b), (1, .ref (xa X 0)), (2, .ref (xa Y 0)), (3, .ref (xa X 32)), (4, .ref (xa X 33)), (5, .int i0)])
    (kk : ∀ (Sx' Sm' : gS) (H1 : Heap) (locs1 : List Loc) (ls1 : Array Slot), Post Sx' Sm' → LW X Y A s.heap Sx' Sm' H1 locs1 → lv_has ls1 9 [(0, .ref b), (1, .ref (xa X 0)), (2, .ref (xa Y 0)), (3, .ref (xa X 32)), (4, .ref (xa X 33)), (5, .int i0)] → W p l e room_1 s m args below meth c H1 locs1 (cells + 4) (slots + 24) Q (F0 m 1908 ls1 [])) : W p l e room_1 s m args below meth c H locs cells slots Q (F0 m 1541 ls []) := by
  obtain ⟨hx, hb, hml, hown, hts, -⟩ := id hC
  rw [qL_25] at hf
  refine lv_aload_n hx hb dL_law_1541 rfl (lv_at hl 1 rfl) ?_
  refine lv_aload_n hx hb dL_law_1542 rfl (lv_at hl 0 rfl) ?_
  refine lv_iload hx hb dL_law_1543 (lv_at hl 5 rfl) ?_
  refine lv_iconst (v := 1) hx hb dL_law_1545 (by decide) ?_
  refine lv_iadd hx hb dL_law_1546 ?_
  refine l_sldv hC hw hi1 ea1 dL_law_1547 ?_
  refine lv_aload_n hx hb dL_law_1548 rfl (lv_at hl 0 rfl) ?_
  refine lv_iload hx hb dL_law_1549 (lv_at hl 5 rfl) ?_
  refine lv_iconst (v := 2) hx hb dL_law_1551 (by decide) ?_
  refine lv_iadd hx hb dL_law_1552 ?_
  refine l_sldv hC hw hi2 ea2 dL_law_1553 ?_
  refine lv_aload_n hx hb dL_law_1554 rfl (lv_at hl 3 rfl) ?_
  refine l_cXi hC hw (l_rH (As := [.ref (xa X 0), .int a1, .int a2, .ref (xa X 32)]) (rest := []) hC hw (kL_treeNode l hlt X Sx _ a1 a2 _ hf) (vx_cwSW 4 hts (gSw q_834 q_835 q_128 q_836) rfl rfl rfl (by decide +kernel) ⟨Nat.le_of_ble_eq_true rfl, Nat.le_of_ble_eq_true rfl⟩) rfl hl.1 rfl (Nat.le_of_ble_eq_true rfl) dL_law_1555 ⟨by show _ ≤ 601024; omega, by show _ ≤ 7293034; omega⟩) (fun k_1 Sx_2 H locs hf hw => ?_)
  refine lv_istore (lv' := [(6, .int k_1), (0, .ref b), (1, .ref (xa X 0)), (2, .ref (xa Y 0)), (3, .ref (xa X 32)), (4, .ref (xa X 33)), (5, .int i0)]) hx hb dL_law_1558 hl (by decide) rfl (fun ls hl => ?_)
  refine lv_aload_n hx hb dL_law_1560 rfl (lv_at hl 3 rfl) ?_
  refine lv_aload_n hx hb dL_law_1561 rfl (lv_at hl 1 rfl) ?_
  refine lv_iload hx hb dL_law_1562 (lv_at hl 6 rfl) ?_
  refine lv_iconst (v := 1) hx hb dL_law_1564 (by decide) ?_
  refine lv_iadd hx hb dL_law_1565 ?_
  refine l_sldv hC hw hi1 ea1 dL_law_1566 ?_
  refine lv_aload_n hx hb dL_law_1567 rfl (lv_at hl 1 rfl) ?_
  refine lv_iload hx hb dL_law_1568 (lv_at hl 6 rfl) ?_
  refine lv_iconst (v := 2) hx hb dL_law_1570 (by decide) ?_
  refine lv_iadd hx hb dL_law_1571 ?_
  refine l_sldv hC hw hi2 ea2 dL_law_1572 ?_
  refine l_cYi hC hw (l_rY (As := [.int a1, .int a2]) (rest := []) hC hw (kX9_treeNode l Y Sm _ a1 a2 _ hf) (cwV 2 hts (gV q_841 q_842 q_843 q_5 q_844) rfl rfl rfl (by decide +kernel) ⟨Nat.le_of_ble_eq_true rfl, Nat.le_of_ble_eq_true rfl⟩) rfl hl.1 rfl (Nat.le_of_ble_eq_true rfl) dL_law_1573 ⟨by show _ ≤ 601024; omega, by show _ ≤ 7293034; omega⟩) (fun r_3 Sm_4 H locs hf hw => ?_)
  refine lv_istore (lv' := [(7, .int r_3), (6, .int k_1), (0, .ref b), (1, .ref (xa X 0)), (2, .ref (xa Y 0)), (3, .ref (xa X 32)), (4, .ref (xa X 33)), (5, .int i0)]) hx hb dL_law_1576 hl (by decide) rfl (fun ls hl => ?_)
  refine lv_aload_n hx hb dL_law_1578 rfl (lv_at hl 4 rfl) ?_
  refine l_cYi hC hw (l_rY (As := []) (rest := []) hC hw (kX9_thrown l Y Sm_4 _  _ hf) (cwV 0 hts (gV q_168 q_169 q_170 q_5 q_171) rfl rfl rfl (by decide +kernel) ⟨Nat.le_of_ble_eq_true rfl, Nat.le_of_ble_eq_true rfl⟩) rfl hl.1 rfl (Nat.le_of_ble_eq_true rfl) dL_law_1579 ⟨by show _ ≤ 601024; omega, by show _ ≤ 7293034; omega⟩) (fun r_5 Sm_6 H locs hf hw => ?_)
  obtain ⟨hf, rfl⟩ := hf
  refine lv_iload hx hb dL_law_1582 (lv_at hl 1 rfl) ?_
  refine lv_icmp_eq (tgt := 1589) hx hb dL_law_1584 (by decide) (fun c_7 => ?_) (fun c_7 => ?_)
  · replace hf := hf.1 c_7
    refine lv_iload hx hb dL_law_1589 (lv_at hl 1 rfl) ?_
    refine lv_if_ne (tgt := 1606) hx hb dL_law_1591 (by decide) (fun c_8 => ?_) (fun c_8 => ?_)
    · replace hf := hf.1 c_8
      refine lv_goto (tgt := 1908) hx hb dL_law_1606 (by decide) ?_
      refine W.widen (k := cells + 4) (n := slots + 24) (by omega) (by omega) ?_
      exact kk _ _ _ _ _ hf hw (lv_sub hl [2, 3, 4, 5, 6, 7] rfl)
    · replace hf := hf.2 c_8
      refine lv_aload_n hx hb dL_law_1594 rfl (lv_at hl 5 rfl) ?_
      refine lv_iconst (v := 0) hx hb dL_law_1595 (by decide) ?_
      refine l_out hC hw dL_law_1596 ?_
      refine lv_iload hx hb dL_law_1597 (lv_at hl 0 rfl) ?_
      refine lv_i2l hx hb dL_law_1599 rfl ?_
      refine W.lcmp hx hb dL_law_1600 ?_
      refine lv_if_eq (tgt := 1606) hx hb dL_law_1601 (by decide) (fun c_9 => ?_) (fun c_9 => ?_)
      · replace hf := hf.1 c_9
        refine lv_goto (tgt := 1908) hx hb dL_law_1606 (by decide) ?_
        refine W.widen (k := cells + 4) (n := slots + 24) (by omega) (by omega) ?_
        exact kk _ _ _ _ _ hf hw (lv_sub hl [2, 3, 4, 5, 6, 7] rfl)
      · replace hf := hf.2 c_9
        refine lv_iconst (v := 0) hx hb dL_law_1604 (by decide) ?_
        exact hf.elim
  · replace hf := hf.2 c_7
    refine lv_iconst (v := 0) hx hb dL_law_1587 (by decide) ?_
    exact hf.elim
def qL_26 (a1 a2 a3 a4 : Int32) (Sx Sm : gS) (Post : gS → gS → Prop) : Prop :=
  ((a2 = 0 → (pL_allocate a1 0 a3 Sx (fun k_2 Sx_3 => (pX9_allocate a1 0 a3 Sm (fun Sm_5 => (pX9_thrown  Sm_5 (fun r_6 => ((r_6 = k_2 → Post Sx_3 Sm_5) ∧ (¬ r_6 = k_2 → False))))))))) ∧ (¬ a2 = 0 → (pL_allocate a1 1 a3 Sx (fun k_9 Sx_10 => (pX9_allocate a1 1 a3 Sm (fun Sm_12 => (pX9_thrown  Sm_12 (fun r_13 => ((r_13 = k_9 → Post Sx_10 Sm_12) ∧ (¬ r_13 = k_9 → False))))))))))
set_option maxHeartbeats 40000000 in
set_option maxRecDepth 100000 in
theorem lawc_26 {p : Program} {l : Launch} {e : Env} {s : State} {m : MethodId} {args : Array Value} {below : List Frame} {meth : Method} {c : Code} {H : Heap} {locs : List Loc} {Q : State → Prop} {cells slots : Nat} {ls : Array Slot} {X Y : xG} {A : Nat → Prop} {b L : Nat} {xs : Nat → Int32} {Sx Sm : gS} {i0 a1 a2 a3 a4 : Int32} {Post : gS → gS → Prop} (hlt : l.stackTraces = false) (hC : LC X Y A b L xs p s m args c) (hi1 : vp_in (i0 + 1) L) (hi2 : vp_in (i0 + 2) L) (hi3 : vp_in (i0 + 3) L) (hi4 : vp_in (i0 + 4) L) (ea1 : xs (i0 + 1).toNatClampNeg = a1) (ea2 : xs (i0 + 2).toNatClampNeg = a2) (ea3 : xs (i0 + 3).toNatClampNeg = a3) (ea4 : xs (i0 + 4).toNatClampNeg = a4) (hcs : cells + 4 ≤ 601024) (hss : slots + 24 ≤ 7293034) (hf : qL_26 a1 a2 a3 a4 Sx Sm Post) (hw : LW X Y A s.heap Sx Sm H locs) (hl : lv_has ls 9 [(0, .ref b), (1, .ref (xa X 0)), (2, .ref (xa Y 0)), (3, .ref (xa X 32)), (4, .ref (xa X 33)), (5, .int i0)])
    (kk : ∀ (Sx' Sm' : gS) (H1 : Heap) (locs1 : List Loc) (ls1 : Array Slot), Post Sx' Sm' → LW X Y A s.heap Sx' Sm' H1 locs1 → lv_has ls1 9 [(0, .ref b), (1, .ref (xa X 0)), (2, .ref (xa Y 0)), (3, .ref (xa X 32)), (4, .ref (xa X 33)), (5, .int i0)] → W p l e room_1 s m args below meth c H1 locs1 (cells + 4) (slots + 24) Q (F0 m 1908 ls1 [])) : W p l e room_1 s m args below meth c H locs cells slots Q (F0 m 1609 ls []) := by
  obtain ⟨hx, hb, hml, hown, hts, -⟩ := id hC
  rw [qL_26] at hf
  refine lv_aload_n hx hb dL_law_1609 rfl (lv_at hl 1 rfl) ?_
  refine lv_aload_n hx hb dL_law_1610 rfl (lv_at hl 0 rfl) ?_
  refine lv_iload hx hb dL_law_1611 (lv_at hl 5 rfl) ?_
  refine lv_iconst (v := 1) hx hb dL_law_1613 (by decide) ?_
  refine lv_iadd hx hb dL_law_1614 ?_
  refine l_sldv hC hw hi1 ea1 dL_law_1615 ?_
  refine lv_aload_n hx hb dL_law_1616 rfl (lv_at hl 0 rfl) ?_
  refine lv_iload hx hb dL_law_1617 (lv_at hl 5 rfl) ?_
  refine lv_iconst (v := 2) hx hb dL_law_1619 (by decide) ?_
  refine lv_iadd hx hb dL_law_1620 ?_
  refine l_sldv hC hw hi2 ea2 dL_law_1621 ?_
  refine lv_if_eq (tgt := 1629) hx hb dL_law_1622 (by decide) (fun c_1 => ?_) (fun c_1 => ?_)
  · replace hf := hf.1 c_1
    refine lv_iconst (v := 0) hx hb dL_law_1629 (by decide) ?_
    refine lv_aload_n hx hb dL_law_1630 rfl (lv_at hl 0 rfl) ?_
    refine lv_iload hx hb dL_law_1631 (lv_at hl 5 rfl) ?_
    refine lv_iconst (v := 3) hx hb dL_law_1633 (by decide) ?_
    refine lv_iadd hx hb dL_law_1634 ?_
    refine l_sldv hC hw hi3 ea3 dL_law_1635 ?_
    refine l_cXi hC hw (l_rH (As := [.ref (xa X 0), .int a1, .int 0, .int a3]) (rest := []) hC hw (kL_allocate l hlt X Sx _ a1 0 a3 _ hf) (vx_cwSW 4 hts (gSw q_845 q_846 q_128 q_847) rfl rfl rfl (by decide +kernel) ⟨Nat.le_of_ble_eq_true rfl, Nat.le_of_ble_eq_true rfl⟩) rfl hl.1 rfl (Nat.le_of_ble_eq_true rfl) dL_law_1636 ⟨by show _ ≤ 601024; omega, by show _ ≤ 7293034; omega⟩) (fun k_2 Sx_3 H locs hf hw => ?_)
    refine lv_istore (lv' := [(6, .int k_2), (0, .ref b), (1, .ref (xa X 0)), (2, .ref (xa Y 0)), (3, .ref (xa X 32)), (4, .ref (xa X 33)), (5, .int i0)]) hx hb dL_law_1639 hl (by decide) rfl (fun ls hl => ?_)
    refine lv_aload_n hx hb dL_law_1641 rfl (lv_at hl 3 rfl) ?_
    refine lv_aload_n hx hb dL_law_1642 rfl (lv_at hl 1 rfl) ?_
    refine lv_iload hx hb dL_law_1643 (lv_at hl 6 rfl) ?_
    refine lv_iconst (v := 1) hx hb dL_law_1645 (by decide) ?_
    refine lv_iadd hx hb dL_law_1646 ?_
    refine l_sldv hC hw hi1 ea1 dL_law_1647 ?_
    refine lv_aload_n hx hb dL_law_1648 rfl (lv_at hl 1 rfl) ?_
    refine lv_iload hx hb dL_law_1649 (lv_at hl 6 rfl) ?_
    refine lv_iconst (v := 2) hx hb dL_law_1651 (by decide) ?_
    refine lv_iadd hx hb dL_law_1652 ?_
    refine l_sldv hC hw hi2 ea2 dL_law_1653 ?_
    refine lv_if_eq (tgt := 1661) hx hb dL_law_1654 (by decide) (fun _ => ?_) (fun c9 => absurd c_1 c9)
    refine lv_iconst (v := 0) hx hb dL_law_1661 (by decide) ?_
    refine lv_aload_n hx hb dL_law_1662 rfl (lv_at hl 1 rfl) ?_
    refine lv_iload hx hb dL_law_1663 (lv_at hl 6 rfl) ?_
    refine lv_iconst (v := 3) hx hb dL_law_1665 (by decide) ?_
    refine lv_iadd hx hb dL_law_1666 ?_
    refine l_sldv hC hw hi3 ea3 dL_law_1667 ?_
    refine l_cYv hC hw (l_rY (As := [.int a1, .int 0, .int a3]) (rest := []) hC hw (kX9_allocate l Y Sm _ a1 0 a3 _ hf) (cwV 3 hts (gV q_858 q_859 q_860 q_5 q_861) rfl rfl rfl (by decide +kernel) ⟨Nat.le_of_ble_eq_true rfl, Nat.le_of_ble_eq_true rfl⟩) rfl hl.1 rfl (Nat.le_of_ble_eq_true rfl) dL_law_1668 ⟨by show _ ≤ 601024; omega, by show _ ≤ 7293034; omega⟩) (fun Sm_5 H locs hf hw => ?_)
    refine lv_aload_n hx hb dL_law_1671 rfl (lv_at hl 3 rfl) ?_
    refine l_cYi hC hw (l_rY (As := []) (rest := []) hC hw (kX9_thrown l Y Sm_5 _  _ hf) (cwV 0 hts (gV q_168 q_169 q_170 q_5 q_171) rfl rfl rfl (by decide +kernel) ⟨Nat.le_of_ble_eq_true rfl, Nat.le_of_ble_eq_true rfl⟩) rfl hl.1 rfl (Nat.le_of_ble_eq_true rfl) dL_law_1672 ⟨by show _ ≤ 601024; omega, by show _ ≤ 7293034; omega⟩) (fun r_6 Sm_7 H locs hf hw => ?_)
    obtain ⟨hf, rfl⟩ := hf
    refine lv_iload hx hb dL_law_1675 (lv_at hl 0 rfl) ?_
    refine lv_icmp_eq (tgt := 1682) hx hb dL_law_1677 (by decide) (fun c_8 => ?_) (fun c_8 => ?_)
    · replace hf := hf.1 c_8
      refine lv_goto (tgt := 1908) hx hb dL_law_1682 (by decide) ?_
      refine W.widen (k := cells + 4) (n := slots + 24) (by omega) (by omega) ?_
      exact kk _ _ _ _ _ hf hw (lv_sub hl [1, 2, 3, 4, 5, 6] rfl)
    · replace hf := hf.2 c_8
      refine lv_iconst (v := 0) hx hb dL_law_1680 (by decide) ?_
      exact hf.elim
  · replace hf := hf.2 c_1
    refine lv_iconst (v := 1) hx hb dL_law_1625 (by decide) ?_
    refine lv_goto (tgt := 1630) hx hb dL_law_1626 (by decide) ?_
    refine lv_aload_n hx hb dL_law_1630 rfl (lv_at hl 0 rfl) ?_
    refine lv_iload hx hb dL_law_1631 (lv_at hl 5 rfl) ?_
    refine lv_iconst (v := 3) hx hb dL_law_1633 (by decide) ?_
    refine lv_iadd hx hb dL_law_1634 ?_
    refine l_sldv hC hw hi3 ea3 dL_law_1635 ?_
    refine l_cXi hC hw (l_rH (As := [.ref (xa X 0), .int a1, .int 1, .int a3]) (rest := []) hC hw (kL_allocate l hlt X Sx _ a1 1 a3 _ hf) (vx_cwSW 4 hts (gSw q_845 q_846 q_128 q_847) rfl rfl rfl (by decide +kernel) ⟨Nat.le_of_ble_eq_true rfl, Nat.le_of_ble_eq_true rfl⟩) rfl hl.1 rfl (Nat.le_of_ble_eq_true rfl) dL_law_1636 ⟨by show _ ≤ 601024; omega, by show _ ≤ 7293034; omega⟩) (fun k_9 Sx_10 H locs hf hw => ?_)
    refine lv_istore (lv' := [(6, .int k_9), (0, .ref b), (1, .ref (xa X 0)), (2, .ref (xa Y 0)), (3, .ref (xa X 32)), (4, .ref (xa X 33)), (5, .int i0)]) hx hb dL_law_1639 hl (by decide) rfl (fun ls hl => ?_)
    refine lv_aload_n hx hb dL_law_1641 rfl (lv_at hl 3 rfl) ?_
    refine lv_aload_n hx hb dL_law_1642 rfl (lv_at hl 1 rfl) ?_
    refine lv_iload hx hb dL_law_1643 (lv_at hl 6 rfl) ?_
    refine lv_iconst (v := 1) hx hb dL_law_1645 (by decide) ?_
    refine lv_iadd hx hb dL_law_1646 ?_
    refine l_sldv hC hw hi1 ea1 dL_law_1647 ?_
    refine lv_aload_n hx hb dL_law_1648 rfl (lv_at hl 1 rfl) ?_
    refine lv_iload hx hb dL_law_1649 (lv_at hl 6 rfl) ?_
    refine lv_iconst (v := 2) hx hb dL_law_1651 (by decide) ?_
    refine lv_iadd hx hb dL_law_1652 ?_
    refine l_sldv hC hw hi2 ea2 dL_law_1653 ?_
    refine lv_if_eq (tgt := 1661) hx hb dL_law_1654 (by decide) (fun c9 => absurd c9 c_1) (fun _ => ?_)
    refine lv_iconst (v := 1) hx hb dL_law_1657 (by decide) ?_
    refine lv_goto (tgt := 1662) hx hb dL_law_1658 (by decide) ?_
    refine lv_aload_n hx hb dL_law_1662 rfl (lv_at hl 1 rfl) ?_
    refine lv_iload hx hb dL_law_1663 (lv_at hl 6 rfl) ?_
    refine lv_iconst (v := 3) hx hb dL_law_1665 (by decide) ?_
    refine lv_iadd hx hb dL_law_1666 ?_
    refine l_sldv hC hw hi3 ea3 dL_law_1667 ?_
    refine l_cYv hC hw (l_rY (As := [.int a1, .int 1, .int a3]) (rest := []) hC hw (kX9_allocate l Y Sm _ a1 1 a3 _ hf) (cwV 3 hts (gV q_858 q_859 q_860 q_5 q_861) rfl rfl rfl (by decide +kernel) ⟨Nat.le_of_ble_eq_true rfl, Nat.le_of_ble_eq_true rfl⟩) rfl hl.1 rfl (Nat.le_of_ble_eq_true rfl) dL_law_1668 ⟨by show _ ≤ 601024; omega, by show _ ≤ 7293034; omega⟩) (fun Sm_12 H locs hf hw => ?_)
    refine lv_aload_n hx hb dL_law_1671 rfl (lv_at hl 3 rfl) ?_
    refine l_cYi hC hw (l_rY (As := []) (rest := []) hC hw (kX9_thrown l Y Sm_12 _  _ hf) (cwV 0 hts (gV q_168 q_169 q_170 q_5 q_171) rfl rfl rfl (by decide +kernel) ⟨Nat.le_of_ble_eq_true rfl, Nat.le_of_ble_eq_true rfl⟩) rfl hl.1 rfl (Nat.le_of_ble_eq_true rfl) dL_law_1672 ⟨by show _ ≤ 601024; omega, by show _ ≤ 7293034; omega⟩) (fun r_13 Sm_14 H locs hf hw => ?_)
    obtain ⟨hf, rfl⟩ := hf
    refine lv_iload hx hb dL_law_1675 (lv_at hl 0 rfl) ?_
    refine lv_icmp_eq (tgt := 1682) hx hb dL_law_1677 (by decide) (fun c_15 => ?_) (fun c_15 => ?_)
    · replace hf := hf.1 c_15
      refine lv_goto (tgt := 1908) hx hb dL_law_1682 (by decide) ?_
      refine W.widen (k := cells + 4) (n := slots + 24) (by omega) (by omega) ?_
      exact kk _ _ _ _ _ hf hw (lv_sub hl [1, 2, 3, 4, 5, 6] rfl)
    · replace hf := hf.2 c_15
      refine lv_iconst (v := 0) hx hb dL_law_1680 (by decide) ?_
      exact hf.elim
def qL_27 (a1 a2 a3 a4 : Int32) (Sx Sm : gS) (Post : gS → gS → Prop) : Prop :=
  (pL_setElement a1 a2 a3 Sx (fun k_1 Sx_2 => (pX9_setElement a1 a2 a3 Sm (fun r_3 Sm_4 => (pX9_thrown  Sm_4 (fun r_5 => ((r_5 = k_1 → ((¬ k_1 = 0 → Post Sx_2 Sm_4) ∧ (k_1 = 0 → (((lg_cmp (gB Sx_2 32 0) r_3.toInt64) = 0 → Post Sx_2 Sm_4) ∧ (¬ (lg_cmp (gB Sx_2 32 0) r_3.toInt64) = 0 → False))))) ∧ (¬ r_5 = k_1 → False))))))))
set_option maxHeartbeats 40000000 in
set_option maxRecDepth 100000 in
theorem lawc_27 {p : Program} {l : Launch} {e : Env} {s : State} {m : MethodId} {args : Array Value} {below : List Frame} {meth : Method} {c : Code} {H : Heap} {locs : List Loc} {Q : State → Prop} {cells slots : Nat} {ls : Array Slot} {X Y : xG} {A : Nat → Prop} {b L : Nat} {xs : Nat → Int32} {Sx Sm : gS} {i0 a1 a2 a3 a4 : Int32} {Post : gS → gS → Prop} (hlt : l.stackTraces = false) (hC : LC X Y A b L xs p s m args c) (hi1 : vp_in (i0 + 1) L) (hi2 : vp_in (i0 + 2) L) (hi3 : vp_in (i0 + 3) L) (hi4 : vp_in (i0 + 4) L) (ea1 : xs (i0 + 1).toNatClampNeg = a1) (ea2 : xs (i0 + 2).toNatClampNeg = a2) (ea3 : xs (i0 + 3).toNatClampNeg = a3) (ea4 : xs (i0 + 4).toNatClampNeg = a4) (hcs : cells + 4 ≤ 601024) (hss : slots + 24 ≤ 7293034) (hf : qL_27 a1 a2 a3 a4 Sx Sm Post) (hw : LW X Y A s.heap Sx Sm H locs) (hl : lv_has ls 9 [(0, .ref b), (1, .ref (xa X 0)), (2, .ref (xa Y 0)), (3, .ref (xa X 32)), (4, .ref (xa X 33)), (5, .int i0)])
    (kk : ∀ (Sx' Sm' : gS) (H1 : Heap) (locs1 : List Loc) (ls1 : Array Slot), Post Sx' Sm' → LW X Y A s.heap Sx' Sm' H1 locs1 → lv_has ls1 9 [(0, .ref b), (1, .ref (xa X 0)), (2, .ref (xa Y 0)), (3, .ref (xa X 32)), (4, .ref (xa X 33)), (5, .int i0)] → W p l e room_1 s m args below meth c H1 locs1 (cells + 4) (slots + 24) Q (F0 m 1908 ls1 [])) : W p l e room_1 s m args below meth c H locs cells slots Q (F0 m 1685 ls []) := by
  obtain ⟨hx, hb, hml, hown, hts, -⟩ := id hC
  rw [qL_27] at hf
  refine lv_aload_n hx hb dL_law_1685 rfl (lv_at hl 1 rfl) ?_
  refine lv_aload_n hx hb dL_law_1686 rfl (lv_at hl 0 rfl) ?_
  refine lv_iload hx hb dL_law_1687 (lv_at hl 5 rfl) ?_
  refine lv_iconst (v := 1) hx hb dL_law_1689 (by decide) ?_
  refine lv_iadd hx hb dL_law_1690 ?_
  refine l_sldv hC hw hi1 ea1 dL_law_1691 ?_
  refine lv_aload_n hx hb dL_law_1692 rfl (lv_at hl 0 rfl) ?_
  refine lv_iload hx hb dL_law_1693 (lv_at hl 5 rfl) ?_
  refine lv_iconst (v := 2) hx hb dL_law_1695 (by decide) ?_
  refine lv_iadd hx hb dL_law_1696 ?_
  refine l_sldv hC hw hi2 ea2 dL_law_1697 ?_
  refine lv_aload_n hx hb dL_law_1698 rfl (lv_at hl 0 rfl) ?_
  refine lv_iload hx hb dL_law_1699 (lv_at hl 5 rfl) ?_
  refine lv_iconst (v := 3) hx hb dL_law_1701 (by decide) ?_
  refine lv_iadd hx hb dL_law_1702 ?_
  refine l_sldv hC hw hi3 ea3 dL_law_1703 ?_
  refine lv_aload_n hx hb dL_law_1704 rfl (lv_at hl 3 rfl) ?_
  refine l_cXi hC hw (l_rH (As := [.ref (xa X 0), .int a1, .int a2, .int a3, .ref (xa X 32)]) (rest := []) hC hw (kL_setElement l hlt X Sx _ a1 a2 a3 _ hf) (vx_cwSW 5 hts (gSw q_865 q_866 q_128 q_867) rfl rfl rfl (by decide +kernel) ⟨Nat.le_of_ble_eq_true rfl, Nat.le_of_ble_eq_true rfl⟩) rfl hl.1 rfl (Nat.le_of_ble_eq_true rfl) dL_law_1705 ⟨by show _ ≤ 601024; omega, by show _ ≤ 7293034; omega⟩) (fun k_1 Sx_2 H locs hf hw => ?_)
  refine lv_istore (lv' := [(6, .int k_1), (0, .ref b), (1, .ref (xa X 0)), (2, .ref (xa Y 0)), (3, .ref (xa X 32)), (4, .ref (xa X 33)), (5, .int i0)]) hx hb dL_law_1708 hl (by decide) rfl (fun ls hl => ?_)
  refine lv_aload_n hx hb dL_law_1710 rfl (lv_at hl 3 rfl) ?_
  refine lv_aload_n hx hb dL_law_1711 rfl (lv_at hl 1 rfl) ?_
  refine lv_iload hx hb dL_law_1712 (lv_at hl 6 rfl) ?_
  refine lv_iconst (v := 1) hx hb dL_law_1714 (by decide) ?_
  refine lv_iadd hx hb dL_law_1715 ?_
  refine l_sldv hC hw hi1 ea1 dL_law_1716 ?_
  refine lv_aload_n hx hb dL_law_1717 rfl (lv_at hl 1 rfl) ?_
  refine lv_iload hx hb dL_law_1718 (lv_at hl 6 rfl) ?_
  refine lv_iconst (v := 2) hx hb dL_law_1720 (by decide) ?_
  refine lv_iadd hx hb dL_law_1721 ?_
  refine l_sldv hC hw hi2 ea2 dL_law_1722 ?_
  refine lv_aload_n hx hb dL_law_1723 rfl (lv_at hl 1 rfl) ?_
  refine lv_iload hx hb dL_law_1724 (lv_at hl 6 rfl) ?_
  refine lv_iconst (v := 3) hx hb dL_law_1726 (by decide) ?_
  refine lv_iadd hx hb dL_law_1727 ?_
  refine l_sldv hC hw hi3 ea3 dL_law_1728 ?_
  refine l_cYi hC hw (l_rY (As := [.int a1, .int a2, .int a3]) (rest := []) hC hw (kX9_setElement l Y Sm _ a1 a2 a3 _ hf) (cwV 3 hts (gV q_897 q_898 q_899 q_5 q_900) rfl rfl rfl (by decide +kernel) ⟨Nat.le_of_ble_eq_true rfl, Nat.le_of_ble_eq_true rfl⟩) rfl hl.1 rfl (Nat.le_of_ble_eq_true rfl) dL_law_1729 ⟨by show _ ≤ 601024; omega, by show _ ≤ 7293034; omega⟩) (fun r_3 Sm_4 H locs hf hw => ?_)
  refine lv_istore (lv' := [(7, .int r_3), (6, .int k_1), (0, .ref b), (1, .ref (xa X 0)), (2, .ref (xa Y 0)), (3, .ref (xa X 32)), (4, .ref (xa X 33)), (5, .int i0)]) hx hb dL_law_1732 hl (by decide) rfl (fun ls hl => ?_)
  refine lv_aload_n hx hb dL_law_1734 rfl (lv_at hl 4 rfl) ?_
  refine l_cYi hC hw (l_rY (As := []) (rest := []) hC hw (kX9_thrown l Y Sm_4 _  _ hf) (cwV 0 hts (gV q_168 q_169 q_170 q_5 q_171) rfl rfl rfl (by decide +kernel) ⟨Nat.le_of_ble_eq_true rfl, Nat.le_of_ble_eq_true rfl⟩) rfl hl.1 rfl (Nat.le_of_ble_eq_true rfl) dL_law_1735 ⟨by show _ ≤ 601024; omega, by show _ ≤ 7293034; omega⟩) (fun r_5 Sm_6 H locs hf hw => ?_)
  obtain ⟨hf, rfl⟩ := hf
  refine lv_iload hx hb dL_law_1738 (lv_at hl 1 rfl) ?_
  refine lv_icmp_eq (tgt := 1745) hx hb dL_law_1740 (by decide) (fun c_7 => ?_) (fun c_7 => ?_)
  · replace hf := hf.1 c_7
    refine lv_iload hx hb dL_law_1745 (lv_at hl 1 rfl) ?_
    refine lv_if_ne (tgt := 1762) hx hb dL_law_1747 (by decide) (fun c_8 => ?_) (fun c_8 => ?_)
    · replace hf := hf.1 c_8
      refine lv_goto (tgt := 1908) hx hb dL_law_1762 (by decide) ?_
      refine W.widen (k := cells + 4) (n := slots + 24) (by omega) (by omega) ?_
      exact kk _ _ _ _ _ hf hw (lv_sub hl [2, 3, 4, 5, 6, 7] rfl)
    · replace hf := hf.2 c_8
      refine lv_aload_n hx hb dL_law_1750 rfl (lv_at hl 5 rfl) ?_
      refine lv_iconst (v := 0) hx hb dL_law_1751 (by decide) ?_
      refine l_out hC hw dL_law_1752 ?_
      refine lv_iload hx hb dL_law_1753 (lv_at hl 0 rfl) ?_
      refine lv_i2l hx hb dL_law_1755 rfl ?_
      refine W.lcmp hx hb dL_law_1756 ?_
      refine lv_if_eq (tgt := 1762) hx hb dL_law_1757 (by decide) (fun c_9 => ?_) (fun c_9 => ?_)
      · replace hf := hf.1 c_9
        refine lv_goto (tgt := 1908) hx hb dL_law_1762 (by decide) ?_
        refine W.widen (k := cells + 4) (n := slots + 24) (by omega) (by omega) ?_
        exact kk _ _ _ _ _ hf hw (lv_sub hl [2, 3, 4, 5, 6, 7] rfl)
      · replace hf := hf.2 c_9
        refine lv_iconst (v := 0) hx hb dL_law_1760 (by decide) ?_
        exact hf.elim
  · replace hf := hf.2 c_7
    refine lv_iconst (v := 0) hx hb dL_law_1743 (by decide) ?_
    exact hf.elim
def qL_28 (a1 a2 a3 a4 : Int32) (Sx Sm : gS) (Post : gS → gS → Prop) : Prop :=
  (pL_storeCounts a1 a2 Sx (fun k_1 Sx_2 => (pX9_storeCounts a1 a2 Sm (fun Sm_4 => (pX9_thrown  Sm_4 (fun r_5 => ((r_5 = k_1 → Post Sx_2 Sm_4) ∧ (¬ r_5 = k_1 → False))))))))
set_option maxHeartbeats 40000000 in
set_option maxRecDepth 100000 in
theorem lawc_28 {p : Program} {l : Launch} {e : Env} {s : State} {m : MethodId} {args : Array Value} {below : List Frame} {meth : Method} {c : Code} {H : Heap} {locs : List Loc} {Q : State → Prop} {cells slots : Nat} {ls : Array Slot} {X Y : xG} {A : Nat → Prop} {b L : Nat} {xs : Nat → Int32} {Sx Sm : gS} {i0 a1 a2 a3 a4 : Int32} {Post : gS → gS → Prop} (hlt : l.stackTraces = false) (hC : LC X Y A b L xs p s m args c) (hi1 : vp_in (i0 + 1) L) (hi2 : vp_in (i0 + 2) L) (hi3 : vp_in (i0 + 3) L) (hi4 : vp_in (i0 + 4) L) (ea1 : xs (i0 + 1).toNatClampNeg = a1) (ea2 : xs (i0 + 2).toNatClampNeg = a2) (ea3 : xs (i0 + 3).toNatClampNeg = a3) (ea4 : xs (i0 + 4).toNatClampNeg = a4) (hcs : cells + 4 ≤ 601024) (hss : slots + 24 ≤ 7293034) (hf : qL_28 a1 a2 a3 a4 Sx Sm Post) (hw : LW X Y A s.heap Sx Sm H locs) (hl : lv_has ls 9 [(0, .ref b), (1, .ref (xa X 0)), (2, .ref (xa Y 0)), (3, .ref (xa X 32)), (4, .ref (xa X 33)), (5, .int i0)])
    (kk : ∀ (Sx' Sm' : gS) (H1 : Heap) (locs1 : List Loc) (ls1 : Array Slot), Post Sx' Sm' → LW X Y A s.heap Sx' Sm' H1 locs1 → lv_has ls1 9 [(0, .ref b), (1, .ref (xa X 0)), (2, .ref (xa Y 0)), (3, .ref (xa X 32)), (4, .ref (xa X 33)), (5, .int i0)] → W p l e room_1 s m args below meth c H1 locs1 (cells + 4) (slots + 24) Q (F0 m 1908 ls1 [])) : W p l e room_1 s m args below meth c H locs cells slots Q (F0 m 1765 ls []) := by
  obtain ⟨hx, hb, hml, hown, hts, -⟩ := id hC
  rw [qL_28] at hf
  refine lv_aload_n hx hb dL_law_1765 rfl (lv_at hl 1 rfl) ?_
  refine lv_aload_n hx hb dL_law_1766 rfl (lv_at hl 0 rfl) ?_
  refine lv_iload hx hb dL_law_1767 (lv_at hl 5 rfl) ?_
  refine lv_iconst (v := 1) hx hb dL_law_1769 (by decide) ?_
  refine lv_iadd hx hb dL_law_1770 ?_
  refine l_sldv hC hw hi1 ea1 dL_law_1771 ?_
  refine lv_aload_n hx hb dL_law_1772 rfl (lv_at hl 0 rfl) ?_
  refine lv_iload hx hb dL_law_1773 (lv_at hl 5 rfl) ?_
  refine lv_iconst (v := 2) hx hb dL_law_1775 (by decide) ?_
  refine lv_iadd hx hb dL_law_1776 ?_
  refine l_sldv hC hw hi2 ea2 dL_law_1777 ?_
  refine l_cXi hC hw (l_rH (As := [.ref (xa X 0), .int a1, .int a2]) (rest := []) hC hw (kL_storeCounts l hlt X Sx _ a1 a2 _ hf) (vx_cwSW 3 hts (gSw q_905 q_906 q_128 q_907) rfl rfl rfl (by decide +kernel) ⟨Nat.le_of_ble_eq_true rfl, Nat.le_of_ble_eq_true rfl⟩) rfl hl.1 rfl (Nat.le_of_ble_eq_true rfl) dL_law_1778 ⟨by show _ ≤ 601024; omega, by show _ ≤ 7293034; omega⟩) (fun k_1 Sx_2 H locs hf hw => ?_)
  refine lv_istore (lv' := [(6, .int k_1), (0, .ref b), (1, .ref (xa X 0)), (2, .ref (xa Y 0)), (3, .ref (xa X 32)), (4, .ref (xa X 33)), (5, .int i0)]) hx hb dL_law_1781 hl (by decide) rfl (fun ls hl => ?_)
  refine lv_aload_n hx hb dL_law_1783 rfl (lv_at hl 3 rfl) ?_
  refine lv_aload_n hx hb dL_law_1784 rfl (lv_at hl 1 rfl) ?_
  refine lv_iload hx hb dL_law_1785 (lv_at hl 6 rfl) ?_
  refine lv_iconst (v := 1) hx hb dL_law_1787 (by decide) ?_
  refine lv_iadd hx hb dL_law_1788 ?_
  refine l_sldv hC hw hi1 ea1 dL_law_1789 ?_
  refine lv_aload_n hx hb dL_law_1790 rfl (lv_at hl 1 rfl) ?_
  refine lv_iload hx hb dL_law_1791 (lv_at hl 6 rfl) ?_
  refine lv_iconst (v := 2) hx hb dL_law_1793 (by decide) ?_
  refine lv_iadd hx hb dL_law_1794 ?_
  refine l_sldv hC hw hi2 ea2 dL_law_1795 ?_
  refine l_cYv hC hw (l_rY (As := [.int a1, .int a2]) (rest := []) hC hw (kX9_storeCounts l Y Sm _ a1 a2 _ hf) (cwV 2 hts (gV q_912 q_913 q_914 q_5 q_915) rfl rfl rfl (by decide +kernel) ⟨Nat.le_of_ble_eq_true rfl, Nat.le_of_ble_eq_true rfl⟩) rfl hl.1 rfl (Nat.le_of_ble_eq_true rfl) dL_law_1796 ⟨by show _ ≤ 601024; omega, by show _ ≤ 7293034; omega⟩) (fun Sm_4 H locs hf hw => ?_)
  refine lv_aload_n hx hb dL_law_1799 rfl (lv_at hl 3 rfl) ?_
  refine l_cYi hC hw (l_rY (As := []) (rest := []) hC hw (kX9_thrown l Y Sm_4 _  _ hf) (cwV 0 hts (gV q_168 q_169 q_170 q_5 q_171) rfl rfl rfl (by decide +kernel) ⟨Nat.le_of_ble_eq_true rfl, Nat.le_of_ble_eq_true rfl⟩) rfl hl.1 rfl (Nat.le_of_ble_eq_true rfl) dL_law_1800 ⟨by show _ ≤ 601024; omega, by show _ ≤ 7293034; omega⟩) (fun r_5 Sm_6 H locs hf hw => ?_)
  obtain ⟨hf, rfl⟩ := hf
  refine lv_iload hx hb dL_law_1803 (lv_at hl 0 rfl) ?_
  refine lv_icmp_eq (tgt := 1810) hx hb dL_law_1805 (by decide) (fun c_7 => ?_) (fun c_7 => ?_)
  · replace hf := hf.1 c_7
    refine lv_goto (tgt := 1908) hx hb dL_law_1810 (by decide) ?_
    refine W.widen (k := cells + 4) (n := slots + 24) (by omega) (by omega) ?_
    exact kk _ _ _ _ _ hf hw (lv_sub hl [1, 2, 3, 4, 5, 6] rfl)
  · replace hf := hf.2 c_7
    refine lv_iconst (v := 0) hx hb dL_law_1808 (by decide) ?_
    exact hf.elim
def qL_29 (a1 a2 a3 a4 : Int32) (Sx Sm : gS) (Post : gS → gS → Prop) : Prop :=
  (pL_loadWord a1 a2 a3 Sx (fun k_1 Sx_2 => (pX9_loadWord a1 a2 a3 Sm (fun Sm_4 => (pX9_thrown  Sm_4 (fun r_5 => ((r_5 = k_1 → Post Sx_2 Sm_4) ∧ (¬ r_5 = k_1 → False))))))))
set_option maxHeartbeats 40000000 in
set_option maxRecDepth 100000 in
theorem lawc_29 {p : Program} {l : Launch} {e : Env} {s : State} {m : MethodId} {args : Array Value} {below : List Frame} {meth : Method} {c : Code} {H : Heap} {locs : List Loc} {Q : State → Prop} {cells slots : Nat} {ls : Array Slot} {X Y : xG} {A : Nat → Prop} {b L : Nat} {xs : Nat → Int32} {Sx Sm : gS} {i0 a1 a2 a3 a4 : Int32} {Post : gS → gS → Prop} (hlt : l.stackTraces = false) (hC : LC X Y A b L xs p s m args c) (hi1 : vp_in (i0 + 1) L) (hi2 : vp_in (i0 + 2) L) (hi3 : vp_in (i0 + 3) L) (hi4 : vp_in (i0 + 4) L) (ea1 : xs (i0 + 1).toNatClampNeg = a1) (ea2 : xs (i0 + 2).toNatClampNeg = a2) (ea3 : xs (i0 + 3).toNatClampNeg = a3) (ea4 : xs (i0 + 4).toNatClampNeg = a4) (hcs : cells + 4 ≤ 601024) (hss : slots + 24 ≤ 7293034) (hf : qL_29 a1 a2 a3 a4 Sx Sm Post) (hw : LW X Y A s.heap Sx Sm H locs) (hl : lv_has ls 9 [(0, .ref b), (1, .ref (xa X 0)), (2, .ref (xa Y 0)), (3, .ref (xa X 32)), (4, .ref (xa X 33)), (5, .int i0)])
    (kk : ∀ (Sx' Sm' : gS) (H1 : Heap) (locs1 : List Loc) (ls1 : Array Slot), Post Sx' Sm' → LW X Y A s.heap Sx' Sm' H1 locs1 → lv_has ls1 9 [(0, .ref b), (1, .ref (xa X 0)), (2, .ref (xa Y 0)), (3, .ref (xa X 32)), (4, .ref (xa X 33)), (5, .int i0)] → W p l e room_1 s m args below meth c H1 locs1 (cells + 4) (slots + 24) Q (F0 m 1908 ls1 [])) : W p l e room_1 s m args below meth c H locs cells slots Q (F0 m 1813 ls []) := by
  obtain ⟨hx, hb, hml, hown, hts, -⟩ := id hC
  rw [qL_29] at hf
  refine lv_aload_n hx hb dL_law_1813 rfl (lv_at hl 1 rfl) ?_
  refine lv_aload_n hx hb dL_law_1814 rfl (lv_at hl 0 rfl) ?_
  refine lv_iload hx hb dL_law_1815 (lv_at hl 5 rfl) ?_
  refine lv_iconst (v := 1) hx hb dL_law_1817 (by decide) ?_
  refine lv_iadd hx hb dL_law_1818 ?_
  refine l_sldv hC hw hi1 ea1 dL_law_1819 ?_
  refine lv_aload_n hx hb dL_law_1820 rfl (lv_at hl 0 rfl) ?_
  refine lv_iload hx hb dL_law_1821 (lv_at hl 5 rfl) ?_
  refine lv_iconst (v := 2) hx hb dL_law_1823 (by decide) ?_
  refine lv_iadd hx hb dL_law_1824 ?_
  refine l_sldv hC hw hi2 ea2 dL_law_1825 ?_
  refine lv_aload_n hx hb dL_law_1826 rfl (lv_at hl 0 rfl) ?_
  refine lv_iload hx hb dL_law_1827 (lv_at hl 5 rfl) ?_
  refine lv_iconst (v := 3) hx hb dL_law_1829 (by decide) ?_
  refine lv_iadd hx hb dL_law_1830 ?_
  refine l_sldv hC hw hi3 ea3 dL_law_1831 ?_
  refine l_cXi hC hw (l_rH (As := [.ref (xa X 0), .int a1, .int a2, .int a3]) (rest := []) hC hw (kL_loadWord l hlt X Sx _ a1 a2 a3 _ hf) (vx_cwSW 4 hts (gSw q_916 q_917 q_128 q_918) rfl rfl rfl (by decide +kernel) ⟨Nat.le_of_ble_eq_true rfl, Nat.le_of_ble_eq_true rfl⟩) rfl hl.1 rfl (Nat.le_of_ble_eq_true rfl) dL_law_1832 ⟨by show _ ≤ 601024; omega, by show _ ≤ 7293034; omega⟩) (fun k_1 Sx_2 H locs hf hw => ?_)
  refine lv_istore (lv' := [(6, .int k_1), (0, .ref b), (1, .ref (xa X 0)), (2, .ref (xa Y 0)), (3, .ref (xa X 32)), (4, .ref (xa X 33)), (5, .int i0)]) hx hb dL_law_1835 hl (by decide) rfl (fun ls hl => ?_)
  refine lv_aload_n hx hb dL_law_1837 rfl (lv_at hl 3 rfl) ?_
  refine lv_aload_n hx hb dL_law_1838 rfl (lv_at hl 1 rfl) ?_
  refine lv_iload hx hb dL_law_1839 (lv_at hl 6 rfl) ?_
  refine lv_iconst (v := 1) hx hb dL_law_1841 (by decide) ?_
  refine lv_iadd hx hb dL_law_1842 ?_
  refine l_sldv hC hw hi1 ea1 dL_law_1843 ?_
  refine lv_aload_n hx hb dL_law_1844 rfl (lv_at hl 1 rfl) ?_
  refine lv_iload hx hb dL_law_1845 (lv_at hl 6 rfl) ?_
  refine lv_iconst (v := 2) hx hb dL_law_1847 (by decide) ?_
  refine lv_iadd hx hb dL_law_1848 ?_
  refine l_sldv hC hw hi2 ea2 dL_law_1849 ?_
  refine lv_aload_n hx hb dL_law_1850 rfl (lv_at hl 1 rfl) ?_
  refine lv_iload hx hb dL_law_1851 (lv_at hl 6 rfl) ?_
  refine lv_iconst (v := 3) hx hb dL_law_1853 (by decide) ?_
  refine lv_iadd hx hb dL_law_1854 ?_
  refine l_sldv hC hw hi3 ea3 dL_law_1855 ?_
  refine l_cYv hC hw (l_rY (As := [.int a1, .int a2, .int a3]) (rest := []) hC hw (kX9_loadWord l Y Sm _ a1 a2 a3 _ hf) (cwV 3 hts (gV q_923 q_924 q_925 q_5 q_926) rfl rfl rfl (by decide +kernel) ⟨Nat.le_of_ble_eq_true rfl, Nat.le_of_ble_eq_true rfl⟩) rfl hl.1 rfl (Nat.le_of_ble_eq_true rfl) dL_law_1856 ⟨by show _ ≤ 601024; omega, by show _ ≤ 7293034; omega⟩) (fun Sm_4 H locs hf hw => ?_)
  refine lv_aload_n hx hb dL_law_1859 rfl (lv_at hl 3 rfl) ?_
  refine l_cYi hC hw (l_rY (As := []) (rest := []) hC hw (kX9_thrown l Y Sm_4 _  _ hf) (cwV 0 hts (gV q_168 q_169 q_170 q_5 q_171) rfl rfl rfl (by decide +kernel) ⟨Nat.le_of_ble_eq_true rfl, Nat.le_of_ble_eq_true rfl⟩) rfl hl.1 rfl (Nat.le_of_ble_eq_true rfl) dL_law_1860 ⟨by show _ ≤ 601024; omega, by show _ ≤ 7293034; omega⟩) (fun r_5 Sm_6 H locs hf hw => ?_)
  obtain ⟨hf, rfl⟩ := hf
  refine lv_iload hx hb dL_law_1863 (lv_at hl 0 rfl) ?_
  refine lv_icmp_eq (tgt := 1870) hx hb dL_law_1865 (by decide) (fun c_7 => ?_) (fun c_7 => ?_)
  · replace hf := hf.1 c_7
    refine lv_goto (tgt := 1908) hx hb dL_law_1870 (by decide) ?_
    refine W.widen (k := cells + 4) (n := slots + 24) (by omega) (by omega) ?_
    exact kk _ _ _ _ _ hf hw (lv_sub hl [1, 2, 3, 4, 5, 6] rfl)
  · replace hf := hf.2 c_7
    refine lv_iconst (v := 0) hx hb dL_law_1868 (by decide) ?_
    exact hf.elim
def qL_30 (a1 a2 a3 a4 : Int32) (Sx Sm : gS) (Post : gS → gS → Prop) : Prop :=
  (pX8_snapshot  Sx (fun Sx_2 => (pX9_snapshot  Sm (fun Sm_4 => Post Sx_2 Sm_4))))
set_option maxHeartbeats 40000000 in
set_option maxRecDepth 100000 in
theorem lawc_30 {p : Program} {l : Launch} {e : Env} {s : State} {m : MethodId} {args : Array Value} {below : List Frame} {meth : Method} {c : Code} {H : Heap} {locs : List Loc} {Q : State → Prop} {cells slots : Nat} {ls : Array Slot} {X Y : xG} {A : Nat → Prop} {b L : Nat} {xs : Nat → Int32} {Sx Sm : gS} {i0 a1 a2 a3 a4 : Int32} {Post : gS → gS → Prop} (hlt : l.stackTraces = false) (hC : LC X Y A b L xs p s m args c) (hi1 : vp_in (i0 + 1) L) (hi2 : vp_in (i0 + 2) L) (hi3 : vp_in (i0 + 3) L) (hi4 : vp_in (i0 + 4) L) (ea1 : xs (i0 + 1).toNatClampNeg = a1) (ea2 : xs (i0 + 2).toNatClampNeg = a2) (ea3 : xs (i0 + 3).toNatClampNeg = a3) (ea4 : xs (i0 + 4).toNatClampNeg = a4) (hcs : cells + 4 ≤ 601024) (hss : slots + 24 ≤ 7293034) (hf : qL_30 a1 a2 a3 a4 Sx Sm Post) (hw : LW X Y A s.heap Sx Sm H locs) (hl : lv_has ls 9 [(0, .ref b), (1, .ref (xa X 0)), (2, .ref (xa Y 0)), (3, .ref (xa X 32)), (4, .ref (xa X 33)), (5, .int i0)])
    (kk : ∀ (Sx' Sm' : gS) (H1 : Heap) (locs1 : List Loc) (ls1 : Array Slot), Post Sx' Sm' → LW X Y A s.heap Sx' Sm' H1 locs1 → lv_has ls1 9 [(0, .ref b), (1, .ref (xa X 0)), (2, .ref (xa Y 0)), (3, .ref (xa X 32)), (4, .ref (xa X 33)), (5, .int i0)] → W p l e room_1 s m args below meth c H1 locs1 (cells + 4) (slots + 24) Q (F0 m 1908 ls1 [])) : W p l e room_1 s m args below meth c H locs cells slots Q (F0 m 1873 ls []) := by
  obtain ⟨hx, hb, hml, hown, hts, -⟩ := id hC
  rw [qL_30] at hf
  refine lv_aload_n hx hb dL_law_1873 rfl (lv_at hl 1 rfl) ?_
  refine l_cXv hC hw (l_rX (As := []) (rest := []) hC hw (kX8_snapshot l X Sx _  _ hf) (cwV 0 hts (gV q_931 q_932 q_933 q_2 q_934) rfl rfl rfl (by decide +kernel) ⟨Nat.le_of_ble_eq_true rfl, Nat.le_of_ble_eq_true rfl⟩) rfl hl.1 rfl (Nat.le_of_ble_eq_true rfl) dL_law_1874 ⟨by show _ ≤ 601024; omega, by show _ ≤ 7293034; omega⟩) (fun Sx_2 H locs hf hw => ?_)
  refine lv_aload_n hx hb dL_law_1877 rfl (lv_at hl 2 rfl) ?_
  refine l_cYv hC hw (l_rY (As := []) (rest := []) hC hw (kX9_snapshot l Y Sm _  _ hf) (cwV 0 hts (gV q_941 q_942 q_943 q_5 q_944) rfl rfl rfl (by decide +kernel) ⟨Nat.le_of_ble_eq_true rfl, Nat.le_of_ble_eq_true rfl⟩) rfl hl.1 rfl (Nat.le_of_ble_eq_true rfl) dL_law_1878 ⟨by show _ ≤ 601024; omega, by show _ ≤ 7293034; omega⟩) (fun Sm_4 H locs hf hw => ?_)
  refine lv_goto (tgt := 1908) hx hb dL_law_1881 (by decide) ?_
  refine W.widen (k := cells + 4) (n := slots + 24) (by omega) (by omega) ?_
  exact kk _ _ _ _ _ hf hw (lv_sub hl [0, 1, 2, 3, 4, 5] rfl)
def qL_31 (a1 a2 a3 a4 : Int32) (Sx Sm : gS) (Post : gS → gS → Prop) : Prop :=
  (pL_restore  Sx (fun k_1 Sx_2 => (pX9_restore  Sm (fun Sm_4 => (pX9_thrown  Sm_4 (fun r_5 => ((r_5 = k_1 → Post Sx_2 Sm_4) ∧ (¬ r_5 = k_1 → False))))))))
set_option maxHeartbeats 40000000 in
set_option maxRecDepth 100000 in
theorem lawc_31 {p : Program} {l : Launch} {e : Env} {s : State} {m : MethodId} {args : Array Value} {below : List Frame} {meth : Method} {c : Code} {H : Heap} {locs : List Loc} {Q : State → Prop} {cells slots : Nat} {ls : Array Slot} {X Y : xG} {A : Nat → Prop} {b L : Nat} {xs : Nat → Int32} {Sx Sm : gS} {i0 a1 a2 a3 a4 : Int32} {Post : gS → gS → Prop} (hlt : l.stackTraces = false) (hC : LC X Y A b L xs p s m args c) (hi1 : vp_in (i0 + 1) L) (hi2 : vp_in (i0 + 2) L) (hi3 : vp_in (i0 + 3) L) (hi4 : vp_in (i0 + 4) L) (ea1 : xs (i0 + 1).toNatClampNeg = a1) (ea2 : xs (i0 + 2).toNatClampNeg = a2) (ea3 : xs (i0 + 3).toNatClampNeg = a3) (ea4 : xs (i0 + 4).toNatClampNeg = a4) (hcs : cells + 4 ≤ 601024) (hss : slots + 24 ≤ 7293034) (hf : qL_31 a1 a2 a3 a4 Sx Sm Post) (hw : LW X Y A s.heap Sx Sm H locs) (hl : lv_has ls 9 [(0, .ref b), (1, .ref (xa X 0)), (2, .ref (xa Y 0)), (3, .ref (xa X 32)), (4, .ref (xa X 33)), (5, .int i0)])
    (kk : ∀ (Sx' Sm' : gS) (H1 : Heap) (locs1 : List Loc) (ls1 : Array Slot), Post Sx' Sm' → LW X Y A s.heap Sx' Sm' H1 locs1 → lv_has ls1 9 [(0, .ref b), (1, .ref (xa X 0)), (2, .ref (xa Y 0)), (3, .ref (xa X 32)), (4, .ref (xa X 33)), (5, .int i0)] → W p l e room_1 s m args below meth c H1 locs1 (cells + 4) (slots + 24) Q (F0 m 1908 ls1 [])) : W p l e room_1 s m args below meth c H locs cells slots Q (F0 m 1884 ls []) := by
  obtain ⟨hx, hb, hml, hown, hts, -⟩ := id hC
  rw [qL_31] at hf
  refine lv_aload_n hx hb dL_law_1884 rfl (lv_at hl 1 rfl) ?_
  refine l_cXi hC hw (l_rH (As := [.ref (xa X 0)]) (rest := []) hC hw (kL_restore l hlt X Sx _  _ hf) (vx_cwSW 1 hts (gSw q_954 q_955 q_128 q_956) rfl rfl rfl (by decide +kernel) ⟨Nat.le_of_ble_eq_true rfl, Nat.le_of_ble_eq_true rfl⟩) rfl hl.1 rfl (Nat.le_of_ble_eq_true rfl) dL_law_1885 ⟨by show _ ≤ 601024; omega, by show _ ≤ 7293034; omega⟩) (fun k_1 Sx_2 H locs hf hw => ?_)
  refine lv_istore (lv' := [(6, .int k_1), (0, .ref b), (1, .ref (xa X 0)), (2, .ref (xa Y 0)), (3, .ref (xa X 32)), (4, .ref (xa X 33)), (5, .int i0)]) hx hb dL_law_1888 hl (by decide) rfl (fun ls hl => ?_)
  refine lv_aload_n hx hb dL_law_1890 rfl (lv_at hl 3 rfl) ?_
  refine l_cYv hC hw (l_rY (As := []) (rest := []) hC hw (kX9_restore l Y Sm _  _ hf) (cwV 0 hts (gV q_961 q_962 q_963 q_5 q_964) rfl rfl rfl (by decide +kernel) ⟨Nat.le_of_ble_eq_true rfl, Nat.le_of_ble_eq_true rfl⟩) rfl hl.1 rfl (Nat.le_of_ble_eq_true rfl) dL_law_1891 ⟨by show _ ≤ 601024; omega, by show _ ≤ 7293034; omega⟩) (fun Sm_4 H locs hf hw => ?_)
  refine lv_aload_n hx hb dL_law_1894 rfl (lv_at hl 3 rfl) ?_
  refine l_cYi hC hw (l_rY (As := []) (rest := []) hC hw (kX9_thrown l Y Sm_4 _  _ hf) (cwV 0 hts (gV q_168 q_169 q_170 q_5 q_171) rfl rfl rfl (by decide +kernel) ⟨Nat.le_of_ble_eq_true rfl, Nat.le_of_ble_eq_true rfl⟩) rfl hl.1 rfl (Nat.le_of_ble_eq_true rfl) dL_law_1895 ⟨by show _ ≤ 601024; omega, by show _ ≤ 7293034; omega⟩) (fun r_5 Sm_6 H locs hf hw => ?_)
  obtain ⟨hf, rfl⟩ := hf
  refine lv_iload hx hb dL_law_1898 (lv_at hl 0 rfl) ?_
  refine lv_icmp_eq (tgt := 1905) hx hb dL_law_1900 (by decide) (fun c_7 => ?_) (fun c_7 => ?_)
  · replace hf := hf.1 c_7
    refine lv_goto (tgt := 1908) hx hb dL_law_1905 (by decide) ?_
    refine W.widen (k := cells + 4) (n := slots + 24) (by omega) (by omega) ?_
    exact kk _ _ _ _ _ hf hw (lv_sub hl [1, 2, 3, 4, 5, 6] rfl)
  · replace hf := hf.2 c_7
    refine lv_iconst (v := 0) hx hb dL_law_1903 (by decide) ?_
    exact hf.elim
