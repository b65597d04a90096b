/-! THE LAW'S BODY: two worlds side by side, calls into either. -/
def LW (X Y : xG) (A : Nat → Prop) (H0 : Heap) (Sx Sm : gS) (H : Heap) (locs : List Loc) : Prop := xH 34 X (cX X) A H0 Sx H locs ∧ va_P Y.1 vwCl (wd 133 Y (cM Y Sm)) H ∧ va_D A (wd 133 Y (cM Y Sm))
def LC (X Y : xG) (A : Nat → Prop) (b L : Nat) (xs : Nat → Int32) (p : Program) (s : State) (m : MethodId) (args : Array Value) (c : Code) : Prop :=
  p.tables.exec = Jvm.exec ∧ c.code = code ∧ c.maxLocals = 9 ∧ s.vm.findClass RL = some m.cls ∧ (∀ w ∈ WS, w.before args s = true) ∧ eX X A s s.heap ∧ eM Y A s s.heap ∧ xInj 34 X ∧ xInj 133 Y ∧ (∀ i j : Nat, i < 34 → j < 133 → xa X i ≠ xa Y j) ∧ (∀ q ∈ ncW, va_Nc q.1 q.2 s) ∧ va_X b L xs s s.heap ∧ b < s.heap.size ∧ ¬ A b ∧ (∀ q : Nat, s.heap.size ≤ q → A q)
section LL
variable {p : Program} {l : Launch} {e : Env} {R : Room} {s : State} {m : MethodId} {args : Array Value} {below : List Frame} {meth : Method} {c : Code} {H H1 : Heap} {locs : List Loc} {Q : State → Prop} {cells slots mc ms : Nat}
variable {pc : Nat} {ls : Array Slot} {rest st0 : List Value} {X Y : xG} {A : Nat → Prop} {b L : Nat} {xs : Nat → Int32} {Sx Sm : gS}
variable {y : MethodName} {bytes : ByteArray} {maxL n index : Nat} {ret : Option FieldType} {ws : List Cond} {rm : Room} {As av : List Value} {C : String} {Qc : Array Value → State → Outcome → State → Prop} {a : Array Value}
theorem l_subX (hC : LC X Y A b L xs p s m args c) (hw : LW X Y A s.heap Sx Sm H locs) : ∀ q, xA 34 X H.size q → A q := fun q h => by
  rcases h with ⟨k, hk, rfl⟩ | h
  · exact wd_Aof hw.1.2.1 k hk
  · exact hC.2.2.2.2.2.2.2.2.2.2.2.2.2.2 q (Nat.le_trans hw.1.2.2.1 h)
theorem l_subY (hC : LC X Y A b L xs p s m args c) (hw : LW X Y A s.heap Sx Sm H locs) : ∀ q, xA 133 Y H.size q → A q := fun q h => by
  rcases h with ⟨k, hk, rfl⟩ | h
  · exact wd_Aof hw.2.2 k hk
  · exact hC.2.2.2.2.2.2.2.2.2.2.2.2.2.2 q (Nat.le_trans hw.1.2.2.1 h)
theorem l_keepY (hC : LC X Y A b L xs p s m args c) (hw : LW X Y A s.heap Sx Sm H locs) (hk : ∀ q : Nat, q < H.size → ¬ xA 34 X H.size q → H1[q]? = H[q]?) : va_P Y.1 vwCl (wd 133 Y (cM Y Sm)) H1 := fun k q hq => by
  obtain ⟨h1, rfl⟩ := wd_in hq
  have hlt := (hw.2.1 k _ hq).lt
  refine (hw.2.1 k _ hq).kept (hk _ hlt (fun h => ?_))
  rcases h with ⟨i, hi, h⟩ | h
  · exact hC.2.2.2.2.2.2.2.2.2.1 i k hi h1 h.symm
  · exact absurd hlt (Nat.not_lt.mpr h)
theorem l_keepX (hC : LC X Y A b L xs p s m args c) (hw : LW X Y A s.heap Sx Sm H locs) (hk : ∀ q : Nat, q < H.size → ¬ xA 133 Y H.size q → H1[q]? = H[q]?) : va_P X.1 vwCl (wd 34 X (cX X Sx)) H1 := fun k q hq => by
  obtain ⟨h1, rfl⟩ := wd_in hq
  have hlt := (hw.1.1 k _ hq).lt
  refine (hw.1.1 k _ hq).kept (hk _ hlt (fun h => ?_))
  rcases h with ⟨i, hi, h⟩ | h
  · exact hC.2.2.2.2.2.2.2.2.2.1 k i h1 hi h
  · exact absurd hlt (Nat.not_lt.mpr h)
theorem l_preX (hC : LC X Y A b L xs p s m args c) (hw : LW X Y A s.heap Sx Sm H locs) : ∀ U : State, U.heap = H → s.WarmedH U.vm → va_Pc av (xPre 34 X (cX X) (eX X) Sx H.size) av.toArray U := fun U hU hW =>
  ⟨rfl, by rw [hU], by rw [hU]; exact hw.1.1, hC.2.2.2.2.2.2.2.1, by rw [hU]; exact (okX X).1 _ _ _ _ hW ((okX X).2.2 _ _ _ _ _ _ hw.1.2.2 (l_subX hC hw) hC.2.2.2.2.2.1)⟩
theorem l_preY (hC : LC X Y A b L xs p s m args c) (hw : LW X Y A s.heap Sx Sm H locs) : ∀ U : State, U.heap = H → s.WarmedH U.vm → va_Pc av (xPre 133 Y (cM Y) (eM Y) Sm H.size) av.toArray U := fun U hU hW =>
  ⟨rfl, by rw [hU], by rw [hU]; exact hw.2.1, hC.2.2.2.2.2.2.2.2.1, by rw [hU]; exact (okM Y).1 _ _ _ _ hW ((okM Y).2.2 _ _ _ _ _ _ hw.1.2.2 (l_subY hC hw) hC.2.2.2.2.2.2.1)⟩
theorem l_rX (hC : LC X Y A b L xs p s m args c) (hw : LW X Y A s.heap Sx Sm H locs) (hM : Met l y ws rm (va_Pc (.ref (xa X 0) :: As) (xPre 34 X (cX X) (eX X) Sx H.size)) Qc 0 0 (xA 34 X H.size)) (cw : CallW R s args RL RX8 index y bytes maxL ret ws rm 0 0 n) (hn : As.length = n) (hls : ls.size = 9) (hst : st0 = As.reverse ++ .ref (xa X 0) :: rest) (hW : (rest.map fun v => v.category).sum ≤ 8) (hdg : decode code pc = .ok (.invokevirtual index, 3)) (hf : cells ≤ R.cells ∧ slots ≤ R.slots) :
    va_Run p l e R s m args below meth c H locs cells slots 0 0 (F0 m pc ls st0) rest (Qc (Value.ref (xa X 0) :: As).toArray) (xA 34 X H.size) :=
  va_runV ⟨hC.1, hC.2.1, hC.2.2.1, hC.2.2.2.1, hC.2.2.2.2.1⟩ hM cw ⟨x_blind (okX X), x_recv hC.2.2.2.2.2.1.1 hw.1 (k := 0) (by decide) rfl rfl, l_preX hC hw⟩ rfl hn hls hst (lv_room hW) hdg hf
theorem l_rY (hC : LC X Y A b L xs p s m args c) (hw : LW X Y A s.heap Sx Sm H locs) (hM : Met l y ws rm (va_Pc (.ref (xa Y 0) :: As) (xPre 133 Y (cM Y) (eM Y) Sm H.size)) Qc 0 0 (xA 133 Y H.size)) (cw : CallW R s args RL RX9 index y bytes maxL ret ws rm 0 0 n) (hn : As.length = n) (hls : ls.size = 9) (hst : st0 = As.reverse ++ .ref (xa Y 0) :: rest) (hW : (rest.map fun v => v.category).sum ≤ 8) (hdg : decode code pc = .ok (.invokevirtual index, 3)) (hf : cells ≤ R.cells ∧ slots ≤ R.slots) :
    va_Run p l e R s m args below meth c H locs cells slots 0 0 (F0 m pc ls st0) rest (Qc (Value.ref (xa Y 0) :: As).toArray) (xA 133 Y H.size) :=
  va_runV ⟨hC.1, hC.2.1, hC.2.2.1, hC.2.2.2.1, hC.2.2.2.2.1⟩ hM cw ⟨x_blind (okM Y), va_recv hC.2.2.2.2.2.2.1.1 hw.2.1 (ci := 8) (q0 := 0) rfl (by rw [wd_at (by decide)]; rfl), l_preY hC hw⟩ rfl hn hls hst (lv_room hW) hdg hf
theorem l_rH (hC : LC X Y A b L xs p s m args c) (hw : LW X Y A s.heap Sx Sm H locs) {hh : List (Nat × Nat × Nat × Nat)} (hM : Met l y ws rm (va_Pc As (hPre X Sx H.size)) Qc mc ms (xA 34 X H.size)) (cw : vx_CSW R s args RL index y bytes maxL ret hh ws rm mc ms n) (hn : As.length = n) (hls : ls.size = 9) (hst : st0 = As.reverse ++ rest) (hW : (rest.map fun v => v.category).sum ≤ 8) (hdg : decode code pc = .ok (.invokestatic index, 3)) (hf : cells + mc ≤ R.cells ∧ slots + ms ≤ R.slots) :
    va_Run p l e R s m args below meth c H locs cells slots mc ms (F0 m pc ls st0) rest (Qc As.toArray) (xA 34 X H.size) :=
  vx_runSW ⟨hC.1, hC.2.1, hC.2.2.1, hC.2.2.2.1, hC.2.2.2.2.1⟩ hM cw ⟨fun a U g mk q => by
    obtain ⟨q0, q1, q2⟩ := q
    exact ⟨q0, (x_blind (okX X) (av := As) a U g mk ⟨q0, q1⟩).2, fun z hz => va_Nc.moved (Vm.Alike.refl U.vm) (q2 z hz)⟩, fun U hU hW => ⟨rfl, (l_preX (av := As) hC hw U hU hW).2, fun z hz => va_Nc.moved hW.alike (hC.2.2.2.2.2.2.2.2.2.2.1 z hz)⟩⟩ rfl hn hls hst (lv_room hW) hdg hf
theorem l_cXi {Post : Int32 → gS → Prop} (hC : LC X Y A b L xs p s m args c) (hw : LW X Y A s.heap Sx Sm H locs) (hr : va_Run p l e R s m args below meth c H locs cells slots mc ms (F0 m pc ls st0) rest (va_Qi Post (xB 34 X (cX X)) (xA 34 X H.size) a) (xA 34 X H.size))
    (kk : ∀ (r : Int32) (S' : gS) (H1 : Heap) (locs1 : List Loc), Post r S' → LW X Y A s.heap S' Sm H1 locs1 → W p l e R s m args below meth c H1 locs1 (cells + mc) (slots + ms) Q (F0 m (pc + 3) ls (.int r :: rest))) : W p l e R s m args below meth c H locs cells slots Q (F0 m pc ls st0) :=
  va_calli hr hw.1.2.2 (fun q _ h => l_subX hC hw q h) (l_subX hC hw) (fun r u t H1 locs1 ht hvm hp hB hz hk hS => kk r u H1 locs1 hp ⟨⟨by rw [← ht]; exact hB, wd_D hC.2.2.2.2.2.2.2.1 (wd_Aof hw.1.2.1), hS⟩, l_keepY hC hw hk, hw.2.2⟩)
theorem l_cXl {Post : Int64 → gS → Prop} (hC : LC X Y A b L xs p s m args c) (hw : LW X Y A s.heap Sx Sm H locs) (hr : va_Run p l e R s m args below meth c H locs cells slots mc ms (F0 m pc ls st0) rest (va_Ql Post (xB 34 X (cX X)) (xA 34 X H.size) a) (xA 34 X H.size))
    (kk : ∀ (r : Int64) (S' : gS) (H1 : Heap) (locs1 : List Loc), Post r S' → LW X Y A s.heap S' Sm H1 locs1 → W p l e R s m args below meth c H1 locs1 (cells + mc) (slots + ms) Q (F0 m (pc + 3) ls (.long r :: rest))) : W p l e R s m args below meth c H locs cells slots Q (F0 m pc ls st0) :=
  va_calll hr hw.1.2.2 (fun q _ h => l_subX hC hw q h) (l_subX hC hw) (fun r u t H1 locs1 ht hvm hp hB hz hk hS => kk r u H1 locs1 hp ⟨⟨by rw [← ht]; exact hB, wd_D hC.2.2.2.2.2.2.2.1 (wd_Aof hw.1.2.1), hS⟩, l_keepY hC hw hk, hw.2.2⟩)
theorem l_cXv {Post : gS → Prop} (hC : LC X Y A b L xs p s m args c) (hw : LW X Y A s.heap Sx Sm H locs) (hr : va_Run p l e R s m args below meth c H locs cells slots mc ms (F0 m pc ls st0) rest (va_Qv Post (xB 34 X (cX X)) (xA 34 X H.size) a) (xA 34 X H.size))
    (kk : ∀ (S' : gS) (H1 : Heap) (locs1 : List Loc), Post S' → LW X Y A s.heap S' Sm H1 locs1 → W p l e R s m args below meth c H1 locs1 (cells + mc) (slots + ms) Q (F0 m (pc + 3) ls rest)) : W p l e R s m args below meth c H locs cells slots Q (F0 m pc ls st0) :=
  va_callv hr hw.1.2.2 (fun q _ h => l_subX hC hw q h) (l_subX hC hw) (fun u t H1 locs1 ht hvm hp hB hz hk hS => kk u H1 locs1 hp ⟨⟨by rw [← ht]; exact hB, wd_D hC.2.2.2.2.2.2.2.1 (wd_Aof hw.1.2.1), hS⟩, l_keepY hC hw hk, hw.2.2⟩)
theorem l_Y (hC : LC X Y A b L xs p s m args c) (hw : LW X Y A s.heap Sx Sm H locs) {u : gS} {t : State} {locs1 : List Loc} (ht : t.heap = H1) (hB : xB 133 Y (cM Y) u t) (hk : ∀ q : Nat, q < H.size → ¬ xA 133 Y H.size q → H1[q]? = H[q]?) (hS : va_S A s.heap H1 locs1) : LW X Y A s.heap Sx u H1 locs1 :=
  ⟨⟨l_keepX hC hw hk, hw.1.2.1, hS⟩, by rw [← ht]; exact hB, wd_D hC.2.2.2.2.2.2.2.2.1 (wd_Aof hw.2.2)⟩
theorem l_cYi {Post : Int32 → gS → Prop} (hC : LC X Y A b L xs p s m args c) (hw : LW X Y A s.heap Sx Sm H locs) (hr : va_Run p l e R s m args below meth c H locs cells slots 0 0 (F0 m pc ls st0) rest (va_Qi Post (xB 133 Y (cM Y)) (xA 133 Y H.size) a) (xA 133 Y H.size))
    (kk : ∀ (r : Int32) (S' : gS) (H1 : Heap) (locs1 : List Loc), Post r S' → LW X Y A s.heap Sx S' H1 locs1 → W p l e R s m args below meth c H1 locs1 cells slots Q (F0 m (pc + 3) ls (.int r :: rest))) : W p l e R s m args below meth c H locs cells slots Q (F0 m pc ls st0) :=
  va_calli hr hw.1.2.2 (fun q _ h => l_subY hC hw q h) (l_subY hC hw) (fun r u t H1 locs1 ht hvm hp hB hz hk hS => kk r u H1 locs1 hp (l_Y hC hw ht hB hk hS))
theorem l_cYl {Post : Int64 → gS → Prop} (hC : LC X Y A b L xs p s m args c) (hw : LW X Y A s.heap Sx Sm H locs) (hr : va_Run p l e R s m args below meth c H locs cells slots 0 0 (F0 m pc ls st0) rest (va_Ql Post (xB 133 Y (cM Y)) (xA 133 Y H.size) a) (xA 133 Y H.size))
    (kk : ∀ (r : Int64) (S' : gS) (H1 : Heap) (locs1 : List Loc), Post r S' → LW X Y A s.heap Sx S' H1 locs1 → W p l e R s m args below meth c H1 locs1 cells slots Q (F0 m (pc + 3) ls (.long r :: rest))) : W p l e R s m args below meth c H locs cells slots Q (F0 m pc ls st0) :=
  va_calll hr hw.1.2.2 (fun q _ h => l_subY hC hw q h) (l_subY hC hw) (fun r u t H1 locs1 ht hvm hp hB hz hk hS => kk r u H1 locs1 hp (l_Y hC hw ht hB hk hS))
theorem l_cYd {Post : UInt64 → gS → Prop} (hC : LC X Y A b L xs p s m args c) (hw : LW X Y A s.heap Sx Sm H locs) (hr : va_Run p l e R s m args below meth c H locs cells slots 0 0 (F0 m pc ls st0) rest (va_Qd Post (xB 133 Y (cM Y)) (xA 133 Y H.size) a) (xA 133 Y H.size))
    (kk : ∀ (r : UInt64) (S' : gS) (H1 : Heap) (locs1 : List Loc), Post r S' → LW X Y A s.heap Sx S' H1 locs1 → W p l e R s m args below meth c H1 locs1 cells slots Q (F0 m (pc + 3) ls (.double r :: rest))) : W p l e R s m args below meth c H locs cells slots Q (F0 m pc ls st0) :=
  va_calld hr hw.1.2.2 (fun q _ h => l_subY hC hw q h) (l_subY hC hw) (fun r u t H1 locs1 ht hvm hp hB hz hk hS => kk r u H1 locs1 hp (l_Y hC hw ht hB hk hS))
theorem l_cYv {Post : gS → Prop} (hC : LC X Y A b L xs p s m args c) (hw : LW X Y A s.heap Sx Sm H locs) (hr : va_Run p l e R s m args below meth c H locs cells slots 0 0 (F0 m pc ls st0) rest (va_Qv Post (xB 133 Y (cM Y)) (xA 133 Y H.size) a) (xA 133 Y H.size))
    (kk : ∀ (S' : gS) (H1 : Heap) (locs1 : List Loc), Post S' → LW X Y A s.heap Sx S' H1 locs1 → W p l e R s m args below meth c H1 locs1 cells slots Q (F0 m (pc + 3) ls rest)) : W p l e R s m args below meth c H locs cells slots Q (F0 m pc ls st0) :=
  va_callv hr hw.1.2.2 (fun q _ h => l_subY hC hw q h) (l_subY hC hw) (fun u t H1 locs1 ht hvm hp hB hz hk hS => kk u H1 locs1 hp (l_Y hC hw ht hB hk hS))
theorem l_sld (hC : LC X Y A b L xs p s m args c) (hw : LW X Y A s.heap Sx Sm H locs) {i : Int32} (hin : vp_in i L) (hdg : decode code pc = .ok (.iaload, 1)) (kk : W p l e R s m args below meth c H locs cells slots Q (F0 m (pc + 1) ls (.int (xs i.toNatClampNeg) :: rest))) : W p l e R s m args below meth c H locs cells slots Q (F0 m pc ls (.int i :: .ref b :: rest)) :=
  va_sld hC.1 hC.2.1 hC.2.2.2.2.2.2.2.2.2.2.2.1 hC.2.2.2.2.2.2.2.2.2.2.2.2.1 hC.2.2.2.2.2.2.2.2.2.2.2.2.2.1 hw.1.2.2 hin hdg kk
theorem l_out (hC : LC X Y A b L xs p s m args c) (hw : LW X Y A s.heap Sx Sm H locs) (hdg : decode code pc = .ok (.laload, 1)) (kk : W p l e R s m args below meth c H locs cells slots Q (F0 m (pc + 1) ls (.long (gB Sx 32 0) :: rest))) : W p l e R s m args below meth c H locs cells slots Q (F0 m pc ls (.int 0 :: .ref (xa X 32) :: rest)) :=
  x_lld (n := 1) hC.1 hC.2.1 hC.2.2.2.2.2.1.1 hw.1 (by decide) rfl rfl (by unfold vp_in; decide +kernel) hdg kk
theorem l_outD (hC : LC X Y A b L xs p s m args c) (hw : LW X Y A s.heap Sx Sm H locs) (hdg : decode code pc = .ok (.daload, 1)) (kk : W p l e R s m args below meth c H locs cells slots Q (F0 m (pc + 1) ls (.double (gB Sx 33 0).toUInt64 :: rest))) : W p l e R s m args below meth c H locs cells slots Q (F0 m pc ls (.int 0 :: .ref (xa X 33) :: rest)) :=
  va_dald hC.1 hC.2.1 hC.2.2.2.2.2.1.1 hw.1.1 33 3 (by rw [wd_at (by decide)]; rfl) rfl (by unfold vp_in; decide +kernel) hdg kk
end LL
theorem gSw {own : String} {idx : Nat} {y : MethodName} {b : ByteArray} {n : Nat} {r : Option FieldType} {hh : List (Nat × Nat × Nat × Nat)} (h1 : Cond.methodLink own idx y ∈ WS) (h2 : Cond.static y ∈ WS) (h3 : Cond.initialized y.cls ∈ WS) (h5 : Cond.codeWith y b n r hh ∈ WS) : GoodIn WS (va_wsS own idx y (Cond.codeWith y b n r hh :: WS)) := fun w hw => by
  unfold va_wsS at hw
  rcases List.mem_append.mp hw with h | h
  · simp only [List.mem_cons, List.not_mem_nil, or_false] at h
    rcases h with rfl | rfl | rfl
    · exact ⟨h1, good_of_word (goodWS _ h1)⟩
    · exact ⟨h2, good_of_word (goodWS _ h2)⟩
    · exact ⟨h3, good_of_word (goodWS _ h3)⟩
  · rcases List.mem_cons.mp h with rfl | h
    · exact ⟨h5, good_of_word (goodWS _ h5)⟩
    · exact ⟨h, good_of_word (goodWS _ h)⟩
