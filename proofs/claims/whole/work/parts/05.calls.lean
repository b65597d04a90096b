/-! CONTRACTS over a world, and calls under them. Ev: what holds of the tables and of the cells outside. -/
theorem gN {y : MethodName} {b : ByteArray} {n : Nat} {r : Option FieldType} (h : Cond.code y b n r ∈ WS) : GoodIn WS (Cond.code y b n r :: WS) := fun w hw => (List.mem_cons.mp hw).elim (fun e => by rw [e]; exact ⟨h, good_of_word (goodWS _ h)⟩) (fun h => ⟨h, good_of_word (goodWS w h)⟩)
theorem gV {own C : String} {idx : Nat} {y : MethodName} {b : ByteArray} {n : Nat} {r : Option FieldType} (h1 : Cond.methodLink own idx y ∈ WS) (h2 : Cond.instanceMethod y ∈ WS) (h3 : Cond.selects C y y ∈ WS) (h4 : Cond.initialized C ∈ WS) (h5 : Cond.code y b n r ∈ WS) : GoodIn WS (wsV own idx C y (Cond.code y b n r :: WS)) := fun w hw => by
  unfold wsV at hw
  rcases List.mem_append.mp hw with h | h
  · simp only [List.mem_cons, List.not_mem_nil, or_false] at h
    rcases h with rfl | rfl | rfl | rfl
    · exact ⟨h1, good_of_word (goodWS _ h1)⟩
    · exact ⟨h2, good_of_word (goodWS _ h2)⟩
    · exact ⟨h3, good_of_word (goodWS _ h3)⟩
    · exact ⟨h4, good_of_word (goodWS _ h4)⟩
  · exact gN h5 w h
theorem gSt {own : String} {idx : Nat} {y : MethodName} {b : ByteArray} {n : Nat} {r : Option FieldType} (h1 : Cond.methodLink own idx y ∈ WS) (h2 : Cond.static y ∈ WS) (h3 : Cond.initialized own ∈ WS) (h5 : Cond.code y b n r ∈ WS) : GoodIn WS (wsS own idx y (Cond.code y b n r :: WS)) := fun w hw => by
  unfold wsS at hw
  rcases List.mem_append.mp hw with h | h
  · simp only [List.mem_cons, List.not_mem_nil, or_false] at h
    rcases h with rfl | rfl | rfl
    · exact ⟨h1, good_of_word (goodWS _ h1)⟩
    · exact ⟨h2, good_of_word (goodWS _ h2)⟩
    · exact ⟨h3, good_of_word (goodWS _ h3)⟩
  · exact gN h5 w h
theorem gU {own C owner : String} {idx : Nat} {x y : MethodName} {b : ByteArray} {n : Nat} {r : Option FieldType} (h1 : Cond.methodLink own idx x ∈ WS) (h2 : Cond.sameMethod x.cls owner x.name x.desc ∈ WS) (h3 : Cond.selects C x y ∈ WS) (h4 : Cond.instanceMethod y ∈ WS) (h6 : Cond.initialized y.cls ∈ WS) (h5 : Cond.code y b n r ∈ WS) : GoodIn WS (va_wsU own idx C owner x y (Cond.code y b n r :: WS)) := fun w hw => by
  unfold va_wsU at hw
  rcases List.mem_append.mp hw with h | h
  · simp only [List.mem_cons, List.not_mem_nil, or_false] at h
    rcases h with rfl | rfl | rfl | rfl | rfl
    · exact ⟨h1, good_of_word (goodWS _ h1)⟩
    · exact ⟨h2, good_of_word (goodWS _ h2)⟩
    · exact ⟨h3, good_of_word (goodWS _ h3)⟩
    · exact ⟨h4, good_of_word (goodWS _ h4)⟩
    · exact ⟨h6, good_of_word (goodWS _ h6)⟩
  · exact gN h5 w h
def lp {α : Type} (B : (α → Prop) → α → Prop) : Nat → α → Prop
  | 0 => fun _ => False
  | n + 1 => B (lp B n)
def xPre (K : Nat) (X : xG) (cf : gS → Nat → va_E) (Ev : (Nat → Prop) → State → Heap → Prop) (S : gS) (sz : Nat) (U : State) : Prop := U.heap.size = sz ∧ va_P X.1 vwCl (wd K X (cf S)) U.heap ∧ xInj K X ∧ Ev (xA K X sz) U U.heap
def xOK (Ev : (Nat → Prop) → State → Heap → Prop) : Prop := (∀ (A : Nat → Prop) (s U : State) (H : Heap), s.WarmedH U.vm → Ev A s H → Ev A U H) ∧ (∀ (A : Nat → Prop) (U : State) (H : Heap) (g : JFrame) (mk : MethodId) (a : Array Value), Ev A U H → Ev A (U.calling g mk a) H) ∧ (∀ (A A' : Nat → Prop) (s : State) (H0 H : Heap) (locs : List Loc), va_S A H0 H locs → (∀ q, A' q → A q) → Ev A s H0 → Ev A' s H)
def xB (K : Nat) (X : xG) (cf : gS → Nat → va_E) : gS → State → Prop := fun S t => va_P X.1 vwCl (wd K X (cf S)) t.heap
def xMi (l : Launch) (y : MethodName) (ws : List Cond) (rm : Room) (K : Nat) (X : xG) (cf : gS → Nat → va_E) (Ev : (Nat → Prop) → State → Heap → Prop) (S : gS) (sz : Nat) (av : List Value) (Post : Int32 → gS → Prop) : Prop := Met l y ws rm (va_Pc av (xPre K X cf Ev S sz)) (va_Qi Post (xB K X cf) (xA K X sz)) 0 0 (xA K X sz)
def xMl (l : Launch) (y : MethodName) (ws : List Cond) (rm : Room) (K : Nat) (X : xG) (cf : gS → Nat → va_E) (Ev : (Nat → Prop) → State → Heap → Prop) (S : gS) (sz : Nat) (av : List Value) (Post : Int64 → gS → Prop) : Prop := Met l y ws rm (va_Pc av (xPre K X cf Ev S sz)) (va_Ql Post (xB K X cf) (xA K X sz)) 0 0 (xA K X sz)
def xMv (l : Launch) (y : MethodName) (ws : List Cond) (rm : Room) (K : Nat) (X : xG) (cf : gS → Nat → va_E) (Ev : (Nat → Prop) → State → Heap → Prop) (S : gS) (sz : Nat) (av : List Value) (Post : gS → Prop) : Prop := Met l y ws rm (va_Pc av (xPre K X cf Ev S sz)) (va_Qv Post (xB K X cf) (xA K X sz)) 0 0 (xA K X sz)
/-- what holds all through a body -/
def xC (K : Nat) (X : xG) (Ev : (Nat → Prop) → State → Heap → Prop) (p : Program) (s : State) (m : MethodId) (args : Array Value) (c : Code) (cc : ByteArray) (nL : Nat) (own : String) : Prop :=
  p.tables.exec = Jvm.exec ∧ c.code = cc ∧ c.maxLocals = nL ∧ s.vm.findClass own = some m.cls ∧ (∀ w ∈ WS, w.before args s = true) ∧ Ev (xA K X s.heap.size) s s.heap ∧ xInj K X
theorem xA_sub {K : Nat} {X : xG} {a b : Nat} (h : a ≤ b) : ∀ q, xA K X b q → xA K X a q := fun q hq => hq.elim Or.inl (fun z => Or.inr (Nat.le_trans h z))
theorem xA_new {K : Nat} {X : xG} {a : Nat} : ∀ q, a ≤ q → xA K X a q := fun _ h => Or.inr h
section XM
variable {l : Launch} {y : MethodName} {ws : List Cond} {rm : Room} {K : Nat} {X : xG} {cf : gS → Nat → va_E} {Ev : (Nat → Prop) → State → Heap → Prop} {S : gS} {sz : Nat} {av : List Value} {cc : ByteArray} {maxL : Nat} {own : String}
theorem x_start {ret : Option FieldType} {p : Program} {e : Env} {s : State} {m : MethodId} {args : Array Value} {below : List Frame} {meth : Method} {c : Code} {s₁ : State} (hws : ws = Cond.code y cc maxL ret :: WS) (hcls : y.cls = own) (B : BodyLoose p l y (headSpec ws rm) cc maxL ret e s m args below meth c s₁) (hml : c.maxLocals = maxL) (hv : va_Pc av (xPre K X cf Ev S sz) args s) :
    xC K X Ev p s m args c cc maxL own ∧ xH K X cf (xA K X s.heap.size) s.heap S s.heap [] ∧ s.heap.size = sz ∧ args = av.toArray := by
  obtain ⟨ha, hsz, hP, hi, hE⟩ := hv
  have hown : s.vm.findClass own = some m.cls := by rw [← hcls]; exact findClass_of_methodNamed B.named
  subst hsz
  exact ⟨⟨B.exec, B.bytes, hml, hown, fun w h => atoms_spec (ws := ws) B.pre w (by rw [hws]; exact List.mem_cons_of_mem _ h), hE, hi⟩, ⟨hP, wd_D hi (fun k hk => Or.inl ⟨k, hk, rfl⟩), va_S.rf⟩, rfl, ha⟩
theorem xMi.of {Post : Int32 → gS → Prop} {ty : FieldType} (hy : plainName y.cls = true) (hw : ws = Cond.code y cc maxL (some ty) :: WS) (hcls : y.cls = own) (hlen : (lg_sl av).length ≤ maxL)
    (body : ∀ (p : Program) (e : Env) (s : State) (m : MethodId) (args : Array Value) (below : List Frame) (meth : Method) (c : Code) (ls : Array Slot) (Q : State → Prop), xC K X Ev p s m args c cc maxL own →
      (∀ (v : Int32) (S' : gS) (H : Heap) (locs : List Loc) (pc : Nat) (ls : Array Slot), narrow ty (.int v) = .int v → Post v S' → xH K X cf (xA K X s.heap.size) s.heap S' H locs → decode cc pc = .ok (.ireturn, 1) → W p l e rm s m args below meth c H locs 0 0 Q (F0 m pc ls [.int v])) →
      xH K X cf (xA K X s.heap.size) s.heap S s.heap [] → lv_has ls maxL (lv_args 0 av) → W p l e rm s m args below meth c s.heap [] 0 0 Q (F0 m 0 ls [])) : xMi l y ws rm K X cf Ev S sz av Post := by
  refine Met.ofW (cc := cc) (maxL := maxL) (ret := some ty) hy hw ?_
  intro p e s m args below meth c s₁ B hml hv
  obtain ⟨hC, hH, hsz, rfl⟩ := x_start (own := own) hw hcls B hml hv
  subst hsz
  have hl := lv_entry av (n := maxL) hlen
  rw [lg_entry_eq]
  exact body p e s m _ below meth c _ _ hC (fun v S' H locs pc ls hn hf hw hdg => W.zret hC.1 hC.2.1 B.returns hn (fun t ht hW => ⟨⟨v, S', rfl, hf, by show va_P _ _ _ _; rw [ht]; exact hw.1⟩, hw.2.2.F ht⟩) hw.2.2.2.2 hdg B.notSynchronized) hH hl
theorem xMl.of {Post : Int64 → gS → Prop} (hy : plainName y.cls = true) (hw : ws = Cond.code y cc maxL (some .long) :: WS) (hcls : y.cls = own) (hlen : (lg_sl av).length ≤ maxL)
    (body : ∀ (p : Program) (e : Env) (s : State) (m : MethodId) (args : Array Value) (below : List Frame) (meth : Method) (c : Code) (ls : Array Slot) (Q : State → Prop), xC K X Ev p s m args c cc maxL own →
      (∀ (v : Int64) (S' : gS) (H : Heap) (locs : List Loc) (pc : Nat) (ls : Array Slot), Post v S' → xH K X cf (xA K X s.heap.size) s.heap S' H locs → decode cc pc = .ok (.lreturn, 1) → W p l e rm s m args below meth c H locs 0 0 Q (F0 m pc ls [.long v])) →
      xH K X cf (xA K X s.heap.size) s.heap S s.heap [] → lv_has ls maxL (lv_args 0 av) → W p l e rm s m args below meth c s.heap [] 0 0 Q (F0 m 0 ls [])) : xMl l y ws rm K X cf Ev S sz av Post := by
  refine Met.ofW (cc := cc) (maxL := maxL) (ret := some .long) hy hw ?_
  intro p e s m args below meth c s₁ B hml hv
  obtain ⟨hC, hH, hsz, rfl⟩ := x_start (own := own) hw hcls B hml hv
  subst hsz
  have hl := lv_entry av (n := maxL) hlen
  rw [lg_entry_eq]
  exact body p e s m _ below meth c _ _ hC (fun v S' H locs pc ls hf hw hdg => W.lret hC.1 hC.2.1 B.returns (fun t ht hW => ⟨⟨v, S', rfl, hf, by show va_P _ _ _ _; rw [ht]; exact hw.1⟩, hw.2.2.F ht⟩) hw.2.2.2.2 hdg B.notSynchronized) hH hl
theorem xMv.of {Post : gS → Prop} (hy : plainName y.cls = true) (hw : ws = Cond.code y cc maxL none :: WS) (hcls : y.cls = own) (hlen : (lg_sl av).length ≤ maxL)
    (body : ∀ (p : Program) (e : Env) (s : State) (m : MethodId) (args : Array Value) (below : List Frame) (meth : Method) (c : Code) (ls : Array Slot) (Q : State → Prop), xC K X Ev p s m args c cc maxL own →
      (∀ (S' : gS) (H : Heap) (locs : List Loc) (pc : Nat) (ls : Array Slot), Post S' → xH K X cf (xA K X s.heap.size) s.heap S' H locs → decode cc pc = .ok (.return_, 1) → W p l e rm s m args below meth c H locs 0 0 Q (F0 m pc ls [])) →
      xH K X cf (xA K X s.heap.size) s.heap S s.heap [] → lv_has ls maxL (lv_args 0 av) → W p l e rm s m args below meth c s.heap [] 0 0 Q (F0 m 0 ls [])) : xMv l y ws rm K X cf Ev S sz av Post := by
  refine Met.ofW (cc := cc) (maxL := maxL) (ret := none) hy hw ?_
  intro p e s m args below meth c s₁ B hml hv
  obtain ⟨hC, hH, hsz, rfl⟩ := x_start (own := own) hw hcls B hml hv
  subst hsz
  have hl := lv_entry av (n := maxL) hlen
  rw [lg_entry_eq]
  exact body p e s m _ below meth c _ _ hC (fun S' H locs pc ls hf hw hdg => W.vret hC.1 hC.2.1 B.returns (fun t ht hW => ⟨⟨S', rfl, hf, by show va_P _ _ _ _; rw [ht]; exact hw.1⟩, hw.2.2.F ht⟩) hw.2.2.2.2 hdg B.notSynchronized) hH hl
end XM
section XCA
variable {p : Program} {l : Launch} {e : Env} {R : Room} {s : State} {m : MethodId} {args : Array Value} {below : List Frame} {meth : Method} {c : Code} {H : Heap} {locs : List Loc} {Q : State → Prop}
variable {cc : ByteArray} {pc nL : Nat} {ls : Array Slot} {rest st0 : List Value} {K : Nat} {X : xG} {cf : gS → Nat → va_E} {S : gS} {own : String} {Ev : (Nat → Prop) → State → Heap → Prop}
variable {y : MethodName} {bytes : ByteArray} {maxL n index : Nat} {ret : Option FieldType} {ws : List Cond} {rm : Room} {As av : List Value} {C : String} {Qc : Array Value → State → Outcome → State → Prop}
theorem x_blind (ok : xOK Ev) {sz : Nat} : FrameBlind (va_Pc av (xPre K X cf Ev S sz)) := fun a U g mk q => by
  obtain ⟨q0, q1, q2, q3, q4⟩ := q
  exact ⟨q0, q1, q2, q3, ok.2.1 _ _ _ _ _ _ q4⟩
theorem x_pre (ok : xOK Ev) (hC : xC K X Ev p s m args c cc nL own) (hw : xH K X cf (xA K X s.heap.size) s.heap S H locs) : ∀ U : State, U.heap = H → s.WarmedH U.vm → va_Pc av (xPre K X cf Ev S H.size) av.toArray U := fun U hU hW =>
  ⟨rfl, by rw [hU], by rw [hU]; exact hw.1, hC.2.2.2.2.2.2, by rw [hU]; exact ok.1 _ _ _ _ hW (ok.2.2 _ _ _ _ _ _ hw.2.2 (xA_sub hw.2.2.1) hC.2.2.2.2.2.1)⟩
theorem x_recv {tys : List (ClassId × FieldType)} (hK : va_K X.1 vwCl tys s) {A : Nat → Prop} {H0 : Heap} (hw : xH K X cf A H0 S H locs) {k ci : Nat} {fs : List Value} {q : vw_C} (hk : k < K) (he : cf S k = .inr (ci, fs)) (hc : vwCl[ci]? = some q) : ∃ cell : Cell, H[xa X k]? = some cell ∧ cell.vm.isStatics = false ∧ s.vm.findClass q.1 = some cell.cls :=
  va_recv hK hw.1 hc (q0 := k) (fs := fs) (by rw [wd_at hk, he])
theorem x_rV (ok : xOK Ev) (hC : xC K X Ev p s m args c cc nL own) (hw : xH K X cf (xA K X s.heap.size) s.heap S H locs) {k : Nat} (hM : Met l y ws rm (va_Pc (.ref (xa X k) :: As) (xPre K X cf Ev S H.size)) Qc 0 0 (xA K X H.size)) (cw : CallW R s args own C index y bytes maxL ret ws rm 0 0 n) (hr : ∃ cell : Cell, H[xa X k]? = some cell ∧ cell.vm.isStatics = false ∧ s.vm.findClass C = some cell.cls) (hn : As.length = n) (hls : ls.size = nL) (hst : st0 = As.reverse ++ .ref (xa X k) :: rest) (hW : (rest.map fun v => v.category).sum ≤ 8) (hdg : decode cc pc = .ok (.invokevirtual index, 3)) :
    va_Run p l e R s m args below meth c H locs 0 0 0 0 (F0 m pc ls st0) rest (Qc (Value.ref (xa X k) :: As).toArray) (xA K X H.size) :=
  va_runV ⟨hC.1, hC.2.1, hC.2.2.1, hC.2.2.2.1, hC.2.2.2.2.1⟩ hM cw ⟨x_blind ok, hr, x_pre ok hC hw⟩ rfl hn hls hst (lv_room hW) hdg ⟨Nat.zero_le _, Nat.zero_le _⟩
theorem x_rN (ok : xOK Ev) (hC : xC K X Ev p s m args c cc nL own) (hw : xH K X cf (xA K X s.heap.size) s.heap S H locs) {k : Nat} {host : String} (hM : Met l y ws rm (va_Pc (.ref (xa X k) :: As) (xPre K X cf Ev S H.size)) Qc 0 0 (xA K X H.size)) (cw : va_CN R s args own index y host bytes maxL ret ws rm 0 0 n ∧ (Cond.instanceMethod y).before args s = true ∧ (Cond.selects C y y).before args s = true) (hr : ∃ cell : Cell, H[xa X k]? = some cell ∧ cell.vm.isStatics = false ∧ s.vm.findClass C = some cell.cls) (hn : As.length = n) (hls : ls.size = nL) (hst : st0 = As.reverse ++ .ref (xa X k) :: rest) (hW : (rest.map fun v => v.category).sum ≤ 8) (hdg : decode cc pc = .ok (.invokevirtual index, 3)) :
    va_Run p l e R s m args below meth c H locs 0 0 0 0 (F0 m pc ls st0) rest (Qc (Value.ref (xa X k) :: As).toArray) (xA K X H.size) :=
  va_runVN ⟨hC.1, hC.2.1, hC.2.2.1, hC.2.2.2.1, hC.2.2.2.2.1⟩ hM cw ⟨x_blind ok, hr, x_pre ok hC hw⟩ rfl hn hls hst (lv_room hW) hdg ⟨Nat.zero_le _, Nat.zero_le _⟩
theorem x_rU (ok : xOK Ev) (hC : xC K X Ev p s m args c cc nL own) (hw : xH K X cf (xA K X s.heap.size) s.heap S H locs) {k : Nat} {owner : String} {x : MethodName} (hM : Met l y ws rm (va_Pc (.ref (xa X k) :: As) (xPre K X cf Ev S H.size)) Qc 0 0 (xA K X H.size)) (cw : va_CU R s args own C owner index x y bytes maxL ret ws rm 0 0 n) (hr : ∃ cell : Cell, H[xa X k]? = some cell ∧ cell.vm.isStatics = false ∧ s.vm.findClass C = some cell.cls) (hn : As.length = n) (hls : ls.size = nL) (hst : st0 = As.reverse ++ .ref (xa X k) :: rest) (hW : (rest.map fun v => v.category).sum ≤ 8) (hdg : decode cc pc = .ok (.invokevirtual index, 3)) :
    va_Run p l e R s m args below meth c H locs 0 0 0 0 (F0 m pc ls st0) rest (Qc (Value.ref (xa X k) :: As).toArray) (xA K X H.size) :=
  va_runU ⟨hC.1, hC.2.1, hC.2.2.1, hC.2.2.2.1, hC.2.2.2.2.1⟩ hM cw ⟨x_blind ok, hr, x_pre ok hC hw⟩ rfl hn hls hst (lv_room hW) hdg ⟨Nat.zero_le _, Nat.zero_le _⟩
theorem x_rS (ok : xOK Ev) (hC : xC K X Ev p s m args c cc nL own) (hw : xH K X cf (xA K X s.heap.size) s.heap S H locs) (hM : Met l y ws rm (va_Pc As (xPre K X cf Ev S H.size)) Qc 0 0 (xA K X H.size)) (cw : CallB R s args own index y bytes maxL ret ws rm 0 0 n ∧ (Cond.static y).before args s = true) (hn : As.length = n) (hls : ls.size = nL) (hst : st0 = As.reverse ++ rest) (hW : (rest.map fun v => v.category).sum ≤ 8) (hdg : decode cc pc = .ok (.invokestatic index, 3)) :
    va_Run p l e R s m args below meth c H locs 0 0 0 0 (F0 m pc ls st0) rest (Qc As.toArray) (xA K X H.size) :=
  va_runS ⟨hC.1, hC.2.1, hC.2.2.1, hC.2.2.2.1, hC.2.2.2.2.1⟩ hM cw ⟨x_blind ok, x_pre ok hC hw⟩ rfl hn hls hst (lv_room hW) hdg ⟨Nat.zero_le _, Nat.zero_le _⟩
variable {a : Array Value}
theorem x_ci {Post : Int32 → gS → Prop} (hr : va_Run p l e R s m args below meth c H locs 0 0 0 0 (F0 m pc ls st0) rest (va_Qi Post (xB K X cf) (xA K X H.size) a) (xA K X H.size)) (hw : xH K X cf (xA K X s.heap.size) s.heap S H locs) (hi : xInj K X)
    (kk : ∀ (r : Int32) (S' : gS) (H1 : Heap) (locs1 : List Loc), Post r S' → xH K X cf (xA K X s.heap.size) s.heap S' H1 locs1 → W p l e R s m args below meth c H1 locs1 0 0 Q (F0 m (pc + 3) ls (.int r :: rest))) : W p l e R s m args below meth c H locs 0 0 Q (F0 m pc ls st0) :=
  va_calli hr hw.2.2 (fun q _ h => xA_sub hw.2.2.1 q h) (xA_sub hw.2.2.1) (fun r u t H1 locs1 ht hvm hp hB hz hk hS => kk r u H1 locs1 hp ⟨by rw [← ht]; exact hB, wd_D hi (wd_Aof hw.2.1), hS⟩)
theorem x_cl {Post : Int64 → gS → Prop} (hr : va_Run p l e R s m args below meth c H locs 0 0 0 0 (F0 m pc ls st0) rest (va_Ql Post (xB K X cf) (xA K X H.size) a) (xA K X H.size)) (hw : xH K X cf (xA K X s.heap.size) s.heap S H locs) (hi : xInj K X)
    (kk : ∀ (r : Int64) (S' : gS) (H1 : Heap) (locs1 : List Loc), Post r S' → xH K X cf (xA K X s.heap.size) s.heap S' H1 locs1 → W p l e R s m args below meth c H1 locs1 0 0 Q (F0 m (pc + 3) ls (.long r :: rest))) : W p l e R s m args below meth c H locs 0 0 Q (F0 m pc ls st0) :=
  va_calll hr hw.2.2 (fun q _ h => xA_sub hw.2.2.1 q h) (xA_sub hw.2.2.1) (fun r u t H1 locs1 ht hvm hp hB hz hk hS => kk r u H1 locs1 hp ⟨by rw [← ht]; exact hB, wd_D hi (wd_Aof hw.2.1), hS⟩)
theorem x_cv {Post : gS → Prop} (hr : va_Run p l e R s m args below meth c H locs 0 0 0 0 (F0 m pc ls st0) rest (va_Qv Post (xB K X cf) (xA K X H.size) a) (xA K X H.size)) (hw : xH K X cf (xA K X s.heap.size) s.heap S H locs) (hi : xInj K X)
    (kk : ∀ (S' : gS) (H1 : Heap) (locs1 : List Loc), Post S' → xH K X cf (xA K X s.heap.size) s.heap S' H1 locs1 → W p l e R s m args below meth c H1 locs1 0 0 Q (F0 m (pc + 3) ls rest)) : W p l e R s m args below meth c H locs 0 0 Q (F0 m pc ls st0) :=
  va_callv hr hw.2.2 (fun q _ h => xA_sub hw.2.2.1 q h) (xA_sub hw.2.2.1) (fun u t H1 locs1 ht hvm hp hB hz hk hS => kk u H1 locs1 hp ⟨by rw [← ht]; exact hB, wd_D hi (wd_Aof hw.2.1), hS⟩)
end XCA
