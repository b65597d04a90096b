/-! Contracts of the class's methods that return or throw, their bodies' ends, calls of them; calls of the others where cells are already taken. -/
def exOK (cls : String) (ik ic ip : Nat) (b : ByteArray) : Prop := Bundle.fit cls = true ∧ (decode b 0 = .ok (.aload_n 0, 1) ∧ decode b 1 = .ok (.aload_n 1, 1) ∧ decode b 2 = .ok (.invokespecial ip, 3) ∧ decode b 5 = .ok (.return_, 1)) ∧
  ∀ w ∈ Cond.classLink RX8 ik cls :: Cond.initialized cls :: (gAtoms RX8 ic cls "java/lang/RuntimeException" ["java/lang/Exception"] ip b).filter vx_no, (w ∈ thrW ∨ w ∈ nestW) ∧ vx_ot w = true
set_option maxRecDepth 100000 in
theorem ex_A : exOK "java/lang/IllegalArgumentException" 74 78 7 prog_14_method_2_code := ⟨by decide +kernel, ⟨by decide +kernel, by decide +kernel, by decide +kernel, by decide +kernel⟩, by decide +kernel⟩
set_option maxRecDepth 100000 in
theorem ex_S : exOK "java/lang/IllegalStateException" 113 117 7 prog_15_method_2_code := ⟨by decide +kernel, ⟨by decide +kernel, by decide +kernel, by decide +kernel, by decide +kernel⟩, by decide +kernel⟩
set_option maxRecDepth 100000 in
theorem ex_I : exOK "java/lang/IndexOutOfBoundsException" 133 137 7 prog_16_method_2_code := ⟨by decide +kernel, ⟨by decide +kernel, by decide +kernel, by decide +kernel, by decide +kernel⟩, by decide +kernel⟩
set_option maxRecDepth 100000 in
theorem ex_N : exOK "java/util/NoSuchElementException" 198 202 13 prog_21_method_4_code := ⟨by decide +kernel, ⟨by decide +kernel, by decide +kernel, by decide +kernel, by decide +kernel⟩, by decide +kernel⟩
def xXC (X : xG) (sz : Nat) (PX : String → gS → Prop) : String → State → State → Prop := vx_X (fun _ : gS => True) (fun E S t => PX E S ∧ xB 34 X (cX X) S t) (xA 34 X sz)
def yMi (l : Launch) (y : MethodName) (ws : List Cond) (rm : Room) (X : xG) (S : gS) (sz : Nat) (av : List Value) (Post : Int32 → gS → Prop) (PX : String → gS → Prop) (mc ms : Nat) : Prop := vx_Met l y ws rm (va_Pc av (xPre 34 X (cX X) (eX X) S sz)) (va_Qi Post (xB 34 X (cX X)) (xA 34 X sz)) (xXC X sz PX) mc ms (xA 34 X sz)
def yMl (l : Launch) (y : MethodName) (ws : List Cond) (rm : Room) (X : xG) (S : gS) (sz : Nat) (av : List Value) (Post : Int64 → gS → Prop) (PX : String → gS → Prop) (mc ms : Nat) : Prop := vx_Met l y ws rm (va_Pc av (xPre 34 X (cX X) (eX X) S sz)) (va_Ql Post (xB 34 X (cX X)) (xA 34 X sz)) (xXC X sz PX) mc ms (xA 34 X sz)
def yMd (l : Launch) (y : MethodName) (ws : List Cond) (rm : Room) (X : xG) (S : gS) (sz : Nat) (av : List Value) (Post : UInt64 → gS → Prop) (PX : String → gS → Prop) (mc ms : Nat) : Prop := vx_Met l y ws rm (va_Pc av (xPre 34 X (cX X) (eX X) S sz)) (va_Qd Post (xB 34 X (cX X)) (xA 34 X sz)) (xXC X sz PX) mc ms (xA 34 X sz)
def yMv (l : Launch) (y : MethodName) (ws : List Cond) (rm : Room) (X : xG) (S : gS) (sz : Nat) (av : List Value) (Post : gS → Prop) (PX : String → gS → Prop) (mc ms : Nat) : Prop := vx_Met l y ws rm (va_Pc av (xPre 34 X (cX X) (eX X) S sz)) (va_Qv Post (xB 34 X (cX X)) (xA 34 X sz)) (xXC X sz PX) mc ms (xA 34 X sz)
/-- how a body throws -/
def yT (p : Program) (l : Launch) (e : Env) (rm : Room) (s : State) (m : MethodId) (args : Array Value) (below : List Frame) (meth : Method) (c : Code) (Q : State → Prop) (X : xG) (cc : ByteArray) (nL mc ms : Nat) (PX : String → gS → Prop) : Prop :=
  ∀ (cls text : String) (ik ic ip is : Nat) (b : ByteArray) (S' : gS) (H : Heap) (locs : List Loc) (pc : Nat) (ls : Array Slot) (rest : List Value) (cells slots : Nat), exOK cls ik ic ip b → (is, text) ∈ strX → PX cls S' → xH 34 X (cX X) (xA 34 X s.heap.size) s.heap S' H locs → ls.size = nL → (rest.map fun v => v.category).sum ≤ 8 → cells + 1 ≤ mc → slots + 6 ≤ ms → decode cc pc = .ok (.new ik, 3) → decode cc (pc + 3) = .ok (.dup, 1) →
    ((decode cc (pc + 4) = .ok (.ldc is, 2) ∧ decode cc (pc + 6) = .ok (.invokespecial ic, 3) ∧ decode cc (pc + 9) = .ok (.athrow, 1)) ∨ (decode cc (pc + 4) = .ok (.ldc_w is, 3) ∧ decode cc (pc + 7) = .ok (.invokespecial ic, 3) ∧ decode cc (pc + 10) = .ok (.athrow, 1))) → W p l e rm s m args below meth c H locs cells slots Q (F0 m pc ls rest)
/-- how what a callee threw goes on -/
def yX (p : Program) (l : Launch) (e : Env) (rm : Room) (s : State) (m : MethodId) (args : Array Value) (below : List Frame) (meth : Method) (c : Code) (Q : State → Prop) (X : xG) (mc ms : Nat) (PX : String → gS → Prop) : Prop :=
  ∀ (E : String) (ce : Cell) (q : Addr) (S' : gS) (H : Heap) (locs : List Loc) (pc : Nat) (ls : Array Slot) (rest : List Value) (cells slots : Nat), PX E S' → xH 34 X (cX X) (xA 34 X s.heap.size) s.heap S' H locs → H[q]? = some ce → ce.vm = .none → s.vm.findClass E = some ce.cls → cells ≤ mc → slots ≤ ms → vx_W p l e rm s m args below meth c H locs cells slots Q (F0 m pc ls rest) q
theorem xH.keep {K : Nat} {X : xG} {cf : gS → Nat → va_E} {S : gS} {H H1 : Heap} (hP : va_P X.1 vwCl (wd K X (cf S)) H) (h : ∀ q : Nat, q < H.size → H1[q]? = H[q]?) : va_P X.1 vwCl (wd K X (cf S)) H1 := fun k q hk => (hP k q hk).kept (h q.1 (hP k q hk).lt)
section YM
variable {p : Program} {l : Launch} {e : Env} {rm : Room} {s : State} {m : MethodId} {args : Array Value} {below : List Frame} {meth : Method} {c : Code} {X : xG} {cc : ByteArray} {nL mc ms : Nat} {PX : String → gS → Prop} {Qc : Array Value → State → Outcome → State → Prop}
theorem yT.of (hl : l.stackTraces = false) (hC : xC 34 X (eX X) p s m args c cc nL RX8) (hlocks : meth.locks = false) (htab : ∀ x ∈ c.exceptionTable.toList, False) (hf : 6 ≤ rm.frames) (hlo : 90 ≤ rm.locals) (hrc : rm.cells = mc) (hrs : rm.slots = ms) : yT p l e rm s m args below meth c (vx_MQ below Qc (xXC X s.heap.size PX) args s mc ms (xA 34 X s.heap.size)) X cc nL mc ms PX := by
  intro cls text ik ic ip is b S' H locs pc ls rest cells slots hex hstr hPX hw hls hrest h1 h2 d0 d3 hd
  obtain ⟨hx, hb, hml, hown, hts, hE, hi⟩ := hC
  obtain ⟨e1, e2, e3, e4, e5, e6, e7, e8⟩ := hE
  obtain ⟨f1, ⟨b0, b1, b2, b5⟩, f3⟩ := hex
  have hword : ∀ w ∈ Cond.classLink RX8 ik cls :: Cond.initialized cls :: (gAtoms RX8 ic cls "java/lang/RuntimeException" ["java/lang/Exception"] ip b).filter vx_no, w.before args s = true := fun w hw9 => by
    rcases (f3 w hw9).1 with h | h
    · exact va_Nw.use (List.all_eq_true.mp thrW_on w h) (e8 w h)
    · exact va_Nw.use (nestW_on w h) (e2 w h)
  obtain ⟨sa, hsa⟩ := e7 (is, text) hstr
  have hxc : ∀ t : State, s.vm.Alike t.vm → H.size ≤ t.heap.size → (∀ q : Nat, q < H.size → t.heap[q]? = H[q]?) → xXC X s.heap.size PX cls s t := fun t _ k1 k2 =>
    ⟨S', trivial, ⟨hPX, xH.keep hw.1 k2⟩, Nat.le_trans hw.2.2.1 k1, fun q q1 q2 => (k2 q (Nat.lt_of_lt_of_le q1 hw.2.2.1)).trans (hw.2.2.2.1 q q1 q2)⟩
  rcases hd with ⟨d4, d6, d9⟩ | ⟨d4, d6, d9⟩
  · exact gx_throwS (cls := cls) (text := text) (Y0 := "java/lang/RuntimeException") (names := ["java/lang/Exception"]) (ip := ip) (bytes0 := b) hx hb hl hown f1 (by decide +kernel) b0 b1 b2 b5 (by decide +kernel) (hword _ List.mem_cons_self) (hword _ (List.mem_cons_of_mem _ List.mem_cons_self)) hsa (fun w h => hword w (List.mem_cons_of_mem _ (List.mem_cons_of_mem _ h))) (fun w h => (f3 w h).2) e5 e6 hw.2.2 (hls.trans hml.symm) d0 d3 d4 d6 d9 (fun x hx9 => (htab x hx9).elim) (by simp only [List.length]; omega) (by simp only [List.length]; omega) (by omega) (by omega) hlocks hxc hw.2.2.2.2 h1 h2
  · exact gx_throwSW (cls := cls) (text := text) (Y0 := "java/lang/RuntimeException") (names := ["java/lang/Exception"]) (ip := ip) (bytes0 := b) hx hb hl hown f1 (by decide +kernel) b0 b1 b2 b5 (by decide +kernel) (hword _ List.mem_cons_self) (hword _ (List.mem_cons_of_mem _ List.mem_cons_self)) hsa (fun w h => hword w (List.mem_cons_of_mem _ (List.mem_cons_of_mem _ h))) (fun w h => (f3 w h).2) e5 e6 hw.2.2 (hls.trans hml.symm) d0 d3 d4 d6 d9 (fun x hx9 => (htab x hx9).elim) (by simp only [List.length]; omega) (by simp only [List.length]; omega) (by omega) (by omega) hlocks hxc hw.2.2.2.2 h1 h2
theorem yX.of (hlocks : meth.locks = false) (htab : ∀ x ∈ c.exceptionTable.toList, False) : yX p l e rm s m args below meth c (vx_MQ below Qc (xXC X s.heap.size PX) args s mc ms (xA 34 X s.heap.size)) X mc ms PX := by
  intro E ce q S' H locs pc ls rest cells slots hPX hw h1 h2 h3 h4 h5
  exact vx_out (fun x hx9 => (htab x hx9).elim) hlocks h1 h2 h3 (fun t ht _ => ⟨S', trivial, ⟨hPX, by show va_P _ _ _ _; rw [ht]; exact hw.1⟩, hw.2.2.F ht⟩) hw.2.2.2.2 h4 h5
end YM
section YB
variable {l : Launch} {y : MethodName} {ws : List Cond} {rm : Room} {X : xG} {S : gS} {sz : Nat} {av : List Value} {cc : ByteArray} {maxL mc ms : Nat} {PX : String → gS → Prop}
theorem yMi.of {Post : Int32 → gS → Prop} {ty : FieldType} (hl : l.stackTraces = false) (hy : plainName y.cls = true) (hw : ws = Cond.code y cc maxL (some ty) :: WS) (hcls : y.cls = RX8) (hlen : (lg_sl av).length ≤ maxL) (hf : 6 ≤ rm.frames) (hlo : 90 ≤ rm.locals) (hrc : rm.cells = mc) (hrs : rm.slots = ms)
    (body : ∀ (p : Program) (e : Env) (s : State) (m : MethodId) (args : Array Value) (below : List Frame) (meth : Method) (c : Code) (ls : Array Slot) (Q : State → Prop), xC 34 X (eX X) p s m args c cc maxL RX8 →
      (∀ (v : Int32) (S' : gS) (H : Heap) (locs : List Loc) (pc : Nat) (ls : Array Slot) (cells slots : Nat), narrow ty (.int v) = .int v → Post v S' → xH 34 X (cX X) (xA 34 X s.heap.size) s.heap S' H locs → decode cc pc = .ok (.ireturn, 1) → cells ≤ mc → slots ≤ ms → W p l e rm s m args below meth c H locs cells slots Q (F0 m pc ls [.int v])) →
      yT p l e rm s m args below meth c Q X cc maxL mc ms PX → yX p l e rm s m args below meth c Q X mc ms PX →
      xH 34 X (cX X) (xA 34 X s.heap.size) s.heap S s.heap [] → lv_has ls maxL (lv_args 0 av) → W p l e rm s m args below meth c s.heap [] 0 0 Q (F0 m 0 ls [])) : yMi l y ws rm X S sz av Post PX mc ms := by
  refine vx_ofW (cc := cc) (maxL := maxL) (ret := some ty) hy hw ?_
  intro p e s m args below meth c s₁ B hml htab hv
  obtain ⟨hC, hH, hsz, rfl⟩ := x_start (own := RX8) hw hcls B hml hv
  subst hsz
  have hl9 := lv_entry av (n := maxL) hlen
  rw [lg_entry_eq]
  exact body p e s m _ below meth c _ _ hC (fun v S' H locs pc ls cells slots hn hf hw hdg h1 h2 => W.widen (k := mc) (n := ms) h1 h2 (vx_ret (W.zret hC.1 hC.2.1 B.returns hn (fun t ht hW => ⟨⟨v, S', rfl, hf, by show va_P _ _ _ _; rw [ht]; exact hw.1⟩, hw.2.2.F ht⟩) hw.2.2.2.2 hdg B.notSynchronized))) (yT.of hl hC B.notSynchronized htab hf hlo hrc hrs) (yX.of B.notSynchronized htab) hH hl9
theorem yMl.of {Post : Int64 → gS → Prop} (hl : l.stackTraces = false) (hy : plainName y.cls = true) (hw : ws = Cond.code y cc maxL (some .long) :: WS) (hcls : y.cls = RX8) (hlen : (lg_sl av).length ≤ maxL) (hf : 6 ≤ rm.frames) (hlo : 90 ≤ rm.locals) (hrc : rm.cells = mc) (hrs : rm.slots = ms)
    (body : ∀ (p : Program) (e : Env) (s : State) (m : MethodId) (args : Array Value) (below : List Frame) (meth : Method) (c : Code) (ls : Array Slot) (Q : State → Prop), xC 34 X (eX X) p s m args c cc maxL RX8 →
      (∀ (v : Int64) (S' : gS) (H : Heap) (locs : List Loc) (pc : Nat) (ls : Array Slot) (cells slots : Nat), Post v S' → xH 34 X (cX X) (xA 34 X s.heap.size) s.heap S' H locs → decode cc pc = .ok (.lreturn, 1) → cells ≤ mc → slots ≤ ms → W p l e rm s m args below meth c H locs cells slots Q (F0 m pc ls [.long v])) →
      yT p l e rm s m args below meth c Q X cc maxL mc ms PX → yX p l e rm s m args below meth c Q X mc ms PX →
      xH 34 X (cX X) (xA 34 X s.heap.size) s.heap S s.heap [] → lv_has ls maxL (lv_args 0 av) → W p l e rm s m args below meth c s.heap [] 0 0 Q (F0 m 0 ls [])) : yMl l y ws rm X S sz av Post PX mc ms := by
  refine vx_ofW (cc := cc) (maxL := maxL) (ret := some .long) hy hw ?_
  intro p e s m args below meth c s₁ B hml htab hv
  obtain ⟨hC, hH, hsz, rfl⟩ := x_start (own := RX8) hw hcls B hml hv
  subst hsz
  have hl9 := lv_entry av (n := maxL) hlen
  rw [lg_entry_eq]
  exact body p e s m _ below meth c _ _ hC (fun v S' H locs pc ls cells slots hf hw hdg h1 h2 => W.widen (k := mc) (n := ms) h1 h2 (vx_ret (W.lret hC.1 hC.2.1 B.returns (fun t ht hW => ⟨⟨v, S', rfl, hf, by show va_P _ _ _ _; rw [ht]; exact hw.1⟩, hw.2.2.F ht⟩) hw.2.2.2.2 hdg B.notSynchronized))) (yT.of hl hC B.notSynchronized htab hf hlo hrc hrs) (yX.of B.notSynchronized htab) hH hl9
theorem yMv.of {Post : gS → Prop} (hl : l.stackTraces = false) (hy : plainName y.cls = true) (hw : ws = Cond.code y cc maxL none :: WS) (hcls : y.cls = RX8) (hlen : (lg_sl av).length ≤ maxL) (hf : 6 ≤ rm.frames) (hlo : 90 ≤ rm.locals) (hrc : rm.cells = mc) (hrs : rm.slots = ms)
    (body : ∀ (p : Program) (e : Env) (s : State) (m : MethodId) (args : Array Value) (below : List Frame) (meth : Method) (c : Code) (ls : Array Slot) (Q : State → Prop), xC 34 X (eX X) p s m args c cc maxL RX8 →
      (∀ (S' : gS) (H : Heap) (locs : List Loc) (pc : Nat) (ls : Array Slot) (cells slots : Nat), Post S' → xH 34 X (cX X) (xA 34 X s.heap.size) s.heap S' H locs → decode cc pc = .ok (.return_, 1) → cells ≤ mc → slots ≤ ms → W p l e rm s m args below meth c H locs cells slots Q (F0 m pc ls [])) →
      yT p l e rm s m args below meth c Q X cc maxL mc ms PX → yX p l e rm s m args below meth c Q X mc ms PX →
      xH 34 X (cX X) (xA 34 X s.heap.size) s.heap S s.heap [] → lv_has ls maxL (lv_args 0 av) → W p l e rm s m args below meth c s.heap [] 0 0 Q (F0 m 0 ls [])) : yMv l y ws rm X S sz av Post PX mc ms := by
  refine vx_ofW (cc := cc) (maxL := maxL) (ret := none) hy hw ?_
  intro p e s m args below meth c s₁ B hml htab hv
  obtain ⟨hC, hH, hsz, rfl⟩ := x_start (own := RX8) hw hcls B hml hv
  subst hsz
  have hl9 := lv_entry av (n := maxL) hlen
  rw [lg_entry_eq]
  exact body p e s m _ below meth c _ _ hC (fun S' H locs pc ls cells slots hf hw hdg h1 h2 => W.widen (k := mc) (n := ms) h1 h2 (vx_ret (W.vret hC.1 hC.2.1 B.returns (fun t ht hW => ⟨⟨S', rfl, hf, by show va_P _ _ _ _; rw [ht]; exact hw.1⟩, hw.2.2.F ht⟩) hw.2.2.2.2 hdg B.notSynchronized))) (yT.of hl hC B.notSynchronized htab hf hlo hrc hrs) (yX.of B.notSynchronized htab) hH hl9
theorem yMd.of {Post : UInt64 → gS → Prop} (hl : l.stackTraces = false) (hy : plainName y.cls = true) (hw : ws = Cond.code y cc maxL (some .double) :: WS) (hcls : y.cls = RX8) (hlen : (lg_sl av).length ≤ maxL) (hf : 6 ≤ rm.frames) (hlo : 90 ≤ rm.locals) (hrc : rm.cells = mc) (hrs : rm.slots = ms)
    (body : ∀ (p : Program) (e : Env) (s : State) (m : MethodId) (args : Array Value) (below : List Frame) (meth : Method) (c : Code) (ls : Array Slot) (Q : State → Prop), xC 34 X (eX X) p s m args c cc maxL RX8 →
      (∀ (v : UInt64) (S' : gS) (H : Heap) (locs : List Loc) (pc : Nat) (ls : Array Slot) (cells slots : Nat), Post v S' → xH 34 X (cX X) (xA 34 X s.heap.size) s.heap S' H locs → decode cc pc = .ok (.dreturn, 1) → cells ≤ mc → slots ≤ ms → W p l e rm s m args below meth c H locs cells slots Q (F0 m pc ls [.double v])) →
      yT p l e rm s m args below meth c Q X cc maxL mc ms PX → yX p l e rm s m args below meth c Q X mc ms PX →
      xH 34 X (cX X) (xA 34 X s.heap.size) s.heap S s.heap [] → lv_has ls maxL (lv_args 0 av) → W p l e rm s m args below meth c s.heap [] 0 0 Q (F0 m 0 ls [])) : yMd l y ws rm X S sz av Post PX mc ms := by
  refine vx_ofW (cc := cc) (maxL := maxL) (ret := some .double) hy hw ?_
  intro p e s m args below meth c s₁ B hml htab hv
  obtain ⟨hC, hH, hsz, rfl⟩ := x_start (own := RX8) hw hcls B hml hv
  subst hsz
  have hl9 := lv_entry av (n := maxL) hlen
  rw [lg_entry_eq]
  exact body p e s m _ below meth c _ _ hC (fun v S' H locs pc ls cells slots hf hw hdg h1 h2 => W.widen (k := mc) (n := ms) h1 h2 (vx_ret (W.dret hC.1 hC.2.1 B.returns (fun t ht hW => ⟨⟨v, S', rfl, hf, by show va_P _ _ _ _; rw [ht]; exact hw.1⟩, hw.2.2.F ht⟩) hw.2.2.2.2 hdg B.notSynchronized))) (yT.of hl hC B.notSynchronized htab hf hlo hrc hrs) (yX.of B.notSynchronized htab) hH hl9
end YB
section YC
variable {p : Program} {l : Launch} {e : Env} {R : Room} {s : State} {m : MethodId} {args : Array Value} {below : List Frame} {meth : Method} {c : Code} {H : Heap} {locs : List Loc} {Q : State → Prop} {cells slots mc ms : Nat}
variable {cc : ByteArray} {pc nL : Nat} {ls : Array Slot} {rest st0 : List Value} {K : Nat} {X : xG} {cf : gS → Nat → va_E} {S : gS} {own : String} {Ev : (Nat → Prop) → State → Heap → Prop}
variable {y : MethodName} {bytes : ByteArray} {maxL n index : Nat} {ret : Option FieldType} {ws : List Cond} {rm : Room} {As av : List Value} {C : String} {Qc : Array Value → State → Outcome → State → Prop} {XC : String → State → State → Prop}
theorem z_rV (ok : xOK Ev) (hC : xC K X Ev p s m args c cc nL own) (hw : xH K X cf (xA K X s.heap.size) s.heap S H locs) {k : Nat} (hM : Met l y ws rm (va_Pc (.ref (xa X k) :: As) (xPre K X cf Ev S H.size)) Qc 0 0 (xA K X H.size)) (cw : CallW R s args own C index y bytes maxL ret ws rm 0 0 n) (hr : ∃ cell : Cell, H[xa X k]? = some cell ∧ cell.vm.isStatics = false ∧ s.vm.findClass C = some cell.cls) (hn : As.length = n) (hls : ls.size = nL) (hst : st0 = As.reverse ++ .ref (xa X k) :: rest) (hW : (rest.map fun v => v.category).sum ≤ 8) (hdg : decode cc pc = .ok (.invokevirtual index, 3)) (hf : cells ≤ R.cells ∧ slots ≤ R.slots) :
    va_Run p l e R s m args below meth c H locs cells slots 0 0 (F0 m pc ls st0) rest (Qc (Value.ref (xa X k) :: As).toArray) (xA K X H.size) :=
  va_runV ⟨hC.1, hC.2.1, hC.2.2.1, hC.2.2.2.1, hC.2.2.2.2.1⟩ hM cw ⟨x_blind ok, hr, x_pre ok hC hw⟩ rfl hn hls hst (lv_room hW) hdg hf
theorem z_rN (ok : xOK Ev) (hC : xC K X Ev p s m args c cc nL own) (hw : xH K X cf (xA K X s.heap.size) s.heap S H locs) {k : Nat} {host : String} (hM : Met l y ws rm (va_Pc (.ref (xa X k) :: As) (xPre K X cf Ev S H.size)) Qc 0 0 (xA K X H.size)) (cw : va_CN R s args own index y host bytes maxL ret ws rm 0 0 n ∧ (Cond.instanceMethod y).before args s = true ∧ (Cond.selects C y y).before args s = true) (hr : ∃ cell : Cell, H[xa X k]? = some cell ∧ cell.vm.isStatics = false ∧ s.vm.findClass C = some cell.cls) (hn : As.length = n) (hls : ls.size = nL) (hst : st0 = As.reverse ++ .ref (xa X k) :: rest) (hW : (rest.map fun v => v.category).sum ≤ 8) (hdg : decode cc pc = .ok (.invokevirtual index, 3)) (hf : cells ≤ R.cells ∧ slots ≤ R.slots) :
    va_Run p l e R s m args below meth c H locs cells slots 0 0 (F0 m pc ls st0) rest (Qc (Value.ref (xa X k) :: As).toArray) (xA K X H.size) :=
  va_runVN ⟨hC.1, hC.2.1, hC.2.2.1, hC.2.2.2.1, hC.2.2.2.2.1⟩ hM cw ⟨x_blind ok, hr, x_pre ok hC hw⟩ rfl hn hls hst (lv_room hW) hdg hf
theorem z_rU (ok : xOK Ev) (hC : xC K X Ev p s m args c cc nL own) (hw : xH K X cf (xA K X s.heap.size) s.heap S H locs) {k : Nat} {owner : String} {x : MethodName} (hM : Met l y ws rm (va_Pc (.ref (xa X k) :: As) (xPre K X cf Ev S H.size)) Qc 0 0 (xA K X H.size)) (cw : va_CU R s args own C owner index x y bytes maxL ret ws rm 0 0 n) (hr : ∃ cell : Cell, H[xa X k]? = some cell ∧ cell.vm.isStatics = false ∧ s.vm.findClass C = some cell.cls) (hn : As.length = n) (hls : ls.size = nL) (hst : st0 = As.reverse ++ .ref (xa X k) :: rest) (hW : (rest.map fun v => v.category).sum ≤ 8) (hdg : decode cc pc = .ok (.invokevirtual index, 3)) (hf : cells ≤ R.cells ∧ slots ≤ R.slots) :
    va_Run p l e R s m args below meth c H locs cells slots 0 0 (F0 m pc ls st0) rest (Qc (Value.ref (xa X k) :: As).toArray) (xA K X H.size) :=
  va_runU ⟨hC.1, hC.2.1, hC.2.2.1, hC.2.2.2.1, hC.2.2.2.2.1⟩ hM cw ⟨x_blind ok, hr, x_pre ok hC hw⟩ rfl hn hls hst (lv_room hW) hdg hf
theorem z_rS (ok : xOK Ev) (hC : xC K X Ev p s m args c cc nL own) (hw : xH K X cf (xA K X s.heap.size) s.heap S H locs) (hM : Met l y ws rm (va_Pc As (xPre K X cf Ev S H.size)) Qc 0 0 (xA K X H.size)) (cw : CallB R s args own index y bytes maxL ret ws rm 0 0 n ∧ (Cond.static y).before args s = true) (hn : As.length = n) (hls : ls.size = nL) (hst : st0 = As.reverse ++ rest) (hW : (rest.map fun v => v.category).sum ≤ 8) (hdg : decode cc pc = .ok (.invokestatic index, 3)) (hf : cells ≤ R.cells ∧ slots ≤ R.slots) :
    va_Run p l e R s m args below meth c H locs cells slots 0 0 (F0 m pc ls st0) rest (Qc As.toArray) (xA K X H.size) :=
  va_runS ⟨hC.1, hC.2.1, hC.2.2.1, hC.2.2.2.1, hC.2.2.2.2.1⟩ hM cw ⟨x_blind ok, x_pre ok hC hw⟩ rfl hn hls hst (lv_room hW) hdg hf
theorem y_rV (hC : xC 34 X (eX X) p s m args c cc nL own) (hw : xH 34 X (cX X) (xA 34 X s.heap.size) s.heap S H locs) {k : Nat} (hM : vx_Met l y ws rm (va_Pc (.ref (xa X k) :: As) (xPre 34 X (cX X) (eX X) S H.size)) Qc XC mc ms (xA 34 X H.size)) (cw : CallW R s args own C index y bytes maxL ret ws rm mc ms n) (hr : ∃ cell : Cell, H[xa X k]? = some cell ∧ cell.vm.isStatics = false ∧ s.vm.findClass C = some cell.cls) (hn : As.length = n) (hls : ls.size = nL) (hst : st0 = As.reverse ++ .ref (xa X k) :: rest) (hW : (rest.map fun v => v.category).sum ≤ 8) (hdg : decode cc pc = .ok (.invokevirtual index, 3)) (hf : cells + mc ≤ R.cells ∧ slots + ms ≤ R.slots) :
    vx_Run p l e R s m args below meth c H locs cells slots mc ms (F0 m pc ls st0) rest (Qc (Value.ref (xa X k) :: As).toArray) XC (xA 34 X H.size) :=
  vx_runV ⟨hC.1, hC.2.1, hC.2.2.1, hC.2.2.2.1, hC.2.2.2.2.1⟩ hM cw ⟨x_blind (okX X), hr, x_pre (okX X) hC hw⟩ rfl hn hls hst (lv_room hW) hdg hf
theorem y_rS (hC : xC 34 X (eX X) p s m args c cc nL own) (hw : xH 34 X (cX X) (xA 34 X s.heap.size) s.heap S H locs) (hM : vx_Met l y ws rm (va_Pc As (xPre 34 X (cX X) (eX X) S H.size)) Qc XC mc ms (xA 34 X H.size)) (cw : CallB R s args own index y bytes maxL ret ws rm mc ms n ∧ (Cond.static y).before args s = true) (hn : As.length = n) (hls : ls.size = nL) (hst : st0 = As.reverse ++ rest) (hW : (rest.map fun v => v.category).sum ≤ 8) (hdg : decode cc pc = .ok (.invokestatic index, 3)) (hf : cells + mc ≤ R.cells ∧ slots + ms ≤ R.slots) :
    vx_Run p l e R s m args below meth c H locs cells slots mc ms (F0 m pc ls st0) rest (Qc As.toArray) XC (xA 34 X H.size) :=
  vx_runS ⟨hC.1, hC.2.1, hC.2.2.1, hC.2.2.2.1, hC.2.2.2.2.1⟩ hM cw ⟨x_blind (okX X), x_pre (okX X) hC hw⟩ rfl hn hls hst (lv_room hW) hdg hf
variable {a : Array Value} {PX : String → gS → Prop}
theorem z_ci {Post : Int32 → gS → Prop} (hr : va_Run p l e R s m args below meth c H locs cells slots 0 0 (F0 m pc ls st0) rest (va_Qi Post (xB K X cf) (xA K X H.size) a) (xA K X H.size)) (hw : xH K X cf (xA K X s.heap.size) s.heap S H locs) (hi : xInj K X)
    (kk : ∀ (r : Int32) (S' : gS) (H1 : Heap) (locs1 : List Loc), Post r S' → xH K X cf (xA K X s.heap.size) s.heap S' H1 locs1 → W p l e R s m args below meth c H1 locs1 cells slots Q (F0 m (pc + 3) ls (.int r :: rest))) : W p l e R s m args below meth c H locs cells slots Q (F0 m pc ls st0) :=
  va_calli hr hw.2.2 (fun q _ h => xA_sub hw.2.2.1 q h) (xA_sub hw.2.2.1) (fun r u t H1 locs1 ht hvm hp hB hz hk hS => kk r u H1 locs1 hp ⟨by rw [← ht]; exact hB, wd_D hi (wd_Aof hw.2.1), hS⟩)
theorem z_cl {Post : Int64 → gS → Prop} (hr : va_Run p l e R s m args below meth c H locs cells slots 0 0 (F0 m pc ls st0) rest (va_Ql Post (xB K X cf) (xA K X H.size) a) (xA K X H.size)) (hw : xH K X cf (xA K X s.heap.size) s.heap S H locs) (hi : xInj K X)
    (kk : ∀ (r : Int64) (S' : gS) (H1 : Heap) (locs1 : List Loc), Post r S' → xH K X cf (xA K X s.heap.size) s.heap S' H1 locs1 → W p l e R s m args below meth c H1 locs1 cells slots Q (F0 m (pc + 3) ls (.long r :: rest))) : W p l e R s m args below meth c H locs cells slots Q (F0 m pc ls st0) :=
  va_calll hr hw.2.2 (fun q _ h => xA_sub hw.2.2.1 q h) (xA_sub hw.2.2.1) (fun r u t H1 locs1 ht hvm hp hB hz hk hS => kk r u H1 locs1 hp ⟨by rw [← ht]; exact hB, wd_D hi (wd_Aof hw.2.1), hS⟩)
theorem z_cv {Post : gS → Prop} (hr : va_Run p l e R s m args below meth c H locs cells slots 0 0 (F0 m pc ls st0) rest (va_Qv Post (xB K X cf) (xA K X H.size) a) (xA K X H.size)) (hw : xH K X cf (xA K X s.heap.size) s.heap S H locs) (hi : xInj K X)
    (kk : ∀ (S' : gS) (H1 : Heap) (locs1 : List Loc), Post S' → xH K X cf (xA K X s.heap.size) s.heap S' H1 locs1 → W p l e R s m args below meth c H1 locs1 cells slots Q (F0 m (pc + 3) ls rest)) : W p l e R s m args below meth c H locs cells slots Q (F0 m pc ls st0) :=
  va_callv hr hw.2.2 (fun q _ h => xA_sub hw.2.2.1 q h) (xA_sub hw.2.2.1) (fun u t H1 locs1 ht hvm hp hB hz hk hS => kk u H1 locs1 hp ⟨by rw [← ht]; exact hB, wd_D hi (wd_Aof hw.2.1), hS⟩)
theorem y_cv {Post : gS → Prop} (hr : vx_Run p l e R s m args below meth c H locs cells slots mc ms (F0 m pc ls st0) rest (va_Qv Post (xB 34 X (cX X)) (xA 34 X H.size) a) (xXC X H.size PX) (xA 34 X H.size)) (hw : xH 34 X (cX X) (xA 34 X s.heap.size) s.heap S H locs) (hi : xInj 34 X)
    (kx : ∀ (E : String) (ce : Cell) (q9 : Addr) (S' : gS) (H1 : Heap) (locs1 : List Loc), PX E S' → xH 34 X (cX X) (xA 34 X s.heap.size) s.heap S' H1 locs1 → H1[q9]? = some ce → ce.vm = .none → s.vm.findClass E = some ce.cls → vx_W p l e R s m args below meth c H1 locs1 (cells + mc) (slots + ms) Q (F0 m pc ls rest) q9)
    (kk : ∀ (S' : gS) (H1 : Heap) (locs1 : List Loc), Post S' → xH 34 X (cX X) (xA 34 X s.heap.size) s.heap S' H1 locs1 → W p l e R s m args below meth c H1 locs1 (cells + mc) (slots + ms) Q (F0 m (pc + 3) ls rest)) : W p l e R s m args below meth c H locs cells slots Q (F0 m pc ls st0) :=
  vx_callv hr hw.2.2 (fun q _ h => xA_sub hw.2.2.1 q h) (xA_sub hw.2.2.1) (fun q _ h => xA_sub hw.2.2.1 q h) (fun E ce q9 u t H1 locs1 ht hvm hp hB hz hk hS h1 h2 h3 => kx E ce q9 u H1 locs1 hB.1 ⟨by rw [← ht]; exact hB.2, wd_D hi (wd_Aof hw.2.1), hS⟩ h1 h2 h3) (fun u t H1 locs1 ht hvm hp hB hz hk hS => kk u H1 locs1 hp ⟨by rw [← ht]; exact hB, wd_D hi (wd_Aof hw.2.1), hS⟩)
end YC
theorem sw_out3 {x : Int32} (h0 : ¬ x = 0) (h1 : ¬ x = 1) (h2 : ¬ x = 2) : x.toInt < 0 ∨ 2 < x.toInt := by
  have k0 : x.toInt ≠ 0 := fun h => h0 (Int32.toInt_inj.mp (h.trans (by decide)))
  have k1 : x.toInt ≠ 1 := fun h => h1 (Int32.toInt_inj.mp (h.trans (by decide)))
  have k2 : x.toInt ≠ 2 := fun h => h2 (Int32.toInt_inj.mp (h.trans (by decide)))
  omega
