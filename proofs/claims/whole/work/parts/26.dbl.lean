/-! A contract with a double for its answer. -/
def xMd (l : Launch) (y : MethodName) (ws : List Cond) (rm : Room) (K : Nat) (X : xG) (cf : gS → Nat → va_E) (Ev : (Nat → Prop) → State → Heap → Prop) (S : gS) (sz : Nat) (av : List Value) (Post : UInt64 → gS → Prop) : Prop := Met l y ws rm (va_Pc av (xPre K X cf Ev S sz)) (va_Qd Post (xB K X cf) (xA K X sz)) 0 0 (xA K X sz)
section XMD
variable {l : Launch} {y : MethodName} {ws : List Cond} {rm : Room} {K : Nat} {X : xG} {cf : gS → Nat → va_E} {Ev : (Nat → Prop) → State → Heap → Prop} {S : gS} {sz : Nat} {av : List Value} {cc : ByteArray} {maxL : Nat} {own : String}
theorem xMd.of {Post : UInt64 → gS → Prop} (hy : plainName y.cls = true) (hw : ws = Cond.code y cc maxL (some .double) :: WS) (hcls : y.cls = own) (hlen : (lg_sl av).length ≤ maxL)
    (body : ∀ (p : Program) (e : Env) (s : State) (m : MethodId) (args : Array Value) (below : List Frame) (meth : Method) (c : Code) (ls : Array Slot) (Q : State → Prop), xC K X Ev p s m args c cc maxL own →
      (∀ (v : UInt64) (S' : gS) (H : Heap) (locs : List Loc) (pc : Nat) (ls : Array Slot), Post v S' → xH K X cf (xA K X s.heap.size) s.heap S' H locs → decode cc pc = .ok (.dreturn, 1) → W p l e rm s m args below meth c H locs 0 0 Q (F0 m pc ls [.double v])) →
      xH K X cf (xA K X s.heap.size) s.heap S s.heap [] → lv_has ls maxL (lv_args 0 av) → W p l e rm s m args below meth c s.heap [] 0 0 Q (F0 m 0 ls [])) : xMd l y ws rm K X cf Ev S sz av Post := by
  refine Met.ofW (cc := cc) (maxL := maxL) (ret := some .double) hy hw ?_
  intro p e s m args below meth c s₁ B hml hv
  obtain ⟨hC, hH, hsz, rfl⟩ := x_start (own := own) hw hcls B hml hv
  subst hsz
  have hl := lv_entry av (n := maxL) hlen
  rw [lg_entry_eq]
  exact body p e s m _ below meth c _ _ hC (fun v S' H locs pc ls hf hw hdg => W.dret hC.1 hC.2.1 B.returns (fun t ht hW => ⟨⟨v, S', rfl, hf, by show va_P _ _ _ _; rw [ht]; exact hw.1⟩, hw.2.2.F ht⟩) hw.2.2.2.2 hdg B.notSynchronized) hH hl
end XMD
