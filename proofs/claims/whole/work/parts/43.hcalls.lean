/-! THE LAW'S HELPERS: they call one method of the class and catch what it throws. -/
def ncW : List (String × String) := [("java/lang/IllegalStateException", "java/lang/IllegalArgumentException"), ("java/lang/IndexOutOfBoundsException", "java/lang/IllegalArgumentException"), ("java/util/NoSuchElementException", "java/lang/IllegalArgumentException"), ("java/lang/IllegalArgumentException", "java/lang/IllegalStateException"), ("java/lang/IndexOutOfBoundsException", "java/lang/IllegalStateException"), ("java/util/NoSuchElementException", "java/lang/IllegalStateException"), ("java/lang/IllegalArgumentException", "java/lang/IndexOutOfBoundsException"), ("java/lang/IllegalStateException", "java/lang/IndexOutOfBoundsException"), ("java/util/NoSuchElementException", "java/lang/IndexOutOfBoundsException")]
def hPre (X : xG) (S : gS) (sz : Nat) (U : State) : Prop := xPre 34 X (cX X) (eX X) S sz U ∧ ∀ q ∈ ncW, va_Nc q.1 q.2 U
def uM (l : Launch) (y : MethodName) (ws : List Cond) (rm : Room) (X : xG) (S : gS) (sz : Nat) (av : List Value) (Post : Int32 → gS → Prop) (mc ms : Nat) : Prop := Met l y ws rm (va_Pc av (hPre X S sz)) (va_Qi Post (xB 34 X (cX X)) (xA 34 X sz)) mc ms (xA 34 X sz)
/-- a method that throws nothing -/
theorem met_of_vx {l : Launch} {y : MethodName} {ws : List Cond} {rm : Room} {Pc : Array Value → State → Prop} {Qc : Array Value → State → Outcome → State → Prop} {mc ms : Nat} {free : Addr → Prop} (h : vx_Met l y ws rm Pc Qc (fun _ _ _ => False) mc ms free) : Met l y ws rm Pc Qc mc ms free := by
  intro p e h1 h2 h3 s m args below h4 h5 h6 h7
  obtain ⟨n, o, g1, g2, g3, g4⟩ := h p e h1 h2 h3 s m args below h4 h5 h6 h7
  refine ⟨n, o, g1, g2, g3, ?_⟩
  rcases g4 with g4 | ⟨q, -, E, ce, L, hx, -⟩
  · exact g4
  · exact hx.elim
section HB
variable {l : Launch} {y : MethodName} {ws : List Cond} {rm : Room} {X : xG} {S : gS} {sz : Nat} {av : List Value} {cc : ByteArray} {maxL mc ms : Nat} {hh : List (Nat × Nat × Nat × Nat)}
theorem uM.of {Post : Int32 → gS → Prop} (hy : plainName y.cls = true) (hw : ws = Cond.codeWith y cc maxL (some .int) hh :: WS) (hcls : y.cls = RL) (hlen : (lg_sl av).length ≤ maxL)
    (body : ∀ (p : Program) (e : Env) (s : State) (m : MethodId) (args : Array Value) (below : List Frame) (meth : Method) (c : Code) (ls : Array Slot) (Q : State → Prop), xC 34 X (eX X) p s m args c cc maxL RL → c.exceptionTable.toList = tableOf hh → (∀ q ∈ ncW, va_Nc q.1 q.2 s) →
      (∀ (v : Int32) (S' : gS) (H : Heap) (locs : List Loc) (pc : Nat) (ls : Array Slot) (cells slots : Nat), Post v S' → xH 34 X (cX X) (xA 34 X s.heap.size) s.heap S' H locs → decode cc pc = .ok (.ireturn, 1) → cells ≤ mc → slots ≤ ms → W p l e rm s m args below meth c H locs cells slots Q (F0 m pc ls [.int v])) →
      xH 34 X (cX X) (xA 34 X s.heap.size) s.heap S s.heap [] → lv_has ls maxL (lv_args 0 av) → W p l e rm s m args below meth c s.heap [] 0 0 Q (F0 m 0 ls [])) : uM l y ws rm X S sz av Post mc ms := by
  refine met_of_vx (vx_ofWH (cc := cc) (maxL := maxL) (ret := some .int) (hh := hh) hy hw ?_)
  intro p e s m args below meth c s₁ B hml hv
  obtain ⟨ha, ⟨hsz, hP, hi, hE⟩, hN⟩ := hv
  subst ha
  subst hsz
  have hown : s.vm.findClass RL = some m.cls := by rw [← hcls]; exact findClass_of_methodNamed B.named
  have hpre := atoms_spec (ws := ws) B.pre
  have htb : c.exceptionTable.toList = tableOf hh := vx_table (x := y) B (hpre _ (by rw [hw]; exact List.mem_cons_self))
  have hl9 := lv_entry av (n := maxL) hlen
  rw [lg_entry_eq]
  exact body p e s m _ below meth c _ _ ⟨B.exec, B.bytes, hml, hown, fun w h => hpre w (by rw [hw]; exact List.mem_cons_of_mem _ h), hE, hi⟩ htb hN (fun v S' H locs pc ls cells slots hf hw hdg h1 h2 => W.widen (k := mc) (n := ms) h1 h2 (vx_ret (W.iret B.exec B.bytes B.returns (fun t ht hW => ⟨⟨v, S', rfl, hf, by show va_P _ _ _ _; rw [ht]; exact hw.1⟩, hw.2.2.F ht⟩) hw.2.2.2.2 hdg B.notSynchronized))) ⟨hP, wd_D hi (fun k hk => Or.inl ⟨k, hk, rfl⟩), va_S.rf⟩ hl9
end HB
section HC
variable {p : Program} {l : Launch} {e : Env} {R : Room} {s : State} {m : MethodId} {args : Array Value} {below : List Frame} {meth : Method} {c : Code} {H : Heap} {locs : List Loc} {Q : State → Prop} {cells slots mc ms : Nat}
variable {pc : Nat} {ls : Array Slot} {rest st0 : List Value} {X : xG} {S : gS} {a : Array Value} {PX : String → gS → Prop}
theorem y_ci {Post : Int32 → gS → Prop} (hr : vx_Run p l e R s m args below meth c H locs cells slots mc ms (F0 m pc ls st0) rest (va_Qi Post (xB 34 X (cX X)) (xA 34 X H.size) a) (xXC X H.size PX) (xA 34 X H.size)) (hw : xH 34 X (cX X) (xA 34 X s.heap.size) s.heap S H locs) (hi : xInj 34 X)
    (kx : ∀ (E : String) (ce : Cell) (q9 : Addr) (S' : gS) (H1 : Heap) (locs1 : List Loc), PX E S' → xH 34 X (cX X) (xA 34 X s.heap.size) s.heap S' H1 locs1 → H1[q9]? = some ce → ce.vm = .none → s.vm.findClass E = some ce.cls → vx_W p l e R s m args below meth c H1 locs1 (cells + mc) (slots + ms) Q (F0 m pc ls rest) q9)
    (kk : ∀ (r : Int32) (S' : gS) (H1 : Heap) (locs1 : List Loc), Post r S' → xH 34 X (cX X) (xA 34 X s.heap.size) s.heap S' H1 locs1 → W p l e R s m args below meth c H1 locs1 (cells + mc) (slots + ms) Q (F0 m (pc + 3) ls (.int r :: rest))) : W p l e R s m args below meth c H locs cells slots Q (F0 m pc ls st0) :=
  vx_calli hr hw.2.2 (fun q _ h => xA_sub hw.2.2.1 q h) (xA_sub hw.2.2.1) (fun q _ h => xA_sub hw.2.2.1 q h) (fun E ce q9 u t H1 locs1 ht hvm hp hB hz hk hS h1 h2 h3 => kx E ce q9 u H1 locs1 hB.1 ⟨by rw [← ht]; exact hB.2, wd_D hi (wd_Aof hw.2.1), hS⟩ h1 h2 h3) (fun r u t H1 locs1 ht hvm hp hB hz hk hS => kk r u H1 locs1 hp ⟨by rw [← ht]; exact hB, wd_D hi (wd_Aof hw.2.1), hS⟩)
theorem y_cl {Post : Int64 → gS → Prop} (hr : vx_Run p l e R s m args below meth c H locs cells slots mc ms (F0 m pc ls st0) rest (va_Ql Post (xB 34 X (cX X)) (xA 34 X H.size) a) (xXC X H.size PX) (xA 34 X H.size)) (hw : xH 34 X (cX X) (xA 34 X s.heap.size) s.heap S H locs) (hi : xInj 34 X)
    (kx : ∀ (E : String) (ce : Cell) (q9 : Addr) (S' : gS) (H1 : Heap) (locs1 : List Loc), PX E S' → xH 34 X (cX X) (xA 34 X s.heap.size) s.heap S' H1 locs1 → H1[q9]? = some ce → ce.vm = .none → s.vm.findClass E = some ce.cls → vx_W p l e R s m args below meth c H1 locs1 (cells + mc) (slots + ms) Q (F0 m pc ls rest) q9)
    (kk : ∀ (r : Int64) (S' : gS) (H1 : Heap) (locs1 : List Loc), Post r S' → xH 34 X (cX X) (xA 34 X s.heap.size) s.heap S' H1 locs1 → W p l e R s m args below meth c H1 locs1 (cells + mc) (slots + ms) Q (F0 m (pc + 3) ls (.long r :: rest))) : W p l e R s m args below meth c H locs cells slots Q (F0 m pc ls st0) :=
  vx_calll hr hw.2.2 (fun q _ h => xA_sub hw.2.2.1 q h) (xA_sub hw.2.2.1) (fun q _ h => xA_sub hw.2.2.1 q h) (fun E ce q9 u t H1 locs1 ht hvm hp hB hz hk hS h1 h2 h3 => kx E ce q9 u H1 locs1 hB.1 ⟨by rw [← ht]; exact hB.2, wd_D hi (wd_Aof hw.2.1), hS⟩ h1 h2 h3) (fun r u t H1 locs1 ht hvm hp hB hz hk hS => kk r u H1 locs1 hp ⟨by rw [← ht]; exact hB, wd_D hi (wd_Aof hw.2.1), hS⟩)
theorem y_cd {Post : UInt64 → gS → Prop} (hr : vx_Run p l e R s m args below meth c H locs cells slots mc ms (F0 m pc ls st0) rest (va_Qd Post (xB 34 X (cX X)) (xA 34 X H.size) a) (xXC X H.size PX) (xA 34 X H.size)) (hw : xH 34 X (cX X) (xA 34 X s.heap.size) s.heap S H locs) (hi : xInj 34 X)
    (kx : ∀ (E : String) (ce : Cell) (q9 : Addr) (S' : gS) (H1 : Heap) (locs1 : List Loc), PX E S' → xH 34 X (cX X) (xA 34 X s.heap.size) s.heap S' H1 locs1 → H1[q9]? = some ce → ce.vm = .none → s.vm.findClass E = some ce.cls → vx_W p l e R s m args below meth c H1 locs1 (cells + mc) (slots + ms) Q (F0 m pc ls rest) q9)
    (kk : ∀ (r : UInt64) (S' : gS) (H1 : Heap) (locs1 : List Loc), Post r S' → xH 34 X (cX X) (xA 34 X s.heap.size) s.heap S' H1 locs1 → W p l e R s m args below meth c H1 locs1 (cells + mc) (slots + ms) Q (F0 m (pc + 3) ls (.double r :: rest))) : W p l e R s m args below meth c H locs cells slots Q (F0 m pc ls st0) :=
  vx_calld hr hw.2.2 (fun q _ h => xA_sub hw.2.2.1 q h) (xA_sub hw.2.2.1) (fun q _ h => xA_sub hw.2.2.1 q h) (fun E ce q9 u t H1 locs1 ht hvm hp hB hz hk hS h1 h2 h3 => kx E ce q9 u H1 locs1 hB.1 ⟨by rw [← ht]; exact hB.2, wd_D hi (wd_Aof hw.2.1), hS⟩ h1 h2 h3) (fun r u t H1 locs1 ht hvm hp hB hz hk hS => kk r u H1 locs1 hp ⟨by rw [← ht]; exact hB, wd_D hi (wd_Aof hw.2.1), hS⟩)
end HC
theorem dd_id (x : UInt64) : x.toInt64.toUInt64 = x := rfl
theorem uX_D33 (X : xG) (S : gS) (i : Nat) (x : UInt64) : va_up (cX X S) 33 (.inl (xc X 3, 1, .inr (.inr (.inr (.inl (vf_upd (fun j => (gB S 33 j).toUInt64) i x)))))) = cX X (uB S 33 i x.toInt64) := by
  funext j
  by_cases h : j = 33
  · subst h
    rw [va_up, if_pos rfl]
    show _ = Sum.inl (xc X 3, 1, Sum.inr (Sum.inr (Sum.inr (Sum.inl (fun j => (gB (uB S 33 i x.toInt64) 33 j).toUInt64)))))
    rw [gB_eq]
    have e : (vf_upd (fun j => (gB S 33 j).toUInt64) i x) = (fun j => (vp_updL (gB S 33) i x.toInt64 j).toUInt64) := by
      funext k
      unfold vf_upd vp_updL
      by_cases hk : k = i
      · rw [if_pos hk, if_pos hk]; rfl
      · rw [if_neg hk, if_neg hk]
    rw [e]
  · rw [va_up, if_neg h]
    unfold cX
    split <;> first | rfl | (exact absurd rfl h)
section HD
variable {p : Program} {l : Launch} {e : Env} {R : Room} {s : State} {m : MethodId} {args : Array Value} {below : List Frame} {meth : Method} {c : Code} {H : Heap} {locs : List Loc} {cells slots : Nat} {Q : State → Prop}
variable {cc : ByteArray} {pc : Nat} {ls : Array Slot} {rest : List Value} {X : xG} {A : Nat → Prop} {H0 : Heap} {S : gS}
theorem x_dst (hx : p.tables.exec = Jvm.exec) (hb : c.code = cc) (hK : va_K X.1 vwCl (tX X) s) (hw : xH 34 X (cX X) A H0 S H locs) {i : Int32} {x : UInt64} (hin : vp_in i 1) (hdg : decode cc pc = .ok (.dastore, 1))
    (kk : ∀ (H1 : Heap) (locs1 : List Loc), xH 34 X (cX X) A H0 (uB S 33 i.toNatClampNeg x.toInt64) H1 locs1 → W p l e R s m args below meth c H1 locs1 cells slots Q (F0 m (pc + 1) ls rest)) : W p l e R s m args below meth c H locs cells slots Q (F0 m pc ls (.double x :: .int i :: .ref (xa X 33) :: rest)) :=
  va_dast hx hb hK hw.1 hw.2.1 hw.2.2 33 3 (by rw [wd_at (by decide)]; rfl) rfl hin hdg (fun H1 locs1 h1 h2 h3 => kk H1 locs1 (xH.up (by decide) (uX_D33 X S _ _) h1 h2 h3))
end HD
