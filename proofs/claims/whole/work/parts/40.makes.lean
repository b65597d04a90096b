/-! CONSTRUCTORS: worlds as lists while they are being made. -/
def nPre (X : xG) (ws : va_W) (sz : Nat) (U : State) : Prop := U.heap.size = sz ∧ va_P X.1 vwCl ws U.heap ∧ va_D (fun _ => True) ws ∧ eX X (va_A ws sz) U U.heap
def nM (l : Launch) (y : MethodName) (wl : List Cond) (rm : Room) (X : xG) (ws : va_W) (sz : Nat) (av : List Value) (B : Heap → Prop) (mc ms : Nat) : Prop := Met l y wl rm (va_Pc av (nPre X ws sz)) (va_Qv (fun _ : Unit => True) (fun _ t => B t.heap) (va_A ws sz)) mc ms (va_A ws sz)
def nC (X : xG) (A : Nat → Prop) (p : Program) (s : State) (m : MethodId) (args : Array Value) (c : Code) (cc : ByteArray) (nL : Nat) (own : String) : Prop :=
  p.tables.exec = Jvm.exec ∧ c.code = cc ∧ c.maxLocals = nL ∧ s.vm.findClass own = some m.cls ∧ (∀ w ∈ WS, w.before args s = true) ∧ eX X A s s.heap
theorem nM.of {l : Launch} {y : MethodName} {wl : List Cond} {rm : Room} {X : xG} {ws : va_W} {sz : Nat} {av : List Value} {B : Heap → Prop} {mc ms maxL : Nat} {cc : ByteArray} {own : String} (hy : plainName y.cls = true) (hw : wl = Cond.code y cc maxL none :: WS) (hcls : y.cls = own) (hyn : y.name = "<init>") (hlen : (lg_sl av).length ≤ maxL)
    (body : ∀ (p : Program) (e : Env) (s : State) (m : MethodId) (args : Array Value) (below : List Frame) (meth : Method) (c : Code) (ls : Array Slot) (Q : State → Prop), s.heap.size = sz → nC X (va_A ws sz) p s m args c cc maxL own → meth.name = "<init>" →
      (∀ (H : Heap) (locs : List Loc) (pc : Nat) (ls : Array Slot) (cells slots : Nat), B H → va_S (va_A ws sz) s.heap H locs → decode cc pc = .ok (.return_, 1) → cells ≤ mc → slots ≤ ms → W p l e rm s m args below meth c H locs cells slots Q (F0 m pc ls [])) →
      va_P X.1 vwCl ws s.heap → va_D (va_A ws sz) ws → va_S (va_A ws sz) s.heap s.heap [] → lv_has ls maxL (lv_args 0 av) → W p l e rm s m args below meth c s.heap [] 0 0 Q (F0 m 0 ls [])) : nM l y wl rm X ws sz av B mc ms := by
  refine Met.ofW (cc := cc) (maxL := maxL) (ret := none) hy hw ?_
  intro p e s m args below meth c s₁ Bd hml hv
  obtain ⟨rfl, hsz, hP, hD, hE⟩ := hv
  have hown : s.vm.findClass own = some m.cls := by rw [← hcls]; exact findClass_of_methodNamed Bd.named
  have hin : meth.name = "<init>" := by rw [← hyn]; exact (name_of_methodNamed Bd.named Bd.method).1
  have hl := lv_entry av (n := maxL) hlen
  rw [lg_entry_eq]
  exact body p e s m _ below meth c _ _ hsz ⟨Bd.exec, Bd.bytes, hml, hown, fun w h => atoms_spec (ws := wl) Bd.pre w (by rw [hw]; exact List.mem_cons_of_mem _ h), hE⟩ hin
    (fun H locs pc ls cells slots hB hS hdg h1 h2 => W.widen (k := mc) (n := ms) h1 h2 (W.vret Bd.exec Bd.bytes Bd.returns (fun t ht hW => ⟨⟨(), rfl, trivial, by show B t.heap; rw [ht]; exact hB⟩, hS.F ht⟩) hS.2.2 hdg Bd.notSynchronized)) hP hD.self va_S.rf hl
section NR
variable {p : Program} {l : Launch} {e : Env} {R : Room} {s : State} {m : MethodId} {args : Array Value} {below : List Frame} {meth : Method} {c : Code} {H : Heap} {locs : List Loc} {cells slots : Nat} {Q : State → Prop}
variable {cc : ByteArray} {pc : Nat} {ls : Array Slot} {rest st0 : List Value} {X : xG} {A : Nat → Prop} {H0 : Heap} {tys : List (ClassId × FieldType)} {ws : va_W} {nL : Nat} {own : String}
/-- newarray, its class known -/
theorem n_newa (hexec : p.tables.exec = Jvm.exec) (hb : c.code = cc) {atype : ArrayType} (harr : (Cond.arrayClass (newarray.typeOf atype)).before args s = true) {ty : FieldType} (hty : newarray.typeOf atype = ty) (hK : va_K X.1 vwCl tys s) (hP : va_P X.1 vwCl ws H) (hD : va_D A ws) (hS : va_S A H0 H locs) (hA : ∀ q, H0.size ≤ q → A q)
    {n : Int32} {N' : Nat} {a0 : vp_A} (ha : ∀ cA : ClassId, vp_cell cA a0 = arrV cA N' (fun _ => defaultValue ty)) (hn : ¬ n < 0) (hN : n.toNatClampNeg = N') (hbytes : N' * componentBytes ty ≤ 536870912) (hcells : cells + 1 ≤ R.cells) (hslots : slots + N' ≤ R.slots) (hdg : decode cc pc = .ok (.newarray atype, 2))
    (t0 : Nat) {cI : ClassId} (ht : tys[t0]? = some (cI, ty)) (hprim : ∀ cA : ClassId, va_RA s cA ty → s.vm.findClass ("[" ++ ty.toString) = some cA)
    (kk : ∀ (q : Nat) (H1 : Heap), va_P X.1 vwCl (ws ++ [(q, .inl (cI, a0))]) H1 → va_D A (ws ++ [(q, .inl (cI, a0))]) → va_S A H0 H1 locs →
      W p l e R s m args below meth c H1 locs (cells + 1) (slots + N') Q (F0 m (pc + 2) ls (.ref q :: rest))) : W p l e R s m args below meth c H locs cells slots Q (F0 m pc ls (.int n :: rest)) := by
  refine va_newa hexec hb harr hty hK hP hD hS hA ha hn hN hbytes hcells hslots hdg (fun q cA H1 hK1 hP1 hD1 hS1 => ?_)
  have h1 := hprim cA (hK1.2 tys.length (cA, ty) (by rw [List.getElem?_append_right (Nat.le_refl _), Nat.sub_self]; rfl)).2
  have h2 := hprim cI (hK.2 t0 _ ht).2
  cases Option.some.inj (h1.symm.trans h2)
  exact kk q H1 hP1 hD1 hS1
theorem n_blind {av : List Value} {sz : Nat} : FrameBlind (va_Pc av (nPre X ws sz)) := fun a U g mk q => by
  obtain ⟨q0, q1, q2, q3, q4⟩ := q
  exact ⟨q0, q1, q2, q3, (okX X).2.1 _ _ _ _ _ _ q4⟩
theorem n_pre {av : List Value} {wc : va_W} (hC : nC X A p s m args c cc nL own) (hS : va_S A s.heap H locs) (hP : va_P X.1 vwCl wc H) (hD : va_D A wc) (hF : ∀ q, va_A wc H.size q → A q) : ∀ U : State, U.heap = H → s.WarmedH U.vm → va_Pc av (nPre X wc H.size) av.toArray U := fun U hU hW =>
  ⟨rfl, by rw [hU], by rw [hU]; exact hP, hD.weaken (fun _ _ _ _ => trivial), by rw [hU]; exact (okX X).1 _ _ _ _ hW ((okX X).2.2 _ _ _ _ _ _ hS hF hC.2.2.2.2.2)⟩
end NR
