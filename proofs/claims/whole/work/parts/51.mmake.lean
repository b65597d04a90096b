/-! The model's constructor (printed by wip/whole/gen/mctor.py). -/
theorem moff_0 : ∀ i, i < 24 → offM (16 + i) = 1 + i ∧ kM (0 + 1 + i) = 16 + i := by decide +kernel
theorem moff_28 : ∀ i, i < 6 → offM (67 + i) = 29 + i ∧ kM (28 + 1 + i) = 67 + i := by decide +kernel
theorem moff_102 : ∀ i, i < 3 → offM (64 + i) = 103 + i ∧ kM (102 + 1 + i) = 64 + i := by decide +kernel
theorem moff_106 : ∀ i, i < 24 → offM (40 + i) = 107 + i ∧ kM (106 + 1 + i) = 40 + i := by decide +kernel
theorem moff_36 : ∀ i, i < 6 → offM (73 + i) = 37 + i * 10 ∧ kM (36 + 1 + i * (1 + 9)) = 73 + i := by decide +kernel
theorem moff_36r : ∀ i, i < 6 → ∀ j, j < 9 → offM (79 + i * 9 + j) = 38 + i * 10 + j ∧ kM (36 + 1 + i * (1 + 9) + 1 + j) = 79 + i * 9 + j := by decide +kernel
section MC
variable {D : va_G} {cs : Nat → ClassId} {b sz : Nat}
theorem mad {k o n : Nat} (hk : k ≠ 0) (h : offM k = o) (hn : o = n) : xa (mY D cs b sz) k = sz + n := by
  show bdM b sz k = _
  rw [bdM, if_neg hk, h, hn]
theorem mad_0 (i : Nat) (hi : i < 24) : xa (mY D cs b sz) (16 + i) = sz + 0 + 1 + i := (mad (by omega) (moff_0 i hi).1 rfl).trans (by omega)
theorem mad_28 (i : Nat) (hi : i < 6) : xa (mY D cs b sz) (67 + i) = sz + 28 + 1 + i := (mad (by omega) (moff_28 i hi).1 rfl).trans (by omega)
theorem mad_102 (i : Nat) (hi : i < 3) : xa (mY D cs b sz) (64 + i) = sz + 102 + 1 + i := (mad (by omega) (moff_102 i hi).1 rfl).trans (by omega)
theorem mad_106 (i : Nat) (hi : i < 24) : xa (mY D cs b sz) (40 + i) = sz + 106 + 1 + i := (mad (by omega) (moff_106 i hi).1 rfl).trans (by omega)
theorem mad_36 (i : Nat) (hi : i < 6) : xa (mY D cs b sz) (73 + i) = sz + 36 + 1 + i * (1 + 9) := (mad (by omega) (moff_36 i hi).1 rfl).trans (by omega)
theorem mad_36r (i j : Nat) (hi : i < 6) (hj : j < 9) : xa (mY D cs b sz) (79 + i * 9 + j) = sz + 36 + 1 + i * (1 + 9) + 1 + j := (mad (by omega) (moff_36r i hi j hj).1 rfl).trans (by omega)
theorem mce_0 {S : gS} (h : ∀ k, 16 ≤ k → gA S k = fun _ => 0) (i : Nat) (hi : i < 24) : cM (mY D cs b sz) S (kM (0 + 1 + i)) = .inl (cs 0, 4, .inl (fun _ => 0)) := by rw [(moff_0 i hi).2, cM_sy hi, h _ (by omega)]; rfl
theorem mce_28 {S : gS} (h : ∀ k, gB S k = fun _ => 0) (i : Nat) (hi : i < 6) : cM (mY D cs b sz) S (kM (28 + 1 + i)) = .inl (cs 1, 11, .inr (.inl (fun _ => 0))) := by rw [(moff_28 i hi).2, cM_bl hi, h _]; rfl
theorem mce_102 {S : gS} (h : ∀ k, 16 ≤ k → gA S k = fun _ => 0) (i : Nat) (hi : i < 3) : cM (mY D cs b sz) S (kM (102 + 1 + i)) = .inl (cs 0, 40, .inl (fun _ => 0)) := by rw [(moff_102 i hi).2, cM_el hi, h _ (by omega)]; rfl
theorem mce_106 {S : gS} (h : ∀ k, 16 ≤ k → gA S k = fun _ => 0) (i : Nat) (hi : i < 24) : cM (mY D cs b sz) S (kM (106 + 1 + i)) = .inl (cs 0, 4, .inl (fun _ => 0)) := by rw [(moff_106 i hi).2, cM_ss hi, h _ (by omega)]; rfl
theorem mce_36 (i : Nat) (hi : i < 6) : cM (mY D cs b sz) Sz (kM (36 + 1 + i * (1 + 9))) = .inl (cs 4, 9, .inr (.inr (.inr (.inr (fun j => if j < 9 then some (xa (mY D cs b sz) (79 + i * 9 + j)) else none))))) := by rw [(moff_36 i hi).2, cM_mi hi]; rfl
theorem mce_36r (i j : Nat) (hi : i < 6) (hj : j < 9) : cM (mY D cs b sz) Sz (kM (36 + 1 + i * (1 + 9) + 1 + j)) = .inl (cs 1, 9, .inr (.inl (fun _ => 0))) := by rw [(moff_36r i hi j hj).2, cM_pa hi hj]; rfl
theorem mcov (j : Nat) (h1 : 36 + 1 ≤ j) (h2 : j < 36 + (1 + 6 * (1 + 9))) : ∃ i, i < 6 ∧ (j = 36 + 1 + i * (1 + 9) ∨ ∃ q, q < 9 ∧ j = 36 + 1 + i * (1 + 9) + 1 + q) := by
  refine ⟨(j - 37) / 10, by omega, ?_⟩
  rcases Nat.eq_zero_or_pos ((j - 37) % 10) with h | h
  · exact Or.inl (by omega)
  · exact Or.inr ⟨(j - 37) % 10 - 1, by omega, by omega⟩
theorem m_sz {S : gS} {o : va_E} : ((b, o) :: mW (mY D cs b sz) S 101)[101]? = some (sz + 100, .inl (cs 0, 3, .inl (gA S 11))) := by
  show (mW (mY D cs b sz) S 101)[100]? = _
  rw [mW_at (by decide), mY_at (by decide)]
  rfl
end MC
def tC (cs : Nat → ClassId) : List (ClassId × FieldType) := [(cs 0, .int), (cs 1, .long), (cs 2, .boolean), (cs 3, .array .int), (cs 4, .array .long), (cs 5, .array (.array .long))]
def mEnv (D : va_G) (cs : Nat → ClassId) (U : State) : Prop := va_K D vwCl (tC cs) U ∧ va_AOA .int U ∧ va_AOA .long U ∧ va_AOA (.array .long) U ∧ va_Nw (.classLink RX9 16 "[[I") U ∧ va_Nw (.classLink RX9 32 "[[J") U ∧ va_Nw (.classLink RX9 40 "[[[J") U
def S0m : gS := uA (uA (uA Sz 11 (0 : Int32).toNatClampNeg (-1)) 11 (1 : Int32).toNatClampNeg (-1)) 11 (2 : Int32).toNatClampNeg (-1)
def rX9_init : Room := { frames := 1, cells := 132, slots := 1071, locals := 20 }
set_option maxHeartbeats 40000000 in
set_option maxRecDepth 100000 in
theorem nX9_init (l : Launch) (D : va_G) (cs : Nat → ClassId) (sz b : Nat) (hbs : b < sz) : Met l yX9_init (Cond.code yX9_init cX9_init 1 none :: WS) rX9_init (va_Pc [.ref b] (fun U => U.heap.size = sz ∧ va_P D vwCl [(b, .inr (8, [.int 0, .int 0, .int 0, .int 0, .int 0, .null, .null, .int 0, .null, .null, .null, .null, .null, .int 0, .null, .null, .null, .int 0, .int 0, .null, .null, .null, .int 0, .int 0, .int 0, .int 0, .int 0, .int 0, .null, .null]))] U.heap ∧ mEnv D cs U)) (va_Qv (fun _ : Unit => True) (fun _ t => t.heap.size = sz + 132 ∧ va_P D vwCl (wd 133 (mY D cs b sz) (cM (mY D cs b sz) S0m)) t.heap) (va_A [(b, .inr (8, []))] sz)) 132 1071 (va_A [(b, .inr (8, []))] sz) := by
  refine Met.ofW (cc := cX9_init) (maxL := 1) (ret := none) (by decide) rfl ?_
  intro p e s m args below meth c s₁ Bd hml hv
  obtain ⟨rfl, hsz, hP, hK, ho_int, ho_long, ho_long2, hw16, hw32, hw40⟩ := hv
  have hx := Bd.exec
  have hb := Bd.bytes
  have hown : s.vm.findClass RX9 = some m.cls := findClass_of_methodNamed Bd.named
  have hin : meth.name = "<init>" := (name_of_methodNamed Bd.named Bd.method).1
  have hts : ∀ w ∈ WS, w.before _ s = true := fun w h => atoms_spec Bd.pre w (List.mem_cons_of_mem _ h)
  have hA : ∀ q : Nat, sz ≤ q → va_A [(b, .inr (8, []))] sz q := fun q h => Or.inr h
  have hAb : va_A [(b, .inr (8, []))] sz b := Or.inl ⟨0, _, rfl⟩
  have hS : va_S (va_A [(b, .inr (8, []))] sz) s.heap s.heap [] := va_S.rf
  have hQ : ∀ (H : Heap) (locs : List Loc) (pc : Nat) (ls : Array Slot) (cells slots : Nat), (H.size = sz + 132 ∧ va_P D vwCl (wd 133 (mY D cs b sz) (cM (mY D cs b sz) S0m)) H) → va_S (va_A [(b, .inr (8, []))] sz) s.heap H locs → decode cX9_init pc = .ok (.return_, 1) → cells ≤ 132 → slots ≤ 1071 → W p l e rX9_init s m #[.ref b] below meth c H locs cells slots (MQ below (va_Qv (fun _ : Unit => True) (fun _ t => t.heap.size = sz + 132 ∧ va_P D vwCl (wd 133 (mY D cs b sz) (cM (mY D cs b sz) S0m)) t.heap) (va_A [(b, .inr (8, []))] sz)) #[.ref b] s 132 1071 (va_A [(b, .inr (8, []))] sz)) (F0 m pc ls []) := fun H locs pc ls cells slots hB hS hdg h1 h2 => W.widen (k := 132) (n := 1071) h1 h2 (W.vret hx hb Bd.returns (fun t ht hW => ⟨⟨(), rfl, trivial, by show t.heap.size = sz + 132 ∧ va_P D vwCl _ t.heap; rw [ht]; exact hB⟩, hS.F ht⟩) hS.2.2 hdg Bd.notSynchronized)
  have hl := lv_entry [.ref b] (n := 1) (Nat.le_of_ble_eq_true rfl)
  rw [lg_entry_eq]
  generalize (lg_sl ([.ref b]) ++ List.replicate (1 - (lg_sl ([.ref b])).length) Slot.unset).toArray = ls at hl ⊢
  have hl : lv_has ls 1 [(0, .ref b)] := hl
  have hz : s.heap.size = sz + 0 := hsz
  have hc0 : s.vm.findClass ("[" ++ FieldType.int.toString) = some (cs 0) := (hK.2 0 _ rfl).2
  have hc1 : s.vm.findClass ("[" ++ FieldType.long.toString) = some (cs 1) := (hK.2 1 _ rfl).2
  have hc2 : s.vm.findClass ("[" ++ FieldType.boolean.toString) = some (cs 2) := (hK.2 2 _ rfl).2
  have hc3 : s.vm.findClass ("[" ++ (FieldType.array .int).toString) = some (cs 3) := (hK.2 3 _ rfl).2
  have hc4 : s.vm.findClass ("[" ++ (FieldType.array .long).toString) = some (cs 4) := (hK.2 4 _ rfl).2
  have hc5 : s.vm.findClass ("[" ++ (FieldType.array (.array .long)).toString) = some (cs 5) := (hK.2 5 _ rfl).2
  have hP : va_P D vwCl ((b, .inr (8, [.int 0, .int 0, .int 0, .int 0, .int 0, .null, .null, .int 0, .null, .null, .null, .null, .null, .int 0, .null, .null, .null, .int 0, .int 0, .null, .null, .null, .int 0, .int 0, .int 0, .int 0, .int 0, .int 0, .null, .null])) :: mW (mY D cs b sz) Sz 0) s.heap := hP
  have lo1 : (Cond.methodLink RX9 1 objectInit).before #[.ref b] s = true := hts _ q_106
  have lo2 : (Cond.instanceMethod objectInit).before #[.ref b] s = true := hts _ q_13
  have lo3 : (Cond.code objectInit ⟨#[0xb1]⟩ 1 none).before #[.ref b] s = true := hts _ q_14
  have lf_7 : (Cond.fieldLink RX9 7 "GrammarAmbiguityModel" "nonterminals" "I").before #[.ref b] s = true := hts _ q_107
  have lf_13 : (Cond.fieldLink RX9 13 "GrammarAmbiguityModel" "terminals" "I").before #[.ref b] s = true := hts _ q_108
  have lc_16 : (Cond.classLink RX9 16 "[[I").before #[.ref b] s = true := va_Nw.use rfl hw16
  have la_int : (Cond.arrayClass .int).before #[.ref b] s = true := hts _ q_53
  have lf_18 : (Cond.fieldLink RX9 18 "GrammarAmbiguityModel" "symbols" "[[I").before #[.ref b] s = true := hts _ q_110
  have lf_21 : (Cond.fieldLink RX9 21 "GrammarAmbiguityModel" "word" "[I").before #[.ref b] s = true := hts _ q_111
  have lf_25 : (Cond.fieldLink RX9 25 "GrammarAmbiguityModel" "shortest" "[I").before #[.ref b] s = true := hts _ q_112
  have la_boolean : (Cond.arrayClass .boolean).before #[.ref b] s = true := hts _ q_56
  have lf_28 : (Cond.fieldLink RX9 28 "GrammarAmbiguityModel" "isReached" "[Z").before #[.ref b] s = true := hts _ q_113
  have lc_32 : (Cond.classLink RX9 32 "[[J").before #[.ref b] s = true := va_Nw.use rfl hw32
  have la_long : (Cond.arrayClass .long).before #[.ref b] s = true := hts _ q_6
  have lf_34 : (Cond.fieldLink RX9 34 "GrammarAmbiguityModel" "byLength" "[[J").before #[.ref b] s = true := hts _ q_115
  have lf_37 : (Cond.fieldLink RX9 37 "GrammarAmbiguityModel" "read" "[I").before #[.ref b] s = true := hts _ q_116
  have lc_40 : (Cond.classLink RX9 40 "[[[J").before #[.ref b] s = true := va_Nw.use rfl hw40
  have lf_42 : (Cond.fieldLink RX9 42 "GrammarAmbiguityModel" "byPart" "[[[J").before #[.ref b] s = true := hts _ q_117
  have lf_45 : (Cond.fieldLink RX9 45 "GrammarAmbiguityModel" "nodeProduction" "[I").before #[.ref b] s = true := hts _ q_118
  have lf_48 : (Cond.fieldLink RX9 48 "GrammarAmbiguityModel" "nodeFrom" "[I").before #[.ref b] s = true := hts _ q_119
  have lf_51 : (Cond.fieldLink RX9 51 "GrammarAmbiguityModel" "nodeSize" "[I").before #[.ref b] s = true := hts _ q_120
  have lf_54 : (Cond.fieldLink RX9 54 "GrammarAmbiguityModel" "sizes" "[I").before #[.ref b] s = true := hts _ q_121
  have lf_57 : (Cond.fieldLink RX9 57 "GrammarAmbiguityModel" "isWide" "[Z").before #[.ref b] s = true := hts _ q_122
  have lf_60 : (Cond.fieldLink RX9 60 "GrammarAmbiguityModel" "elements" "[[I").before #[.ref b] s = true := hts _ q_123
  have lf_63 : (Cond.fieldLink RX9 63 "GrammarAmbiguityModel" "savedSymbols" "[[I").before #[.ref b] s = true := hts _ q_124
  have lf_66 : (Cond.fieldLink RX9 66 "GrammarAmbiguityModel" "savedWord" "[I").before #[.ref b] s = true := hts _ q_125
  refine lv_aload_n hx hb dX9_init_0 rfl (lv_at hl 0 rfl) ?_
  refine W.objInit hx hb hown lo1 lo2 lo3 rfl (by rw [hml]; exact hl.1) rfl dX9_init_1 (Nat.le_of_ble_eq_true rfl) (Nat.le_of_ble_eq_true rfl) ?_
  refine W.eq (g2 := F0 m 4 ls []) rfl ?_
  refine lv_aload_n hx hb dX9_init_4 rfl (lv_at hl 0 rfl) ?_
  refine lv_iconst (v := 1) hx hb dX9_init_5 (by decide) ?_
  refine pz_put (D := D) (ci := 8) (v := .int 1) (ty := .int) (C := RX9) (T := TX9) (N := 30) hx hb hts i_X9 tyX9 tyX9_ok nmX9 hown hK hP (mW_D (by decide) hbs hAb hA) hS 0 rfl rfl 1 (by decide) lf_7 (fun _ h9 => h9) rfl (by decide +kernel) rfl rfl (Nat.le_of_ble_eq_true rfl) dX9_init_6 (fun H locs hz1 hP _ hS => ?_)
  have hz : H.size = sz + 0 := hz1.trans hz
  have hP : va_P D vwCl ((b, .inr (8, [.int 0, .int 1, .int 0, .int 0, .int 0, .null, .null, .int 0, .null, .null, .null, .null, .null, .int 0, .null, .null, .null, .int 0, .int 0, .null, .null, .null, .int 0, .int 0, .int 0, .int 0, .int 0, .int 0, .null, .null])) :: mW (mY D cs b sz) Sz 0) H := hP
  refine lv_aload_n hx hb dX9_init_9 rfl (lv_at hl 0 rfl) ?_
  refine lv_iconst (v := 2) hx hb dX9_init_10 (by decide) ?_
  refine pz_put (D := D) (ci := 8) (v := .int 2) (ty := .int) (C := RX9) (T := TX9) (N := 30) hx hb hts i_X9 tyX9 tyX9_ok nmX9 hown hK hP (mW_D (by decide) hbs hAb hA) hS 0 rfl rfl 2 (by decide) lf_13 (fun _ h9 => h9) rfl (by decide +kernel) rfl rfl (Nat.le_of_ble_eq_true rfl) dX9_init_11 (fun H locs hz1 hP _ hS => ?_)
  have hz : H.size = sz + 0 := hz1.trans hz
  have hP : va_P D vwCl ((b, .inr (8, [.int 0, .int 1, .int 2, .int 0, .int 0, .null, .null, .int 0, .null, .null, .null, .null, .null, .int 0, .null, .null, .null, .int 0, .int 0, .null, .null, .null, .int 0, .int 0, .int 0, .int 0, .int 0, .int 0, .null, .null])) :: mW (mY D cs b sz) Sz 0) H := hP
  refine lv_aload_n hx hb dX9_init_14 rfl (lv_at hl 0 rfl) ?_
  refine lv_bipush (v := 24) hx hb dX9_init_15 (by decide) ?_
  refine lv_iconst (v := 4) hx hb dX9_init_17 (by decide) ?_
  refine m_two (ty := .int) (t := 3) (u := 0) (N := 24) (K := 4) (f := fun j => if j < 24 then some (xa (mY D cs b sz) (16 + j)) else none) (z := .inl (fun _ => 0)) hx hb hown lc_16 ho_int la_int hP hS hz (by decide) rfl (fun i hi => by show (if i < 24 then _ else none) = _; rw [if_pos hi, show xa (mY D cs b sz) (16 + i) = sz + 0 + 1 + i from mad_0 i hi]) (fun i hi => by show (if i < 24 then _ else none) = _; rw [if_neg hi]) (fun i hi => mce_0 (fun k hk => rfl) i hi) (fun _ => rfl) hc3 hc0 (by decide) (by decide) (by decide) (by decide) (Nat.le_of_ble_eq_true rfl) (Nat.le_of_ble_eq_true rfl) (Nat.le_of_ble_eq_true rfl) rfl rfl (Nat.le_of_ble_eq_true rfl) (Nat.le_of_ble_eq_true rfl) dX9_init_18 (fun H hP hz hS => ?_)
  have hP : va_P D vwCl ((b, .inr (8, [.int 0, .int 1, .int 2, .int 0, .int 0, .null, .null, .int 0, .null, .null, .null, .null, .null, .int 0, .null, .null, .null, .int 0, .int 0, .null, .null, .null, .int 0, .int 0, .int 0, .int 0, .int 0, .int 0, .null, .null])) :: mW (mY D cs b sz) Sz 25) H := hP
  refine pz_putF (D := D) (ci := 8) (v := .ref (sz + 0)) (ty := .array (.array .int)) (C := RX9) (T := TX9) (N := 30) hx hb hts i_X9 tyX9 tyX9_ok nmX9 hown hK hP (mW_D (by decide) hbs hAb hA) hS 0 rfl rfl 5 (by decide) lf_18 (fun _ h9 => h9) rfl hin rfl (by decide +kernel) rfl rfl (Nat.le_of_ble_eq_true rfl) dX9_init_22 (fun H locs hz1 hP _ hS => ?_)
  have hz : H.size = sz + 25 := hz1.trans hz
  have hP : va_P D vwCl ((b, .inr (8, [.int 0, .int 1, .int 2, .int 0, .int 0, .ref (sz + 0), .null, .int 0, .null, .null, .null, .null, .null, .int 0, .null, .null, .null, .int 0, .int 0, .null, .null, .null, .int 0, .int 0, .int 0, .int 0, .int 0, .int 0, .null, .null])) :: mW (mY D cs b sz) Sz 25) H := hP
  refine lv_aload_n hx hb dX9_init_25 rfl (lv_at hl 0 rfl) ?_
  refine lv_bipush (v := 8) hx hb dX9_init_26 (by decide) ?_
  refine m_prim (atype := .int) (ty := .int) (t := 0) (N := 8) (z := .inl (fun _ => 0)) hx hb rfl la_int hP hS hz (by decide) rfl (fun _ => rfl) hc0 (by decide) (by decide) (Nat.le_of_ble_eq_true rfl) (Nat.le_of_ble_eq_true rfl) (Nat.le_of_ble_eq_true rfl) dX9_init_28 (fun H hP hz hS => ?_)
  have hP : va_P D vwCl ((b, .inr (8, [.int 0, .int 1, .int 2, .int 0, .int 0, .ref (sz + 0), .null, .int 0, .null, .null, .null, .null, .null, .int 0, .null, .null, .null, .int 0, .int 0, .null, .null, .null, .int 0, .int 0, .int 0, .int 0, .int 0, .int 0, .null, .null])) :: mW (mY D cs b sz) Sz 26) H := hP
  refine pz_putF (D := D) (ci := 8) (v := .ref (sz + 25)) (ty := .array .int) (C := RX9) (T := TX9) (N := 30) hx hb hts i_X9 tyX9 tyX9_ok nmX9 hown hK hP (mW_D (by decide) hbs hAb hA) hS 0 rfl rfl 6 (by decide) lf_21 (fun _ h9 => h9) rfl hin rfl (by decide +kernel) rfl rfl (Nat.le_of_ble_eq_true rfl) dX9_init_30 (fun H locs hz1 hP _ hS => ?_)
  have hz : H.size = sz + 26 := hz1.trans hz
  have hP : va_P D vwCl ((b, .inr (8, [.int 0, .int 1, .int 2, .int 0, .int 0, .ref (sz + 0), .ref (sz + 25), .int 0, .null, .null, .null, .null, .null, .int 0, .null, .null, .null, .int 0, .int 0, .null, .null, .null, .int 0, .int 0, .int 0, .int 0, .int 0, .int 0, .null, .null])) :: mW (mY D cs b sz) Sz 26) H := hP
  refine lv_aload_n hx hb dX9_init_33 rfl (lv_at hl 0 rfl) ?_
  refine lv_bipush (v := 6) hx hb dX9_init_34 (by decide) ?_
  refine m_prim (atype := .int) (ty := .int) (t := 0) (N := 6) (z := .inl (fun _ => 0)) hx hb rfl la_int hP hS hz (by decide) rfl (fun _ => rfl) hc0 (by decide) (by decide) (Nat.le_of_ble_eq_true rfl) (Nat.le_of_ble_eq_true rfl) (Nat.le_of_ble_eq_true rfl) dX9_init_36 (fun H hP hz hS => ?_)
  have hP : va_P D vwCl ((b, .inr (8, [.int 0, .int 1, .int 2, .int 0, .int 0, .ref (sz + 0), .ref (sz + 25), .int 0, .null, .null, .null, .null, .null, .int 0, .null, .null, .null, .int 0, .int 0, .null, .null, .null, .int 0, .int 0, .int 0, .int 0, .int 0, .int 0, .null, .null])) :: mW (mY D cs b sz) Sz 27) H := hP
  refine pz_putF (D := D) (ci := 8) (v := .ref (sz + 26)) (ty := .array .int) (C := RX9) (T := TX9) (N := 30) hx hb hts i_X9 tyX9 tyX9_ok nmX9 hown hK hP (mW_D (by decide) hbs hAb hA) hS 0 rfl rfl 8 (by decide) lf_25 (fun _ h9 => h9) rfl hin rfl (by decide +kernel) rfl rfl (Nat.le_of_ble_eq_true rfl) dX9_init_38 (fun H locs hz1 hP _ hS => ?_)
  have hz : H.size = sz + 27 := hz1.trans hz
  have hP : va_P D vwCl ((b, .inr (8, [.int 0, .int 1, .int 2, .int 0, .int 0, .ref (sz + 0), .ref (sz + 25), .int 0, .ref (sz + 26), .null, .null, .null, .null, .int 0, .null, .null, .null, .int 0, .int 0, .null, .null, .null, .int 0, .int 0, .int 0, .int 0, .int 0, .int 0, .null, .null])) :: mW (mY D cs b sz) Sz 27) H := hP
  refine lv_aload_n hx hb dX9_init_41 rfl (lv_at hl 0 rfl) ?_
  refine lv_bipush (v := 6) hx hb dX9_init_42 (by decide) ?_
  refine m_prim (atype := .boolean) (ty := .boolean) (t := 2) (N := 6) (z := .inl (fun _ => 0)) hx hb rfl la_boolean hP hS hz (by decide) rfl (fun _ => rfl) hc2 (by decide) (by decide) (Nat.le_of_ble_eq_true rfl) (Nat.le_of_ble_eq_true rfl) (Nat.le_of_ble_eq_true rfl) dX9_init_44 (fun H hP hz hS => ?_)
  have hP : va_P D vwCl ((b, .inr (8, [.int 0, .int 1, .int 2, .int 0, .int 0, .ref (sz + 0), .ref (sz + 25), .int 0, .ref (sz + 26), .null, .null, .null, .null, .int 0, .null, .null, .null, .int 0, .int 0, .null, .null, .null, .int 0, .int 0, .int 0, .int 0, .int 0, .int 0, .null, .null])) :: mW (mY D cs b sz) Sz 28) H := hP
  refine pz_putF (D := D) (ci := 8) (v := .ref (sz + 27)) (ty := .array .boolean) (C := RX9) (T := TX9) (N := 30) hx hb hts i_X9 tyX9 tyX9_ok nmX9 hown hK hP (mW_D (by decide) hbs hAb hA) hS 0 rfl rfl 9 (by decide) lf_28 (fun _ h9 => h9) rfl hin rfl (by decide +kernel) rfl rfl (Nat.le_of_ble_eq_true rfl) dX9_init_46 (fun H locs hz1 hP _ hS => ?_)
  have hz : H.size = sz + 28 := hz1.trans hz
  have hP : va_P D vwCl ((b, .inr (8, [.int 0, .int 1, .int 2, .int 0, .int 0, .ref (sz + 0), .ref (sz + 25), .int 0, .ref (sz + 26), .ref (sz + 27), .null, .null, .null, .int 0, .null, .null, .null, .int 0, .int 0, .null, .null, .null, .int 0, .int 0, .int 0, .int 0, .int 0, .int 0, .null, .null])) :: mW (mY D cs b sz) Sz 28) H := hP
  refine lv_aload_n hx hb dX9_init_49 rfl (lv_at hl 0 rfl) ?_
  refine lv_bipush (v := 6) hx hb dX9_init_50 (by decide) ?_
  refine lv_bipush (v := 11) hx hb dX9_init_52 (by decide) ?_
  refine m_two (ty := .long) (t := 4) (u := 1) (N := 6) (K := 11) (f := fun j => if j < 6 then some (xa (mY D cs b sz) (67 + j)) else none) (z := .inr (.inl (fun _ => 0))) hx hb hown lc_32 ho_long la_long hP hS hz (by decide) rfl (fun i hi => by show (if i < 6 then _ else none) = _; rw [if_pos hi, show xa (mY D cs b sz) (67 + i) = sz + 28 + 1 + i from mad_28 i hi]) (fun i hi => by show (if i < 6 then _ else none) = _; rw [if_neg hi]) (fun i hi => mce_28 (fun k => rfl) i hi) (fun _ => rfl) hc4 hc1 (by decide) (by decide) (by decide) (by decide) (Nat.le_of_ble_eq_true rfl) (Nat.le_of_ble_eq_true rfl) (Nat.le_of_ble_eq_true rfl) rfl rfl (Nat.le_of_ble_eq_true rfl) (Nat.le_of_ble_eq_true rfl) dX9_init_54 (fun H hP hz hS => ?_)
  have hP : va_P D vwCl ((b, .inr (8, [.int 0, .int 1, .int 2, .int 0, .int 0, .ref (sz + 0), .ref (sz + 25), .int 0, .ref (sz + 26), .ref (sz + 27), .null, .null, .null, .int 0, .null, .null, .null, .int 0, .int 0, .null, .null, .null, .int 0, .int 0, .int 0, .int 0, .int 0, .int 0, .null, .null])) :: mW (mY D cs b sz) Sz 35) H := hP
  refine pz_putF (D := D) (ci := 8) (v := .ref (sz + 28)) (ty := .array (.array .long)) (C := RX9) (T := TX9) (N := 30) hx hb hts i_X9 tyX9 tyX9_ok nmX9 hown hK hP (mW_D (by decide) hbs hAb hA) hS 0 rfl rfl 10 (by decide) lf_34 (fun _ h9 => h9) rfl hin rfl (by decide +kernel) rfl rfl (Nat.le_of_ble_eq_true rfl) dX9_init_58 (fun H locs hz1 hP _ hS => ?_)
  have hz : H.size = sz + 35 := hz1.trans hz
  have hP : va_P D vwCl ((b, .inr (8, [.int 0, .int 1, .int 2, .int 0, .int 0, .ref (sz + 0), .ref (sz + 25), .int 0, .ref (sz + 26), .ref (sz + 27), .ref (sz + 28), .null, .null, .int 0, .null, .null, .null, .int 0, .int 0, .null, .null, .null, .int 0, .int 0, .int 0, .int 0, .int 0, .int 0, .null, .null])) :: mW (mY D cs b sz) Sz 35) H := hP
  refine lv_aload_n hx hb dX9_init_61 rfl (lv_at hl 0 rfl) ?_
  refine lv_bipush (v := 8) hx hb dX9_init_62 (by decide) ?_
  refine m_prim (atype := .int) (ty := .int) (t := 0) (N := 8) (z := .inl (fun _ => 0)) hx hb rfl la_int hP hS hz (by decide) rfl (fun _ => rfl) hc0 (by decide) (by decide) (Nat.le_of_ble_eq_true rfl) (Nat.le_of_ble_eq_true rfl) (Nat.le_of_ble_eq_true rfl) dX9_init_64 (fun H hP hz hS => ?_)
  have hP : va_P D vwCl ((b, .inr (8, [.int 0, .int 1, .int 2, .int 0, .int 0, .ref (sz + 0), .ref (sz + 25), .int 0, .ref (sz + 26), .ref (sz + 27), .ref (sz + 28), .null, .null, .int 0, .null, .null, .null, .int 0, .int 0, .null, .null, .null, .int 0, .int 0, .int 0, .int 0, .int 0, .int 0, .null, .null])) :: mW (mY D cs b sz) Sz 36) H := hP
  refine pz_putF (D := D) (ci := 8) (v := .ref (sz + 35)) (ty := .array .int) (C := RX9) (T := TX9) (N := 30) hx hb hts i_X9 tyX9 tyX9_ok nmX9 hown hK hP (mW_D (by decide) hbs hAb hA) hS 0 rfl rfl 11 (by decide) lf_37 (fun _ h9 => h9) rfl hin rfl (by decide +kernel) rfl rfl (Nat.le_of_ble_eq_true rfl) dX9_init_66 (fun H locs hz1 hP _ hS => ?_)
  have hz : H.size = sz + 36 := hz1.trans hz
  have hP : va_P D vwCl ((b, .inr (8, [.int 0, .int 1, .int 2, .int 0, .int 0, .ref (sz + 0), .ref (sz + 25), .int 0, .ref (sz + 26), .ref (sz + 27), .ref (sz + 28), .ref (sz + 35), .null, .int 0, .null, .null, .null, .int 0, .int 0, .null, .null, .null, .int 0, .int 0, .int 0, .int 0, .int 0, .int 0, .null, .null])) :: mW (mY D cs b sz) Sz 36) H := hP
  refine lv_aload_n hx hb dX9_init_69 rfl (lv_at hl 0 rfl) ?_
  refine lv_bipush (v := 6) hx hb dX9_init_70 (by decide) ?_
  refine lv_bipush (v := 9) hx hb dX9_init_72 (by decide) ?_
  refine lv_bipush (v := 9) hx hb dX9_init_74 (by decide) ?_
  refine m_three (ty := .long) (t := 5) (u := 4) (v := 1) (N := 6) (M := 9) (K := 9) (f := fun j => if j < 6 then some (xa (mY D cs b sz) (73 + j)) else none) (fm := fun i j => if j < 9 then some (xa (mY D cs b sz) (79 + i * 9 + j)) else none) (z := .inr (.inl (fun _ => 0))) hx hb hown lc_40 ho_long2 ho_long la_long hP hS hz (by decide) rfl (fun i hi => by show (if i < 6 then _ else none) = _; rw [if_pos hi, show xa (mY D cs b sz) (73 + i) = sz + 36 + 1 + i * (1 + 9) from mad_36 i hi]) (fun i hi => by show (if i < 6 then _ else none) = _; rw [if_neg hi]) (fun i hi => mce_36 i hi) (fun i j hi hj => by show (if j < 9 then _ else none) = _; rw [if_pos hj, show xa (mY D cs b sz) (79 + i * 9 + j) = sz + 36 + 1 + i * (1 + 9) + 1 + j from mad_36r i j hi hj]) (fun i j hi hj => by show (if j < 9 then _ else none) = _; rw [if_neg hj]) (fun i j hi hj => mce_36r i j hi hj) (fun _ => rfl) mcov hc5 hc4 hc1 (by decide) (by decide) (by decide) (by decide) (by decide) (by decide) (Nat.le_of_ble_eq_true rfl) (Nat.le_of_ble_eq_true rfl) (Nat.le_of_ble_eq_true rfl) (Nat.le_of_ble_eq_true rfl) rfl rfl (Nat.le_of_ble_eq_true rfl) (Nat.le_of_ble_eq_true rfl) dX9_init_76 (fun H hP hz hS => ?_)
  have hP : va_P D vwCl ((b, .inr (8, [.int 0, .int 1, .int 2, .int 0, .int 0, .ref (sz + 0), .ref (sz + 25), .int 0, .ref (sz + 26), .ref (sz + 27), .ref (sz + 28), .ref (sz + 35), .null, .int 0, .null, .null, .null, .int 0, .int 0, .null, .null, .null, .int 0, .int 0, .int 0, .int 0, .int 0, .int 0, .null, .null])) :: mW (mY D cs b sz) Sz 97) H := hP
  refine pz_putF (D := D) (ci := 8) (v := .ref (sz + 36)) (ty := .array (.array (.array .long))) (C := RX9) (T := TX9) (N := 30) hx hb hts i_X9 tyX9 tyX9_ok nmX9 hown hK hP (mW_D (by decide) hbs hAb hA) hS 0 rfl rfl 12 (by decide) lf_42 (fun _ h9 => h9) rfl hin rfl (by decide +kernel) rfl rfl (Nat.le_of_ble_eq_true rfl) dX9_init_80 (fun H locs hz1 hP _ hS => ?_)
  have hz : H.size = sz + 97 := hz1.trans hz
  have hP : va_P D vwCl ((b, .inr (8, [.int 0, .int 1, .int 2, .int 0, .int 0, .ref (sz + 0), .ref (sz + 25), .int 0, .ref (sz + 26), .ref (sz + 27), .ref (sz + 28), .ref (sz + 35), .ref (sz + 36), .int 0, .null, .null, .null, .int 0, .int 0, .null, .null, .null, .int 0, .int 0, .int 0, .int 0, .int 0, .int 0, .null, .null])) :: mW (mY D cs b sz) Sz 97) H := hP
  refine lv_aload_n hx hb dX9_init_83 rfl (lv_at hl 0 rfl) ?_
  refine lv_bipush (v := 16) hx hb dX9_init_84 (by decide) ?_
  refine m_prim (atype := .int) (ty := .int) (t := 0) (N := 16) (z := .inl (fun _ => 0)) hx hb rfl la_int hP hS hz (by decide) rfl (fun _ => rfl) hc0 (by decide) (by decide) (Nat.le_of_ble_eq_true rfl) (Nat.le_of_ble_eq_true rfl) (Nat.le_of_ble_eq_true rfl) dX9_init_86 (fun H hP hz hS => ?_)
  have hP : va_P D vwCl ((b, .inr (8, [.int 0, .int 1, .int 2, .int 0, .int 0, .ref (sz + 0), .ref (sz + 25), .int 0, .ref (sz + 26), .ref (sz + 27), .ref (sz + 28), .ref (sz + 35), .ref (sz + 36), .int 0, .null, .null, .null, .int 0, .int 0, .null, .null, .null, .int 0, .int 0, .int 0, .int 0, .int 0, .int 0, .null, .null])) :: mW (mY D cs b sz) Sz 98) H := hP
  refine pz_putF (D := D) (ci := 8) (v := .ref (sz + 97)) (ty := .array .int) (C := RX9) (T := TX9) (N := 30) hx hb hts i_X9 tyX9 tyX9_ok nmX9 hown hK hP (mW_D (by decide) hbs hAb hA) hS 0 rfl rfl 14 (by decide) lf_45 (fun _ h9 => h9) rfl hin rfl (by decide +kernel) rfl rfl (Nat.le_of_ble_eq_true rfl) dX9_init_88 (fun H locs hz1 hP _ hS => ?_)
  have hz : H.size = sz + 98 := hz1.trans hz
  have hP : va_P D vwCl ((b, .inr (8, [.int 0, .int 1, .int 2, .int 0, .int 0, .ref (sz + 0), .ref (sz + 25), .int 0, .ref (sz + 26), .ref (sz + 27), .ref (sz + 28), .ref (sz + 35), .ref (sz + 36), .int 0, .ref (sz + 97), .null, .null, .int 0, .int 0, .null, .null, .null, .int 0, .int 0, .int 0, .int 0, .int 0, .int 0, .null, .null])) :: mW (mY D cs b sz) Sz 98) H := hP
  refine lv_aload_n hx hb dX9_init_91 rfl (lv_at hl 0 rfl) ?_
  refine lv_bipush (v := 16) hx hb dX9_init_92 (by decide) ?_
  refine m_prim (atype := .int) (ty := .int) (t := 0) (N := 16) (z := .inl (fun _ => 0)) hx hb rfl la_int hP hS hz (by decide) rfl (fun _ => rfl) hc0 (by decide) (by decide) (Nat.le_of_ble_eq_true rfl) (Nat.le_of_ble_eq_true rfl) (Nat.le_of_ble_eq_true rfl) dX9_init_94 (fun H hP hz hS => ?_)
  have hP : va_P D vwCl ((b, .inr (8, [.int 0, .int 1, .int 2, .int 0, .int 0, .ref (sz + 0), .ref (sz + 25), .int 0, .ref (sz + 26), .ref (sz + 27), .ref (sz + 28), .ref (sz + 35), .ref (sz + 36), .int 0, .ref (sz + 97), .null, .null, .int 0, .int 0, .null, .null, .null, .int 0, .int 0, .int 0, .int 0, .int 0, .int 0, .null, .null])) :: mW (mY D cs b sz) Sz 99) H := hP
  refine pz_putF (D := D) (ci := 8) (v := .ref (sz + 98)) (ty := .array .int) (C := RX9) (T := TX9) (N := 30) hx hb hts i_X9 tyX9 tyX9_ok nmX9 hown hK hP (mW_D (by decide) hbs hAb hA) hS 0 rfl rfl 15 (by decide) lf_48 (fun _ h9 => h9) rfl hin rfl (by decide +kernel) rfl rfl (Nat.le_of_ble_eq_true rfl) dX9_init_96 (fun H locs hz1 hP _ hS => ?_)
  have hz : H.size = sz + 99 := hz1.trans hz
  have hP : va_P D vwCl ((b, .inr (8, [.int 0, .int 1, .int 2, .int 0, .int 0, .ref (sz + 0), .ref (sz + 25), .int 0, .ref (sz + 26), .ref (sz + 27), .ref (sz + 28), .ref (sz + 35), .ref (sz + 36), .int 0, .ref (sz + 97), .ref (sz + 98), .null, .int 0, .int 0, .null, .null, .null, .int 0, .int 0, .int 0, .int 0, .int 0, .int 0, .null, .null])) :: mW (mY D cs b sz) Sz 99) H := hP
  refine lv_aload_n hx hb dX9_init_99 rfl (lv_at hl 0 rfl) ?_
  refine lv_bipush (v := 16) hx hb dX9_init_100 (by decide) ?_
  refine m_prim (atype := .int) (ty := .int) (t := 0) (N := 16) (z := .inl (fun _ => 0)) hx hb rfl la_int hP hS hz (by decide) rfl (fun _ => rfl) hc0 (by decide) (by decide) (Nat.le_of_ble_eq_true rfl) (Nat.le_of_ble_eq_true rfl) (Nat.le_of_ble_eq_true rfl) dX9_init_102 (fun H hP hz hS => ?_)
  have hP : va_P D vwCl ((b, .inr (8, [.int 0, .int 1, .int 2, .int 0, .int 0, .ref (sz + 0), .ref (sz + 25), .int 0, .ref (sz + 26), .ref (sz + 27), .ref (sz + 28), .ref (sz + 35), .ref (sz + 36), .int 0, .ref (sz + 97), .ref (sz + 98), .null, .int 0, .int 0, .null, .null, .null, .int 0, .int 0, .int 0, .int 0, .int 0, .int 0, .null, .null])) :: mW (mY D cs b sz) Sz 100) H := hP
  refine pz_putF (D := D) (ci := 8) (v := .ref (sz + 99)) (ty := .array .int) (C := RX9) (T := TX9) (N := 30) hx hb hts i_X9 tyX9 tyX9_ok nmX9 hown hK hP (mW_D (by decide) hbs hAb hA) hS 0 rfl rfl 16 (by decide) lf_51 (fun _ h9 => h9) rfl hin rfl (by decide +kernel) rfl rfl (Nat.le_of_ble_eq_true rfl) dX9_init_104 (fun H locs hz1 hP _ hS => ?_)
  have hz : H.size = sz + 100 := hz1.trans hz
  have hP : va_P D vwCl ((b, .inr (8, [.int 0, .int 1, .int 2, .int 0, .int 0, .ref (sz + 0), .ref (sz + 25), .int 0, .ref (sz + 26), .ref (sz + 27), .ref (sz + 28), .ref (sz + 35), .ref (sz + 36), .int 0, .ref (sz + 97), .ref (sz + 98), .ref (sz + 99), .int 0, .int 0, .null, .null, .null, .int 0, .int 0, .int 0, .int 0, .int 0, .int 0, .null, .null])) :: mW (mY D cs b sz) Sz 100) H := hP
  refine lv_aload_n hx hb dX9_init_107 rfl (lv_at hl 0 rfl) ?_
  refine lv_iconst (v := 3) hx hb dX9_init_108 (by decide) ?_
  refine m_prim (atype := .int) (ty := .int) (t := 0) (N := 3) (z := .inl (fun _ => 0)) hx hb rfl la_int hP hS hz (by decide) rfl (fun _ => rfl) hc0 (by decide) (by decide) (Nat.le_of_ble_eq_true rfl) (Nat.le_of_ble_eq_true rfl) (Nat.le_of_ble_eq_true rfl) dX9_init_109 (fun H hP hz hS => ?_)
  have hP : va_P D vwCl ((b, .inr (8, [.int 0, .int 1, .int 2, .int 0, .int 0, .ref (sz + 0), .ref (sz + 25), .int 0, .ref (sz + 26), .ref (sz + 27), .ref (sz + 28), .ref (sz + 35), .ref (sz + 36), .int 0, .ref (sz + 97), .ref (sz + 98), .ref (sz + 99), .int 0, .int 0, .null, .null, .null, .int 0, .int 0, .int 0, .int 0, .int 0, .int 0, .null, .null])) :: mW (mY D cs b sz) Sz 101) H := hP
  refine lv_dup hx hb dX9_init_111 rfl ?_
  refine lv_iconst (v := 0) hx hb dX9_init_112 (by decide) ?_
  refine lv_iconst (v := (-1)) hx hb dX9_init_113 (by decide) ?_
  refine pz_iast (D := D) (cA := cs 0) hx hb hK hP (mW_D (by decide) hbs hAb hA) hS 101 0 m_sz rfl (by unfold vp_in; decide +kernel) dX9_init_114 (fun H locs hz1 hP _ hS => ?_)
  have hz : H.size = sz + 101 := hz1.trans hz
  rw [show ((b, .inr (8, [.int 0, .int 1, .int 2, .int 0, .int 0, .ref (sz + 0), .ref (sz + 25), .int 0, .ref (sz + 26), .ref (sz + 27), .ref (sz + 28), .ref (sz + 35), .ref (sz + 36), .int 0, .ref (sz + 97), .ref (sz + 98), .ref (sz + 99), .int 0, .int 0, .null, .null, .null, .int 0, .int 0, .int 0, .int 0, .int 0, .int 0, .null, .null])) :: mW (mY D cs b sz) Sz 101).set 101 (sz + 100, .inl (cs 0, 3, .inl (upd (gA Sz 11) (0 : Int32).toNatClampNeg (-1)))) = (b, .inr (8, [.int 0, .int 1, .int 2, .int 0, .int 0, .ref (sz + 0), .ref (sz + 25), .int 0, .ref (sz + 26), .ref (sz + 27), .ref (sz + 28), .ref (sz + 35), .ref (sz + 36), .int 0, .ref (sz + 97), .ref (sz + 98), .ref (sz + 99), .int 0, .int 0, .null, .null, .null, .int 0, .int 0, .int 0, .int 0, .int 0, .int 0, .null, .null])) :: mW (mY D cs b sz) (uA Sz 11 (0 : Int32).toNatClampNeg (-1)) 101 from congrArg (List.cons _) (mW_set (by decide) (by decide))] at hP
  have hP : va_P D vwCl ((b, .inr (8, [.int 0, .int 1, .int 2, .int 0, .int 0, .ref (sz + 0), .ref (sz + 25), .int 0, .ref (sz + 26), .ref (sz + 27), .ref (sz + 28), .ref (sz + 35), .ref (sz + 36), .int 0, .ref (sz + 97), .ref (sz + 98), .ref (sz + 99), .int 0, .int 0, .null, .null, .null, .int 0, .int 0, .int 0, .int 0, .int 0, .int 0, .null, .null])) :: mW (mY D cs b sz) (uA Sz 11 (0 : Int32).toNatClampNeg (-1)) 101) H := hP
  refine lv_dup hx hb dX9_init_115 rfl ?_
  refine lv_iconst (v := 1) hx hb dX9_init_116 (by decide) ?_
  refine lv_iconst (v := (-1)) hx hb dX9_init_117 (by decide) ?_
  refine pz_iast (D := D) (cA := cs 0) hx hb hK hP (mW_D (by decide) hbs hAb hA) hS 101 0 m_sz rfl (by unfold vp_in; decide +kernel) dX9_init_118 (fun H locs hz1 hP _ hS => ?_)
  have hz : H.size = sz + 101 := hz1.trans hz
  rw [show ((b, .inr (8, [.int 0, .int 1, .int 2, .int 0, .int 0, .ref (sz + 0), .ref (sz + 25), .int 0, .ref (sz + 26), .ref (sz + 27), .ref (sz + 28), .ref (sz + 35), .ref (sz + 36), .int 0, .ref (sz + 97), .ref (sz + 98), .ref (sz + 99), .int 0, .int 0, .null, .null, .null, .int 0, .int 0, .int 0, .int 0, .int 0, .int 0, .null, .null])) :: mW (mY D cs b sz) (uA Sz 11 (0 : Int32).toNatClampNeg (-1)) 101).set 101 (sz + 100, .inl (cs 0, 3, .inl (upd (gA (uA Sz 11 (0 : Int32).toNatClampNeg (-1)) 11) (1 : Int32).toNatClampNeg (-1)))) = (b, .inr (8, [.int 0, .int 1, .int 2, .int 0, .int 0, .ref (sz + 0), .ref (sz + 25), .int 0, .ref (sz + 26), .ref (sz + 27), .ref (sz + 28), .ref (sz + 35), .ref (sz + 36), .int 0, .ref (sz + 97), .ref (sz + 98), .ref (sz + 99), .int 0, .int 0, .null, .null, .null, .int 0, .int 0, .int 0, .int 0, .int 0, .int 0, .null, .null])) :: mW (mY D cs b sz) (uA (uA Sz 11 (0 : Int32).toNatClampNeg (-1)) 11 (1 : Int32).toNatClampNeg (-1)) 101 from congrArg (List.cons _) (mW_set (by decide) (by decide))] at hP
  have hP : va_P D vwCl ((b, .inr (8, [.int 0, .int 1, .int 2, .int 0, .int 0, .ref (sz + 0), .ref (sz + 25), .int 0, .ref (sz + 26), .ref (sz + 27), .ref (sz + 28), .ref (sz + 35), .ref (sz + 36), .int 0, .ref (sz + 97), .ref (sz + 98), .ref (sz + 99), .int 0, .int 0, .null, .null, .null, .int 0, .int 0, .int 0, .int 0, .int 0, .int 0, .null, .null])) :: mW (mY D cs b sz) (uA (uA Sz 11 (0 : Int32).toNatClampNeg (-1)) 11 (1 : Int32).toNatClampNeg (-1)) 101) H := hP
  refine lv_dup hx hb dX9_init_119 rfl ?_
  refine lv_iconst (v := 2) hx hb dX9_init_120 (by decide) ?_
  refine lv_iconst (v := (-1)) hx hb dX9_init_121 (by decide) ?_
  refine pz_iast (D := D) (cA := cs 0) hx hb hK hP (mW_D (by decide) hbs hAb hA) hS 101 0 m_sz rfl (by unfold vp_in; decide +kernel) dX9_init_122 (fun H locs hz1 hP _ hS => ?_)
  have hz : H.size = sz + 101 := hz1.trans hz
  rw [show ((b, .inr (8, [.int 0, .int 1, .int 2, .int 0, .int 0, .ref (sz + 0), .ref (sz + 25), .int 0, .ref (sz + 26), .ref (sz + 27), .ref (sz + 28), .ref (sz + 35), .ref (sz + 36), .int 0, .ref (sz + 97), .ref (sz + 98), .ref (sz + 99), .int 0, .int 0, .null, .null, .null, .int 0, .int 0, .int 0, .int 0, .int 0, .int 0, .null, .null])) :: mW (mY D cs b sz) (uA (uA Sz 11 (0 : Int32).toNatClampNeg (-1)) 11 (1 : Int32).toNatClampNeg (-1)) 101).set 101 (sz + 100, .inl (cs 0, 3, .inl (upd (gA (uA (uA Sz 11 (0 : Int32).toNatClampNeg (-1)) 11 (1 : Int32).toNatClampNeg (-1)) 11) (2 : Int32).toNatClampNeg (-1)))) = (b, .inr (8, [.int 0, .int 1, .int 2, .int 0, .int 0, .ref (sz + 0), .ref (sz + 25), .int 0, .ref (sz + 26), .ref (sz + 27), .ref (sz + 28), .ref (sz + 35), .ref (sz + 36), .int 0, .ref (sz + 97), .ref (sz + 98), .ref (sz + 99), .int 0, .int 0, .null, .null, .null, .int 0, .int 0, .int 0, .int 0, .int 0, .int 0, .null, .null])) :: mW (mY D cs b sz) (uA (uA (uA Sz 11 (0 : Int32).toNatClampNeg (-1)) 11 (1 : Int32).toNatClampNeg (-1)) 11 (2 : Int32).toNatClampNeg (-1)) 101 from congrArg (List.cons _) (mW_set (by decide) (by decide))] at hP
  have hP : va_P D vwCl ((b, .inr (8, [.int 0, .int 1, .int 2, .int 0, .int 0, .ref (sz + 0), .ref (sz + 25), .int 0, .ref (sz + 26), .ref (sz + 27), .ref (sz + 28), .ref (sz + 35), .ref (sz + 36), .int 0, .ref (sz + 97), .ref (sz + 98), .ref (sz + 99), .int 0, .int 0, .null, .null, .null, .int 0, .int 0, .int 0, .int 0, .int 0, .int 0, .null, .null])) :: mW (mY D cs b sz) (uA (uA (uA Sz 11 (0 : Int32).toNatClampNeg (-1)) 11 (1 : Int32).toNatClampNeg (-1)) 11 (2 : Int32).toNatClampNeg (-1)) 101) H := hP
  refine pz_putF (D := D) (ci := 8) (v := .ref (sz + 100)) (ty := .array .int) (C := RX9) (T := TX9) (N := 30) hx hb hts i_X9 tyX9 tyX9_ok nmX9 hown hK hP (mW_D (by decide) hbs hAb hA) hS 0 rfl rfl 19 (by decide) lf_54 (fun _ h9 => h9) rfl hin rfl (by decide +kernel) rfl rfl (Nat.le_of_ble_eq_true rfl) dX9_init_123 (fun H locs hz1 hP _ hS => ?_)
  have hz : H.size = sz + 101 := hz1.trans hz
  have hP : va_P D vwCl ((b, .inr (8, [.int 0, .int 1, .int 2, .int 0, .int 0, .ref (sz + 0), .ref (sz + 25), .int 0, .ref (sz + 26), .ref (sz + 27), .ref (sz + 28), .ref (sz + 35), .ref (sz + 36), .int 0, .ref (sz + 97), .ref (sz + 98), .ref (sz + 99), .int 0, .int 0, .ref (sz + 100), .null, .null, .int 0, .int 0, .int 0, .int 0, .int 0, .int 0, .null, .null])) :: mW (mY D cs b sz) (uA (uA (uA Sz 11 (0 : Int32).toNatClampNeg (-1)) 11 (1 : Int32).toNatClampNeg (-1)) 11 (2 : Int32).toNatClampNeg (-1)) 101) H := hP
  refine lv_aload_n hx hb dX9_init_126 rfl (lv_at hl 0 rfl) ?_
  refine lv_iconst (v := 3) hx hb dX9_init_127 (by decide) ?_
  refine m_prim (atype := .boolean) (ty := .boolean) (t := 2) (N := 3) (z := .inl (fun _ => 0)) hx hb rfl la_boolean hP hS hz (by decide) rfl (fun _ => rfl) hc2 (by decide) (by decide) (Nat.le_of_ble_eq_true rfl) (Nat.le_of_ble_eq_true rfl) (Nat.le_of_ble_eq_true rfl) dX9_init_128 (fun H hP hz hS => ?_)
  have hP : va_P D vwCl ((b, .inr (8, [.int 0, .int 1, .int 2, .int 0, .int 0, .ref (sz + 0), .ref (sz + 25), .int 0, .ref (sz + 26), .ref (sz + 27), .ref (sz + 28), .ref (sz + 35), .ref (sz + 36), .int 0, .ref (sz + 97), .ref (sz + 98), .ref (sz + 99), .int 0, .int 0, .ref (sz + 100), .null, .null, .int 0, .int 0, .int 0, .int 0, .int 0, .int 0, .null, .null])) :: mW (mY D cs b sz) (uA (uA (uA Sz 11 (0 : Int32).toNatClampNeg (-1)) 11 (1 : Int32).toNatClampNeg (-1)) 11 (2 : Int32).toNatClampNeg (-1)) 102) H := hP
  refine pz_putF (D := D) (ci := 8) (v := .ref (sz + 101)) (ty := .array .boolean) (C := RX9) (T := TX9) (N := 30) hx hb hts i_X9 tyX9 tyX9_ok nmX9 hown hK hP (mW_D (by decide) hbs hAb hA) hS 0 rfl rfl 20 (by decide) lf_57 (fun _ h9 => h9) rfl hin rfl (by decide +kernel) rfl rfl (Nat.le_of_ble_eq_true rfl) dX9_init_130 (fun H locs hz1 hP _ hS => ?_)
  have hz : H.size = sz + 102 := hz1.trans hz
  have hP : va_P D vwCl ((b, .inr (8, [.int 0, .int 1, .int 2, .int 0, .int 0, .ref (sz + 0), .ref (sz + 25), .int 0, .ref (sz + 26), .ref (sz + 27), .ref (sz + 28), .ref (sz + 35), .ref (sz + 36), .int 0, .ref (sz + 97), .ref (sz + 98), .ref (sz + 99), .int 0, .int 0, .ref (sz + 100), .ref (sz + 101), .null, .int 0, .int 0, .int 0, .int 0, .int 0, .int 0, .null, .null])) :: mW (mY D cs b sz) (uA (uA (uA Sz 11 (0 : Int32).toNatClampNeg (-1)) 11 (1 : Int32).toNatClampNeg (-1)) 11 (2 : Int32).toNatClampNeg (-1)) 102) H := hP
  refine lv_aload_n hx hb dX9_init_133 rfl (lv_at hl 0 rfl) ?_
  refine lv_iconst (v := 3) hx hb dX9_init_134 (by decide) ?_
  refine lv_bipush (v := 40) hx hb dX9_init_135 (by decide) ?_
  refine m_two (ty := .int) (t := 3) (u := 0) (N := 3) (K := 40) (f := fun j => if j < 3 then some (xa (mY D cs b sz) (64 + j)) else none) (z := .inl (fun _ => 0)) hx hb hown lc_16 ho_int la_int hP hS hz (by decide) rfl (fun i hi => by show (if i < 3 then _ else none) = _; rw [if_pos hi, show xa (mY D cs b sz) (64 + i) = sz + 102 + 1 + i from mad_102 i hi]) (fun i hi => by show (if i < 3 then _ else none) = _; rw [if_neg hi]) (fun i hi => mce_102 (fun k hk => by rw [gA_ne (by omega), gA_ne (by omega), gA_ne (by omega)]; rfl) i hi) (fun _ => rfl) hc3 hc0 (by decide) (by decide) (by decide) (by decide) (Nat.le_of_ble_eq_true rfl) (Nat.le_of_ble_eq_true rfl) (Nat.le_of_ble_eq_true rfl) rfl rfl (Nat.le_of_ble_eq_true rfl) (Nat.le_of_ble_eq_true rfl) dX9_init_137 (fun H hP hz hS => ?_)
  have hP : va_P D vwCl ((b, .inr (8, [.int 0, .int 1, .int 2, .int 0, .int 0, .ref (sz + 0), .ref (sz + 25), .int 0, .ref (sz + 26), .ref (sz + 27), .ref (sz + 28), .ref (sz + 35), .ref (sz + 36), .int 0, .ref (sz + 97), .ref (sz + 98), .ref (sz + 99), .int 0, .int 0, .ref (sz + 100), .ref (sz + 101), .null, .int 0, .int 0, .int 0, .int 0, .int 0, .int 0, .null, .null])) :: mW (mY D cs b sz) (uA (uA (uA Sz 11 (0 : Int32).toNatClampNeg (-1)) 11 (1 : Int32).toNatClampNeg (-1)) 11 (2 : Int32).toNatClampNeg (-1)) 106) H := hP
  refine pz_putF (D := D) (ci := 8) (v := .ref (sz + 102)) (ty := .array (.array .int)) (C := RX9) (T := TX9) (N := 30) hx hb hts i_X9 tyX9 tyX9_ok nmX9 hown hK hP (mW_D (by decide) hbs hAb hA) hS 0 rfl rfl 21 (by decide) lf_60 (fun _ h9 => h9) rfl hin rfl (by decide +kernel) rfl rfl (Nat.le_of_ble_eq_true rfl) dX9_init_141 (fun H locs hz1 hP _ hS => ?_)
  have hz : H.size = sz + 106 := hz1.trans hz
  have hP : va_P D vwCl ((b, .inr (8, [.int 0, .int 1, .int 2, .int 0, .int 0, .ref (sz + 0), .ref (sz + 25), .int 0, .ref (sz + 26), .ref (sz + 27), .ref (sz + 28), .ref (sz + 35), .ref (sz + 36), .int 0, .ref (sz + 97), .ref (sz + 98), .ref (sz + 99), .int 0, .int 0, .ref (sz + 100), .ref (sz + 101), .ref (sz + 102), .int 0, .int 0, .int 0, .int 0, .int 0, .int 0, .null, .null])) :: mW (mY D cs b sz) (uA (uA (uA Sz 11 (0 : Int32).toNatClampNeg (-1)) 11 (1 : Int32).toNatClampNeg (-1)) 11 (2 : Int32).toNatClampNeg (-1)) 106) H := hP
  refine lv_aload_n hx hb dX9_init_144 rfl (lv_at hl 0 rfl) ?_
  refine lv_bipush (v := 24) hx hb dX9_init_145 (by decide) ?_
  refine lv_iconst (v := 4) hx hb dX9_init_147 (by decide) ?_
  refine m_two (ty := .int) (t := 3) (u := 0) (N := 24) (K := 4) (f := fun j => if j < 24 then some (xa (mY D cs b sz) (40 + j)) else none) (z := .inl (fun _ => 0)) hx hb hown lc_16 ho_int la_int hP hS hz (by decide) rfl (fun i hi => by show (if i < 24 then _ else none) = _; rw [if_pos hi, show xa (mY D cs b sz) (40 + i) = sz + 106 + 1 + i from mad_106 i hi]) (fun i hi => by show (if i < 24 then _ else none) = _; rw [if_neg hi]) (fun i hi => mce_106 (fun k hk => by rw [gA_ne (by omega), gA_ne (by omega), gA_ne (by omega)]; rfl) i hi) (fun _ => rfl) hc3 hc0 (by decide) (by decide) (by decide) (by decide) (Nat.le_of_ble_eq_true rfl) (Nat.le_of_ble_eq_true rfl) (Nat.le_of_ble_eq_true rfl) rfl rfl (Nat.le_of_ble_eq_true rfl) (Nat.le_of_ble_eq_true rfl) dX9_init_148 (fun H hP hz hS => ?_)
  have hP : va_P D vwCl ((b, .inr (8, [.int 0, .int 1, .int 2, .int 0, .int 0, .ref (sz + 0), .ref (sz + 25), .int 0, .ref (sz + 26), .ref (sz + 27), .ref (sz + 28), .ref (sz + 35), .ref (sz + 36), .int 0, .ref (sz + 97), .ref (sz + 98), .ref (sz + 99), .int 0, .int 0, .ref (sz + 100), .ref (sz + 101), .ref (sz + 102), .int 0, .int 0, .int 0, .int 0, .int 0, .int 0, .null, .null])) :: mW (mY D cs b sz) (uA (uA (uA Sz 11 (0 : Int32).toNatClampNeg (-1)) 11 (1 : Int32).toNatClampNeg (-1)) 11 (2 : Int32).toNatClampNeg (-1)) 131) H := hP
  refine pz_putF (D := D) (ci := 8) (v := .ref (sz + 106)) (ty := .array (.array .int)) (C := RX9) (T := TX9) (N := 30) hx hb hts i_X9 tyX9 tyX9_ok nmX9 hown hK hP (mW_D (by decide) hbs hAb hA) hS 0 rfl rfl 28 (by decide) lf_63 (fun _ h9 => h9) rfl hin rfl (by decide +kernel) rfl rfl (Nat.le_of_ble_eq_true rfl) dX9_init_152 (fun H locs hz1 hP _ hS => ?_)
  have hz : H.size = sz + 131 := hz1.trans hz
  have hP : va_P D vwCl ((b, .inr (8, [.int 0, .int 1, .int 2, .int 0, .int 0, .ref (sz + 0), .ref (sz + 25), .int 0, .ref (sz + 26), .ref (sz + 27), .ref (sz + 28), .ref (sz + 35), .ref (sz + 36), .int 0, .ref (sz + 97), .ref (sz + 98), .ref (sz + 99), .int 0, .int 0, .ref (sz + 100), .ref (sz + 101), .ref (sz + 102), .int 0, .int 0, .int 0, .int 0, .int 0, .int 0, .ref (sz + 106), .null])) :: mW (mY D cs b sz) (uA (uA (uA Sz 11 (0 : Int32).toNatClampNeg (-1)) 11 (1 : Int32).toNatClampNeg (-1)) 11 (2 : Int32).toNatClampNeg (-1)) 131) H := hP
  refine lv_aload_n hx hb dX9_init_155 rfl (lv_at hl 0 rfl) ?_
  refine lv_bipush (v := 8) hx hb dX9_init_156 (by decide) ?_
  refine m_prim (atype := .int) (ty := .int) (t := 0) (N := 8) (z := .inl (fun _ => 0)) hx hb rfl la_int hP hS hz (by decide) rfl (fun _ => rfl) hc0 (by decide) (by decide) (Nat.le_of_ble_eq_true rfl) (Nat.le_of_ble_eq_true rfl) (Nat.le_of_ble_eq_true rfl) dX9_init_158 (fun H hP hz hS => ?_)
  have hP : va_P D vwCl ((b, .inr (8, [.int 0, .int 1, .int 2, .int 0, .int 0, .ref (sz + 0), .ref (sz + 25), .int 0, .ref (sz + 26), .ref (sz + 27), .ref (sz + 28), .ref (sz + 35), .ref (sz + 36), .int 0, .ref (sz + 97), .ref (sz + 98), .ref (sz + 99), .int 0, .int 0, .ref (sz + 100), .ref (sz + 101), .ref (sz + 102), .int 0, .int 0, .int 0, .int 0, .int 0, .int 0, .ref (sz + 106), .null])) :: mW (mY D cs b sz) (uA (uA (uA Sz 11 (0 : Int32).toNatClampNeg (-1)) 11 (1 : Int32).toNatClampNeg (-1)) 11 (2 : Int32).toNatClampNeg (-1)) 132) H := hP
  refine pz_putF (D := D) (ci := 8) (v := .ref (sz + 131)) (ty := .array .int) (C := RX9) (T := TX9) (N := 30) hx hb hts i_X9 tyX9 tyX9_ok nmX9 hown hK hP (mW_D (by decide) hbs hAb hA) hS 0 rfl rfl 29 (by decide) lf_66 (fun _ h9 => h9) rfl hin rfl (by decide +kernel) rfl rfl (Nat.le_of_ble_eq_true rfl) dX9_init_160 (fun H locs hz1 hP _ hS => ?_)
  have hz : H.size = sz + 132 := hz1.trans hz
  have hP : va_P D vwCl ((b, .inr (8, [.int 0, .int 1, .int 2, .int 0, .int 0, .ref (sz + 0), .ref (sz + 25), .int 0, .ref (sz + 26), .ref (sz + 27), .ref (sz + 28), .ref (sz + 35), .ref (sz + 36), .int 0, .ref (sz + 97), .ref (sz + 98), .ref (sz + 99), .int 0, .int 0, .ref (sz + 100), .ref (sz + 101), .ref (sz + 102), .int 0, .int 0, .int 0, .int 0, .int 0, .int 0, .ref (sz + 106), .ref (sz + 131)])) :: mW (mY D cs b sz) (uA (uA (uA Sz 11 (0 : Int32).toNatClampNeg (-1)) 11 (1 : Int32).toNatClampNeg (-1)) 11 (2 : Int32).toNatClampNeg (-1)) 132) H := hP
  exact hQ _ _ _ _ _ _ ⟨hz, mW_all hP⟩ hS dX9_init_163 (Nat.le_of_ble_eq_true rfl) (Nat.le_of_ble_eq_true rfl)
