/-! WHAT HOLDS AT THE LAW'S ENTRY: classes, statics, strings. -/
theorem ao_of {t : FieldType} {a : Array Value} {s : State} (h : (Cond.arrayOver (.array t)).before a s = true) : ∃ c : ClassId, s.vm.findClass ("[" ++ (FieldType.array t).toString) = some c ∧ ArrOfT s c (.array t) := by
  obtain ⟨comp, cA, kA, hcomp, hkA, hkindA, hnameA⟩ := Cond.arrayOver_specA h
  exact ⟨cA, hnameA, fun n z => ⟨fun k h => (by cases h), kA, hkA, comp, hkindA⟩⟩
theorem ac_of {t : FieldType} {a : Array Value} {s : State} (h : (Cond.arrayClass t).before a s = true) : ∃ c : ClassId, s.vm.findClass ("[" ++ t.toString) = some c ∧ ArrOfT s c t := by
  obtain ⟨c, k, comp, h1, h2, h3⟩ := Cond.arrayClass_spec h
  exact ⟨c, h1, fun n z => ⟨fun k h => (by cases h), k, h2, comp, h3⟩⟩
theorem st_K {a : Array Value} {s : State} (hts : ∀ w ∈ WS, w.before a s = true) : ∃ D : va_G, ∀ (c : Nat) (q : vw_C), vwCl[c]? = some q → u_Kn s q.1 q.2.1 q.2.2 (D.1 c) (D.2 c) := by
  obtain ⟨c0, i0, k0⟩ := u_known (C := RX1) (T := TX1) (N := 7) (n := 7) hts i_X1 (hts _ q_16)
  obtain ⟨c1, i1, k1⟩ := u_known (C := RX2) (T := TX2) (N := 3) (n := 3) hts i_X2 (hts _ q_26)
  obtain ⟨c2, i2, k2⟩ := u_known (C := RX3) (T := TX3) (N := 4) (n := 4) hts i_X3 (hts _ q_42)
  obtain ⟨c3, i3, k3⟩ := u_known (C := RX4) (T := TX4) (N := 4) (n := 4) hts i_X4 (hts _ q_30)
  obtain ⟨c4, i4, k4⟩ := u_known (C := RX5) (T := TX5) (N := 11) (n := 11) hts i_X5 (hts _ q_38)
  obtain ⟨c5, i5, k5⟩ := u_known (C := RX6) (T := TX6) (N := 2) (n := 2) hts i_X6 (hts _ q_20)
  obtain ⟨c6, i6, k6⟩ := u_known (C := RX7) (T := TX7) (N := 4) (n := 4) hts i_X7 (hts _ q_34)
  obtain ⟨c7, i7, k7⟩ := u_known (C := RX8) (T := TX8) (N := 10) (n := 10) hts i_X8 (hts _ q_1)
  obtain ⟨c8, i8, k8⟩ := u_known (C := RX9) (T := TX9) (N := 30) (n := 30) hts i_X9 (hts _ q_4)
  refine ⟨(fun k => match k with | 0 => c0 | 1 => c1 | 2 => c2 | 3 => c3 | 4 => c4 | 5 => c5 | 6 => c6 | 7 => c7 | _ => c8, fun k => match k with | 0 => i0 | 1 => i1 | 2 => i2 | 3 => i3 | 4 => i4 | 5 => i5 | 6 => i6 | 7 => i7 | _ => i8), ?_⟩
  intro k q hq
  match k, hq with
  | 0, hq => cases hq; exact k0
  | 1, hq => cases hq; exact k1
  | 2, hq => cases hq; exact k2
  | 3, hq => cases hq; exact k3
  | 4, hq => cases hq; exact k4
  | 5, hq => cases hq; exact k5
  | 6, hq => cases hq; exact k6
  | 7, hq => cases hq; exact k7
  | 8, hq => cases hq; exact k8
  | k + 9, hq => simp [vwCl] at hq
def fl0 : List Cond := flatC (Jvm.Cond.and given_1 narrow_1)
theorem fl_POWERS : Cond.arrayOf (Term.static "GrammarAmbiguity" "POWERS" "[I") .int ∈ fl0 ∧ Cond.eq (.length (Term.static "GrammarAmbiguity" "POWERS" "[I")) (.int (Int32.ofNat 21)) ∈ fl0 ∧ ∀ j, j < 21 → Cond.eq (.elem (Term.static "GrammarAmbiguity" "POWERS" "[I") (.int (Int32.ofNat j))) (.int (xPow j)) ∈ fl0 := by decide +kernel
theorem tl_POWERS : Cond.laysStatic "GrammarAmbiguity" "POWERS" "[I" ∈ lw_tbl := by decide +kernel
theorem fl_WORD_PLACES : Cond.arrayOf (Term.static "GrammarAmbiguity" "WORD_PLACES" "[I") .int ∈ fl0 ∧ Cond.eq (.length (Term.static "GrammarAmbiguity" "WORD_PLACES" "[I")) (.int (Int32.ofNat 7)) ∈ fl0 ∧ ∀ j, j < 7 → Cond.eq (.elem (Term.static "GrammarAmbiguity" "WORD_PLACES" "[I") (.int (Int32.ofNat j))) (.int (xPla j)) ∈ fl0 := by decide +kernel
theorem tl_WORD_PLACES : Cond.laysStatic "GrammarAmbiguity" "WORD_PLACES" "[I" ∈ lw_tbl := by decide +kernel
theorem fl_thr : Cond.isRef (.static Bundle.tN "UNASSIGNED_STACK" Bundle.steD) ∈ fl0 ∧ Cond.isRef (.static Bundle.tN "SUPPRESSED_SENTINEL" Bundle.listD) ∈ fl0 := by decide +kernel
theorem tl_thr : Cond.laysStatic Bundle.tN "UNASSIGNED_STACK" Bundle.steD ∈ lw_tbl ∧ Cond.laysStatic Bundle.tN "SUPPRESSED_SENTINEL" Bundle.listD ∈ lw_tbl ∧ Cond.initialized Bundle.tN ∈ lw_tbl := by decide +kernel
theorem fl_str : ∀ q ∈ strX, Cond.exactly (.string RX8 q.1) "java/lang/String" ∈ fl0 := by decide +kernel
theorem tl_str : ∀ q ∈ strX, Cond.stringRef RX8 q.1 q.2 ∈ lw_tbl := by decide +kernel
theorem fl_nc : ∀ q ∈ ncW, Cond.not (.castable q.1 q.2) ∈ fl0 := by decide +kernel
theorem tl_ao : Cond.arrayOver (.array .int) ∈ lw_tbl ∧ Cond.arrayOver (.array .long) ∈ lw_tbl ∧ Cond.arrayOver (.array (.array .long)) ∈ lw_tbl ∧ Cond.classLink RX9 16 "[[I" ∈ lw_tbl ∧ Cond.classLink RX9 32 "[[J" ∈ lw_tbl ∧ Cond.classLink RX9 40 "[[[J" ∈ lw_tbl := by decide +kernel
theorem st_stat {a : Array Value} {s : State} {n : String} {N : Nat} {f : Nat → Int32} (hN : N < 2 ^ 31) (ht : ∀ w ∈ lw_tbl, w.before a s = true) (hf : ∀ w ∈ fl0, w.before a s = true) (h1 : Cond.arrayOf (.static "GrammarAmbiguity" n "[I") .int ∈ fl0 ∧ Cond.eq (.length (.static "GrammarAmbiguity" n "[I")) (.int (Int32.ofNat N)) ∈ fl0 ∧ ∀ j, j < N → Cond.eq (.elem (.static "GrammarAmbiguity" n "[I") (.int (Int32.ofNat j))) (.int (f j)) ∈ fl0) (h2 : Cond.laysStatic "GrammarAmbiguity" n "[I" ∈ lw_tbl) (h3 : (Cond.initialized "GrammarAmbiguity").before a s = true) : ∃ t : Nat, va_Z "GrammarAmbiguity" n "[I" (.ref t) (fun q => s.heap.size ≤ q) s s.heap ∧ va_T .int t N (fun j => .int (f j)) (fun q => s.heap.size ≤ q) s s.heap := by
  have hA : ∀ q : Nat, q < s.heap.size → ¬ (fun q : Nat => s.heap.size ≤ q) q := fun q h => Nat.not_le.mpr h
  obtain ⟨t, e, hT⟩ := va_Tof (f := fun j => .int (f j)) hN (hf _ h1.1) (va_eqt (hf _ h1.2.1)) (fun j hj => va_eqt (hf _ (h1.2.2 j hj))) hA
  exact ⟨t, va_Zof (ht _ h2) h3 e hA, hT⟩
theorem st_eX {a : Array Value} {s : State} (ht : ∀ w ∈ lw_tbl, w.before a s = true) (hf : ∀ w ∈ fl0, w.before a s = true) (D : va_G) (hD : ∀ (c : Nat) (q : vw_C), vwCl[c]? = some q → u_Kn s q.1 q.2.1 q.2.2 (D.1 c) (D.2 c)) : ∃ (cs : Nat → ClassId) (pw wp : Nat), ∀ X : xG, X.1 = D → X.2.2 = cs → xa X 34 = pw → xa X 35 = wp → eX X (fun q => s.heap.size ≤ q) s s.heap := by
  have hts := WS_bef ht
  have hA : ∀ q : Nat, q < s.heap.size → ¬ (fun q : Nat => s.heap.size ≤ q) q := fun q h => Nat.not_le.mpr h
  obtain ⟨c0, f0, a0⟩ := ac_of (hts _ q_53)
  obtain ⟨c1, f1, a1⟩ := ac_of (hts _ q_6)
  obtain ⟨c2, f2, a2⟩ := ac_of (hts _ q_56)
  obtain ⟨c3, f3, a3⟩ := ac_of (hts _ q_7)
  obtain ⟨pw, z1, t1⟩ := st_stat (n := "POWERS") (N := 21) (f := xPow) (by decide) ht hf fl_POWERS tl_POWERS (hts _ q_2)
  obtain ⟨wp, z2, t2⟩ := st_stat (n := "WORD_PLACES") (N := 7) (f := xPla) (by decide) ht hf fl_WORD_PLACES tl_WORD_PLACES (hts _ q_2)
  refine ⟨fun k => match k with | 0 => c0 | 1 => c1 | 2 => c2 | _ => c3, pw, wp, ?_⟩
  rintro ⟨D', ad, cs⟩ h1 h2 h3 h4
  cases h1
  cases h2
  refine ⟨⟨hD, fun k q hq => ?_⟩, fun w hw => va_Nw.of (nestW_on w hw) (ht w (nestW_tab w hw)), ⟨by rw [h3]; exact z1, by rw [h3]; exact t1⟩, ⟨by rw [h4]; exact z2, by rw [h4]; exact t2⟩, vx_Zqof (ht _ tl_thr.1) (ht _ tl_thr.2.2) (hf _ fl_thr.1) hA, vx_Zqof (ht _ tl_thr.2.1) (ht _ tl_thr.2.2) (hf _ fl_thr.2) hA, fun q hq => ?_, fun w hw => va_Nw.of (List.all_eq_true.mp thrW_on w hw) (ht w (thrW_tab w hw))⟩
  · match k, hq with
    | 0, hq => cases hq; exact ⟨a0, f0⟩
    | 1, hq => cases hq; exact ⟨a1, f1⟩
    | 2, hq => cases hq; exact ⟨a2, f2⟩
    | 3, hq => cases hq; exact ⟨a3, f3⟩
    | k + 4, hq => simp [tX] at hq
  · obtain ⟨sa, -, -, -, e, -⟩ := Cond.exactly_spec (hf _ (fl_str q hq))
    exact ⟨sa, vk_R.of (ht _ (tl_str q hq)) e⟩
theorem st_mEnv {a : Array Value} {s : State} (ht : ∀ w ∈ lw_tbl, w.before a s = true) (D : va_G) (hD : ∀ (c : Nat) (q : vw_C), vwCl[c]? = some q → u_Kn s q.1 q.2.1 q.2.2 (D.1 c) (D.2 c)) : ∃ cs : Nat → ClassId, mEnv D cs s := by
  have hts := WS_bef ht
  obtain ⟨g1, g2, g3, g4, g5, g6⟩ := tl_ao
  obtain ⟨c0, f0, a0⟩ := ac_of (hts _ q_53)
  obtain ⟨c1, f1, a1⟩ := ac_of (hts _ q_6)
  obtain ⟨c2, f2, a2⟩ := ac_of (hts _ q_56)
  obtain ⟨c3, f3, a3⟩ := ao_of (ht _ g1)
  obtain ⟨c4, f4, a4⟩ := ao_of (ht _ g2)
  obtain ⟨c5, f5, a5⟩ := ao_of (ht _ g3)
  refine ⟨fun k => match k with | 0 => c0 | 1 => c1 | 2 => c2 | 3 => c3 | 4 => c4 | _ => c5, ⟨hD, fun k q hq => ?_⟩, ht _ g1, ht _ g2, ht _ g3, va_Nw.of rfl (ht _ g4), va_Nw.of rfl (ht _ g5), va_Nw.of rfl (ht _ g6)⟩
  match k, hq with
  | 0, hq => cases hq; exact ⟨a0, f0⟩
  | 1, hq => cases hq; exact ⟨a1, f1⟩
  | 2, hq => cases hq; exact ⟨a2, f2⟩
  | 3, hq => cases hq; exact ⟨a3, f3⟩
  | 4, hq => cases hq; exact ⟨a4, f4⟩
  | 5, hq => cases hq; exact ⟨a5, f5⟩
  | k + 6, hq => simp [tC] at hq
theorem mEnv_warm {D : va_G} {cs : Nat → ClassId} {s U : State} (hW : s.WarmedH U.vm) (h : mEnv D cs s) : mEnv D cs U := by
  obtain ⟨h1, h2, h3, h4, h5, h6, h7⟩ := h
  exact ⟨va_K.moved hW.alike h1, aoa_moved hW.alike h2, aoa_moved hW.alike h3, aoa_moved hW.alike h4, word_at hW (good_of_word rfl) h5, word_at hW (good_of_word rfl) h6, word_at hW (good_of_word rfl) h7⟩
theorem mEnv_call {D : va_G} {cs : Nat → ClassId} {U : State} {g : JFrame} {mk : MethodId} {a : Array Value} (h : mEnv D cs U) : mEnv D cs (U.calling g mk a) := by
  obtain ⟨h1, h2, h3, h4, h5, h6, h7⟩ := h
  have ha : U.vm.Alike (U.calling g mk a).vm := Vm.Alike.refl U.vm
  exact ⟨va_K.moved ha h1, aoa_moved ha h2, aoa_moved ha h3, aoa_moved ha h4, va_Nw.same (u := U) (U := U.calling g mk a) rfl rfl h5, va_Nw.same (u := U) (U := U.calling g mk a) rfl rfl h6, va_Nw.same (u := U) (U := U.calling g mk a) rfl rfl h7⟩
