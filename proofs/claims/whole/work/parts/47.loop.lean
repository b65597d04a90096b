/-! THE LAW'S LOOP (printed by wip/whole/gen/loop.py): under an invariant of both states that every case keeps, the law comes to its end. -/
def qL (k : Nat) : Int32 → Int32 → Int32 → Int32 → gS → gS → (gS → gS → Prop) → Prop := match k with
  | 0 => qL_0
  | 1 => qL_1
  | 2 => qL_2
  | 3 => qL_3
  | 4 => qL_4
  | 5 => qL_5
  | 6 => qL_6
  | 7 => qL_7
  | 8 => qL_8
  | 9 => qL_9
  | 10 => qL_10
  | 11 => qL_11
  | 12 => qL_12
  | 13 => qL_13
  | 14 => qL_14
  | 15 => qL_15
  | 16 => qL_16
  | 17 => qL_17
  | 18 => qL_18
  | 19 => qL_19
  | 20 => qL_20
  | 21 => qL_21
  | 22 => qL_22
  | 23 => qL_23
  | 24 => qL_24
  | 25 => qL_25
  | 26 => qL_26
  | 27 => qL_27
  | 28 => qL_28
  | 29 => qL_29
  | 30 => qL_30
  | _ => qL_31
theorem and31 (x : Int32) : ∃ k : Nat, k < 32 ∧ x &&& 31 = nI k := by
  refine ⟨(x &&& 31).toBitVec.toNat, ?_, ?_⟩
  · show (x.toBitVec &&& 31#32).toNat < 32
    rw [BitVec.toNat_and]
    exact Nat.lt_of_le_of_lt Nat.and_le_right (by decide)
  · show x &&& 31 = Int32.ofNat _
    apply Int32.toBitVec_inj.mp
    show (x &&& 31).toBitVec = BitVec.ofNat 32 _
    rw [BitVec.ofNat_toNat, BitVec.setWidth_eq]
theorem nJ_add (a b : Nat) : nI a + nI b = nI (a + b) := by
  unfold nI
  rw [Int32.ofNat_add]
theorem gap5 {j L : Nat} (hj : j ≤ 2560) (hL : L ≤ 2560) (h : ¬ Int32.ofNat L - 5 < nI j) : j + 5 ≤ L := by
  rcases Nat.lt_or_ge L (j + 5) with q | q
  · refine absurd ?_ h
    rw [Int32.lt_iff_toInt_lt]
    have e1 : (Int32.ofNat L - 5).toInt = (L : Int) - 5 := by
      rw [Int32.toInt_sub]
      have h1 : (Int32.ofNat L).toInt = (L : Int) := nI_toInt (by omega)
      rw [h1, show (5 : Int32).toInt = 5 from by decide]
      apply Int.bmod_eq_of_le <;> omega
    have e2 : (nI j).toInt = (j : Int) := nI_toInt (by omega)
    rw [e1, e2]
    omega
  · exact q
section LOOP
variable {p : Program} {l : Launch} {e : Env} {s : State} {m : MethodId} {args : Array Value} {below : List Frame} {meth : Method} {c : Code} {Q : State → Prop} {X Y : xG} {A : Nat → Prop} {b L : Nat} {xs : Nat → Int32}
set_option maxHeartbeats 40000000 in
set_option maxRecDepth 100000 in
theorem law_case {H : Heap} {locs : List Loc} {cells slots : Nat} {ls : Array Slot} {Sx Sm : gS} {i0 a0 a1 a2 a3 a4 : Int32} {Post : gS → gS → Prop} (hlt : l.stackTraces = false) (hC : LC X Y A b L xs p s m args c) (hi0 : vp_in i0 L) (hi1 : vp_in (i0 + 1) L) (hi2 : vp_in (i0 + 2) L) (hi3 : vp_in (i0 + 3) L) (hi4 : vp_in (i0 + 4) L) (ea0 : xs i0.toNatClampNeg = a0) (ea1 : xs (i0 + 1).toNatClampNeg = a1) (ea2 : xs (i0 + 2).toNatClampNeg = a2) (ea3 : xs (i0 + 3).toNatClampNeg = a3) (ea4 : xs (i0 + 4).toNatClampNeg = a4) (hcs : cells + 4 ≤ 601024) (hss : slots + 24 ≤ 7293034) (hf : ∀ k : Nat, k < 32 → qL k a1 a2 a3 a4 Sx Sm Post) (hw : LW X Y A s.heap Sx Sm H locs) (hl : lv_has ls 9 [(0, .ref b), (1, .ref (xa X 0)), (2, .ref (xa Y 0)), (3, .ref (xa X 32)), (4, .ref (xa X 33)), (5, .int i0)])
    (kk : ∀ (Sx' Sm' : gS) (H1 : Heap) (locs1 : List Loc) (ls1 : Array Slot), Post Sx' Sm' → LW X Y A s.heap Sx' Sm' H1 locs1 → lv_has ls1 9 [(0, .ref b), (1, .ref (xa X 0)), (2, .ref (xa Y 0)), (3, .ref (xa X 32)), (4, .ref (xa X 33)), (5, .int i0)] → W p l e room_1 s m args below meth c H1 locs1 (cells + 4) (slots + 24) Q (F0 m 1908 ls1 [])) : W p l e room_1 s m args below meth c H locs cells slots Q (F0 m 37 ls []) := by
  obtain ⟨hx, hb, hml, hown, hts, -⟩ := id hC
  refine lv_aload_n hx hb dL_law_37 rfl (lv_at hl 0 rfl) ?_
  refine lv_iload hx hb dL_law_38 (lv_at hl 5 rfl) ?_
  refine l_sldv hC hw hi0 ea0 dL_law_40 ?_
  refine lv_bipush (v := 31) hx hb dL_law_41 (by decide) ?_
  refine lv_iand hx hb dL_law_43 ?_
  refine lv_topi (fun z ez => ?_)
  obtain ⟨k, hk, ek⟩ := and31 a0
  rw [ek] at ez
  match k, hk, ez with
  | 0, hk, ez =>
    refine lv_tableIn (off := 144) (tgt := 188) hx hb dL_law_44 (by rw [ez]; decide) (by rw [ez]; decide) (by rw [ez]; rfl) (by decide) ?_
    exact lawc_0 hlt hC hi1 hi2 hi3 hi4 ea1 ea2 ea3 ea4 hcs hss (hf 0 hk) hw hl kk
  | 1, hk, ez =>
    refine lv_tableIn (off := 192) (tgt := 236) hx hb dL_law_44 (by rw [ez]; decide) (by rw [ez]; decide) (by rw [ez]; rfl) (by decide) ?_
    exact lawc_1 hlt hC hi1 hi2 hi3 hi4 ea1 ea2 ea3 ea4 hcs hss (hf 1 hk) hw hl kk
  | 2, hk, ez =>
    refine lv_tableIn (off := 284) (tgt := 328) hx hb dL_law_44 (by rw [ez]; decide) (by rw [ez]; decide) (by rw [ez]; rfl) (by decide) ?_
    exact lawc_2 hlt hC hi1 hi2 hi3 hi4 ea1 ea2 ea3 ea4 hcs hss (hf 2 hk) hw hl kk
  | 3, hk, ez =>
    refine lv_tableIn (off := 340) (tgt := 384) hx hb dL_law_44 (by rw [ez]; decide) (by rw [ez]; decide) (by rw [ez]; rfl) (by decide) ?_
    exact lawc_3 hlt hC hi1 hi2 hi3 hi4 ea1 ea2 ea3 ea4 hcs hss (hf 3 hk) hw hl kk
  | 4, hk, ez =>
    refine lv_tableIn (off := 353) (tgt := 397) hx hb dL_law_44 (by rw [ez]; decide) (by rw [ez]; decide) (by rw [ez]; rfl) (by decide) ?_
    exact lawc_4 hlt hC hi1 hi2 hi3 hi4 ea1 ea2 ea3 ea4 hcs hss (hf 4 hk) hw hl kk
  | 5, hk, ez =>
    refine lv_tableIn (off := 366) (tgt := 410) hx hb dL_law_44 (by rw [ez]; decide) (by rw [ez]; decide) (by rw [ez]; rfl) (by decide) ?_
    exact lawc_5 hlt hC hi1 hi2 hi3 hi4 ea1 ea2 ea3 ea4 hcs hss (hf 5 hk) hw hl kk
  | 6, hk, ez =>
    refine lv_tableIn (off := 434) (tgt := 478) hx hb dL_law_44 (by rw [ez]; decide) (by rw [ez]; decide) (by rw [ez]; rfl) (by decide) ?_
    exact lawc_6 hlt hC hi1 hi2 hi3 hi4 ea1 ea2 ea3 ea4 hcs hss (hf 6 hk) hw hl kk
  | 7, hk, ez =>
    refine lv_tableIn (off := 490) (tgt := 534) hx hb dL_law_44 (by rw [ez]; decide) (by rw [ez]; decide) (by rw [ez]; rfl) (by decide) ?_
    exact lawc_7 hlt hC hi1 hi2 hi3 hi4 ea1 ea2 ea3 ea4 hcs hss (hf 7 hk) hw hl kk
  | 8, hk, ez =>
    refine lv_tableIn (off := 546) (tgt := 590) hx hb dL_law_44 (by rw [ez]; decide) (by rw [ez]; decide) (by rw [ez]; rfl) (by decide) ?_
    exact lawc_8 hlt hC hi1 hi2 hi3 hi4 ea1 ea2 ea3 ea4 hcs hss (hf 8 hk) hw hl kk
  | 9, hk, ez =>
    refine lv_tableIn (off := 602) (tgt := 646) hx hb dL_law_44 (by rw [ez]; decide) (by rw [ez]; decide) (by rw [ez]; rfl) (by decide) ?_
    exact lawc_9 hlt hC hi1 hi2 hi3 hi4 ea1 ea2 ea3 ea4 hcs hss (hf 9 hk) hw hl kk
  | 10, hk, ez =>
    refine lv_tableIn (off := 615) (tgt := 659) hx hb dL_law_44 (by rw [ez]; decide) (by rw [ez]; decide) (by rw [ez]; rfl) (by decide) ?_
    exact lawc_10 hlt hC hi1 hi2 hi3 hi4 ea1 ea2 ea3 ea4 hcs hss (hf 10 hk) hw hl kk
  | 11, hk, ez =>
    refine lv_tableIn (off := 628) (tgt := 672) hx hb dL_law_44 (by rw [ez]; decide) (by rw [ez]; decide) (by rw [ez]; rfl) (by decide) ?_
    exact lawc_11 hlt hC hi1 hi2 hi3 hi4 ea1 ea2 ea3 ea4 hcs hss (hf 11 hk) hw hl kk
  | 12, hk, ez =>
    refine lv_tableIn (off := 684) (tgt := 728) hx hb dL_law_44 (by rw [ez]; decide) (by rw [ez]; decide) (by rw [ez]; rfl) (by decide) ?_
    exact lawc_12 hlt hC hi1 hi2 hi3 hi4 ea1 ea2 ea3 ea4 hcs hss (hf 12 hk) hw hl kk
  | 13, hk, ez =>
    refine lv_tableIn (off := 698) (tgt := 742) hx hb dL_law_44 (by rw [ez]; decide) (by rw [ez]; decide) (by rw [ez]; rfl) (by decide) ?_
    exact lawc_13 hlt hC hi1 hi2 hi3 hi4 ea1 ea2 ea3 ea4 hcs hss (hf 13 hk) hw hl kk
  | 14, hk, ez =>
    refine lv_tableIn (off := 753) (tgt := 797) hx hb dL_law_44 (by rw [ez]; decide) (by rw [ez]; decide) (by rw [ez]; rfl) (by decide) ?_
    exact lawc_14 hlt hC hi1 hi2 hi3 hi4 ea1 ea2 ea3 ea4 hcs hss (hf 14 hk) hw hl kk
  | 15, hk, ez =>
    refine lv_tableIn (off := 821) (tgt := 865) hx hb dL_law_44 (by rw [ez]; decide) (by rw [ez]; decide) (by rw [ez]; rfl) (by decide) ?_
    exact lawc_15 hlt hC hi1 hi2 hi3 hi4 ea1 ea2 ea3 ea4 hcs hss (hf 15 hk) hw hl kk
  | 16, hk, ez =>
    refine lv_tableIn (off := 898) (tgt := 942) hx hb dL_law_44 (by rw [ez]; decide) (by rw [ez]; decide) (by rw [ez]; rfl) (by decide) ?_
    exact lawc_16 hlt hC hi1 hi2 hi3 hi4 ea1 ea2 ea3 ea4 hcs hss (hf 16 hk) hw hl kk
  | 17, hk, ez =>
    refine lv_tableIn (off := 975) (tgt := 1019) hx hb dL_law_44 (by rw [ez]; decide) (by rw [ez]; decide) (by rw [ez]; rfl) (by decide) ?_
    exact lawc_17 hlt hC hi1 hi2 hi3 hi4 ea1 ea2 ea3 ea4 hcs hss (hf 17 hk) hw hl kk
  | 18, hk, ez =>
    refine lv_tableIn (off := 1031) (tgt := 1075) hx hb dL_law_44 (by rw [ez]; decide) (by rw [ez]; decide) (by rw [ez]; rfl) (by decide) ?_
    exact lawc_18 hlt hC hi1 hi2 hi3 hi4 ea1 ea2 ea3 ea4 hcs hss (hf 18 hk) hw hl kk
  | 19, hk, ez =>
    refine lv_tableIn (off := 1075) (tgt := 1119) hx hb dL_law_44 (by rw [ez]; decide) (by rw [ez]; decide) (by rw [ez]; rfl) (by decide) ?_
    exact lawc_19 hlt hC hi1 hi2 hi3 hi4 ea1 ea2 ea3 ea4 hcs hss (hf 19 hk) hw hl kk
  | 20, hk, ez =>
    refine lv_tableIn (off := 1123) (tgt := 1167) hx hb dL_law_44 (by rw [ez]; decide) (by rw [ez]; decide) (by rw [ez]; rfl) (by decide) ?_
    exact lawc_20 hlt hC hi1 hi2 hi3 hi4 ea1 ea2 ea3 ea4 hcs hss (hf 20 hk) hw hl kk
  | 21, hk, ez =>
    refine lv_tableIn (off := 1223) (tgt := 1267) hx hb dL_law_44 (by rw [ez]; decide) (by rw [ez]; decide) (by rw [ez]; rfl) (by decide) ?_
    exact lawc_21 hlt hC hi1 hi2 hi3 hi4 ea1 ea2 ea3 ea4 hcs hss (hf 21 hk) hw hl kk
  | 22, hk, ez =>
    refine lv_tableIn (off := 1322) (tgt := 1366) hx hb dL_law_44 (by rw [ez]; decide) (by rw [ez]; decide) (by rw [ez]; rfl) (by decide) ?_
    exact lawc_22 hlt hC hi1 hi2 hi3 hi4 ea1 ea2 ea3 ea4 hcs hss (hf 22 hk) hw hl kk
  | 23, hk, ez =>
    refine lv_tableIn (off := 1410) (tgt := 1454) hx hb dL_law_44 (by rw [ez]; decide) (by rw [ez]; decide) (by rw [ez]; rfl) (by decide) ?_
    exact lawc_23 hlt hC hi1 hi2 hi3 hi4 ea1 ea2 ea3 ea4 hcs hss (hf 23 hk) hw hl kk
  | 24, hk, ez =>
    refine lv_tableIn (off := 1453) (tgt := 1497) hx hb dL_law_44 (by rw [ez]; decide) (by rw [ez]; decide) (by rw [ez]; rfl) (by decide) ?_
    exact lawc_24 hlt hC hi1 hi2 hi3 hi4 ea1 ea2 ea3 ea4 hcs hss (hf 24 hk) hw hl kk
  | 25, hk, ez =>
    refine lv_tableIn (off := 1497) (tgt := 1541) hx hb dL_law_44 (by rw [ez]; decide) (by rw [ez]; decide) (by rw [ez]; rfl) (by decide) ?_
    exact lawc_25 hlt hC hi1 hi2 hi3 hi4 ea1 ea2 ea3 ea4 hcs hss (hf 25 hk) hw hl kk
  | 26, hk, ez =>
    refine lv_tableIn (off := 1565) (tgt := 1609) hx hb dL_law_44 (by rw [ez]; decide) (by rw [ez]; decide) (by rw [ez]; rfl) (by decide) ?_
    exact lawc_26 hlt hC hi1 hi2 hi3 hi4 ea1 ea2 ea3 ea4 hcs hss (hf 26 hk) hw hl kk
  | 27, hk, ez =>
    refine lv_tableIn (off := 1641) (tgt := 1685) hx hb dL_law_44 (by rw [ez]; decide) (by rw [ez]; decide) (by rw [ez]; rfl) (by decide) ?_
    exact lawc_27 hlt hC hi1 hi2 hi3 hi4 ea1 ea2 ea3 ea4 hcs hss (hf 27 hk) hw hl kk
  | 28, hk, ez =>
    refine lv_tableIn (off := 1721) (tgt := 1765) hx hb dL_law_44 (by rw [ez]; decide) (by rw [ez]; decide) (by rw [ez]; rfl) (by decide) ?_
    exact lawc_28 hlt hC hi1 hi2 hi3 hi4 ea1 ea2 ea3 ea4 hcs hss (hf 28 hk) hw hl kk
  | 29, hk, ez =>
    refine lv_tableIn (off := 1769) (tgt := 1813) hx hb dL_law_44 (by rw [ez]; decide) (by rw [ez]; decide) (by rw [ez]; rfl) (by decide) ?_
    exact lawc_29 hlt hC hi1 hi2 hi3 hi4 ea1 ea2 ea3 ea4 hcs hss (hf 29 hk) hw hl kk
  | 30, hk, ez =>
    refine lv_tableIn (off := 1829) (tgt := 1873) hx hb dL_law_44 (by rw [ez]; decide) (by rw [ez]; decide) (by rw [ez]; rfl) (by decide) ?_
    exact lawc_30 hlt hC hi1 hi2 hi3 hi4 ea1 ea2 ea3 ea4 hcs hss (hf 30 hk) hw hl kk
  | 31, hk, ez =>
    refine lv_tableIn (off := 1840) (tgt := 1884) hx hb dL_law_44 (by rw [ez]; decide) (by rw [ez]; decide) (by rw [ez]; rfl) (by decide) ?_
    exact lawc_31 hlt hC hi1 hi2 hi3 hi4 ea1 ea2 ea3 ea4 hcs hss (hf 31 hk) hw hl kk
  | k + 32, hk, ez => exact absurd hk (by omega)
set_option maxHeartbeats 40000000 in
set_option maxRecDepth 100000 in
theorem law_loop (hlt : l.stackTraces = false) (hC : LC X Y A b L xs p s m args c) (hL : L ≤ 2560) (Inv : gS → gS → Prop) (hInv : ∀ (k : Nat) (a1 a2 a3 a4 : Int32) (Sx Sm : gS), k < 32 → Inv Sx Sm → qL k a1 a2 a3 a4 Sx Sm Inv)
    (hEnd : ∀ (H : Heap) (locs : List Loc) (ls : Array Slot) (cells slots : Nat), va_S A s.heap H locs → cells ≤ 601024 → slots ≤ 7293034 → W p l e room_1 s m args below meth c H locs cells slots Q (F0 m 1914 ls [])) :
    ∀ (n t : Nat) (i0 : Int32) (Sx Sm : gS) (H : Heap) (locs : List Loc) (ls : Array Slot) (cells slots : Nat), 5 * t ≤ 2560 → 513 ≤ t + n → i0 = nI (5 * t) → cells + 4 * (513 - t) ≤ 601024 → slots + 24 * (513 - t) ≤ 7293034 → Inv Sx Sm → LW X Y A s.heap Sx Sm H locs → lv_has ls 9 [(0, .ref b), (1, .ref (xa X 0)), (2, .ref (xa Y 0)), (3, .ref (xa X 32)), (4, .ref (xa X 33)), (5, .int i0)] → W p l e room_1 s m args below meth c H locs cells slots Q (F0 m 28 ls []) := by
  obtain ⟨hx, hb, hml, hown, hts, hEX, hEM, hiX, hiY, hdis, hN, hXs, hbl, hbA, hAn⟩ := id hC
  intro n
  induction n with
  | zero => intro t i0 Sx Sm H locs ls cells slots h1 h2; exact absurd h2 (by omega)
  | succ n ih =>
    intro t i0 Sx Sm H locs ls cells slots ht hn ei hcs hss hI hw hl
    refine lv_iload hx hb dL_law_28 (lv_at hl 5 rfl) ?_
    refine lv_aload_n hx hb dL_law_30 rfl (lv_at hl 0 rfl) ?_
    refine va_slen hx hb hXs hbl hbA hw.1.2.2 dL_law_31 ?_
    refine lv_iconst (v := 5) hx hb dL_law_32 (by decide) ?_
    refine lv_isub hx hb dL_law_33 ?_
    refine lv_icmp_gt (tgt := 1914) hx hb dL_law_34 (by decide) (fun _ => ?_) (fun cc => ?_)
    · exact hEnd _ _ _ _ _ hw.1.2.2 (by omega) (by omega)
    · rw [ei] at cc
      have hg : 5 * t + 5 ≤ L := gap5 ht hL cc
      have vin : ∀ k : Nat, k < 5 → vp_in (i0 + nI k) L := fun k hk => by
        rw [ei, nJ_add]
        exact nI_in (by omega) (by omega)
      have hi0 : vp_in i0 L := by rw [ei]; exact nI_in (by omega) (by omega)
      refine law_case (a0 := xs i0.toNatClampNeg) (a1 := xs (i0 + 1).toNatClampNeg) (a2 := xs (i0 + 2).toNatClampNeg) (a3 := xs (i0 + 3).toNatClampNeg) (a4 := xs (i0 + 4).toNatClampNeg) hlt hC hi0 (vin 1 (by decide)) (vin 2 (by decide)) (vin 3 (by decide)) (vin 4 (by decide)) rfl rfl rfl rfl rfl (by omega) (by omega) (fun k hk => hInv k _ _ _ _ Sx Sm hk hI) hw hl (fun Sx' Sm' H locs ls hI hw hl => ?_)
      obtain ⟨i1, ei1⟩ : ∃ y : Int32, y = i0 + 5 := ⟨_, rfl⟩
      refine lv_iinc (v := i1) (lv' := [(5, .int i1), (0, .ref b), (1, .ref (xa X 0)), (2, .ref (xa Y 0)), (3, .ref (xa X 32)), (4, .ref (xa X 33))]) hx hb dL_law_1908 hl (k := 5) rfl (by rw [ei1]; rfl) (by decide) rfl (fun ls hl => ?_)
      refine lv_goto (tgt := 28) hx hb dL_law_1911 (by decide) ?_
      have e5 : i1 = nI (5 * (t + 1)) := by
        rw [ei1, ei]
        exact nJ_add (5 * t) 5
      exact ih (t + 1) i1 Sx' Sm' _ _ _ _ _ (by omega) (by omega) e5 (by omega) (by omega) hI hw (lv_sub hl [1, 2, 3, 4, 5, 0] rfl)
end LOOP
