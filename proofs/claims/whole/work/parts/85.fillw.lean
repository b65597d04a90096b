section
/-! THE MATHEMATICS, 16: the class fills its counts of all words. -/
theorem sN_ext {f : Nat → Nat} {m n : Nat} (h : m ≤ n) (hz : ∀ v, m ≤ v → v < n → f v = 0) : sN f m = sN f n := by
  rw [show n = m + (n - m) by omega, sN_split, sN_zero (f := fun v => f (m + v)) (fun v hv => hz (m + v) (by omega) (by omega)), Nat.add_zero]
def acc (n t len : Nat) (R : Nat → Int64) (f : Nat → Nat → Nat) : Prop := ∀ a K, a < n → K < t ^ len → R (a * 1093 + plW len + K) = nL (f a K)
theorem acc.congr {n t len : Nat} {R : Nat → Int64} {f g : Nat → Nat → Nat} (h : acc n t len R f) (e : ∀ a K, a < n → K < t ^ len → f a K = g a K) : acc n t len R g := fun a K ha hK => by rw [h a K ha hK, e a K ha hK]
theorem acc.add {n t len a0 : Nat} {R : Nat → Int64} {f : Nat → Nat → Nat} {G : Nat → Nat} (hn : n ≤ 6) (ht : t ≤ 3) (hl : len ≤ 6) (ha0 : a0 < n) (h : acc n t len R f) : acc n t len (rgn (a0 * 1093 + plW len) (t ^ len) (adG R (a0 * 1093 + plW len) G) R) (fun a K => f a K + if nI a0 = nI a then G K else 0) := by
  intro a K ha hK
  have p1 := pow3 (l := len) ht
  have p2 := pl_le len (by omega)
  show _ = nL (f a K + if nI a0 = nI a then G K else 0)
  by_cases e : a = a0
  · subst e
    rw [rgn_in (by omega), if_pos rfl]
    unfold adG
    rw [h a K ha hK, nL_add, Nat.add_sub_cancel_left]
  · rw [rgn_out (by omega), if_neg (fun d => e ((nI_eq (by omega) (by omega)).mp d).symm), h a K ha hK]
    rfl
theorem c_fillW {S : gS} {n t st P z m z5 : Nat} (h1 : cG S n t st P) (ok : okP n t P (gA S 10)) (hz : z ≤ 6) (hm : m ≤ 6) (h13 : gI S 13 = nI z) (hR0 : wR n t P (gA S 10) (gB S 20) z) (hm5 : m ≤ z5) (h510 : z5 ≤ 10) (h5 : r5 n P (gA S 10) (gB S 18) z5) {Post : gS → Prop} (hq : ∀ R, wR n t P (gA S 10) R (max z m) → Post (uI (sB S 20 R) 13 (nI (max z m)))) : pX7_fill (nI m) S Post := by
  have hn : n ≤ 6 := h1.2.2.2.2.2.1
  have t1 : 1 ≤ t := h1.2.2.2.2.2.2.1
  have t3 : t ≤ 3 := h1.2.2.2.2.2.2.2.1
  have hP : P ≤ 24 := h1.2.2.2.2.2.2.2.2.2
  have e1 : gI S 1 = nI n := h1.1
  have e2 : gI S 2 = nI t := h1.2.1
  have e4 : gI S 4 = nI P := h1.2.2.2.1
  have hG : ∀ R, cG (sB S 20 R) n t st P := fun R => h1
  have hH : ∀ R, H5 (sB S 20 R) n t st P z5 := fun R => ⟨h1, ok, h510, by rw [gB_sB, if_neg (by decide)]; exact h5⟩
  unfold pX7_fill
  simp only [forall_eq]
  rw [h13, nI_1]
  refine lp_inv (B := fun L x => bX7_fill_7 (nI m) Post L x.1 x.2) (fun k x => ∃ R, x = (nI (z + 1 + k), sB S 20 R) ∧ wR n t P (gA S 10) R (z + k)) (m - z) (fun k x L hk hI hL => ?_) (fun x L hI => ?_) ⟨gB S 20, by rw [sB_id], hR0⟩
  · obtain ⟨R, rfl, hR⟩ := hI
    unfold bX7_fill_7
    refine ⟨fun c => absurd c (nI_nlt (by omega) (by omega)), fun _ => ?_⟩
    obtain ⟨len, elen⟩ : ∃ len, len = z + 1 + k := ⟨_, rfl⟩
    have hlz : z + k + 1 = len := by omega
    have hl6 : len ≤ 6 := by omega
    have p1 := pow3 (l := len) t3
    have p2 := pl_le len (by omega)
    dsimp only
    rw [← elen]
    refine lp_inv (B := fun L' x => bX7_fill_14 (nI len) L L' x.1 x.2) (fun a x => ∃ R, x = (nI a, sB S 20 R) ∧ wR n t P (gA S 10) R (z + k) ∧ acc a t len R (fun _ _ => 0)) n (fun a x L2 ha hI hL2 => ?_) (fun x L2 hI => ?_) ⟨R, rfl, hR, fun a K g => by omega⟩
    · obtain ⟨R, rfl, hR, hA⟩ := hI
      unfold bX7_fill_14
      rw [gI_sB, e1]
      refine ⟨fun c => absurd c (nI_ge ha (by omega)), fun _ => ?_⟩
      refine c_clear (S := sB S 20 R) hn ha e2 t1 t3 hl6 ?_
      simp only [forall_eq]
      rw [sB_sB, gB_sB, if_pos rfl, nI_1]
      refine hL2 _ ⟨_, rfl, hR.out hn t3 (len := len) (a0 := a) (by omega) hl6 (by omega) (fun q hq => rgn_out hq), fun a' K g1 g2 => ?_⟩
      by_cases e : a' = a
      · rw [rgn_in (by omega)]
        rfl
      · rw [rgn_out (by omega)]
        exact hA a' K (by omega) g2
    · obtain ⟨R, rfl, hR, hA⟩ := hI
      unfold bX7_fill_14
      rw [gI_sB, e1]
      refine ⟨fun _ => ?_, fun c => absurd (nI_le (Nat.le_refl _) (by omega)) c⟩
      refine lp_inv (B := fun L' x => bX7_fill_39 (nI len) L L' x.1 x.2) (fun p x => ∃ R, x = (nI p, sB S 20 R) ∧ wR n t P (gA S 10) R (z + k) ∧ acc n t len R (fun a K => sN (fun q => if gA S 10 (4 * q) = nI a then tp (fitW (dig t len K)) (TT (fitW (dig t len K)) P (gA S 10)) (gA S 10) q len 0 else 0) p)) P (fun p x L3 hp hI hL3 => ?_) (fun x L3 hI => ?_) ⟨R, rfl, hR, hA⟩
      · obtain ⟨R, rfl, hR, hA⟩ := hI
        obtain ⟨hl, hx, hyz⟩ := ok.1 p hp
        obtain ⟨a0, ha0, ea0, er0⟩ := rw_N hn hl
        unfold bX7_fill_39
        rw [gI_sB, e4]
        refine ⟨fun c => absurd c (nI_ge hp (by omega)), fun _ => ?_⟩
        refine lp_inv (B := fun L' x => bX7_fill_53 (nI len) (nI p) L3 L' x.1 x.2) (fun i x => ∃ R, x = (nI (1 + i), sB S 20 R) ∧ wR n t P (gA S 10) R (z + k) ∧ acc n t len R (fun a K => sN (fun q => if gA S 10 (4 * q) = nI a then tp (fitW (dig t len K)) (TT (fitW (dig t len K)) P (gA S 10)) (gA S 10) q len 0 else 0) p + if nI a0 = nI a then sN (fun u => sF (fitW (dig t len K)) (TT (fitW (dig t len K)) P (gA S 10)) (gA S 10) p len 0 (1 + u)) i else 0)) len (fun i x L4 hi hI hL4 => ?_) (fun x L4 hI => ?_) ⟨R, rfl, hR, hA.congr (fun a K _ _ => by
          show _ = _ + if nI a0 = nI a then 0 else 0
          rw [ite_self, Nat.add_zero])⟩
        · obtain ⟨R, rfl, hR, hA⟩ := hI
          unfold bX7_fill_53
          refine ⟨fun c => absurd c (nI_nlt (by omega) (by omega)), fun _ => ?_⟩
          refine lp_inv (B := fun L' x => bX7_fill_62 (nI len) (nI p) (nI (1 + i)) L4 L' x.1 x.2) (fun j x => ∃ R, x = (nI j, sB S 20 R) ∧ wR n t P (gA S 10) R (z + k) ∧ acc n t len R (fun a K => sN (fun q => if gA S 10 (4 * q) = nI a then tp (fitW (dig t len K)) (TT (fitW (dig t len K)) P (gA S 10)) (gA S 10) q len 0 else 0) p + if nI a0 = nI a then sN (fun u => sF (fitW (dig t len K)) (TT (fitW (dig t len K)) P (gA S 10)) (gA S 10) p len 0 (1 + u)) i + sN (fun v => pj (fitW (dig t len K)) (TT (fitW (dig t len K)) P (gA S 10)) (gA S 10) p len 0 (1 + i) v) j else 0)) (len - i) (fun j x L5 hj hI hL5 => ?_) (fun x L5 hI => ?_) ⟨R, rfl, hR, hA⟩
          · obtain ⟨R, rfl, hR, hA⟩ := hI
            unfold bX7_fill_62
            rw [nI_sub (show 1 + i ≤ len by omega)]
            refine ⟨fun c => absurd c (nI_nlt (by omega) (by omega)), fun _ => ?_⟩
            refine c_os5 (hH R) (b := 0) hp (show (1 + i) + j ≤ len by omega) (by omega) (fun _ => by omega) (by omega) (by omega) ?_
            simp only [forall_eq]
            rw [nI_1]
            have hle : ∀ K, pr (fitW (dig t len K)) (TT (fitW (dig t len K)) P (gA S 10)) (gA S 10) p len 0 (1 + i) j ≤ pr fitL (TT fitL P (gA S 10)) (gA S 10) p len 0 (1 + i) j := fun K => pr_le hn ok hp (by omega) (fun _ _ _ _ => rfl) (fun l d c _ _ => TT_le hn ok (fun _ _ _ _ => rfl))
            refine ⟨fun c => ?_, fun c => ?_⟩
            · rw [cmp_eq] at c
              have c : nL (pr fitL (TT fitL P (gA S 10)) (gA S 10) p len 0 (1 + i) j) = nL 0 := c
              rw [nL_inj (Nat.lt_of_le_of_lt (pj_le_tp (show 1 + i + j ≤ len by omega)) (tp_lt hn t3 hP ok (by omega) hp)) (by decide)] at c
              refine hL5 _ ⟨R, rfl, hR, hA.congr (fun a K _ _ => ?_)⟩
              have e0 : pj (fitW (dig t len K)) (TT (fitW (dig t len K)) P (gA S 10)) (gA S 10) p len 0 (1 + i) j = 0 := by
                unfold pj
                rw [if_pos (by omega)]
                have := hle K
                rw [show pr fitL (TT fitL P (gA S 10)) (gA S 10) p len 0 (1 + i) j = 0 from c] at this
                omega
              show _ = _ + if nI a0 = nI a then _ + (_ + pj (fitW (dig t len K)) (TT (fitW (dig t len K)) P (gA S 10)) (gA S 10) p len 0 (1 + i) j) else 0
              rw [e0, Nat.add_zero]
            · rw [cmp_eq] at c
              obtain ⟨kk, ekk⟩ : ∃ kk, len = (1 + i) + j + kk := ⟨len - (1 + i) - j, by omega⟩
              have hnz : pr fitL (TT fitL P (gA S 10)) (gA S 10) p len 0 (1 + i) j ≠ 0 := fun e => c (by
                show nL (pr fitL (TT fitL P (gA S 10)) (gA S 10) p len 0 (1 + i) j) = 0
                rw [e]; rfl)
              rw [ekk]
              rw [ekk] at hnz
              refine c_addW (hG R) ok hp (by omega) hnz (by rw [gB_sB, if_pos rfl]; exact hR) (by omega) ?_
              rw [← ekk, sB_sB, gB_sB, if_pos rfl]
              show L5 (nI (j + 1), sB S 20 (rgn (rwN (gA S 10 (4 * p)) * 1093 + plW len) (t ^ len) (adG R (rwN (gA S 10 (4 * p)) * 1093 + plW len) (fun K => pr (fitW (dig t len K)) (TT (fitW (dig t len K)) P (gA S 10)) (gA S 10) p len 0 (1 + i) j)) R))
              rw [er0]
              refine hL5 _ ⟨_, rfl, hR.out hn t3 (len := len) (a0 := a0) (by omega) hl6 (by omega) (fun q hq => rgn_out hq), (hA.add hn t3 hl6 ha0).congr (fun a K _ _ => ?_)⟩
              have e0 : pj (fitW (dig t len K)) (TT (fitW (dig t len K)) P (gA S 10)) (gA S 10) p len 0 (1 + i) j = pr (fitW (dig t len K)) (TT (fitW (dig t len K)) P (gA S 10)) (gA S 10) p len 0 (1 + i) j := if_pos (by omega)
              show _ = _ + if nI a0 = nI a then _ + (_ + pj (fitW (dig t len K)) (TT (fitW (dig t len K)) P (gA S 10)) (gA S 10) p len 0 (1 + i) j) else 0
              rw [e0]
              by_cases e : nI a0 = nI a
              · rw [if_pos e, if_pos e, if_pos e]
                omega
              · rw [if_neg e, if_neg e, if_neg e]
          · obtain ⟨R, rfl, hR, hA⟩ := hI
            unfold bX7_fill_62
            rw [nI_sub (show 1 + i ≤ len by omega)]
            refine ⟨fun _ => ?_, fun c => absurd (nI_lt (by omega) (by omega)) c⟩
            simp only [forall_eq]
            rw [nI_1, Nat.add_assoc 1 i 1]
            refine hL4 _ ⟨R, rfl, hR, hA.congr (fun a K _ _ => ?_)⟩
            show _ = _ + if nI a0 = nI a then _ + sF (fitW (dig t len K)) (TT (fitW (dig t len K)) P (gA S 10)) (gA S 10) p len 0 (1 + i) else 0
            have es : sN (fun v => pj (fitW (dig t len K)) (TT (fitW (dig t len K)) P (gA S 10)) (gA S 10) p len 0 (1 + i) v) (len - i) = sF (fitW (dig t len K)) (TT (fitW (dig t len K)) P (gA S 10)) (gA S 10) p len 0 (1 + i) := sN_ext (by omega) (fun v hv _ => if_neg (by omega))
            rw [es]
        · obtain ⟨R, rfl, hR, hA⟩ := hI
          unfold bX7_fill_53
          refine ⟨fun _ => ?_, fun c => absurd (nI_lt (by omega) (by omega)) c⟩
          simp only [forall_eq]
          rw [nI_1]
          refine hL3 _ ⟨R, rfl, hR, hA.congr (fun a K _ _ => ?_)⟩
          show _ = _ + if gA S 10 (4 * p) = nI a then tp (fitW (dig t len K)) (TT (fitW (dig t len K)) P (gA S 10)) (gA S 10) p len 0 else 0
          rw [tp_s hn hx, ea0]
      · obtain ⟨R, rfl, hR, hA⟩ := hI
        unfold bX7_fill_39
        rw [gI_sB, e4]
        refine ⟨fun _ => ?_, fun c => absurd (nI_le (Nat.le_refl _) (by omega)) c⟩
        simp only [forall_eq]
        rw [nI_1, elen]
        refine hL _ ⟨R, rfl, fun l a key g1 g2 g3 g4 => ?_, hR.2.1, hR.2.2⟩
        by_cases e : l = len
        · rw [e] at g4 ⊢
          rw [hA a key g3 g4]
          show nL (sN _ P) = _
          rw [← TT_eq hn ok]
        · exact hR.1 l a key g1 (by omega) g3 g4
  · obtain ⟨R, rfl, hR⟩ := hI
    unfold bX7_fill_7
    refine ⟨fun _ => ?_, fun c => absurd (nI_lt (by omega) (by omega)) c⟩
    simp only [forall_eq]
    rw [gI_sB, h13]
    have e : (if nI z < nI m then nI m else nI z) = nI (max z m) := by
      by_cases hw0 : z < m
      · rw [if_pos (nI_lt hw0 (by omega)), Nat.max_eq_right (by omega)]
      · rw [if_neg (nI_nlt (by omega) (by omega)), Nat.max_eq_left (by omega)]
    rw [e]
    refine hq R ?_
    rw [show max z m = z + (m - z) by omega]
    exact hR
end
