/-! ===== the next order, on both sides ===== -/
theorem rvs_s (ff : Nat) (xs : List Nat) (ii jj : Nat) : rvs (ff + 1) xs ii jj = if jj ≤ ii then xs else rvs ff (sw xs ii jj) (ii + 1) (jj - 1) := rfl
theorem rv_len : ∀ ff xs ii jj, (rvs ff xs ii jj).length = xs.length := by
  intro ff
  induction ff with
  | zero => intro xs ii jj; rfl
  | succ ff ih =>
    intro xs ii jj
    simp only [rvs]
    split
    · rfl
    · rw [ih, sw_len]
section DE
variable {xs : List Nat} {bb : Nat}
theorem swap_x {s : SS} {ii jj : Nat} (hi : ii < 5) (hj : jj < 5) : FX8_swap 72 (nI ii) (nI jj) s = some (pI (pI s 73 ii (gI s 73 jj)) 73 jj (gI s 73 ii)) := by
  unfold FX8_swap
  simp only [nm_eq, lk_72_0, ln_73]
  rw [gd_n hi (by omega), gd_n hj (by omega), gd_n hi (by omega), gd_n hj (by omega), ix_n (by omega), ix_n (by omega)]
theorem swap_r {s : SS} {cc ii jj : Nat} (h : RW (gI s cc) xs bb) (hi : ii < xs.length) (hj : jj < xs.length) : RW (gI (pI (pI s cc ii (gI s cc jj)) cc jj (gI s cc ii)) cc) (sw xs ii jj) bb := by
  rw [gI_pI_eq, gI_pI_eq]
  exact rw_sw h hi hj
theorem rev_x {s : SS} {lo : Nat} (h : RW (gI s 73) xs bb) (h1 : lo ≤ xs.length) (h0 : 1 ≤ xs.length) : 
    Ok (lp FUEL (u3 (fun (n12 : Int32) (n13 : Int32) (s14 : SS) => if n13 ≤ n12 then some (Sum.inr s14) else (bd (FX8_swap 72 n12 n13 s14) (fun (s15 : SS) => some (Sum.inl (n12 + (nI 1), n13 + (-1 : Int32), s15)))))) (nI lo, nI (xs.length - 1), s)) (fun s' => Eq0 (fun c => c = 73) s s' ∧ RW (gI s' 73) (rvs 6 xs lo (xs.length - 1)) bb) := by
  have h5 := h.1
  refine ok_lp (fun ii tt => ∃ ys hi s1, ii + hi = xs.length - 1 ∧ ys.length = xs.length ∧ tt = (nI (lo + ii), nI hi, s1) ∧ Eq0 (fun c => c = 73) s s1 ∧ RW (gI s1 73) ys bb ∧ rvs 6 xs lo (xs.length - 1) = rvs (6 - ii) ys (lo + ii) hi) 5 (by omega) ⟨xs, xs.length - 1, s, by omega, rfl, rfl, Eq0.rf, h, rfl⟩ ?_
  rintro ii tt hii ⟨ys, hi, s1, g1, g2, rfl, hE, hR, he⟩
  rw [u3_s]
  have e6 : 6 - ii = (5 - ii) + 1 := by omega
  rw [e6, rvs_s (5 - ii)] at he
  refine ok_ite (fun hc => ok_some ⟨hE, ?_⟩) (fun hc => ?_)
  · rw [he, if_pos (le_of_nI hc (by omega) (by omega))]; exact hR
  have hlt := lt_of_nle hc (by omega) (by omega)
  rw [if_neg (by omega)] at he
  cases hi with
  | zero => omega
  | succ hi =>
    refine ok_bdr (swap_x (by omega) (by omega)) (ok_some ⟨by omega, sw ys (lo + ii) (hi + 1), hi, _, by omega, by rw [sw_len]; exact g2, ?_, hE.tr (eo_pI.tr eo_pI), swap_r hR (by omega) (by omega), ?_⟩)
    · rw [nI_addn, nI_dec, Nat.add_assoc]
    · rw [he, show 6 - (ii + 1) = 5 - ii by omega, show lo + (ii + 1) = lo + ii + 1 by omega, Nat.add_sub_cancel]
theorem rev_m {s : SS} {lo : Nat} (h : RW (gI s 88) xs bb) (h1 : lo ≤ xs.length) (h0 : 1 ≤ xs.length) : 
    Ok (lp FUEL (u3 (fun (n14 : Int32) (n15 : Int32) (s16 : SS) => if n15 ≤ n14 then some (Sum.inr s16) else (gd (inb n14 5) (gd (inb n15 5) (gd (inb n14 5) (gd (inb n15 5) (some (Sum.inl (n14 + (nI 1), n15 + (-1 : Int32), pI (pI s16 88 (Int32.toNatClampNeg n14) (gI s16 88 (Int32.toNatClampNeg n15))) 88 (Int32.toNatClampNeg n15) (gI s16 88 (Int32.toNatClampNeg n14))))))))))) (nI lo, nI (xs.length - 1), s)) (fun s' => Eq0 (fun c => c = 88) s s' ∧ RW (gI s' 88) (rvs 6 xs lo (xs.length - 1)) bb) := by
  have h5 := h.1
  refine ok_lp (fun ii tt => ∃ ys hi s1, ii + hi = xs.length - 1 ∧ ys.length = xs.length ∧ tt = (nI (lo + ii), nI hi, s1) ∧ Eq0 (fun c => c = 88) s s1 ∧ RW (gI s1 88) ys bb ∧ rvs 6 xs lo (xs.length - 1) = rvs (6 - ii) ys (lo + ii) hi) 5 (by omega) ⟨xs, xs.length - 1, s, by omega, rfl, rfl, Eq0.rf, h, rfl⟩ ?_
  rintro ii tt hii ⟨ys, hi, s1, g1, g2, rfl, hE, hR, he⟩
  rw [u3_s]
  have e6 : 6 - ii = (5 - ii) + 1 := by omega
  rw [e6, rvs_s (5 - ii)] at he
  refine ok_ite (fun hc => ok_some ⟨hE, ?_⟩) (fun hc => ?_)
  · rw [he, if_pos (le_of_nI hc (by omega) (by omega))]; exact hR
  have hlt := lt_of_nle hc (by omega) (by omega)
  rw [if_neg (by omega)] at he
  cases hi with
  | zero => omega
  | succ hi =>
    refine ok_gn (by omega) (by omega) (ok_gn (by omega) (by omega) (ok_gn (by omega) (by omega) (ok_gn (by omega) (by omega) (ok_some ⟨by omega, sw ys (lo + ii) (hi + 1), hi, pI (pI s1 88 (lo + ii) (gI s1 88 (hi + 1))) 88 (hi + 1) (gI s1 88 (lo + ii)), by omega, by rw [sw_len]; exact g2, ?_, hE.tr (eo_pI.tr eo_pI), swap_r hR (by omega) (by omega), ?_⟩))))
    · rw [nI_addn, nI_dec, Nat.add_assoc, ix_n (by omega), ix_n (by omega)]
    · rw [he, show 6 - (ii + 1) = 5 - ii by omega, show lo + (ii + 1) = lo + ii + 1 by omega, Nat.add_sub_cancel]
theorem next_x {s : SS} (h : RW (gI s 73) xs bb) (hb : bb ≤ 5) (hl : gI s 72 2 = nI xs.length) :
    ∃ r s', FX8_goToNextOrder 72 s = some (r, s') ∧ ((nx xs = none ∧ r = nI 0 ∧ s' = s) ∨ ∃ ys, nx xs = some ys ∧ r = nI 1 ∧ Eq0 (fun c => c = 73) s s' ∧ RW (gI s' 73) ys bb ∧ ys.length = xs.length) := by
  obtain ⟨e, he, hc⟩ := left_lp h hb
  have h5 := h.1
  unfold FX8_goToNextOrder
  simp only [nm_eq, lk_72_0, ln_73]
  rw [hl, bd_of he]
  rcases hc with ⟨h0, hn⟩ | ⟨ll, h0, h1, rfl, h2⟩
  · rw [if_neg hn]
    exact ⟨_, _, rfl, Or.inl ⟨by unfold nx; rw [if_pos h0], rfl, rfl⟩⟩
  · have hge : (0 : Int32) ≤ nI ll := nI_pos' (by omega)
    obtain ⟨r1, r2⟩ := rt_in h2 (xs.length - 1) (by omega)
    rw [if_pos hge, bd_of (right_x h hb h1 h2), bd_of (swap_x (by omega) (by omega)), nI_addn]
    have z72 : gI (pI (pI s 73 ll (gI s 73 (rt xs (gx xs ll) (xs.length - 1)))) 73 (rt xs (gx xs ll) (xs.length - 1)) (gI s 73 ll)) 72 2 = nI xs.length := by rw [gI_pI_ne (by omega), gI_pI_ne (by omega)]; exact hl
    rw [z72, nI_subn (by omega)]
    have hR := swap_r h (ii := ll) (jj := rt xs (gx xs ll) (xs.length - 1)) (by omega) (by omega)
    have hL : (sw xs ll (rt xs (gx xs ll) (xs.length - 1))).length = xs.length := sw_len _ _ _
    obtain ⟨s', k1, k2, k3⟩ := rev_x (lo := ll + 1) hR (by omega) (by omega)
    rw [hL] at k1 k3
    rw [bd_of k1]
    refine ⟨_, _, rfl, Or.inr ⟨_, ?_, rfl, (eo_pI.tr eo_pI).tr k2, k3, by rw [rv_len, hL]⟩⟩
    unfold nx
    rw [if_neg (by omega), h0, Nat.add_sub_cancel]
theorem next_m {s : SS} (h : RW (gI s 88) xs bb) (hb : bb ≤ 5) :
    ∃ r s', FX12_nextRow 78 (nI xs.length) s = some (r, s') ∧ ((nx xs = none ∧ r = nI 0 ∧ s' = s) ∨ ∃ ys, nx xs = some ys ∧ r = nI 1 ∧ Eq0 (fun c => c = 88) s s' ∧ RW (gI s' 88) ys bb ∧ ys.length = xs.length) := by
  obtain ⟨e, he, hc⟩ := left_lp h hb
  have h5 := h.1
  unfold FX12_nextRow
  simp only [nm_eq, lk_78_16, ln_88]
  rw [bd_of he]
  rcases hc with ⟨h0, hn⟩ | ⟨ll, h0, h1, rfl, h2⟩
  · rw [if_neg hn]
    exact ⟨_, _, rfl, Or.inl ⟨by unfold nx; rw [if_pos h0], rfl, rfl⟩⟩
  · have hge : (0 : Int32) ≤ nI ll := nI_pos' (by omega)
    obtain ⟨r1, r2⟩ := rt_in h2 (xs.length - 1) (by omega)
    rw [if_pos hge, bd_of (right_m h hb h1 h2), gd_n (by omega) (by omega), gd_n (by omega) (by omega), gd_n (by omega) (by omega), gd_n (by omega) (by omega), ix_n (n := ll) (by omega), ix_n (n := rt xs (gx xs ll) (xs.length - 1)) (by omega), nI_addn, nI_subn (by omega)]
    have hR := swap_r h (ii := ll) (jj := rt xs (gx xs ll) (xs.length - 1)) (by omega) (by omega)
    have hL : (sw xs ll (rt xs (gx xs ll) (xs.length - 1))).length = xs.length := sw_len _ _ _
    obtain ⟨s', k1, k2, k3⟩ := rev_m (lo := ll + 1) hR (by omega) (by omega)
    rw [hL] at k1 k3
    rw [bd_of k1]
    refine ⟨_, _, rfl, Or.inr ⟨_, ?_, rfl, (eo_pI.tr eo_pI).tr k2, k3, by rw [rv_len, hL]⟩⟩
    unfold nx
    rw [if_neg (by omega), h0, Nat.add_sub_cancel]
end DE
