/-! ===== clear, type, settle, count, digest ===== -/
section C5
variable {σx σm : SS}
theorem rel_text {σx' σm' : SS} (R : Rel σx σm) (hx : ∀ c, c ≠ 46 → c ≠ 47 → gI σx' c = gI σx c) (hl : gL σx' 77 = gL σx 77) (hm : ∀ c, c ≠ 78 → c ≠ 87 → gI σm' c = gI σm c) (hml : gL σm' 78 = gL σm 78) (hT : Tx σx' σm') : Rel σx' σm' := by
  obtain ⟨h1, h2, h3, h4, h5, h6, h7⟩ := R
  refine ⟨h1.cong (fun c g1 g2 => hx c (by omega) (by omega)) (fun k _ => by rw [hm 79 (by omega) (by omega)]), h2.cong2 (fun c g1 => hx c (by omega) (by omega)) (hx 69 (by omega) (by omega)), ?_, ?_, hT, ?_, ?_⟩
  · unfold Im at h3 ⊢
    rw [hx 0 (by omega) (by omega), hm 82 (by omega) (by omega), hm 81 (by omega) (by omega)]
    exact h3.imp id (fun hz => ⟨hz.1, hz.2.1, hz.2.2.cong (fun c g1 g2 => hx c (by omega) (by omega)) (fun k _ => rfl)⟩)
  · unfold Im at h4 ⊢
    rw [hx 0 (by omega) (by omega), hm 82 (by omega) (by omega), hm 81 (by omega) (by omega)]
    exact h4.imp id (fun hz => ⟨hz.1, hz.2.1, hz.2.2.cong (fun c g1 g2 => hx c (by omega) (by omega)) (fun k _ => rfl)⟩)
  · unfold Fr at h6 ⊢; rw [hl, hml]; exact h6
  · unfold Rf at h7 ⊢; rw [hx 0 (by omega) (by omega), hm 83 (by omega) (by omega), hx 74 (by omega) (by omega), hm 89 (by omega) (by omega)]; exact h7
theorem q_clear (R : Rel σx σm) : Cm (FX11_clear 0 σx) (FX12_clear 78 σm) := by
  obtain ⟨-, -, -, -, ⟨nl, t1, t2, t3, t4⟩, -⟩ := id R
  unfold FX11_clear FX12_clear
  simp only [lk_0_5, nm_eq]
  rw [t2, t3]
  refine cq_some (rel_text R (fun c g1 g2 => gI_pI_ne g1) rfl (fun c g1 g2 => gI_pI_ne g1) rfl ⟨0, by omega, ?_, ?_, fun k hk => absurd hk (Nat.not_lt_zero _)⟩)
  · rw [gI_pI_eq, upd_ap, if_pos rfl]
  · rw [gI_pI_eq, upd_ap, if_pos rfl]
theorem q_type (R : Rel σx σm) (a : Int32) : Cm (FX11_type 0 a σx) (FX12_type 78 a σm) := by
  obtain ⟨-, -, -, -, ⟨nl, t1, t2, t3, t4⟩, -⟩ := id R
  unfold FX11_type FX12_type
  rw [l_N0, l_127]
  refine cq_bdx (within_eq _ _ _ _) (cq_bdm (in_eq _ _ _ _) (cq_guard R (fun h1 => ?_)))
  obtain ⟨bt0, -, hb, rfl⟩ := wi_in (by omega) (by omega) h1
  unfold FX10_isFull
  simp only [lk_0_5, lk_78_10, ln_87]
  rw [t2, t3]
  by_cases hf : nl < 150
  · rw [if_pos ((nI_ltn (by omega) (by omega)).mpr hf)]
    refine cq_bdx rfl (cq_itx nI_0 (cq_ifm (fun hq => by have := (nI_eqn (by omega) (by omega)).mp hq; omega) (cq_gm (inb_n hf (by omega)) (cq_nmm (cq_nmm ?_)))))
    unfold FX10_add
    simp only [lk_46_0, ln_47]
    have hwi : wi (nI nl) (nI 0) (nI 149) = nI 1 := by rw [wi_n (by omega) (by omega) (by omega), if_pos ⟨Nat.zero_le _, by omega⟩]
    rw [t2, within_eq, bd_s, hwi, if_neg n1_0, gd_n hf (by omega), nm_eq, nm_eq, bd_s, bd2_s, ix_n (by omega)]
    rw [gI_pI_ne (show 46 ≠ 47 by omega), t2, gI_pI_eq, upd_ap, if_pos rfl, gI_pI_ne (show 78 ≠ 87 by omega), t3, gI_pI_eq, upd_ap, if_pos rfl]
    refine cq_some (rel_text R (fun c g1 g2 => by rw [gI_pI_ne g1, gI_pI_ne g2]) rfl (fun c g1 g2 => by rw [gI_pI_ne g1, gI_pI_ne g2]) rfl ⟨nl + 1, by omega, ?_, ?_, fun k hk => ?_⟩)
    · rw [gI_pI_eq, upd_ap, if_pos rfl, nI_addn]
    · rw [gI_pI_eq, upd_ap, if_pos rfl, nI_addn]
    · rw [gI_pI_ne (show 47 ≠ 46 by omega), gI_pI_eq, gI_pI_ne (show 87 ≠ 78 by omega), gI_pI_eq, upd_ap, upd_ap]
      by_cases hkn : k = nl
      · rw [if_pos hkn, if_pos hkn]
        exact ⟨rfl, bt0, hb, rfl⟩
      · rw [if_neg hkn, if_neg hkn]
        exact t4 k (by omega)
  · have hnl : nl = 150 := by omega
    subst hnl
    rw [if_neg (fun hq => by have := (nI_ltn (by omega) (by omega)).mp hq; omega)]
    exact cq_bdx rfl (cq_ifx n1_0 (cq_itm rfl (cq_full R)))
theorem q_settle (R : Rel σx σm) : ∃ rr, FX11_settle 0 σx = some rr ∧ FX12_settle 78 σm = some rr := by
  obtain ⟨⟨nu, ns, nr, nn, nk, np, hr, hI, hbd⟩, hT, -⟩ := id R
  have hs5 := hI.1.2.1
  suffices hh : Two (FX11_settle 0 σx) (FX12_settle 78 σm) (fun aa bb => aa = bb) by
    obtain ⟨aa, bb, h1, h2, h3⟩ := hh
    exact ⟨aa, h1, by rw [h3]; exact h2⟩
  unfold FX11_settle FX12_settle
  simp only [lk_0_0, lk_1_3, lk_78_0, ln_79]
  refine tw_nmx (tw_nmx (tw_nmm (tw_nmm (tw_bd (tw_lp (P := fun aa bb => aa = bb) (fun ii x1 x2 => ∃ bb, x1 = (bb, nI ii) ∧ x2 = (bb, nI ii)) ns (by omega) ⟨nI 0, rfl, rfl⟩ ?_) (fun aa bb hq => tw_some hq)))))
  rintro ii x1 x2 hi ⟨bb, rfl, rfl⟩
  rw [u2_s, u2_s, ix_n (by omega), hI.2.2.1.2.1, hI.2.1.2.1]
  refine tw_gm (inb_n (by omega) (by omega)) (tw_ite Iff.rfl (fun hc => tw_some (s2_r rfl)) (fun hc => ?_))
  have hi2 : ii < ns := by
    rcases Nat.lt_or_ge ii ns with hq | hq
    · exact hq
    · exact absurd ((nI_le_iff (by omega) (by omega)).mpr hq) hc
  obtain ⟨kk, vv, -, -, -, -, h2, h3⟩ := awn_both hT.1.1 hI hi2
  have hor : bb ||| nI 0 = bb := by rw [nI_0]; exact Int32.or_zero
  refine tw_bdx h2 (tw_bdm (heard_m (by omega)) ?_)
  by_cases hh : gI σm 79 (49 + 4 * ii) = nI 1
  · have ha : awn (gI σm 79) ii kk vv = nI 0 := by unfold awn; rw [if_pos hh]
    rw [if_pos hh, ha, if_pos (by decide +kernel : nI 0 < nI 10), if_neg n1_0]
    refine tw_bdx rfl (tw_bdm rfl (tw_nmx (tw_nmm (tw_nmm (tw_some (s2_l ⟨hi2, bb, by rw [nI_addn], by rw [hor, nI_addn]⟩))))))
  · rw [if_neg hh, if_pos nI_0]
    by_cases h10 : awn (gI σm 79) ii kk vv < nI 10
    · rw [if_pos h10, bd_of h3, if_pos h10]
      refine tw_bdx rfl (tw_bdm rfl (tw_nmx (tw_nmm (tw_nmm (tw_some (s2_l ⟨hi2, bb, by rw [nI_addn], by rw [hor, nI_addn]⟩))))))
    · rw [if_neg h10, bd_of h3, if_neg h10]
      refine tw_bdx rfl (tw_bdm rfl (tw_nmx (tw_nmm (tw_nmm (tw_some (s2_l ⟨hi2, _, by rw [nI_addn], by rw [nI_addn]⟩))))))
/-- a sum -/
def sI (ff : Nat → Int32) : Nat → Int32
  | 0 => nI 0
  | nn + 1 => sI ff nn + ff nn
theorem duesAll_x {nu ns nr nn nk np hr : Nat} (hT : TCw 1 σx) (hI : IR 1 σx (gI σm 79) nu ns nr nn nk np hr) : FX4_duesOfAll 1 σx = some (sI (fun uu => gI σm 79 (20 + 4 * uu)) nu) := by
  have hu7 := hI.1.1
  unfold FX4_duesOfAll
  simp only [lk_1_2, nm_eq]
  rw [bd_of (lp_F (e := sI (fun uu => gI σm 79 (20 + 4 * uu)) nu) (s := (nI 0, nI 0)) (fun jj => (sI (fun uu => gI σm 79 (20 + 4 * uu)) jj, nI jj)) nu (fuel_of (by omega)) rfl (fun jj hj => ?_) ?_)]
  · rw [u2_s, hI.2.2.1.1, if_pos ((nI_le_iff (by omega) (by omega)).mpr (Nat.le_refl _))]
  · rw [u2_s, hI.2.2.1.1, if_neg (fun hq => by have := (nI_le_iff (by omega) (by omega)).mp hq; omega), bd_of (dues_x hT hI hj), nI_addn]
    rfl
/-- what count answers -/
def cnt (ρ : Nat → Int32) (nu : Nat) (nl : Int32) (kk : Nat) : Int32 :=
  if kk = 0 then ρ 16 else if kk = 1 then ρ 45 else if kk = 2 then ρ 66 else if kk = 3 then sI (fun uu => ρ (20 + 4 * uu)) nu else if kk = 4 then ρ 67 else if kk = 5 then ρ 68 else if kk = 6 then ρ 81 else if kk = 7 then ρ 112 else if kk = 8 then ρ 137 else nl
theorem cnt_x {nu ns nr nn nk np hr nl kk : Nat} (hT : TCw 1 σx) (hI : IR 1 σx (gI σm 79) nu ns nr nn nk np hr) (hl : gI σx 46 1 = nI nl) (hk : kk < 10) : FX11_howMany 0 (nI kk) σx = some (cnt (gI σm 79) nu (nI nl) kk) := by
  unfold FX11_howMany
  simp only [lk_0_0, lk_1_2, lk_1_3, lk_1_4, lk_1_5, lk_1_6, lk_1_7, lk_0_5]
  obtain ⟨c1, c2, c3, c4, c5, c6, c7, c8⟩ := hI.2.2.1
  obtain ⟨b1, b2, b3, b4, b5, b6, b7⟩ := hI.2.1
  have e7 : gI σx 1 8 = gI σm 79 66 := c7.trans b7.symm
  have hz : kk = 0 ∨ kk = 1 ∨ kk = 2 ∨ kk = 3 ∨ kk = 4 ∨ kk = 5 ∨ kk = 6 ∨ kk = 7 ∨ kk = 8 ∨ kk = 9 := by omega
  rcases hz with rfl | rfl | rfl | rfl | rfl | rfl | rfl | rfl | rfl | rfl
  · exact congrArg some (c1.trans b1.symm)
  · exact congrArg some (c2.trans b2.symm)
  · exact congrArg some e7
  · show bd (FX4_duesOfAll 1 σx) (fun r5 => some r5) = _
    rw [bd_of (duesAll_x hT hI)]
    rfl
  · exact congrArg some c8
  · exact congrArg some (c3.trans b3.symm)
  · exact congrArg some (c4.trans b4.symm)
  · exact congrArg some (c5.trans b5.symm)
  · exact congrArg some (c6.trans b6.symm)
  · exact congrArg some hl
theorem cnt_m {nu nl kk : Nat} (h16 : gI σm 79 16 = nI nu) (hu7 : nu ≤ 7) (hl : gI σm 78 11 = nI nl) (hk : kk < 10) : FX12_counted 78 (nI kk) σm = some (cnt (gI σm 79) nu (nI nl) kk) := by
  unfold FX12_counted
  simp only [lk_78_0, ln_79, nm_eq]
  rw [bd_of (lp_F (e := sI (fun uu => gI σm 79 (20 + 4 * uu)) nu) (s := (nI 0, nI 0)) (fun jj => (sI (fun uu => gI σm 79 (20 + 4 * uu)) jj, nI jj)) nu (fuel_of (by omega)) rfl (fun jj hj => ?_) ?_)]
  · have hz : kk = 0 ∨ kk = 1 ∨ kk = 2 ∨ kk = 3 ∨ kk = 4 ∨ kk = 5 ∨ kk = 6 ∨ kk = 7 ∨ kk = 8 ∨ kk = 9 := by omega
    rcases hz with rfl | rfl | rfl | rfl | rfl | rfl | rfl | rfl | rfl | rfl
    · exact gd_n (by omega) (by omega) _
    · exact gd_n (by omega) (by omega) _
    · exact gd_n (by omega) (by omega) _
    · rfl
    · exact gd_n (by omega) (by omega) _
    · exact gd_n (by omega) (by omega) _
    · exact gd_n (by omega) (by omega) _
    · exact gd_n (by omega) (by omega) _
    · exact gd_n (by omega) (by omega) _
    · exact congrArg some hl
  · rw [u2_s, gd_n (by omega) (by omega), ix_n (by omega), h16, if_pos ((nI_le_iff (by omega) (by omega)).mpr (Nat.le_refl _))]
  · rw [u2_s, gd_n (by omega) (by omega), ix_n (by omega), h16, if_neg (fun hq => by have := (nI_le_iff (by omega) (by omega)).mp hq; omega), bd_of (dues_m (by omega)), nI_addn]
    rfl
theorem q_count (R : Rel σx σm) (a : Int32) : Cm (FX11_count 0 a σx) (FX12_count 78 a σm) := by
  obtain ⟨⟨nu, ns, nr, nn, nk, np, hr, hI, hbd⟩, hT, -, -, ⟨nl, t1, t2, t3, t4⟩, -⟩ := id R
  unfold FX11_count FX12_count
  rw [l_N0, l_9]
  refine cq_bdx (within_eq _ _ _ _) (cq_bdm (in_eq _ _ _ _) (cq_guard R (fun h1 => ?_)))
  obtain ⟨kk, -, hk, rfl⟩ := wi_in (by omega) (by omega) h1
  exact cq_bdx (cnt_x hT.1.1 hI t2 (by omega)) (cq_bdm (cnt_m hI.2.1.1 hI.1.1 t3 (by omega)) (cq_some R))
end C5
