/-! ===== of, about, part, status, award, clear ===== -/
section C1
variable {σx σm : SS}
theorem q_of (R : Rel σx σm) (a b : Int32) : Cm (FX11_of 0 a b σx) (FX12_of 78 a b σm) := by
  obtain ⟨⟨nu, ns, nr, nn, nk, np, hr, hI, hbd⟩, hT, -⟩ := id R
  have hu7 := hI.1.1
  unfold FX11_of FX12_of
  refine cq_bdx (isUser_x a σx) (cq_bdm (isUser_m a σm) ?_)
  rw [hI.2.2.1.1, hI.2.1.1]
  refine cq_guard R (fun h1 => ?_)
  obtain ⟨uu, hu, rfl⟩ := wi_cnt (by omega) h1
  rw [l_N0, l_3]
  refine cq_bdx (within_eq _ _ _ _) (cq_bdm (in_eq _ _ _ _) (cq_guard R (fun h2 => ?_)))
  obtain ⟨cc, -, hc, rfl⟩ := wi_in (by omega) (by omega) h2
  exact cq_bdx (ir_user kd_1 hT.1.1 hI hu (by omega)) (cq_bdm (userOf_eq ln_79 (by omega) (by omega) σm) (cq_some R))
theorem q_about (R : Rel σx σm) (a b : Int32) : Cm (FX11_about 0 a b σx) (FX12_about 78 a b σm) := by
  obtain ⟨⟨nu, ns, nr, nn, nk, np, hr, hI, hbd⟩, hT, -⟩ := id R
  have hu7 := hI.1.2.1
  unfold FX11_about FX12_about
  refine cq_bdx (isSuit_x a σx) (cq_bdm (isSuit_m a σm) ?_)
  rw [hI.2.2.1.2.1, hI.2.1.2.1]
  refine cq_guard R (fun h1 => ?_)
  obtain ⟨uu, hu, rfl⟩ := wi_cnt (by omega) h1
  rw [l_N0, l_3]
  refine cq_bdx (within_eq _ _ _ _) (cq_bdm (in_eq _ _ _ _) (cq_guard R (fun h2 => ?_)))
  obtain ⟨cc, -, hc, rfl⟩ := wi_in (by omega) (by omega) h2
  exact cq_bdx (ir_suit kd_1 hT.1.1 hI hu (by omega)) (cq_bdm (suitOf_eq ln_79 (by omega) (by omega) σm) (cq_some R))
theorem q_part (R : Rel σx σm) (a : Int32) : Cm (FX11_part 0 a σx) (FX12_part 78 a σm) := by
  obtain ⟨-, -, -, -, -, ⟨hf1, hf2⟩, -⟩ := id R
  unfold FX11_part FX12_part
  rw [l_N0, l_N1, lk_0_11]
  refine cq_bdx (within_eq _ _ _ _) (cq_bdm (in_eq _ _ _ _) (cq_both (fun _ => ?_) (fun h1 => cq_both (fun _ => ?_) (fun _ => ?_))))
  · exact cq_bd2x (refuse_bad σx) (cq_bd2m (bad_eq σm) (cq_some (rel_ref R (jj := 0) (by omega))))
  · rw [hf1]; exact cq_some R
  · rw [hf2]; exact cq_some R
theorem wi_out3 {a : Int32} (h0 : ¬ a = nI 0) (h1 : ¬ a = nI 1) (h2 : ¬ a = nI 2) : wi a (nI 0) (nI 2) = 0 := by
  by_cases hz : wi a (nI 0) (nI 2) = 0
  · exact hz
  · obtain ⟨jj, -, hj, rfl⟩ := wi_in (by omega) (by omega) hz
    have hq : jj = 0 ∨ jj = 1 ∨ jj = 2 := by omega
    rcases hq with rfl | rfl | rfl
    · exact absurd rfl h0
    · exact absurd rfl h1
    · exact absurd rfl h2
theorem q_status (R : Rel σx σm) (a : Int32) : Cm (FX11_status 0 a σx) (FX12_status 78 a σm) := by
  obtain ⟨-, -, -, -, -, -, hr1, hr2, hr3, -⟩ := id R
  unfold FX11_status FX12_status
  rw [l_N0, l_2]
  refine cq_bdm (in_eq _ _ _ _) ?_
  by_cases h0 : a = nI 0
  · subst h0
    refine cq_itx rfl (cq_ifm (by decide +kernel) ?_)
    simp only [lk_78_6, ln_83]
    refine cq_gm (inb_n (by omega) (by omega)) ?_
    rw [ix_n (by omega), hr1]
    exact cq_some R
  refine cq_ifx h0 ?_
  by_cases h1 : a = nI 1
  · subst h1
    refine cq_itx rfl (cq_ifm (by decide +kernel) ?_)
    simp only [lk_78_6, ln_83]
    refine cq_gm (inb_n (by omega) (by omega)) ?_
    rw [ix_n (by omega), hr2]
    exact cq_some R
  refine cq_ifx h1 ?_
  by_cases h2 : a = nI 2
  · subst h2
    refine cq_itx rfl (cq_ifm (by decide +kernel) ?_)
    simp only [lk_78_6, ln_83]
    refine cq_gm (inb_n (by omega) (by omega)) ?_
    rw [ix_n (by omega), hr3]
    exact cq_some R
  refine cq_ifx h2 (cq_bd2x (refuse_bad σx) (cq_itm (wi_out3 h0 h1 h2) ?_))
  simp only [lk_78_6, ln_83]
  refine cq_gm (inb_n (by omega) (by omega)) (cq_gm (inb_n (by omega) (by omega)) (cq_nmm ?_))
  rw [ix_n (by omega)]
  exact cq_some (rel_ref R (jj := 0) (by omega))
theorem dues_x {nu ns nr nn nk np hr uu : Nat} (hT : TCw 1 σx) (hI : IR 1 σx (gI σm 79) nu ns nr nn nk np hr) (hu : uu < nu) : FX4_duesOf 1 (nI uu) σx = some (gI σm 79 (20 + 4 * uu)) := by
  unfold FX4_duesOf
  simp only [lk_1_2]
  rw [bd_of (ir_user kd_1 hT hI hu (cc := 3) (by omega)), show 17 + 4 * uu + 3 = 20 + 4 * uu by omega]
theorem dues_m {uu : Nat} (h : uu < 50) : FX12_duesOf 78 (nI uu) σm = some (gI σm 79 (20 + 4 * uu)) := by
  unfold FX12_duesOf
  simp only [lk_78_0]
  rw [bd_of (userOf_eq ln_79 h (by omega) σm), show 17 + 4 * uu + 3 = 20 + 4 * uu by omega]
theorem heard_x {nu ns nr nn nk np hr vv : Nat} (hT : TCw 1 σx) (hI : IR 1 σx (gI σm 79) nu ns nr nn nk np hr) (hv : vv < ns) : FX4_isHeard 1 (nI vv) σx = some (if gI σm 79 (49 + 4 * vv) = nI 1 then nI 1 else nI 0) := by
  unfold FX4_isHeard
  simp only [lk_1_3]
  rw [bd_of (ir_suit kd_1 hT hI hv (cc := 3) (by omega)), show 46 + 4 * vv + 3 = 49 + 4 * vv by omega]
  split <;> rfl
theorem heard_m {vv : Nat} (h : vv < 50) : FX12_isHeard 78 (nI vv) σm = some (if gI σm 79 (49 + 4 * vv) = nI 1 then nI 1 else nI 0) := by
  unfold FX12_isHeard
  simp only [lk_78_0]
  rw [bd_of (suitOf_eq ln_79 h (by omega) σm), show 46 + 4 * vv + 3 = 49 + 4 * vv by omega]
  split <;> rfl
/-- what is awarded now -/
def awn (ρ : Nat → Int32) (vv : Nat) (kk uu : Nat) : Int32 := if ρ (49 + 4 * vv) = nI 1 then nI 0 else aw kk (ρ (20 + 4 * uu)) (ρ 66 - ρ (48 + 4 * vv))
theorem n1_0 : ¬ nI 1 = (0 : Int32) := by decide +kernel
theorem awn_both {nu ns nr nn nk np hr vv : Nat} (hT : TCw 1 σx) (hI : IR 1 σx (gI σm 79) nu ns nr nn nk np hr) (hv : vv < ns) : ∃ kk uu, kk ≤ 5 ∧ uu < nu ∧ gI σm 79 (46 + 4 * vv) = nI kk ∧ gI σm 79 (47 + 4 * vv) = nI uu ∧ FX4_awardNow 1 (nI vv) σx = some (awn (gI σm 79) vv kk uu) ∧ FX12_awardNow 78 (nI vv) σm = some (awn (gI σm 79) vv kk uu) := by
  obtain ⟨⟨kk, hk, e1⟩, uu, hu, e2⟩ := hI.2.2.2.2.1.2.2.1 vv hv
  have hs5 := hI.1.2.1
  have hu7 := hI.1.1
  refine ⟨kk, uu, hk, hu, e1, e2, ?_, ?_⟩
  · unfold FX4_awardNow awn
    rw [bd_of (heard_x hT hI hv)]
    by_cases hh : gI σm 79 (49 + 4 * vv) = nI 1
    · rw [if_pos hh, if_pos hh, if_neg n1_0]
    · rw [if_neg hh, if_neg hh, if_pos nI_0]
      simp only [lk_1_3]
      rw [bd_of (ir_suit kd_1 hT hI hv (cc := 0) (by omega)), bd_of (ir_suit kd_1 hT hI hv (cc := 1) (by omega)), show 46 + 4 * vv + 0 = 46 + 4 * vv by omega, show 46 + 4 * vv + 1 = 47 + 4 * vv by omega, e1, e2, bd_of (dues_x hT hI hu), bd_of (ir_suit kd_1 hT hI hv (cc := 2) (by omega)), show 46 + 4 * vv + 2 = 48 + 4 * vv by omega, bd_of (aw_x hk _ _ _), hI.2.2.1.2.2.2.2.2.2.1, hI.2.1.2.2.2.2.2.2]
  · unfold FX12_awardNow awn
    rw [bd_of (heard_m (by omega))]
    by_cases hh : gI σm 79 (49 + 4 * vv) = nI 1
    · rw [if_pos hh, if_pos hh, if_neg n1_0]
    · rw [if_neg hh, if_neg hh, if_pos nI_0]
      unfold FX12_ageOf
      simp only [lk_78_0, ln_79]
      rw [bd_of (suitOf_eq ln_79 (by omega) (by omega) σm), bd_of (suitOf_eq ln_79 (by omega) (by omega) σm), show 46 + 4 * vv + 0 = 46 + 4 * vv by omega, show 46 + 4 * vv + 1 = 47 + 4 * vv by omega, e1, e2, bd_of (dues_m (by omega)), gd_n (by omega) (by omega), ix_n (by omega), bd_of (suitOf_eq ln_79 (by omega) (by omega) σm), bd_s, show 46 + 4 * vv + 2 = 48 + 4 * vv by omega, bd_of (aw_m hk _ _ _)]
theorem q_award (R : Rel σx σm) (a : Int32) : Cm (FX11_award 0 a σx) (FX12_award 78 a σm) := by
  obtain ⟨⟨nu, ns, nr, nn, nk, np, hr, hI, hbd⟩, hT, -⟩ := id R
  have hu7 := hI.1.2.1
  unfold FX11_award FX12_award
  refine cq_bdx (isSuit_x a σx) (cq_bdm (isSuit_m a σm) ?_)
  rw [hI.2.2.1.2.1, hI.2.1.2.1, lk_0_0]
  refine cq_guard R (fun h1 => ?_)
  obtain ⟨uu, hu, rfl⟩ := wi_cnt (by omega) h1
  obtain ⟨kk, vv, -, -, -, -, h2, h3⟩ := awn_both hT.1.1 hI hu
  exact cq_bdx h2 (cq_bdm h3 (cq_some R))
end C1
