/-! ===== blows, takes, calm, then ===== -/
section C2
variable {σx σm : SS}
theorem q_blows (R : Rel σx σm) (a b c : Int32) : Cm (FX11_blows 0 a b c σx) (FX12_blows 78 a b c σm) := by
  obtain ⟨⟨nu, ns, nr, nn, nk, np, hr, hI, hbd⟩, hT, -⟩ := id R
  unfold FX11_blows FX12_blows
  rw [l_N0, l_N1, l_11, l_7]
  simp only [lk_0_0, lk_0_6, lk_48_0, lk_48_1, lk_78_0, lk_78_8, lk_78_9, ln_49, ln_50, ln_85, ln_86]
  refine cq_bdx (isCell_eq _ _) (cq_bdm (in_eq _ _ _ _) (cq_guard R (fun h1 => cq_bdx (isHod_eq _ _) (cq_bdm (in_eq _ _ _ _) (cq_guard R (fun h2 => cq_bdx (within_eq _ _ _ _) (cq_bdm (in_eq _ _ _ _) (cq_guard R (fun h3 => ?_)))))))))
  obtain ⟨cc, -, hc, rfl⟩ := wi_in (by omega) (by omega) h1
  obtain ⟨hh, -, hh7, rfl⟩ := wi_in (by omega) (by omega) h2
  obtain ⟨tkn, ahd, bhd, hB⟩ := hb_ex hI.2.2.2.2.1 hh
  refine cq_okx (hb_x kd_1 hT.1.1 hI hB (by omega)) (fun σ1 hq1 => cq_bdm (everyone_eq ln_79 hI.2.1.1 hI.1.1) (cq_okm (hb_m (Or.inl rfl) hI.2.1.1 hB (by omega)) (fun σ2 hq2 => ?_)))
  have R2 := rel_q R hq1.1 hq2.1
  refine cq_both (fun h0 => ?_) (fun h0 => ?_)
  · refine cq_gx (inb_n (by omega) (by omega)) (cq_gm (inb_n (by omega) (by omega)) ?_)
    rw [ix_n (by omega), (hq1.2.2 cc (by omega)).1, (hq2.2.2 cc (by omega)).1]
    exact cq_some R2
  · refine cq_gx (inb_n (by omega) (by omega)) (cq_gm (inb_n (by omega) (by omega)) ?_)
    rw [ix_n (by omega), (hq1.2.2 cc (by omega)).2, (hq2.2.2 cc (by omega)).2]
    exact cq_some R2
theorem q_takes (R : Rel σx σm) (a b : Int32) : Cm (FX11_takes 0 a b σx) (FX12_takes 78 a b σm) := by
  obtain ⟨⟨nu, ns, nr, nn, nk, np, hr, hI, hbd⟩, hT, -⟩ := id R
  have hu7 := hI.1.1
  unfold FX11_takes FX12_takes
  rw [l_N0, l_7]
  simp only [lk_0_0, lk_0_6, lk_78_0, lk_78_7, ln_84]
  refine cq_bdx (isUser_x a σx) (cq_bdm (isUser_m a σm) ?_)
  rw [hI.2.2.1.1, hI.2.1.1]
  refine cq_guard R (fun h1 => cq_bdx (isHod_eq _ _) (cq_bdm (in_eq _ _ _ _) (cq_guard R (fun h2 => ?_))))
  obtain ⟨uu, hu, rfl⟩ := wi_cnt (by omega) h1
  obtain ⟨hh, -, hh7, rfl⟩ := wi_in (by omega) (by omega) h2
  obtain ⟨tkn, ahd, bhd, hB⟩ := hb_ex hI.2.2.2.2.1 hh
  refine cq_okx (hb_x kd_1 hT.1.1 hI hB (by omega)) (fun σ1 hq1 => cq_bdx (takenBy_eq (by omega)) (cq_bdm (everyone_eq ln_79 hI.2.1.1 hI.1.1) (cq_okm (hb_m (Or.inl rfl) hI.2.1.1 hB (by omega)) (fun σ2 hq2 => cq_gm (inb_n (by omega) (by omega)) ?_))))
  rw [ix_n (by omega), hq1.2.1 uu hu, hq2.2.1 uu hu]
  exact cq_some (rel_q R hq1.1 hq2.1)
theorem ir_q {t : Nat} {σ σ' : SS} {ρ : Nat → Int32} {nu ns nr nn nk np hr : Nat} (ht : kd t = 4) (hI : IR t σ ρ nu ns nr nn nk np hr) (hE : Eq0 Q3 σ σ') : IR t σ' ρ nu ns nr nn nk np hr := by
  have h4 := isl4 ht
  exact hI.cong (fun c h1 h2 => hE.1 c (fun hq => by rcases hq with hq | hq | hq <;> omega)) (fun k _ => rfl)
theorem tc_q {t : Nat} {σ σ' : SS} (ht : kd t = 4) (hT : TCw t σ) (hE : Eq0 Q3 σ σ') : TCw t σ' := by
  have h4 := isl4 ht
  exact hT.cong (fun c h1 h2 => hE.1 c (fun hq => by rcases hq with hq | hq | hq <;> omega))
end C2
