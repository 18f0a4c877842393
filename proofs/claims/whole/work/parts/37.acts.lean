/-! ===== acts: suit, hears, pays, undo ===== -/
theorem bd_dues {ρ : Nat → Int32} {n1 n2 n3 h0 uu dd : Nat} (h : Bd ρ n1 n2 n3 h0) (hu7 : n1 ≤ 7) (hu : uu < n1) (hd : dd ≤ 120 * h0) : Bd (upd ρ (20 + 4 * uu) (nI dd)) n1 n2 n3 h0 := by
  obtain ⟨h1, h2, h3, h4⟩ := h
  refine ⟨fun ww g1 => ?_, fun vv g1 => ?_, fun jj g1 => ?_, nb_cong h4 (fun k k1 k2 => upd_ne (by omega))⟩
  · by_cases hq : ww = uu
    · rw [hq, upd_eq]; exact ⟨dd, hd, rfl⟩
    · rw [upd_ne (by omega)]; exact h1 ww g1
  · rw [upd_ne (by omega)]; exact h2 vv g1
  · obtain ⟨hh, k1, k2, k3⟩ := h3 jj g1
    refine ⟨hh, k1, ?_, fun ww g2 => ?_⟩
    · rw [upd_ne (by omega)]; exact k2
    · rw [upd_ne (by omega)]; exact k3 ww g2
section C9
variable {σx σm : SS} {nu ns nr nn nk np hr : Nat}
theorem q_suit (R : Rel σx σm) (a b : Int32) : Cm (FX11_suit 0 a b σx) (FX12_suit 78 a b σm) := by
  obtain ⟨⟨nu, ns, nr, nn, nk, np, hr, hI, hbd⟩, hT, -⟩ := id R
  have hu7 := hI.1.1
  have hs5 := hI.1.2.1
  unfold FX11_suit FX12_suit
  rw [l_N0, l_5]
  simp only [lk_0_0, lk_1_3, lk_78_0, ln_79]
  refine cq_bdx (isKind_eq _ _) (cq_bdm (in_eq _ _ _ _) (cq_guard R (fun h1 => cq_bdx (isUser_x b σx) (cq_bdm (isUser_m b σm) ?_))))
  rw [hI.2.2.1.1, hI.2.1.1]
  refine cq_guard R (fun h2 => ?_)
  obtain ⟨kk, -, hk5, rfl⟩ := wi_in (by omega) (by omega) h1
  obtain ⟨uu, hu, rfl⟩ := wi_cnt (by omega) h2
  refine cq_bdx (isFull_eq 6 σx hI.2.2.1.2.1 hT.1.1.2.1.2 (by omega) (by omega)) (cq_gm (inb_n (by omega) (by omega)) ?_)
  rw [ix_n (by omega), hI.2.1.2.1]
  by_cases hf : ns < 5
  · rw [if_pos hf, if_pos rfl, if_neg (fun hq => by have := (nI_eqn (by omega) (by omega)).mp hq; omega)]
    obtain ⟨s1, s2, nq, e1, e2, e3, e4, e5, e6, e7, e9⟩ := keep_both hT.1.1 hI
    obtain ⟨s3, s4, f1, f2, f3, f4, f5, f6, f7, f8⟩ := file_both (kk := kk) (uu := uu) kd_1 ln_79 e5 e7 hf hk5 hu
    refine cq_bdx e1 (cq_bd2x f1 (cq_bdm e2 (cq_bdm f2 (cq_gm (inb_n (by omega) (by omega)) ?_))))
    rw [f6, nI_subn (by omega)]
    exact cq_some (rel_now R ((e3.up (fun c hq => Or.inl (by rcases hq with hq | hq <;> omega))).tr (f3.up (fun c hq => Or.inl (by omega)))) ((e4.up (fun c hq => Or.inl hq)).tr (f4.up (fun c hq => Or.inl hq))) f5 ⟨nu, ns + 1, nr, nn, nk, nq, hr, f7, f8 (e9 hbd)⟩)
  · have h5 : ns = 5 := by omega
    subst h5
    rw [if_neg hf, if_neg n1_0, if_pos rfl]
    exact cq_full R
theorem q_pays (R : Rel σx σm) (a : Int32) : Cm (FX11_pays 0 a σx) (FX12_pays 78 a σm) := by
  obtain ⟨⟨nu, ns, nr, nn, nk, np, hr, hI, hbd⟩, hT, -⟩ := id R
  have hu7 := hI.1.1
  unfold FX11_pays FX12_pays
  simp only [lk_0_0, lk_1_2, lk_78_0, ln_79]
  refine cq_bdx (isUser_x a σx) (cq_bdm (isUser_m a σm) ?_)
  rw [hI.2.2.1.1, hI.2.1.1]
  refine cq_guard R (fun h2 => ?_)
  obtain ⟨uu, hu, rfl⟩ := wi_cnt (by omega) h2
  obtain ⟨s1, s2, nq, e1, e2, e3, e4, e5, e6, e7, e9⟩ := keep_both hT.1.1 hI
  have hpt : FX9_put 4 (nI uu) (nI 3) (nI 0) s1 = some (pI s1 5 (uu * 4 + 3) (nI 0)) := put_in kd_4 e5.1.1 e7.2.2.1.1 ln_5 hu (by omega) (by omega) (by omega) (by omega) (by omega)
  refine cq_bdx e1 (cq_bdx (dues_x e5 e7 hu) (cq_nmx (cq_bdx hpt (cq_bdm e2 (cq_bdm (dues_m (by omega)) (cq_nmm ?_))))))
  rw [nI_muln, nI_addn]
  refine cq_gm (inb_n (by omega) (by omega)) (cq_nmm (cq_some ?_))
  rw [ix_n (by omega)]
  refine rel_now R ((e3.up (fun c hq => Or.inl (by rcases hq with hq | hq <;> omega))).tr (Eq0.pI (Or.inl (by omega)))) ((e4.up (fun c hq => Or.inl hq)).tr (Eq0.pI (Or.inl rfl))) ?_ ⟨nu, ns, nr, nn, nk, nq, hr, ?_⟩
  · refine e5.keep (fun d hd => ?_)
    rw [gI_pI_ne (by omega)]
    exact ⟨rfl, rfl⟩
  · rw [gI_pI_eq]
    exact ⟨ir_dues e7 hu (nI 0), bd_dues (e9 hbd) hu7 hu (by omega)⟩
theorem q_hears (R : Rel σx σm) (a : Int32) : Cm (FX11_hears 0 a σx) (FX12_hears 78 a σm) := by
  obtain ⟨⟨nu, ns, nr, nn, nk, np, hr, hI, hbd⟩, hT, -⟩ := id R
  have hu7 := hI.1.1
  have hs5 := hI.1.2.1
  unfold FX11_hears FX12_hears
  simp only [lk_0_0, lk_78_0, ln_79]
  refine cq_bdx (isSuit_x a σx) (cq_bdm (isSuit_m a σm) ?_)
  rw [hI.2.2.1.2.1, hI.2.1.2.1]
  refine cq_guard R (fun h2 => ?_)
  obtain ⟨vv, hv, rfl⟩ := wi_cnt (by omega) h2
  refine cq_bdx (heard_x hT.1.1 hI hv) (cq_bdm (heard_m (by omega)) ?_)
  by_cases hh : gI σm 79 (49 + 4 * vv) = nI 1
  · rw [if_pos hh, if_neg n1_0, if_neg n1_0]
    exact cq_no R
  rw [if_neg hh, if_pos nI_0, if_pos nI_0]
  obtain ⟨s1, s2, nq, e1, e2, e3, e4, e5, e6, e7, e9⟩ := keep_both hT.1.1 hI
  obtain ⟨kk, uu, hk, hu, g1, g2, g3, g4⟩ := awn_both e5 e7 hv
  obtain ⟨vw, hvw⟩ : ∃ vw, vw = awn (gI s2 79) vv kk uu := ⟨_, rfl⟩
  rw [← hvw] at g3 g4
  have hI1 := ir_won e7 (gI s2 79 67 + vw)
  have hI2 := ir_dues hI1 hu (nI 0)
  have hI3 := ir_heard hI2 hv (nI 1)
  have hT1 : TCw 1 (pI s1 1 9 (gI s2 79 67 + vw)) := e5.keep (fun d hd => by rw [gI_pI_ne (by omega)]; exact ⟨rfl, rfl⟩)
  have hT2 : TCw 1 (pI (pI s1 1 9 (gI s2 79 67 + vw)) (1 + 4) (uu * 4 + 3) (nI 0)) := hT1.keep (fun d hd => by rw [gI_pI_ne (by omega)]; exact ⟨rfl, rfl⟩)
  have hT3 : TCw 1 (pI (pI (pI s1 1 9 (gI s2 79 67 + vw)) (1 + 4) (uu * 4 + 3) (nI 0)) (1 + 6) (vv * 4 + 3) (nI 1)) := hT2.keep (fun d hd => by rw [gI_pI_ne (by omega)]; exact ⟨rfl, rfl⟩)
  have a1 : FX9_at 6 (nI vv) (nI 1) (pI s1 1 9 (gI s2 79 67 + vw)) = some (nI uu) := by
    rw [ir_suit kd_1 hT1 hI1 hv (cc := 1) (by omega), upd_ne (by omega), show 46 + 4 * vv + 1 = 47 + 4 * vv by omega, g2]
  have a2 : FX9_put 4 (nI uu) (nI 3) (nI 0) (pI s1 1 9 (gI s2 79 67 + vw)) = some (pI (pI s1 1 9 (gI s2 79 67 + vw)) (1 + 4) (uu * 4 + 3) (nI 0)) := put_in kd_4 hT1.1.1 hI1.2.2.1.1 ln_5 hu (by omega) (by omega) (by omega) (by omega) (by omega)
  have a3 : FX9_put 6 (nI vv) (nI 3) (nI 1) (pI (pI s1 1 9 (gI s2 79 67 + vw)) (1 + 4) (uu * 4 + 3) (nI 0)) = some (pI (pI (pI s1 1 9 (gI s2 79 67 + vw)) (1 + 4) (uu * 4 + 3) (nI 0)) (1 + 6) (vv * 4 + 3) (nI 1)) := put_in kd_6 hT2.2.1.1 hI2.2.2.1.2.1 ln_7 hv (by omega) (by omega) (by omega) (by omega) (by omega)
  have hx : FX4_hearSuit 1 (nI vv) s1 = some (vw, pI (pI (pI s1 1 9 (gI s2 79 67 + vw)) (1 + 4) (uu * 4 + 3) (nI 0)) (1 + 6) (vv * 4 + 3) (nI 1)) := by
    unfold FX4_hearSuit
    rw [bd_of g3, nm_eq, nm_eq, e7.2.2.1.2.2.2.2.2.2.2, lk_1_2, lk_1_3, bd_of a1, bd_of a2, bd_of a3]
  refine cq_bdx e1 (cq_bd2x hx (cq_bdm e2 (cq_bdm g4 (cq_nmm (cq_gm (inb_n (by omega) (by omega)) (cq_gm (inb_n (by omega) (by omega)) (cq_nmm ?_)))))))
  rw [ix_n (by omega)]
  refine cq_bdm (suitOf_eq ln_79 (by omega) (by omega) _) ?_
  rw [gI_pI_eq, upd_ne (by omega), show 46 + 4 * vv + 1 = 47 + 4 * vv by omega, g2, nI_muln, nI_addn, nI_muln, nI_addn]
  refine cq_gm (inb_n (by omega) (by omega)) (cq_nmm (cq_gm (inb_n (by omega) (by omega)) (cq_nmm (cq_some ?_))))
  rw [ix_n (by omega), ix_n (by omega)]
  refine rel_now R ((e3.up (fun c hq => Or.inl (by rcases hq with hq | hq <;> omega))).tr ((Eq0.pI (Or.inl (by omega))).tr ((Eq0.pI (Or.inl (by omega))).tr (Eq0.pI (Or.inl (by omega)))))) ((e4.up (fun c hq => Or.inl hq)).tr ((Eq0.pI (Or.inl rfl)).tr ((Eq0.pI (Or.inl rfl)).tr (Eq0.pI (Or.inl rfl))))) hT3 ⟨nu, ns, nr, nn, nk, nq, hr, ?_⟩
  rw [gI_pI_eq, gI_pI_eq, gI_pI_eq]
  have hb1 : Bd (upd (gI s2 79) 67 (gI s2 79 67 + vw)) nu ns nq hr := bd_cong (e9 hbd) (fun uu hu => upd_ne (by omega)) (fun vv hv => upd_ne (by omega)) (fun jj z h1 h2 => upd_ne (by omega)) hu7 (fun k k1 k2 => upd_ne (by omega))
  have hb2 := bd_dues (dd := 0) hb1 hu7 hu (by omega)
  exact ⟨hI3, bd_cong hb2 (fun uu hu => upd_ne (by omega)) (fun vv hv => upd_ne (by omega)) (fun jj z h1 h2 => upd_ne (by omega)) hu7 (fun k k1 k2 => upd_ne (by omega))⟩
/-! undo -/
def P5x (c : Nat) : Prop := c = 1 ∨ c = 5 ∨ c = 6 ∨ c = 7 ∨ c = 14
def BV (σ s : SS) (rr k2 : Nat) : Prop := Eq0 P5x σ s ∧ (gI s 1 8 = gI σ 15 (rr * 15 + 0) ∧ gI s 1 9 = gI σ 15 (rr * 15 + 1)) ∧ (gI s 6 0 = gI σ 6 0 ∧ gI s 6 1 = gI σ 6 1 ∧ gI s 6 3 = nI k2) ∧ gI s 14 = gI σ 14
theorem back_x {σ : SS} {rr k2 : Nat} (hT : TCw 1 σ) (h4 : gI σ 4 3 = nI nu) (h14 : gI σ 14 3 = nI (rr + 1)) (hu7 : nu ≤ 7) (hr7 : rr ≤ 7) (hk5 : k2 ≤ 5) (hk2 : gI σ 15 (rr * 15 + 2) = nI k2) :
    Ok (FX4_takeBack 1 σ) (fun σ' => Eq0 P5x σ σ' ∧ (gI σ' 1 8 = gI σ 15 (rr * 15 + 0) ∧ gI σ' 1 9 = gI σ 15 (rr * 15 + 1)) ∧ (gI σ' 6 0 = gI σ 6 0 ∧ gI σ' 6 1 = gI σ 6 1 ∧ gI σ' 6 3 = nI k2) ∧ (gI σ' 14 0 = gI σ 14 0 ∧ gI σ' 14 1 = gI σ 14 1 ∧ gI σ' 14 3 = nI rr) ∧
      (∀ uu cc, uu < nu → cc < 4 → gI σ' 5 (uu * 4 + cc) = if cc = 3 then gI σ 15 (rr * 15 + (3 + uu)) else gI σ 5 (uu * 4 + cc)) ∧ ∀ vv cc, vv < k2 → cc < 4 → gI σ' 7 (vv * 4 + cc) = if cc = 3 then gI σ 15 (rr * 15 + (10 + vv)) else gI σ 7 (vv * 4 + cc)) := by
  have t14 : gI σ 14 0 = nI 15 ∧ gI σ 14 1 = nI 8 := hT.2.2.2.2.2
  have t4 : gI σ 4 0 = nI 4 := hT.1.1
  have t6 : gI σ 6 0 = nI 4 := hT.2.1.1
  have at14 : ∀ (s : SS) (cc : Nat), gI s 14 = gI σ 14 → gI s 15 = gI σ 15 → cc < 15 → FX9_at 14 (nI rr) (nI cc) s = some (gI σ 15 (rr * 15 + cc)) := fun s cc g1 g2 g3 => by
    rw [at_in kd_14 (by rw [g1]; exact t14.1) (by rw [g1]; exact h14) ln_15 (by omega) g3 (by omega) (by omega) (by omega) (by omega)]
    exact congrArg some (congrFun g2 _)
  have n14 : ¬ P5x 15 := fun hq => by rcases hq with hq | hq | hq | hq | hq <;> omega
  have n4 : ¬ P5x 4 := fun hq => by rcases hq with hq | hq | hq | hq | hq <;> omega
  unfold FX4_takeBack
  simp only [lk_1_2, lk_1_3, lk_1_7, nm_eq]
  rw [h14, nI_subn (by omega), show rr + 1 - 1 = rr by omega]
  refine ok_bdr (at14 σ 0 rfl rfl (by omega)) (ok_bdr (at14 _ 1 (gI_pI_ne (by omega)) (gI_pI_ne (by omega)) (by omega)) (ok_bdr (at14 _ 2 (by rw [gI_pI_ne (by omega), gI_pI_ne (by omega)]) (by rw [gI_pI_ne (by omega), gI_pI_ne (by omega)]) (by omega)) ?_))
  rw [hk2]
  have hB0 : BV σ (pI (pI (pI σ 1 8 (gI σ 15 (rr * 15 + 0))) 1 9 (gI σ 15 (rr * 15 + 1))) 6 3 (nI k2)) rr k2 := by
    refine ⟨(Eq0.pI (Or.inl rfl)).tr ((Eq0.pI (Or.inl rfl)).tr (Eq0.pI (Or.inr (Or.inr (Or.inl rfl))))), ⟨?_, ?_⟩, ⟨?_, ?_, ?_⟩, ?_⟩
    · rw [gI_pI_ne (by omega), gI_pI_eq, upd_ne (by omega), gI_pI_eq, upd_eq]
    · rw [gI_pI_ne (by omega), gI_pI_eq, upd_eq]
    · rw [gI_pI_eq, upd_ne (by omega), gI_pI_ne (by omega), gI_pI_ne (by omega)]
    · rw [gI_pI_eq, upd_ne (by omega), gI_pI_ne (by omega), gI_pI_ne (by omega)]
    · rw [gI_pI_eq, upd_eq]
    · rw [gI_pI_ne (by omega), gI_pI_ne (by omega), gI_pI_ne (by omega)]
  refine ok_bd (ok_lp (fun jj xx => ∃ s, xx = (nI jj, s) ∧ BV σ s rr k2 ∧ gI s 7 = gI σ 7 ∧ ∀ k, gI s 5 k = if k % 4 = 3 ∧ k / 4 < jj then gI σ 15 (rr * 15 + (3 + k / 4)) else gI σ 5 k) nu (by omega) (Q := fun s => BV σ s rr k2 ∧ gI s 7 = gI σ 7 ∧ ∀ k, gI s 5 k = if k % 4 = 3 ∧ k / 4 < nu then gI σ 15 (rr * 15 + (3 + k / 4)) else gI σ 5 k) ⟨_, rfl, hB0, by rw [gI_pI_ne (by omega), gI_pI_ne (by omega), gI_pI_ne (by omega)], fun k => by rw [gI_pI_ne (by omega), gI_pI_ne (by omega), gI_pI_ne (by omega), if_neg (by omega)]⟩ ?_) ?_
  · rintro jj xx hj ⟨s, rfl, hB, h7, hU⟩
    have z4 : gI s 4 = gI σ 4 := hB.1.1 4 n4
    rw [u2_s, z4, h4]
    refine ok_ite (fun hc => ok_some ?_) (fun hc => ?_)
    · have hjj : jj = nu := by have := le_of_nI hc (by omega) (by omega); omega
      subst hjj
      exact ⟨hB, h7, hU⟩
    have hj2 := lt_of_nle hc (by omega) (by omega)
    rw [nI_addn, nI_addn]
    have hp : FX9_put 4 (nI jj) (nI 3) (gI σ 15 (rr * 15 + (3 + jj))) s = some (pI s 5 (jj * 4 + 3) (gI σ 15 (rr * 15 + (3 + jj)))) := put_in kd_4 (by rw [z4]; exact t4) (by rw [z4]; exact h4) ln_5 hj2 (by omega) (by omega) (by omega) (by omega) (by omega)
    refine ok_bdr (at14 s (3 + jj) hB.2.2.2 (hB.1.1 15 n14) (by omega)) (ok_bdr hp (ok_some ⟨hj2, _, rfl, ?_, ?_, fun k => ?_⟩))
    · obtain ⟨g1, g2, g3, g4⟩ := hB
      refine ⟨g1.tr (Eq0.pI (Or.inr (Or.inl rfl))), ?_, ?_, ?_⟩
      · rw [gI_pI_ne (by omega)]; exact g2
      · rw [gI_pI_ne (by omega)]; exact g3
      · rw [gI_pI_ne (by omega)]; exact g4
    · rw [gI_pI_ne (by omega)]; exact h7
    · rw [gI_pI_eq, upd_ap]
      by_cases hq : k = jj * 4 + 3
      · rw [if_pos hq, if_pos (by omega), show k / 4 = jj by omega]
      · rw [if_neg hq, hU k]
        by_cases hq2 : k % 4 = 3 ∧ k / 4 < jj
        · rw [if_pos hq2, if_pos (by omega)]
        · rw [if_neg hq2, if_neg (by omega)]
  rintro s4 ⟨hB4, h74, hU4⟩
  refine ok_bd (ok_lp (fun jj xx => ∃ s, xx = (nI jj, s) ∧ BV σ s rr k2 ∧ gI s 5 = gI s4 5 ∧ ∀ k, gI s 7 k = if k % 4 = 3 ∧ k / 4 < jj then gI σ 15 (rr * 15 + (10 + k / 4)) else gI σ 7 k) k2 (by omega) (Q := fun s => BV σ s rr k2 ∧ gI s 5 = gI s4 5 ∧ ∀ k, gI s 7 k = if k % 4 = 3 ∧ k / 4 < k2 then gI σ 15 (rr * 15 + (10 + k / 4)) else gI σ 7 k) ⟨_, rfl, hB4, rfl, fun k => by rw [h74, if_neg (by omega)]⟩ ?_) ?_
  · rintro jj xx hj ⟨s, rfl, hB, h5, hV⟩
    rw [u2_s, hB.2.2.1.2.2]
    refine ok_ite (fun hc => ok_some ?_) (fun hc => ?_)
    · have hjj : jj = k2 := by have := le_of_nI hc (by omega) (by omega); omega
      subst hjj
      exact ⟨hB, h5, hV⟩
    have hj2 := lt_of_nle hc (by omega) (by omega)
    rw [nI_addn, nI_addn]
    have hp : FX9_put 6 (nI jj) (nI 3) (gI σ 15 (rr * 15 + (10 + jj))) s = some (pI s 7 (jj * 4 + 3) (gI σ 15 (rr * 15 + (10 + jj)))) := put_in kd_6 (hB.2.2.1.1.trans t6) hB.2.2.1.2.2 ln_7 hj2 (by omega) (by omega) (by omega) (by omega) (by omega)
    refine ok_bdr (at14 s (10 + jj) hB.2.2.2 (hB.1.1 15 n14) (by omega)) (ok_bdr hp (ok_some ⟨hj2, _, rfl, ?_, ?_, fun k => ?_⟩))
    · obtain ⟨g1, g2, g3, g4⟩ := hB
      refine ⟨g1.tr (Eq0.pI (Or.inr (Or.inr (Or.inr (Or.inl rfl))))), ?_, ?_, ?_⟩
      · rw [gI_pI_ne (by omega)]; exact g2
      · rw [gI_pI_ne (by omega)]; exact g3
      · rw [gI_pI_ne (by omega)]; exact g4
    · rw [gI_pI_ne (by omega)]; exact h5
    · rw [gI_pI_eq, upd_ap]
      by_cases hq : k = jj * 4 + 3
      · rw [if_pos hq, if_pos (by omega), show k / 4 = jj by omega]
      · rw [if_neg hq, hV k]
        by_cases hq2 : k % 4 = 3 ∧ k / 4 < jj
        · rw [if_pos hq2, if_pos (by omega)]
        · rw [if_neg hq2, if_neg (by omega)]
  · rintro s ⟨⟨g1, g2, g3, g4⟩, hU, hV⟩
    have hmx : imax (nI rr) (nI 0) = nI rr := by
      unfold imax
      rw [if_neg (fun hq => by have := (nI_ltn (by omega) (by omega)).mp hq; omega)]
    rw [hmx]
    refine ok_some ⟨g1.tr (Eq0.pI (Or.inr (Or.inr (Or.inr (Or.inr rfl))))), ?_, ?_, ⟨?_, ?_, ?_⟩, fun uu cc hu hc => ?_, fun vv cc hv hc => ?_⟩
    · rw [gI_pI_ne (by omega)]; exact g2
    · rw [gI_pI_ne (by omega)]; exact g3
    · rw [gI_pI_eq, upd_ne (by omega), g4]
    · rw [gI_pI_eq, upd_ne (by omega), g4]
    · rw [gI_pI_eq, upd_eq]
    · rw [gI_pI_ne (by omega), hU, hU4]
      by_cases hq : cc = 3
      · rw [if_pos (by omega), if_pos hq, show (uu * 4 + cc) / 4 = uu by omega]
      · rw [if_neg (by omega), if_neg hq]
    · rw [gI_pI_ne (by omega), hV]
      by_cases hq : cc = 3
      · rw [if_pos (by omega), if_pos hq, show (vv * 4 + cc) / 4 = vv by omega]
      · rw [if_neg (by omega), if_neg hq]
theorem undo_m {σ : SS} {rr : Nat} (h137 : gI σ 79 137 = nI (rr + 1)) (hr7 : rr ≤ 7) :
    ∃ σ', FX12_undo 78 σ = some (gI σ 79 (138 + 30 * rr + 28), σ') ∧ Eq0 P79 σ σ' ∧ gI σ' 79 137 = nI rr ∧ (∀ uu, uu < 7 → gI σ' 79 (20 + 4 * uu) = gI σ 79 (138 + 30 * rr + uu)) ∧ (∀ k, k < 23 → gI σ' 79 (45 + k) = gI σ 79 (138 + 30 * rr + (7 + k))) ∧ ∀ k, k ≠ 137 → (k < 45 ∧ (∀ uu, uu < 7 → k ≠ 20 + 4 * uu)) ∨ 68 ≤ k → gI σ' 79 k = gI σ 79 k := by
  suffices hh : Ok (FX12_undo 78 σ) (fun yy => yy.1 = gI σ 79 (138 + 30 * rr + 28) ∧ Eq0 P79 σ yy.2 ∧ gI yy.2 79 137 = nI rr ∧ (∀ uu, uu < 7 → gI yy.2 79 (20 + 4 * uu) = gI σ 79 (138 + 30 * rr + uu)) ∧ (∀ k, k < 23 → gI yy.2 79 (45 + k) = gI σ 79 (138 + 30 * rr + (7 + k))) ∧ ∀ k, k ≠ 137 → (k < 45 ∧ (∀ uu, uu < 7 → k ≠ 20 + 4 * uu)) ∨ 68 ≤ k → gI yy.2 79 k = gI σ 79 k) by
    obtain ⟨⟨y1, y2⟩, g1, g2, g3⟩ := hh
    dsimp only at g2 g3
    subst g2
    exact ⟨y2, g1, g3⟩
  unfold FX12_undo
  simp only [lk_78_0, ln_79, nm_eq]
  rw [ix_n (n := 137) (by omega), h137, nI_subn (by omega), show rr + 1 - 1 = rr by omega]
  refine ok_gn (by omega) (by omega) (ok_if (fun hq => by have := (nI_eqn (a := rr + 1) (b := 0) (by omega) (by omega)).mp (hq.trans zI); omega) (ok_gn (by omega) (by omega) (ok_gn (by omega) (by omega) (ok_gn (by omega) (by omega) ?_))))
  rw [gI_pI_eq, upd_eq, nI_muln, nI_addn]
  refine ok_bd (ok_lp (fun jj xx => ∃ s, xx = (nI jj, s) ∧ Eq0 P79 σ s ∧ gI s 79 137 = nI rr ∧ (∀ uu, uu < jj → gI s 79 (20 + 4 * uu) = gI σ 79 (138 + 30 * rr + uu)) ∧ ∀ k, k ≠ 137 → (45 ≤ k ∨ ∀ uu, uu < 7 → k ≠ 20 + 4 * uu) → gI s 79 k = gI σ 79 k) 7 (by omega) (Q := fun s => Eq0 P79 σ s ∧ gI s 79 137 = nI rr ∧ (∀ uu, uu < 7 → gI s 79 (20 + 4 * uu) = gI σ 79 (138 + 30 * rr + uu)) ∧ ∀ k, k ≠ 137 → (45 ≤ k ∨ ∀ uu, uu < 7 → k ≠ 20 + 4 * uu) → gI s 79 k = gI σ 79 k) ⟨_, rfl, Eq0.pI rfl, ?_, fun _ hq => absurd hq (Nat.not_lt_zero _), fun k hk _ => ?_⟩ ?_) ?_
  · rw [gI_pI_eq, upd_eq]
  · rw [gI_pI_eq, upd_ne hk]
  · rintro jj xx hj ⟨s, rfl, g1, g2, g3, g4⟩
    rw [u2_s]
    refine ok_ite (fun hc => ok_some ?_) (fun hc => ?_)
    · have hjj : jj = 7 := by have := le_of_nI hc (by omega) (by omega); omega
      subst hjj
      exact ⟨g1, g2, g3, g4⟩
    have hj2 := lt_of_nle hc (by omega) (by omega)
    rw [nI_addn _ jj, nI_muln, nI_addn, nI_addn]
    refine ok_gn (by omega) (by omega) (ok_gn (by omega) (by omega) (ok_some ⟨hj2, _, rfl, g1.tr (Eq0.pI rfl), ?_, fun uu hu => ?_, fun k hk hk2 => ?_⟩))
    · rw [ix_n (by omega), gI_pI_eq, upd_ne (by omega)]; exact g2
    · rw [ix_n (by omega), ix_n (by omega), gI_pI_eq, upd_ap]
      by_cases hq : uu = jj
      · rw [if_pos (by omega), hq]; exact g4 _ (by omega) (Or.inl (by omega))
      · rw [if_neg (by omega)]; exact g3 uu (by omega)
    · rw [ix_n (by omega), gI_pI_eq, upd_ne (fun hq => hk2.elim (fun hz => by omega) (fun hz => hz jj hj2 hq))]; exact g4 k hk hk2
  rintro s4 ⟨g1, g2, g3, g4⟩
  rw [nI_addn _ 7]
  refine ok_bd (ok_lp (fun jj xx => ∃ s, xx = (nI jj, s) ∧ Eq0 P79 σ s ∧ (∀ k, k < jj → gI s 79 (45 + k) = gI σ 79 (138 + 30 * rr + (7 + k))) ∧ ∀ k, k < 45 ∨ 68 ≤ k → gI s 79 k = gI s4 79 k) 23 (by omega) (Q := fun s => Eq0 P79 σ s ∧ (∀ k, k < 23 → gI s 79 (45 + k) = gI σ 79 (138 + 30 * rr + (7 + k))) ∧ ∀ k, k < 45 ∨ 68 ≤ k → gI s 79 k = gI s4 79 k) ⟨_, rfl, g1, fun _ hq => absurd hq (Nat.not_lt_zero _), fun _ _ => rfl⟩ ?_) ?_
  · rintro jj xx hj ⟨s, rfl, k1, k2, k3⟩
    rw [u2_s]
    refine ok_ite (fun hc => ok_some ?_) (fun hc => ?_)
    · have hjj : jj = 23 := by have := le_of_nI hc (by omega) (by omega); omega
      subst hjj
      exact ⟨k1, k2, k3⟩
    have hj2 := lt_of_nle hc (by omega) (by omega)
    rw [nI_addn _ jj, nI_addn 45, nI_addn]
    refine ok_gn (by omega) (by omega) (ok_gn (by omega) (by omega) (ok_some ⟨hj2, _, rfl, k1.tr (Eq0.pI rfl), fun k hk => ?_, fun k hk => ?_⟩))
    · rw [ix_n (by omega), ix_n (by omega), gI_pI_eq, upd_ap]
      by_cases hq : k = jj
      · rw [if_pos (by omega), hq, k3 _ (by omega), g4 _ (by omega) (Or.inl (by omega))]
        congr 1; omega
      · rw [if_neg (by omega)]; exact k2 k (by omega)
    · rw [ix_n (by omega), gI_pI_eq, upd_ne (by omega)]; exact k3 k hk
  · rintro s ⟨k1, k2, k3⟩
    refine ok_gn (by omega) (by omega) (ok_some ⟨?_, k1, (k3 137 (by omega)).trans g2, fun uu hu => ?_, k2, fun k hk hk2 => ?_⟩)
    · dsimp only
      rw [ix_n (by omega)]
      exact k2 21 (by omega)
    · rw [k3 _ (by omega)]; exact g3 uu hu
    · rw [k3 k (by omega)]
      exact g4 k hk (hk2.elim (fun hz => Or.inr hz.2) (fun hz => Or.inl (by omega)))
theorem q_undo (R : Rel σx σm) : Cm (FX11_undo 0 σx) (FX12_undo 78 σm) := by
  obtain ⟨⟨nu, ns, nr, nn, nk, np, hr, hI, hbd⟩, hT, -⟩ := id R
  obtain ⟨h1, h2, h3, h4, h5, h6, h7, p1z, p2z, p3z, kk, p4, p5⟩ := hI.parts
  have e14 : gI σx 14 3 = nI np := p3z
  unfold FX11_undo
  simp only [lk_0_0, lk_1_7]
  rw [e14]
  rcases Nat.eq_zero_or_pos np with hz | hz
  · subst hz
    unfold FX12_undo
    simp only [lk_78_0, ln_79]
    refine cq_itx nI_0 (cq_gm (inb_n (by omega) (by omega)) ?_)
    rw [ix_n (by omega), p2z]
    exact cq_itm nI_0 (cq_no R)
  obtain ⟨rr, rfl⟩ : ∃ rr, np = rr + 1 := ⟨np - 1, by omega⟩
  have hr7 : rr ≤ 7 := by omega
  obtain ⟨q0, ⟨q1, h2z, q1a, q1b⟩, q2, q3, q4, q5, q6⟩ := p5 rr (by omega)
  have hu7 := h2.1
  have hs5 := h3.1
  obtain ⟨σx', e1, e2, ⟨e3, e4⟩, ⟨e5, e6, e7⟩, ⟨e8, e9, e10⟩, e11, e12⟩ := back_x (k2 := kk rr) hT.1.1 h2.2.2.1 e14 hu7 hr7 (by omega) q3.1
  obtain ⟨σm', f1, f2, f3, f4, f5, f6⟩ := undo_m p2z hr7
  refine cq_ifx (fun hq => by have := (nI_eqn (a := rr + 1) (b := 0) (by omega) (by omega)).mp (hq.trans zI); omega) (cq_bdx e1 ?_)
  have ha8 : gI σx' 1 8 = gI σm 79 (138 + 30 * rr + 28) := e3.trans q1
  rw [ha8, f1]
  refine cq_some ?_
  have ex : ∀ c, ¬ P5x c → gI σx' c = gI σx c := e2.1
  have nx : ∀ {c}, c = 2 ∨ c = 3 ∨ c = 4 ∨ (8 ≤ c ∧ c ≤ 13) ∨ c = 15 → ¬ P5x c := fun hc hq => by rcases hq with hq | hq | hq | hq | hq <;> omega
  have hT2 : TCw 1 σx' := by
    refine hT.1.1.keep (fun d hd2 => ?_)
    rcases hd2 with rfl | rfl | rfl | rfl | rfl | rfl
    · rw [ex _ (nx (by omega))]; exact ⟨rfl, rfl⟩
    · exact ⟨e5, e6⟩
    · rw [ex _ (nx (by omega))]; exact ⟨rfl, rfl⟩
    · rw [ex _ (nx (by omega))]; exact ⟨rfl, rfl⟩
    · rw [ex _ (nx (by omega))]; exact ⟨rfl, rfl⟩
    · exact ⟨e8, e9⟩
  have ek : ∀ vv ww, vv < kk rr → ww < 3 → gI σm' 79 (46 + 4 * vv + ww) = gI σm 79 (46 + 4 * vv + ww) := fun vv ww hv hw => by
    have := f5 (1 + 4 * vv + ww) (by omega)
    rw [show 45 + (1 + 4 * vv + ww) = 46 + 4 * vv + ww by omega, show 138 + 30 * rr + (7 + (1 + 4 * vv + ww)) = 138 + 30 * rr + 8 + 4 * vv + ww by omega, q6 vv hv ww hw] at this
    exact this
  refine rel_now R (e2.up (fun c hq => Or.inl (by rcases hq with hq | hq | hq | hq | hq <;> omega))) (f2.up (fun c hq => Or.inl hq)) hT2 ⟨nu, kk rr, nr, nn, nk, rr, h2z, ?_, ?_⟩
  rotate_left
  · obtain ⟨b1z, b2z, b3z, b4z⟩ := hbd
    refine ⟨fun uu hu => ?_, fun vv hv => ?_, fun jj hj => ?_, nb_cong b4z (fun k k1 k2 => f6 k (by omega) (Or.inr (by omega)))⟩
    · obtain ⟨hh, y1, y2, y3⟩ := b3z rr (by omega)
      have hhe : hh = h2z := (nI_eqn (by omega) (by omega)).mp (y2.symm.trans q1b)
      subst hhe
      rw [f4 uu (by omega)]
      exact y3 uu hu
    · have w3z := ek vv 2 hv (by omega)
      rw [show 46 + 4 * vv + 2 = 48 + 4 * vv by omega] at w3z
      rw [w3z]
      exact b2z vv (by omega)
    · obtain ⟨hh, y1, y2, y3⟩ := b3z jj (by omega)
      refine ⟨hh, y1, ?_, fun uu hu => ?_⟩
      · rw [f6 _ (by omega) (Or.inr (by omega))]; exact y2
      · rw [f6 _ (by omega) (Or.inr (by omega))]; exact y3 uu hu
  refine ir_of (h1.cong (ex _ (nx (by omega))) (ex _ (nx (by omega))) (fun k g1 => f6 k (by omega) (Or.inl ⟨by omega, by omega⟩))) ⟨hu7, ?_, ?_, fun uu cc hu hc => ?_, ?_⟩ ⟨by omega, ?_, e7, fun vv cc hv hc => ?_, fun vv hv => ?_⟩ (h4.cong (by rw [ex _ (nx (by omega))]) (ex _ (nx (by omega))) (fun k g1 g2 => f6 k (by omega) (Or.inr (by omega)))) (h5.cong (by rw [ex _ (nx (by omega))]) (ex _ (nx (by omega))) (fun k g1 g2 => f6 k (by omega) (Or.inr (by omega)))) (h6.cong (by rw [ex _ (nx (by omega))]) (ex _ (nx (by omega))) (fun k g1 g2 => f6 k (by omega) (Or.inr (by omega)))) ⟨q1a, ?_, ?_, ?_⟩ ⟨by omega, f3, e10, kk, fun ii jj hij hj => p4 ii jj hij (by omega), fun jj hj => ?_⟩
  · rw [f6 16 (by omega) (Or.inl ⟨by omega, by omega⟩)]; exact h2.2.1
  · rw [ex _ (nx (by omega))]; exact h2.2.2.1
  · show gI σx' 5 _ = _
    rw [e11 uu cc hu hc]
    by_cases hq : cc = 3
    · rw [if_pos hq, hq, show 17 + 4 * uu + 3 = 20 + 4 * uu by omega, f4 uu (by omega)]; exact q4 uu hu
    · rw [if_neg hq, f6 _ (by omega) (Or.inl ⟨by omega, by omega⟩)]; exact h2.2.2.2.1 uu cc hu hc
  · obtain ⟨K, C, H, g1, g2⟩ := h2.2.2.2.2
    refine ⟨K, C, H, g1, fun uu hu => ?_⟩
    rw [f6 (17 + 4 * uu) (by omega) (Or.inl ⟨by omega, by omega⟩), f6 (18 + 4 * uu) (by omega) (Or.inl ⟨by omega, by omega⟩), f6 (19 + 4 * uu) (by omega) (Or.inl ⟨by omega, by omega⟩)]
    exact g2 uu hu
  · have := f5 0 (by omega)
    exact this.trans q3.2
  · show gI σx' 7 _ = _
    rw [e12 vv cc hv hc]
    by_cases hq : cc = 3
    · have := f5 (1 + 4 * vv + 3) (by omega)
      rw [show 45 + (1 + 4 * vv + 3) = 46 + 4 * vv + 3 by omega, show 138 + 30 * rr + (7 + (1 + 4 * vv + 3)) = 138 + 30 * rr + 8 + 4 * vv + 3 by omega] at this
      rw [if_pos hq, hq, this]; exact q5 vv hv
    · rw [if_neg hq, ek vv cc hv (by omega)]; exact h3.2.2.2.1 vv cc (by omega) hc
  · have w1 := ek vv 0 hv (by omega)
    have w2z := ek vv 1 hv (by omega)
    rw [show 46 + 4 * vv + 1 = 47 + 4 * vv by omega] at w2z
    rw [show 46 + 4 * vv + 0 = 46 + 4 * vv by omega] at w1
    rw [w1, w2z]
    exact h3.2.2.2.2 vv (by omega)
  · exact (f5 21 (by omega)).trans q1b
  · exact ha8.trans q1b
  · exact e4.trans (q2.trans (f5 22 (by omega)).symm)
  · have e15 : gI σx' (1 + 14) = gI σx (1 + 14) := ex 15 (nx (by omega))
    obtain ⟨y0, ⟨y1, h3z, y1a, y1b⟩, y2, y3, y4, y5, y6⟩ := p5 jj (by omega)
    have hkj := p4 jj rr (by omega) (by omega)
    have eρ : ∀ z, z < 30 → gI σm' 79 (138 + 30 * jj + z) = gI σm 79 (138 + 30 * jj + z) := fun z hz2 => f6 _ (by omega) (Or.inr (by omega))
    rw [e15]
    refine ⟨hkj, ⟨?_, h3z, y1a, ?_⟩, ?_, ⟨y3.1, ?_⟩, fun uu hu => ?_, fun vv hv => ?_, fun vv hv ww hw => ?_⟩
    · rw [eρ 28 (by omega)]; exact y1
    · rw [eρ 28 (by omega)]; exact y1b
    · rw [eρ 29 (by omega)]; exact y2
    · rw [eρ 7 (by omega)]; exact y3.2
    · rw [eρ uu (by omega)]; exact y4 uu hu
    · rw [f6 (138 + 30 * jj + 8 + 4 * vv + 3) (by omega) (Or.inr (by omega))]; exact y5 vv hv
    · rw [f6 (138 + 30 * jj + 8 + 4 * vv + ww) (by omega) (Or.inr (by omega)), ek vv ww (by omega) hw]; exact y6 vv hv ww hw
end C9
