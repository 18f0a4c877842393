/-! ===== a blow, reckoned in Nat ===== -/
def bi (S : Nat → Bool) (K C H : Nat → Nat) (cc : Nat) : Nat → Nat → Nat
  | 0, ss => ss
  | uu + 1, ss => if S uu = true ∧ C uu = cc then bi S K C H cc uu ss - tk (K uu) (H uu) (bi S K C H cc uu ss) else bi S K C H cc uu ss
def bp (sd cc : Nat) : Nat := if sd = 0 then cc else 11 - cc
def bw (S : Nat → Bool) (K C H : Nat → Nat) (nn w0s sd : Nat) : Nat → Nat
  | 0 => w0s
  | jj + 1 => min (bi S K C H (bp sd jj) nn (bw S K C H nn w0s sd jj) + 1) w0s
def bf (S : Nat → Bool) (K C H : Nat → Nat) (nn w0s sd : Nat) (vv : Nat) : Nat := tk (K vv) (H vv) (bi S K C H (C vv) vv (bw S K C H nn w0s sd (bp sd (C vv))))
theorem bi_le (S : Nat → Bool) (K C H : Nat → Nat) (cc ss : Nat) : ∀ uu, bi S K C H cc uu ss ≤ ss
  | 0 => Nat.le_refl _
  | uu + 1 => by
    have hle := bi_le S K C H cc ss uu
    simp only [bi]
    split
    · omega
    · exact hle
theorem bw_le (S : Nat → Bool) (K C H : Nat → Nat) (nn w0s sd : Nat) : ∀ jj, bw S K C H nn w0s sd jj ≤ w0s
  | 0 => Nat.le_refl _
  | jj + 1 => Nat.min_le_right _ _
theorem bp_bp {sd cc : Nat} (h : cc < 12) : bp sd (bp sd cc) = cc := by unfold bp; split <;> omega
theorem bp_lt {sd cc : Nat} (h : cc < 12) : bp sd cc < 12 := by unfold bp; split <;> omega
theorem bp_in {sd c1 c2 : Nat} (h1 : c1 < 12) (h2 : c2 < 12) (h : bp sd c1 = bp sd c2) : c1 = c2 := by unfold bp at h; split at h <;> omega
theorem bi_cong {S S' : Nat → Bool} {K K' C C' H H' : Nat → Nat} {cc ss : Nat} : ∀ {nn : Nat}, (∀ uu, uu < nn → S uu = S' uu ∧ (S uu = true → K uu = K' uu ∧ C uu = C' uu ∧ H uu = H' uu)) → bi S K C H cc nn ss = bi S' K' C' H' cc nn ss
  | 0, _ => rfl
  | nn + 1, hh => by
    have hr := bi_cong (nn := nn) (cc := cc) (ss := ss) (fun uu hu => hh uu (by omega))
    obtain ⟨hs, hk⟩ := hh nn (by omega)
    simp only [bi]
    rw [hr]
    by_cases hS : S nn = true
    · obtain ⟨hk1, hk2, hk3⟩ := hk hS
      rw [← hs, hk1, hk2, hk3]
    · rw [if_neg (fun q => hS q.1), if_neg (fun q => hS (hs ▸ q.1))]
theorem bw_cong {S S' : Nat → Bool} {K K' C C' H H' : Nat → Nat} {nn w0s sd : Nat} (hh : ∀ uu, uu < nn → S uu = S' uu ∧ (S uu = true → K uu = K' uu ∧ C uu = C' uu ∧ H uu = H' uu)) : ∀ jj, bw S K C H nn w0s sd jj = bw S' K' C' H' nn w0s sd jj
  | 0 => rfl
  | jj + 1 => by simp only [bw]; rw [bw_cong hh jj, bi_cong hh]
theorem bf_cong {S S' : Nat → Bool} {K K' C C' H H' : Nat → Nat} {nn w0s sd vv : Nat} (hv : vv < nn) (hS : S vv = true) (hh : ∀ uu, uu < nn → S uu = S' uu ∧ (S uu = true → K uu = K' uu ∧ C uu = C' uu ∧ H uu = H' uu)) : bf S K C H nn w0s sd vv = bf S' K' C' H' nn w0s sd vv := by
  obtain ⟨-, hk⟩ := hh vv hv
  obtain ⟨hk1, hk2, hk3⟩ := hk hS
  unfold bf
  rw [hk1, hk2, hk3, bw_cong hh, bi_cong (fun uu hu => hh uu (by omega))]
/-- the users of a row: kinds, cells, heights -/
def UR (nn : Nat) (K C H : Nat → Nat) : Prop := nn ≤ 7 ∧ ∀ uu, uu < nn → K uu ≤ 5 ∧ C uu ≤ 11 ∧ 1 ≤ H uu ∧ H uu ≤ 4
theorem bf_le {S : Nat → Bool} {K C H : Nat → Nat} {nn w0s sd vv : Nat} (hU : UR nn K C H) (hv : vv < nn) (hs : w0s ≤ 20) : bf S K C H nn w0s sd vv ≤ 20 := by
  obtain ⟨hk, hc, hh1, hh2⟩ := hU.2 vv hv
  have e1 := bw_le S K C H nn w0s sd (bp sd (C vv))
  have e2 := bi_le S K C H (C vv) (bw S K C H nn w0s sd (bp sd (C vv))) vv
  have e3 := tk_le hk hh2 (show bi S K C H (C vv) vv (bw S K C H nn w0s sd (bp sd (C vv))) ≤ 20 by omega)
  unfold bf
  omega
/-- what a blow leaves in its rows -/
def BR (σ' : SS) (ct ca cb : Nat) (S : Nat → Bool) (K C H : Nat → Nat) (nn w0s sd : Nat) : Prop :=
  (∀ vv, vv < nn → S vv = true → gI σ' ct vv = nI (bf S K C H nn w0s sd vv)) ∧ ∀ cc, cc < 12 → gI σ' ca cc = nI (bw S K C H nn w0s sd (bp sd cc)) ∧ gI σ' cb cc = nI (bi S K C H cc nn (bw S K C H nn w0s sd (bp sd cc)))
/-- the model's row of users -/
def MR (σ : SS) (aa nn : Nat) (K C H : Nat → Nat) : Prop := ln aa = 378 ∧ aa ≠ 84 ∧ aa ≠ 85 ∧ aa ≠ 86 ∧ gI σ aa 16 = nI nn ∧ ∀ uu, uu < nn → gI σ aa (17 + 4 * uu) = nI (K uu) ∧ gI σ aa (18 + 4 * uu) = nI (C uu) ∧ gI σ aa (19 + 4 * uu) = nI (H uu)
theorem userOf_eq {aa uu ww : Nat} (hl : ln aa = 378) (h1 : uu < 50) (h2 : ww < 50) (σ : SS) : FX12_userOf aa (nI uu) (nI ww) σ = some (gI σ aa (17 + 4 * uu + ww)) := by
  unfold FX12_userOf
  rw [nI_muln, nI_addn, nI_addn, hl, gd_n (by omega) (by omega), ix_n (by omega)]
theorem MR.kept {σ σ' : SS} {aa nn : Nat} {K C H : Nat → Nat} {P : Nat → Prop} (h : MR σ aa nn K C H) (hE : Eq0 P σ σ') (hP : ¬ P aa) : MR σ' aa nn K C H := by
  obtain ⟨h1, h2, h3, h4, h5, h6⟩ := h
  exact ⟨h1, h2, h3, h4, by rw [hE.1 aa hP]; exact h5, fun uu hu => by rw [hE.1 aa hP]; exact h6 uu hu⟩
def P3 (c : Nat) : Prop := c = 84 ∨ c = 85 ∨ c = 86
theorem nI_le_iff {aa bb : Nat} (ha : aa < 100000) (hb : bb < 100000) : nI aa ≤ nI bb ↔ aa ≤ bb := nI_len (by omega) (by omega)
/-- the model's blow -/
theorem blow_m {σ : SS} {aa nn w0s sd mm : Nat} {K C H : Nat → Nat} (hU : UR nn K C H) (hR : MR σ aa nn K C H) (hw : w0s ≤ 20) (hsd : sd ≤ 1) (hm : mm < 2147483648) :
    Ok (FX12_blow 78 aa (nI w0s) (nI sd) (nI mm) σ) (fun σ' => Eq0 P3 σ σ' ∧ BR σ' 84 85 86 (fun uu => mm.testBit uu) K C H nn w0s sd) := by
  have hPa : ¬ P3 aa := fun hq => hq.elim hR.2.1 (fun hq2 => hq2.elim hR.2.2.1 hR.2.2.2.1)
  have hnn := hU.1
  unfold FX12_blow
  simp only [lk_78_7, lk_78_8, lk_78_9, ln_84, ln_85, ln_86]
  refine ok_nm (ok_nm (ok_bd (ok_lp (fun jj xx => ∃ σ', xx = (nI (bw (fun uu => mm.testBit uu) K C H nn w0s sd jj), nI jj, σ') ∧ Eq0 P3 σ σ' ∧ (∀ vv, vv < nn → mm.testBit vv = true → bp sd (C vv) < jj → gI σ' 84 vv = nI (bf (fun uu => mm.testBit uu) K C H nn w0s sd vv)) ∧ ∀ cc, cc < 12 → bp sd cc < jj → gI σ' 85 cc = nI (bw (fun uu => mm.testBit uu) K C H nn w0s sd (bp sd cc)) ∧ gI σ' 86 cc = nI (bi (fun uu => mm.testBit uu) K C H cc nn (bw (fun uu => mm.testBit uu) K C H nn w0s sd (bp sd cc)))) 12 (by omega)
    (Q := fun σ' => Eq0 P3 σ σ' ∧ BR σ' 84 85 86 (fun uu => mm.testBit uu) K C H nn w0s sd) ⟨σ, rfl, Eq0.rf, fun _ _ _ hq => absurd hq (Nat.not_lt_zero _), fun _ _ hq => absurd hq (Nat.not_lt_zero _)⟩ ?_) (fun σ' hh => ok_some hh)))
  rintro jj xx hj ⟨σ1, rfl, hE1, hT1, hA1⟩
  rw [u3_s]
  refine ok_ite (fun hc => ok_some ?_) (fun hc => ?_)
  · have hj2 : jj = 12 := by have := (nI_le_iff (by omega) (by omega)).mp hc; omega
    subst hj2
    exact ⟨hE1, fun vv hv hS => hT1 vv hv hS (bp_lt (by have := (hU.2 vv hv).2.1; omega)), fun cc hcc => hA1 cc hcc (bp_lt hcc)⟩
  have hj2 : jj < 12 := by
    rcases Nat.lt_or_ge jj 12 with hq | hq
    · exact hq
    · exact absurd ((nI_le_iff (by omega) (by omega)).mpr hq) hc
  have hwj : bw (fun uu => mm.testBit uu) K C H nn w0s sd jj ≤ 20 := by have := bw_le (fun uu => mm.testBit uu) K C H nn w0s sd jj; omega
  have hcl : bp sd jj < 12 := bp_lt hj2
  have hcp : bp sd (bp sd jj) = jj := bp_bp hj2
  refine ok_bd (Q1 := fun cz => cz = nI (bp sd jj)) ?_ (fun cz hcz => ?_)
  · unfold bp
    by_cases hs0 : sd = 0
    · subst hs0
      exact ok_it nI_0 (ok_some (by rw [if_pos rfl]))
    · exact ok_if (fun hq => hs0 ((nI_eqn (by omega) (by omega)).mp (hq.trans zI))) (ok_some (by rw [if_neg hs0, nI_subn (by omega)]))
  subst hcz
  refine ok_nm (ok_gn hcl (by omega) (ok_nm (ok_nm (ok_bd (ok_lp (fun uu xx => ∃ σ2, xx = (nI (bi (fun uu => mm.testBit uu) K C H (bp sd jj) uu (bw (fun uu => mm.testBit uu) K C H nn w0s sd jj)), nI uu, σ2) ∧ Eq0 P3 σ σ2 ∧ (∀ vv, vv < nn → mm.testBit vv = true → (bp sd (C vv) < jj ∨ (C vv = bp sd jj ∧ vv < uu)) → gI σ2 84 vv = nI (bf (fun uu => mm.testBit uu) K C H nn w0s sd vv)) ∧ gI σ2 85 = upd (gI σ1 85) (bp sd jj) (nI (bw (fun uu => mm.testBit uu) K C H nn w0s sd jj)) ∧ gI σ2 86 = gI σ1 86) nn (by omega)
    (Q := fun ee => ee.1 = nI (bi (fun uu => mm.testBit uu) K C H (bp sd jj) nn (bw (fun uu => mm.testBit uu) K C H nn w0s sd jj)) ∧ Eq0 P3 σ ee.2 ∧ (∀ vv, vv < nn → mm.testBit vv = true → (bp sd (C vv) < jj ∨ (C vv = bp sd jj ∧ vv < nn)) → gI ee.2 84 vv = nI (bf (fun uu => mm.testBit uu) K C H nn w0s sd vv)) ∧ gI ee.2 85 = upd (gI σ1 85) (bp sd jj) (nI (bw (fun uu => mm.testBit uu) K C H nn w0s sd jj)) ∧ gI ee.2 86 = gI σ1 86)
    ⟨_, rfl, hE1.tr (Eq0.pI (Or.inr (Or.inl rfl))), fun vv hv hS hq => ?_, ?_, ?_⟩ ?_) ?_))))
  · rw [gI_pI_ne (by omega)]
    exact hT1 vv hv hS (hq.elim id (fun hz => absurd hz.2 (Nat.not_lt_zero _)))
  · rw [gI_pI_eq, ix_n (by omega)]
  · rw [gI_pI_ne (by omega)]
  · rintro uu xx hu ⟨σ2, rfl, hE2, hT2, hA2, hB2⟩
    have hR2 := hR.kept hE2 hPa
    have hbj : bi (fun uu => mm.testBit uu) K C H (bp sd jj) uu (bw (fun uu => mm.testBit uu) K C H nn w0s sd jj) ≤ 20 := by have := bi_le (fun uu => mm.testBit uu) K C H (bp sd jj) (bw (fun uu => mm.testBit uu) K C H nn w0s sd jj) uu; omega
    rw [u3_s, hR2.1, ix_n (by omega), hR2.2.2.2.2.1]
    refine ok_gn (by omega) (by omega) (ok_ite (fun hc2 => ok_some ?_) (fun hc2 => ?_))
    · have hu2 : uu = nn := by have := (nI_le_iff (by omega) (by omega)).mp hc2; omega
      subst hu2
      exact ⟨rfl, hE2, hT2, hA2, hB2⟩
    have hu2 : uu < nn := by
      rcases Nat.lt_or_ge uu nn with hq | hq
      · exact hq
      · exact absurd ((nI_le_iff (by omega) (by omega)).mpr hq) hc2
    obtain ⟨hk, hcu, hh1, hh2⟩ := hU.2 uu hu2
    obtain ⟨g1, g2, g3⟩ := hR2.2.2.2.2.2 uu hu2
    refine ok_bdr (has_n hm (by omega) σ2) (ok_bd (Q1 := fun ee => ee.1 = nI (bi (fun uu => mm.testBit uu) K C H (bp sd jj) (uu + 1) (bw (fun uu => mm.testBit uu) K C H nn w0s sd jj)) ∧ Eq0 P3 σ ee.2 ∧ (∀ vv, vv < nn → mm.testBit vv = true → (bp sd (C vv) < jj ∨ (C vv = bp sd jj ∧ vv < uu + 1)) → gI ee.2 84 vv = nI (bf (fun uu => mm.testBit uu) K C H nn w0s sd vv)) ∧ gI ee.2 85 = upd (gI σ1 85) (bp sd jj) (nI (bw (fun uu => mm.testBit uu) K C H nn w0s sd jj)) ∧ gI ee.2 86 = gI σ1 86) ?_ ?_)
    · by_cases hS : mm.testBit uu = true
      · rw [if_pos hS]
        refine ok_if (fun hq => absurd ((nI_eqn (by omega) (by omega)).mp (hq.trans zI)) (by omega)) (ok_bdr (userOf_eq hR2.1 (by omega) (by omega) σ2) ?_)
        rw [show 17 + 4 * uu + 1 = 18 + 4 * uu by omega, g2]
        refine ok_ite (fun he => ?_) (fun he => ok_some ?_)
        · have hce : C uu = bp sd jj := (nI_eqn (by omega) (by omega)).mp he
          refine ok_bdr (userOf_eq hR2.1 (by omega) (by omega) σ2) (ok_bdr (userOf_eq hR2.1 (by omega) (by omega) σ2) ?_)
          rw [show 17 + 4 * uu + 0 = 17 + 4 * uu by omega, show 17 + 4 * uu + 2 = 19 + 4 * uu by omega, g1, g3]
          refine ok_bdr (tk_m hk hh2 hbj σ2) (ok_gn (by omega) (by omega) (ok_nm (ok_gn (by omega) (by omega) (ok_nm (ok_some ?_)))))
          have hfv : bf (fun uu => mm.testBit uu) K C H nn w0s sd uu = tk (K uu) (H uu) (bi (fun uu => mm.testBit uu) K C H (bp sd jj) uu (bw (fun uu => mm.testBit uu) K C H nn w0s sd jj)) := by
            unfold bf; rw [hce, hcp]
          refine ⟨?_, hE2.tr (Eq0.pI (Or.inl rfl)), fun vv hv hSv hq => ?_, ?_, ?_⟩
          · rw [ix_n (by omega), gI_pI_eq, upd_ap, if_pos rfl, nI_subn (tk_le hk hh2 hbj)]
            simp only [bi]
            rw [if_pos ⟨hS, hce⟩]
          · rw [ix_n (by omega), gI_pI_eq, upd_ap]
            by_cases hvu : vv = uu
            · rw [if_pos hvu, hvu, hfv]
            · rw [if_neg hvu]
              exact hT2 vv hv hSv (hq.imp id (fun hz => ⟨hz.1, by omega⟩))
          · rw [gI_pI_ne (by omega)]; exact hA2
          · rw [gI_pI_ne (by omega)]; exact hB2
        · have hce : ¬ C uu = bp sd jj := fun hq => he (by rw [hq])
          refine ⟨?_, hE2, fun vv hv hSv hq => hT2 vv hv hSv (hq.imp id (fun hz => ⟨hz.1, ?_⟩)), hA2, hB2⟩
          · simp only [bi]
            rw [if_neg (fun hq => hce hq.2)]
          · have : vv ≠ uu := fun hz2 => hce (hz2 ▸ hz.1)
            omega
      · rw [if_neg hS]
        refine ok_it rfl (ok_some ⟨?_, hE2, fun vv hv hSv hq => hT2 vv hv hSv (hq.imp id (fun hz => ⟨hz.1, ?_⟩)), hA2, hB2⟩)
        · simp only [bi]
          rw [if_neg (fun hq => hS hq.1)]
        · have : vv ≠ uu := fun hz2 => hS (hz2 ▸ hSv)
          omega
    · rintro ⟨e1z, σ3⟩ ⟨hz1, hz2, hz3, hz4, hz5⟩
      rw [u2_s]
      refine ok_nm (ok_some ⟨hu2, σ3, ?_, hz2, hz3, hz4, hz5⟩)
      dsimp only at hz1
      rw [hz1, nI_addn]
  · rintro ⟨e1z, σ3⟩ ⟨hz1, hz2, hz3, hz4, hz5⟩
    dsimp only at hz1 hz2 hz3 hz4 hz5
    subst hz1
    rw [u2_s]
    refine ok_gn hcl (by omega) (ok_nm (ok_bd (Q1 := fun ww => ww = nI (bw (fun uu => mm.testBit uu) K C H nn w0s sd (jj + 1))) ?_ (fun ww hww => ?_)))
    · have hbn := bi_le (fun uu => mm.testBit uu) K C H (bp sd jj) (bw (fun uu => mm.testBit uu) K C H nn w0s sd jj) nn
      simp only [bw]
      refine ok_ite (fun hc3 => ok_some ?_) (fun hc3 => ok_some ?_)
      · have := (nI_le_iff (by omega) (by omega)).mp hc3
        rw [Nat.min_eq_right (by omega)]
      · have hlt : ¬ w0s ≤ bi (fun uu => mm.testBit uu) K C H (bp sd jj) nn (bw (fun uu => mm.testBit uu) K C H nn w0s sd jj) := fun hq => hc3 ((nI_le_iff (by omega) (by omega)).mpr hq)
        rw [nI_addn, Nat.min_eq_left (by omega)]
    subst hww
    refine ok_nm (ok_nm (ok_some ⟨hj2, _, by rw [nI_addn], hz2.tr (Eq0.pI (Or.inr (Or.inr rfl))), fun vv hv hS hq => ?_, fun cc hcc hq => ?_⟩))
    · rw [gI_pI_ne (by omega)]
      refine hz3 vv hv hS ?_
      rcases Nat.lt_or_ge (bp sd (C vv)) jj with hy | hy
      · exact Or.inl hy
      · refine Or.inr ⟨?_, hv⟩
        have hcv := (hU.2 vv hv).2.1
        have : bp sd (C vv) = jj := by omega
        rw [← this, bp_bp (by omega)]
    · rw [gI_pI_ne (by omega), gI_pI_eq, hz4, hz5, ix_n (by omega), upd_ap, upd_ap]
      by_cases hce : cc = bp sd jj
      · rw [if_pos hce, if_pos hce, hce, hcp]
        exact ⟨rfl, rfl⟩
      · rw [if_neg hce, if_neg hce]
        refine hA1 cc hcc ?_
        have : bp sd cc ≠ jj := fun hz => hce (by rw [← hz, bp_bp hcc])
        omega
