/-! ===== the class's blow ===== -/
def Q3 (c : Nat) : Prop := c = 49 ∨ c = 50 ∨ c = 51
def XR (σ : SS) (aa nn : Nat) (K C H : Nat → Nat) : Prop := kd aa = 7 ∧ ln (aa + 1) = 28 ∧ ¬ Q3 aa ∧ ¬ Q3 (aa + 1) ∧ gI σ aa 0 = nI 4 ∧ gI σ aa 3 = nI nn ∧ ∀ uu, uu < nn → gI σ (aa + 1) (uu * 4 + 0) = nI (K uu) ∧ gI σ (aa + 1) (uu * 4 + 1) = nI (C uu) ∧ gI σ (aa + 1) (uu * 4 + 2) = nI (H uu)
theorem XR.kept {σ σ' : SS} {aa nn : Nat} {K C H : Nat → Nat} (h : XR σ aa nn K C H) (hE : Eq0 Q3 σ σ') : XR σ' aa nn K C H := by
  obtain ⟨h1, h2, h3, h4, h5, h6, h7⟩ := h
  exact ⟨h1, h2, h3, h4, by rw [hE.1 aa h3]; exact h5, by rw [hE.1 aa h3]; exact h6, fun uu hu => by rw [hE.1 _ h4]; exact h7 uu hu⟩
theorem XR.at {σ : SS} {aa nn uu cc : Nat} {K C H : Nat → Nat} (h : XR σ aa nn K C H) (hn : nn ≤ 7) (hu : uu < nn) (hc : cc < 4) : FX9_at aa (nI uu) (nI cc) σ = some (gI σ (aa + 1) (uu * 4 + cc)) :=
  at_in h.1 h.2.2.2.2.1 h.2.2.2.2.2.1 h.2.1 hu hc (by omega) (by omega) (by omega) (by omega)
/-- which cells are occupied -/
def oc (S : Nat → Bool) (C : Nat → Nat) (nn : Nat) : Nat → Nat
  | 0 => 0
  | uu + 1 => if uu < nn ∧ S uu = true then oc S C nn uu ||| 2 ^ C uu else oc S C nn uu
theorem oc_lt {S : Nat → Bool} {C : Nat → Nat} {nn : Nat} (h : ∀ uu, uu < nn → C uu ≤ 11) : ∀ uu, oc S C nn uu < 2 ^ 12
  | 0 => by simp only [oc]; omega
  | uu + 1 => by
    have hr := oc_lt (S := S) h uu
    simp only [oc]
    split
    · rename_i hh
      exact Nat.or_lt_two_pow hr (Nat.pow_lt_pow_right (by omega) (by have := h uu hh.1; omega))
    · exact hr
theorem oc_bit {S : Nat → Bool} {C : Nat → Nat} {nn cc : Nat} : ∀ uu, ((oc S C nn uu).testBit cc = true ↔ ∃ vv, vv < uu ∧ vv < nn ∧ S vv = true ∧ C vv = cc)
  | 0 => by
    simp only [oc, Nat.zero_testBit]
    exact ⟨fun hh => absurd hh (by decide), fun ⟨vv, hv, _⟩ => absurd hv (Nat.not_lt_zero _)⟩
  | uu + 1 => by
    have hr := oc_bit (S := S) (C := C) (nn := nn) (cc := cc) uu
    simp only [oc]
    split
    · rename_i hh
      rw [Nat.testBit_or, Bool.or_eq_true, hr, Nat.testBit_two_pow, decide_eq_true_iff]
      constructor
      · rintro (⟨vv, h1, h2⟩ | he)
        · exact ⟨vv, by omega, h2⟩
        · exact ⟨uu, by omega, hh.1, hh.2, he⟩
      · rintro ⟨vv, h1, h2, h3, h4⟩
        by_cases hv : vv = uu
        · subst hv; exact Or.inr h4
        · exact Or.inl ⟨vv, by omega, h2, h3, h4⟩
    · rename_i hh
      rw [hr]
      constructor
      · rintro ⟨vv, h1, h2⟩; exact ⟨vv, by omega, h2⟩
      · rintro ⟨vv, h1, h2, h3, h4⟩
        by_cases hv : vv = uu
        · subst hv; exact absurd ⟨h2, h3⟩ hh
        · exact ⟨vv, by omega, h2, h3, h4⟩
theorem bi_none {S : Nat → Bool} {K C H : Nat → Nat} {cc ss : Nat} : ∀ {nn : Nat}, (∀ uu, uu < nn → ¬ (S uu = true ∧ C uu = cc)) → bi S K C H cc nn ss = ss
  | 0, _ => rfl
  | nn + 1, hh => by
    simp only [bi]
    rw [if_neg (hh nn (by omega)), bi_none (nn := nn) (fun uu hu => hh uu (by omega))]
/-- the class's blow -/
theorem blow_x {σ : SS} {aa nn w0s sd mm : Nat} {K C H : Nat → Nat} (hU : UR nn K C H) (hR : XR σ aa nn K C H) (hw : w0s ≤ 20) (hsd : sd ≤ 1) (hm : mm < 2147483648) :
    Ok (FX0_go 48 aa (nI mm) (nI w0s) (nI sd) σ) (fun σ' => Eq0 Q3 σ σ' ∧ BR σ' 51 49 50 (fun uu => mm.testBit uu) K C H nn w0s sd ∧ ∀ vv, vv < 7 → ¬ (vv < nn ∧ mm.testBit vv = true) → gI σ' 51 vv = nI 0) := by
  have hnn := hU.1
  have hmin : imin (gI σ aa 3) (nI 7) = nI nn := by
    rw [hR.2.2.2.2.2.1]
    unfold imin
    rw [if_neg (fun hq => by have := (nI_ltn (by omega) (by omega)).mp hq; omega)]
  unfold FX0_go
  simp only [lk_48_0, lk_48_1, lk_48_2, ln_49, ln_50, ln_51]
  rw [hmin]
  refine ok_nm (ok_nm (ok_nm (ok_bd (ok_lp (fun jj xx => ∃ σ', xx = (nI (oc (fun uu => mm.testBit uu) C nn jj), nI jj, σ') ∧ Eq0 Q3 σ σ' ∧ ∀ vv, vv < jj → gI σ' 51 vv = nI 0) 7 (by omega)
    (Q := fun ee => ee.1 = nI (oc (fun uu => mm.testBit uu) C nn 7) ∧ Eq0 Q3 σ ee.2 ∧ ∀ vv, vv < 7 → gI ee.2 51 vv = nI 0) ⟨σ, rfl, Eq0.rf, fun _ hq => absurd hq (Nat.not_lt_zero _)⟩ ?_) ?_)))
  · rintro jj xx hj ⟨σ1, rfl, hE1, hT1⟩
    rw [u3_s]
    refine ok_ite (fun hc => ok_some ?_) (fun hc => ?_)
    · have hj2 : jj = 7 := by have := (nI_le_iff (by omega) (by omega)).mp hc; omega
      subst hj2
      exact ⟨rfl, hE1, hT1⟩
    have hj2 : jj < 7 := by
      rcases Nat.lt_or_ge jj 7 with hq | hq
      · exact hq
      · exact absurd ((nI_le_iff (by omega) (by omega)).mpr hq) hc
    have hE2 : Eq0 Q3 σ (pI σ1 51 (Int32.toNatClampNeg (nI jj)) (nI 0)) := hE1.tr (Eq0.pI (Or.inr (Or.inr rfl)))
    refine ok_gn hj2 (by omega) (ok_nm (ok_bd (Q1 := fun ww => ww = nI (oc (fun uu => mm.testBit uu) C nn (jj + 1))) ?_ (fun ww hww => ?_)))
    · simp only [oc]
      refine ok_ite (fun hc2 => ok_some ?_) (fun hc2 => ?_)
      · have := (nI_le_iff (by omega) (by omega)).mp hc2
        rw [if_neg (fun hq => by omega)]
      · have hjn : jj < nn := by
          rcases Nat.lt_or_ge jj nn with hq | hq
          · exact hq
          · exact absurd ((nI_le_iff (by omega) (by omega)).mpr hq) hc2
        refine ok_ite (fun hb => ?_) (fun hb => ok_some ?_)
        · have hS := (bit_1 hm (by omega)).mp hb
          refine ok_bdr ((hR.kept hE2).at hnn hjn (by omega)) ?_
          rw [((hR.kept hE2).2.2.2.2.2.2 jj hjn).2.1]
          refine ok_nm (ok_some ?_)
          rw [shl_n (by have := (hU.2 jj hjn).2.1; omega), or_n, if_pos ⟨hjn, hS⟩]
        · rw [if_neg (fun hq => hb ((bit_1 hm (by omega)).mpr hq.2))]
    · subst hww
      refine ok_nm (ok_some ⟨hj2, _, by rw [nI_addn], hE2, fun vv hv => ?_⟩)
      rw [gI_pI_eq, ix_n (by omega), upd_ap]
      by_cases hvj : vv = jj
      · rw [if_pos hvj]
      · rw [if_neg hvj]; exact hT1 vv (by omega)
  rintro ⟨e1z, σ4⟩ ⟨hy1, hy2, hy3⟩
  dsimp only at hy1 hy2 hy3
  subst hy1
  rw [u2_s]
  have hocl : oc (fun uu => mm.testBit uu) C nn 7 < 2147483648 := by have := oc_lt (S := fun uu => mm.testBit uu) (C := C) (nn := nn) (fun uu hu => (hU.2 uu hu).2.1) 7; omega
  refine ok_nm (ok_nm (ok_bd (ok_lp (fun jj xx => ∃ σ', xx = (nI (bw (fun uu => mm.testBit uu) K C H nn w0s sd jj), nI jj, σ') ∧ Eq0 Q3 σ σ' ∧ (∀ vv, vv < nn → mm.testBit vv = true → bp sd (C vv) < jj → gI σ' 51 vv = nI (bf (fun uu => mm.testBit uu) K C H nn w0s sd vv)) ∧ (∀ cc, cc < 12 → bp sd cc < jj → gI σ' 49 cc = nI (bw (fun uu => mm.testBit uu) K C H nn w0s sd (bp sd cc)) ∧ gI σ' 50 cc = nI (bi (fun uu => mm.testBit uu) K C H cc nn (bw (fun uu => mm.testBit uu) K C H nn w0s sd (bp sd cc)))) ∧ ∀ vv, vv < 7 → ¬ (vv < nn ∧ mm.testBit vv = true) → gI σ' 51 vv = nI 0) 12 (by omega)
    (Q := fun σ' => Eq0 Q3 σ σ' ∧ BR σ' 51 49 50 (fun uu => mm.testBit uu) K C H nn w0s sd ∧ ∀ vv, vv < 7 → ¬ (vv < nn ∧ mm.testBit vv = true) → gI σ' 51 vv = nI 0) ⟨σ4, rfl, hy2, fun _ _ _ hq => absurd hq (Nat.not_lt_zero _), fun _ _ hq => absurd hq (Nat.not_lt_zero _), fun vv hv _ => hy3 vv hv⟩ ?_) (fun σ' hh => ok_some hh)))
  rintro jj xx hj ⟨σ1, rfl, hE1, hT1, hA1, hZ1⟩
  rw [u3_s]
  refine ok_ite (fun hc => ok_some ?_) (fun hc => ?_)
  · have hj2 : jj = 12 := by have := (nI_le_iff (by omega) (by omega)).mp hc; omega
    subst hj2
    exact ⟨hE1, ⟨fun vv hv hS => hT1 vv hv hS (bp_lt (by have := (hU.2 vv hv).2.1; omega)), fun cc hcc => hA1 cc hcc (bp_lt hcc)⟩, hZ1⟩
  have hj2 : jj < 12 := by
    rcases Nat.lt_or_ge jj 12 with hq | hq
    · exact hq
    · exact absurd ((nI_le_iff (by omega) (by omega)).mpr hq) hc
  have hwj : bw (fun uu => mm.testBit uu) K C H nn w0s sd jj ≤ 20 := by have := bw_le (fun uu => mm.testBit uu) K C H nn w0s sd jj; omega
  have hcl : bp sd jj < 12 := bp_lt hj2
  have hcp : bp sd (bp sd jj) = jj := bp_bp hj2
  refine ok_bd (Q1 := fun cz => cz = nI (bp sd jj)) ?_ (fun cz hcz => ?_)
  · unfold bp
    by_cases hs0 : sd = 0
    · subst hs0
      exact ok_it nI_0 (ok_some (by rw [if_pos rfl]))
    · exact ok_if (fun hq => hs0 ((nI_eqn (by omega) (by omega)).mp (hq.trans zI))) (ok_some (by rw [if_neg hs0, nI_subn (by omega)]))
  subst hcz
  refine ok_nm (ok_gn hcl (by omega) (ok_nm (ok_bd (Q1 := fun kz => ∃ qn, kz = nI qn ∧ qn ≤ nn ∧ ∀ vv, vv < nn → mm.testBit vv = true → C vv = bp sd jj → vv < qn) ?_ ?_)))
  · refine ok_ite (fun hb => ok_some ⟨nn, rfl, Nat.le_refl _, fun vv hv _ _ => hv⟩) (fun hb => ok_some ⟨0, rfl, Nat.zero_le _, fun vv hv hS hC => ?_⟩)
    exact absurd ((bit_1 hocl (by omega)).mpr ((oc_bit 7).mpr ⟨vv, by omega, hv, hS, hC⟩)) hb
  rintro kz ⟨qn, rfl, hqn, hqa⟩
  have hbq : bi (fun uu => mm.testBit uu) K C H (bp sd jj) nn (bw (fun uu => mm.testBit uu) K C H nn w0s sd jj) = bi (fun uu => mm.testBit uu) K C H (bp sd jj) qn (bw (fun uu => mm.testBit uu) K C H nn w0s sd jj) := by
    have key : ∀ dd, qn + dd ≤ nn → bi (fun uu => mm.testBit uu) K C H (bp sd jj) (qn + dd) (bw (fun uu => mm.testBit uu) K C H nn w0s sd jj) = bi (fun uu => mm.testBit uu) K C H (bp sd jj) qn (bw (fun uu => mm.testBit uu) K C H nn w0s sd jj) := by
      intro dd
      induction dd with
      | zero => intro _; rfl
      | succ dd ihd =>
        intro hle
        rw [← ihd (by omega)]
        show bi (fun uu => mm.testBit uu) K C H (bp sd jj) (qn + dd + 1) _ = _
        simp only [bi]
        rw [if_neg (fun hq => by have := hqa (qn + dd) (by omega) hq.1 hq.2; omega)]
    have := key (nn - qn) (by omega)
    rw [show qn + (nn - qn) = nn by omega] at this
    exact this
  refine ok_nm (ok_nm (ok_bd (ok_lp (fun uu xx => ∃ σ2, xx = (nI (bi (fun uu => mm.testBit uu) K C H (bp sd jj) uu (bw (fun uu => mm.testBit uu) K C H nn w0s sd jj)), nI uu, σ2) ∧ Eq0 Q3 σ σ2 ∧ (∀ vv, vv < nn → mm.testBit vv = true → (bp sd (C vv) < jj ∨ (C vv = bp sd jj ∧ vv < uu)) → gI σ2 51 vv = nI (bf (fun uu => mm.testBit uu) K C H nn w0s sd vv)) ∧ gI σ2 49 = upd (gI σ1 49) (bp sd jj) (nI (bw (fun uu => mm.testBit uu) K C H nn w0s sd jj)) ∧ gI σ2 50 = gI σ1 50 ∧ ∀ vv, vv < 7 → ¬ (vv < nn ∧ mm.testBit vv = true) → gI σ2 51 vv = nI 0) qn (by omega)
    (Q := fun ee => ee.1 = nI (bi (fun uu => mm.testBit uu) K C H (bp sd jj) qn (bw (fun uu => mm.testBit uu) K C H nn w0s sd jj)) ∧ Eq0 Q3 σ ee.2 ∧ (∀ vv, vv < nn → mm.testBit vv = true → (bp sd (C vv) < jj ∨ (C vv = bp sd jj ∧ vv < qn)) → gI ee.2 51 vv = nI (bf (fun uu => mm.testBit uu) K C H nn w0s sd vv)) ∧ gI ee.2 49 = upd (gI σ1 49) (bp sd jj) (nI (bw (fun uu => mm.testBit uu) K C H nn w0s sd jj)) ∧ gI ee.2 50 = gI σ1 50 ∧ ∀ vv, vv < 7 → ¬ (vv < nn ∧ mm.testBit vv = true) → gI ee.2 51 vv = nI 0)
    ⟨_, rfl, hE1.tr (Eq0.pI (Or.inl rfl)), fun vv hv hS hq => ?_, ?_, ?_, ?_⟩ ?_) ?_))
  · rw [gI_pI_ne (by omega)]
    exact hT1 vv hv hS (hq.elim id (fun hz => absurd hz.2 (Nat.not_lt_zero _)))
  · rw [gI_pI_eq, ix_n (by omega)]
  · rw [gI_pI_ne (by omega)]
  · rw [gI_pI_ne (by omega)]; exact hZ1
  · rintro uu xx hu ⟨σ2, rfl, hE2, hT2, hA2, hB2, hZ2⟩
    have hR2 := hR.kept hE2
    have hbj : bi (fun uu => mm.testBit uu) K C H (bp sd jj) uu (bw (fun uu => mm.testBit uu) K C H nn w0s sd jj) ≤ 20 := by have := bi_le (fun uu => mm.testBit uu) K C H (bp sd jj) (bw (fun uu => mm.testBit uu) K C H nn w0s sd jj) uu; omega
    rw [u3_s]
    refine ok_ite (fun hc2 => ok_some ?_) (fun hc2 => ?_)
    · have hu2 : uu = qn := by have := (nI_le_iff (by omega) (by omega)).mp hc2; omega
      subst hu2
      exact ⟨rfl, hE2, hT2, hA2, hB2, hZ2⟩
    have hu2 : uu < qn := by
      rcases Nat.lt_or_ge uu qn with hq | hq
      · exact hq
      · exact absurd ((nI_le_iff (by omega) (by omega)).mpr hq) hc2
    have hun : uu < nn := by omega
    obtain ⟨hk, hcu, hh1, hh2⟩ := hU.2 uu hun
    obtain ⟨g1, g2, g3⟩ := hR2.2.2.2.2.2.2 uu hun
    refine ok_bd (Q1 := fun ee => ee.1 = nI (bi (fun uu => mm.testBit uu) K C H (bp sd jj) (uu + 1) (bw (fun uu => mm.testBit uu) K C H nn w0s sd jj)) ∧ Eq0 Q3 σ ee.2 ∧ (∀ vv, vv < nn → mm.testBit vv = true → (bp sd (C vv) < jj ∨ (C vv = bp sd jj ∧ vv < uu + 1)) → gI ee.2 51 vv = nI (bf (fun uu => mm.testBit uu) K C H nn w0s sd vv)) ∧ gI ee.2 49 = upd (gI σ1 49) (bp sd jj) (nI (bw (fun uu => mm.testBit uu) K C H nn w0s sd jj)) ∧ gI ee.2 50 = gI σ1 50 ∧ ∀ vv, vv < 7 → ¬ (vv < nn ∧ mm.testBit vv = true) → gI ee.2 51 vv = nI 0) ?_ ?_
    · refine ok_ite (fun hb => ?_) (fun hb => ?_)
      · have hS := (bit_1 hm (by omega)).mp hb
        refine ok_bdr (hR2.at hnn hun (by omega)) ?_
        rw [g2]
        refine ok_ite (fun he => ?_) (fun he => ok_some ?_)
        · have hce : C uu = bp sd jj := (nI_eqn (by omega) (by omega)).mp he
          refine ok_bdr (hR2.at hnn hun (by omega)) (ok_bdr (hR2.at hnn hun (by omega)) ?_)
          rw [g1, g3]
          refine ok_bdr (tk_x hk hh2 hbj σ2) (ok_gn (by omega) (by omega) (ok_nm (ok_gn (by omega) (by omega) (ok_nm (ok_some ?_)))))
          have hfv : bf (fun uu => mm.testBit uu) K C H nn w0s sd uu = tk (K uu) (H uu) (bi (fun uu => mm.testBit uu) K C H (bp sd jj) uu (bw (fun uu => mm.testBit uu) K C H nn w0s sd jj)) := by
            unfold bf; rw [hce, hcp]
          refine ⟨?_, hE2.tr (Eq0.pI (Or.inr (Or.inr rfl))), fun vv hv hSv hq => ?_, ?_, ?_, fun vv hv hnv => ?_⟩
          · rw [ix_n (by omega), gI_pI_eq, upd_ap, if_pos rfl, nI_subn (tk_le hk hh2 hbj)]
            simp only [bi]
            rw [if_pos ⟨hS, hce⟩]
          · rw [ix_n (by omega), gI_pI_eq, upd_ap]
            by_cases hvu : vv = uu
            · rw [if_pos hvu, hvu, hfv]
            · rw [if_neg hvu]
              exact hT2 vv hv hSv (hq.imp id (fun hz => ⟨hz.1, by omega⟩))
          · rw [gI_pI_ne (by omega)]; exact hA2
          · rw [gI_pI_ne (by omega)]; exact hB2
          · rw [ix_n (by omega), gI_pI_eq, upd_ap, if_neg (fun hz => hnv (by rw [hz]; exact ⟨hun, hS⟩))]
            exact hZ2 vv hv hnv
        · have hce : ¬ C uu = bp sd jj := fun hq => he (by rw [hq])
          refine ⟨?_, hE2, fun vv hv hSv hq => hT2 vv hv hSv (hq.imp id (fun hz => ⟨hz.1, ?_⟩)), hA2, hB2, hZ2⟩
          · simp only [bi]
            rw [if_neg (fun hq => hce hq.2)]
          · have : vv ≠ uu := fun hz2 => hce (hz2 ▸ hz.1)
            omega
      · have hS : ¬ mm.testBit uu = true := fun hq => hb ((bit_1 hm (by omega)).mpr hq)
        refine ok_some ⟨?_, hE2, fun vv hv hSv hq => hT2 vv hv hSv (hq.imp id (fun hz => ⟨hz.1, ?_⟩)), hA2, hB2, hZ2⟩
        · simp only [bi]
          rw [if_neg (fun hq => hS hq.1)]
        · have : vv ≠ uu := fun hz2 => hS (hz2 ▸ hSv)
          omega
    · rintro ⟨e1z, σ3⟩ ⟨hz1, hz2, hz3, hz4, hz5, hz6⟩
      rw [u2_s]
      refine ok_nm (ok_some ⟨hu2, σ3, ?_, hz2, hz3, hz4, hz5, hz6⟩)
      dsimp only at hz1
      rw [hz1, nI_addn]
  · rintro ⟨e1z, σ3⟩ ⟨hz1, hz2, hz3, hz4, hz5, hz6⟩
    dsimp only at hz1 hz2 hz3 hz4 hz5 hz6
    subst hz1
    rw [u2_s]
    have hbn := bi_le (fun uu => mm.testBit uu) K C H (bp sd jj) (bw (fun uu => mm.testBit uu) K C H nn w0s sd jj) nn
    have hmn : imin (nI (bi (fun uu => mm.testBit uu) K C H (bp sd jj) qn (bw (fun uu => mm.testBit uu) K C H nn w0s sd jj)) + nI 1) (nI w0s) = nI (bw (fun uu => mm.testBit uu) K C H nn w0s sd (jj + 1)) := by
      simp only [bw]
      rw [hbq, nI_addn]
      rw [hbq] at hbn
      unfold imin
      by_cases hlt : w0s < bi (fun uu => mm.testBit uu) K C H (bp sd jj) qn (bw (fun uu => mm.testBit uu) K C H nn w0s sd jj) + 1
      · rw [if_pos ((nI_ltn (by omega) (by omega)).mpr hlt), Nat.min_eq_right (by omega)]
      · rw [if_neg (fun hq => hlt ((nI_ltn (by omega) (by omega)).mp hq)), Nat.min_eq_left (by omega)]
    rw [hmn]
    refine ok_gn hcl (by omega) (ok_nm (ok_nm (ok_nm (ok_some ⟨hj2, _, by rw [nI_addn], hz2.tr (Eq0.pI (Or.inr (Or.inl rfl))), fun vv hv hS hq => ?_, fun cc hcc hq => ?_, ?_⟩))))
    · rw [gI_pI_ne (by omega)]
      refine hz3 vv hv hS ?_
      rcases Nat.lt_or_ge (bp sd (C vv)) jj with hy | hy
      · exact Or.inl hy
      · have hcv := (hU.2 vv hv).2.1
        have hpj : bp sd (C vv) = jj := by omega
        have hCv : C vv = bp sd jj := by rw [← hpj, bp_bp (by omega)]
        exact Or.inr ⟨hCv, hqa vv hv hS hCv⟩
    · rw [gI_pI_ne (by omega), gI_pI_eq, hz4, hz5, ix_n (by omega), upd_ap, upd_ap]
      by_cases hce : cc = bp sd jj
      · rw [if_pos hce, if_pos hce, hce, hcp, hbq]
        exact ⟨rfl, rfl⟩
      · rw [if_neg hce, if_neg hce]
        refine hA1 cc hcc ?_
        have : bp sd cc ≠ jj := fun hz => hce (by rw [← hz, bp_bp hcc])
        omega
    · rw [gI_pI_ne (by omega)]; exact hz6
