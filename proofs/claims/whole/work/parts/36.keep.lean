/-! ===== what is kept for undo ===== -/
def P2x (c : Nat) : Prop := c = 14 ∨ c = 15
def RV (σ s : SS) (nq dd ns : Nat) : Prop := Eq0 P2x σ s ∧ (gI s 14 0 = nI 15 ∧ gI s 14 1 = nI 8 ∧ gI s 14 3 = nI (nq + 1)) ∧ (∀ k, k < nq * 15 → gI s 15 k = gI σ 15 (k + 15 * dd)) ∧ gI s 15 (nq * 15 + 0) = gI σ 1 8 ∧ gI s 15 (nq * 15 + 1) = gI σ 1 9 ∧ gI s 15 (nq * 15 + 2) = nI ns
theorem rv_put {σ s : SS} {nq dd ns cc : Nat} {v : Int32} (h : RV σ s nq dd ns) (h1 : 3 ≤ cc) : RV σ (pI s 15 (nq * 15 + cc) v) nq dd ns := by
  obtain ⟨g1, ⟨g2, g3, g4⟩, g5, g6, g7, g8⟩ := h
  refine ⟨g1.tr (Eq0.pI (Or.inr rfl)), ⟨?_, ?_, ?_⟩, fun k hk => ?_, ?_, ?_, ?_⟩
  · rw [gI_pI_ne (by omega)]; exact g2
  · rw [gI_pI_ne (by omega)]; exact g3
  · rw [gI_pI_ne (by omega)]; exact g4
  · rw [gI_pI_eq, upd_ne (by omega)]; exact g5 k hk
  · rw [gI_pI_eq, upd_ne (by omega)]; exact g6
  · rw [gI_pI_eq, upd_ne (by omega)]; exact g7
  · rw [gI_pI_eq, upd_ne (by omega)]; exact g8
theorem put14 {s : SS} {nq cc : Nat} (h0 : gI s 14 0 = nI 15) (h3 : gI s 14 3 = nI (nq + 1)) (hq : nq ≤ 7) (hc : cc < 15) (v : Int32) : FX9_put 14 (nI nq) (nI cc) v s = some (pI s 15 (nq * 15 + cc) v) := put_in kd_14 h0 h3 ln_15 (by omega) hc (by omega) (by omega) (by omega) (by omega)
theorem lt_of_nle {ii nn : Nat} (h : ¬ nI nn ≤ nI ii) (h1 : ii < 100000) (h2 : nn < 100000) : ii < nn := by
  rcases Nat.lt_or_ge ii nn with hq | hq
  · exact hq
  · exact absurd ((nI_le_iff (by omega) (by omega)).mpr hq) h
theorem le_of_nI {ii nn : Nat} (h : nI nn ≤ nI ii) (h1 : ii < 100000) (h2 : nn < 100000) : nn ≤ ii := (nI_le_iff (by omega) (by omega)).mp h
theorem remember_x {σ : SS} {nu ns np nq dd : Nat} (hT : TCw 1 σ) (h4 : gI σ 4 3 = nI nu) (h6 : gI σ 6 3 = nI ns) (h14 : gI σ 14 3 = nI np) (hu7 : nu ≤ 7) (hs5 : ns ≤ 5) (hd : (np = 8 ∧ nq = 7 ∧ dd = 1) ∨ (np < 8 ∧ nq = np ∧ dd = 0)) :
    Ok (FX4_remember 1 σ) (fun σ' => RV σ σ' nq dd ns ∧ (∀ uu, uu < nu → gI σ' 15 (nq * 15 + (3 + uu)) = gI σ 5 (uu * 4 + 3)) ∧ ∀ vv, vv < ns → gI σ' 15 (nq * 15 + (10 + vv)) = gI σ 7 (vv * 4 + 3)) := by
  have t14 : gI σ 14 0 = nI 15 ∧ gI σ 14 1 = nI 8 := hT.2.2.2.2.2
  have t4 : gI σ 4 0 = nI 4 := hT.1.1
  have t6 : gI σ 6 0 = nI 4 := hT.2.1.1
  have hnq : nq ≤ 7 := by omega
  unfold FX4_remember
  simp only [lk_1_2, lk_1_3, lk_1_7, nm_eq]
  refine ok_bdr (isFull_eq 14 σ h14 t14.2 (by omega) (by omega)) (ok_bd (Q1 := fun s => Eq0 P2x σ s ∧ (gI s 14 0 = nI 15 ∧ gI s 14 1 = nI 8 ∧ gI s 14 3 = nI nq) ∧ ∀ k, k < nq * 15 → gI s 15 k = gI σ 15 (k + 15 * dd)) ?_ ?_)
  · rcases hd with ⟨rfl, rfl, rfl⟩ | ⟨h1, rfl, rfl⟩
    · rw [if_neg (by omega : ¬ 8 < 8), if_neg n1_0]
      have hdr : FX9_dropFirst 14 σ = some (pI (pA σ 15 (fun k => if k < 7 * 15 then gI σ 15 (k + 15) else gI σ 15 k)) 14 3 (nI 7)) := drop_eq kd_14 t14.1 h14 ln_15 (by omega) (by omega) (by omega) (by omega)
      refine ok_bdr hdr (ok_some ⟨(Eq0.pA (Or.inr rfl)).tr (Eq0.pI (Or.inl rfl)), ⟨?_, ?_, ?_⟩, fun k hk => ?_⟩)
      · rw [gI_pI_eq, upd_ne (by omega), gI_pA_ne (by omega)]; exact t14.1
      · rw [gI_pI_eq, upd_ne (by omega), gI_pA_ne (by omega)]; exact t14.2
      · rw [gI_pI_eq, upd_eq]
      · rw [gI_pI_ne (by omega), gI_pA_eq, if_pos hk, Nat.mul_one]
    · rw [if_pos h1, if_pos rfl]
      exact ok_some ⟨Eq0.rf, ⟨t14.1, t14.2, h14⟩, fun k hk => by rw [Nat.mul_zero]; rfl⟩
  rintro s1 ⟨hE1, ⟨a0, a1, a3⟩, hk1⟩
  have hop : FX9_open 14 s1 = some (nI nq, pA (pI s1 14 3 (nI (nq + 1))) 15 (fun k => if nq * 15 ≤ k ∧ k < nq * 15 + 15 then nI 0 else gI s1 15 k)) := open_in kd_14 a0 a1 a3 ln_15 (by omega) (by omega) (by omega) (by omega) (by omega)
  obtain ⟨s2, hs2⟩ : ∃ s, s = pA (pI s1 14 3 (nI (nq + 1))) 15 (fun k => if nq * 15 ≤ k ∧ k < nq * 15 + 15 then nI 0 else gI s1 15 k) := ⟨_, rfl⟩
  rw [← hs2] at hop
  refine ok_bd2r hop ?_
  have hE2 : Eq0 P2x σ s2 := by rw [hs2]; exact hE1.tr ((Eq0.pI (Or.inl rfl)).tr (Eq0.pA (Or.inr rfl)))
  have b0 : gI s2 14 0 = nI 15 := by rw [hs2, gI_pA_ne (by omega), gI_pI_eq, upd_ne (by omega)]; exact a0
  have b1 : gI s2 14 1 = nI 8 := by rw [hs2, gI_pA_ne (by omega), gI_pI_eq, upd_ne (by omega)]; exact a1
  have b3 : gI s2 14 3 = nI (nq + 1) := by rw [hs2, gI_pA_ne (by omega), gI_pI_eq, upd_eq]
  have hk2 : ∀ k, k < nq * 15 → gI s2 15 k = gI σ 15 (k + 15 * dd) := fun k hk => by rw [hs2, gI_pA_eq, if_neg (by omega)]; exact hk1 k hk
  have np2 : ∀ {c}, c < 14 → ¬ P2x c := fun hc hq => by rcases hq with hq | hq <;> omega
  have c1 : gI s2 1 = gI σ 1 := hE2.1 1 (np2 (by omega))
  have c6 : gI s2 6 = gI σ 6 := hE2.1 6 (np2 (by omega))
  refine ok_bdr (put14 b0 b3 hnq (cc := 0) (by omega) _) (ok_bdr (put14 (by rw [gI_pI_ne (by omega)]; exact b0) (by rw [gI_pI_ne (by omega)]; exact b3) hnq (cc := 1) (by omega) _) (ok_bdr (put14 (by rw [gI_pI_ne (by omega), gI_pI_ne (by omega)]; exact b0) (by rw [gI_pI_ne (by omega), gI_pI_ne (by omega)]; exact b3) hnq (cc := 2) (by omega) _) ?_))
  rw [gI_pI_ne (show 6 ≠ 15 by omega), gI_pI_ne (show 6 ≠ 15 by omega), gI_pI_ne (show 1 ≠ 15 by omega), c1, c6, h6]
  have hR3 : RV σ (pI (pI (pI s2 15 (nq * 15 + 0) (gI σ 1 8)) 15 (nq * 15 + 1) (gI σ 1 9)) 15 (nq * 15 + 2) (nI ns)) nq dd ns := by
    refine ⟨hE2.tr ((Eq0.pI (Or.inr rfl)).tr ((Eq0.pI (Or.inr rfl)).tr (Eq0.pI (Or.inr rfl)))), ⟨?_, ?_, ?_⟩, fun k hk => ?_, ?_, ?_, ?_⟩
    · rw [gI_pI_ne (by omega), gI_pI_ne (by omega), gI_pI_ne (by omega)]; exact b0
    · rw [gI_pI_ne (by omega), gI_pI_ne (by omega), gI_pI_ne (by omega)]; exact b1
    · rw [gI_pI_ne (by omega), gI_pI_ne (by omega), gI_pI_ne (by omega)]; exact b3
    · rw [gI_pI_eq, upd_ne (by omega), gI_pI_eq, upd_ne (by omega), gI_pI_eq, upd_ne (by omega)]; exact hk2 k hk
    · rw [gI_pI_eq, upd_ne (by omega), gI_pI_eq, upd_ne (by omega), gI_pI_eq, upd_eq]
    · rw [gI_pI_eq, upd_ne (by omega), gI_pI_eq, upd_eq]
    · rw [gI_pI_eq, upd_eq]
  refine ok_bd (ok_lp (fun jj xx => ∃ s, xx = (nI jj, s) ∧ RV σ s nq dd ns ∧ ∀ uu, uu < jj → gI s 15 (nq * 15 + (3 + uu)) = gI σ 5 (uu * 4 + 3)) nu (by omega) (Q := fun s => RV σ s nq dd ns ∧ ∀ uu, uu < nu → gI s 15 (nq * 15 + (3 + uu)) = gI σ 5 (uu * 4 + 3)) ⟨_, rfl, hR3, fun _ hq => absurd hq (Nat.not_lt_zero _)⟩ ?_) ?_
  · rintro jj xx hj ⟨s, rfl, hR, hU⟩
    have z4 : gI s 4 = gI σ 4 := hR.1.1 4 (np2 (by omega))
    have z5 : gI s 5 = gI σ 5 := hR.1.1 5 (np2 (by omega))
    rw [u2_s, z4, h4]
    refine ok_ite (fun hc => ok_some ?_) (fun hc => ?_)
    · have := le_of_nI hc (by omega) (by omega)
      exact ⟨hR, fun uu hu => hU uu (by omega)⟩
    have hj2 := lt_of_nle hc (by omega) (by omega)
    have hdu : FX4_duesOf 1 (nI jj) s = some (gI s 5 (jj * 4 + 3)) := by
      unfold FX4_duesOf
      rw [lk_1_2]
      rw [at_in kd_4 (by rw [z4]; exact t4) (by rw [z4]; exact h4) ln_5 hj2 (by omega) (by omega) (by omega) (by omega) (by omega)]
      rfl
    refine ok_bdr hdu ?_
    rw [nI_addn, nI_addn]
    refine ok_bdr (put14 hR.2.1.1 hR.2.1.2.2 hnq (by omega) _) (ok_some ⟨hj2, _, rfl, rv_put hR (by omega), fun uu hu => ?_⟩)
    rw [gI_pI_eq, upd_ap, z5]
    by_cases hq : uu = jj
    · rw [if_pos (by omega), hq]
    · rw [if_neg (by omega)]; exact hU uu (by omega)
  rintro s4 ⟨hR4, hU4⟩
  refine ok_bd (ok_lp (fun jj xx => ∃ s, xx = (nI jj, s) ∧ RV σ s nq dd ns ∧ (∀ uu, uu < nu → gI s 15 (nq * 15 + (3 + uu)) = gI σ 5 (uu * 4 + 3)) ∧ ∀ vv, vv < jj → gI s 15 (nq * 15 + (10 + vv)) = gI σ 7 (vv * 4 + 3)) ns (by omega) (Q := fun s => RV σ s nq dd ns ∧ (∀ uu, uu < nu → gI s 15 (nq * 15 + (3 + uu)) = gI σ 5 (uu * 4 + 3)) ∧ ∀ vv, vv < ns → gI s 15 (nq * 15 + (10 + vv)) = gI σ 7 (vv * 4 + 3)) ⟨_, rfl, hR4, hU4, fun _ hq => absurd hq (Nat.not_lt_zero _)⟩ ?_) (fun s5 hq => ok_some hq)
  rintro jj xx hj ⟨s, rfl, hR, hU, hV⟩
  have z6 : gI s 6 = gI σ 6 := hR.1.1 6 (np2 (by omega))
  have z7 : gI s 7 = gI σ 7 := hR.1.1 7 (np2 (by omega))
  rw [u2_s, z6, h6]
  refine ok_ite (fun hc => ok_some ?_) (fun hc => ?_)
  · have := le_of_nI hc (by omega) (by omega)
    exact ⟨hR, hU, fun uu hu => hV uu (by omega)⟩
  have hj2 := lt_of_nle hc (by omega) (by omega)
  have hdu : FX9_at 6 (nI jj) (nI 3) s = some (gI s 7 (jj * 4 + 3)) := at_in kd_6 (by rw [z6]; exact t6) (by rw [z6]; exact h6) ln_7 hj2 (by omega) (by omega) (by omega) (by omega) (by omega)
  refine ok_bdr hdu ?_
  rw [nI_addn, nI_addn]
  refine ok_bdr (put14 hR.2.1.1 hR.2.1.2.2 hnq (by omega) _) (ok_some ⟨hj2, _, rfl, rv_put hR (by omega), fun uu hu => ?_, fun vv hv => ?_⟩)
  · rw [gI_pI_eq, upd_ne (by omega)]; exact hU uu hu
  · rw [gI_pI_eq, upd_ap, z7]
    by_cases hq : vv = jj
    · rw [if_pos (by omega), hq]
    · rw [if_neg (by omega)]; exact hV vv (by omega)
/-! the model -/
def P79 (c : Nat) : Prop := c = 79
def KV (σ s : SS) (nq dd : Nat) : Prop := Eq0 P79 σ s ∧ (∀ k, k < 137 → gI s 79 k = gI σ 79 k) ∧ gI s 79 137 = nI nq ∧ ∀ k, k < 30 * nq → gI s 79 (138 + k) = gI σ 79 (138 + k + 30 * dd)
theorem kv_put {σ s : SS} {nq dd cc : Nat} {v : Int32} (h : KV σ s nq dd) (h1 : 138 + 30 * nq ≤ cc) : KV σ (pI s 79 cc v) nq dd := by
  obtain ⟨g1, g2, g3, g4⟩ := h
  refine ⟨g1.tr (Eq0.pI rfl), fun k hk => ?_, ?_, fun k hk => ?_⟩
  · rw [gI_pI_eq, upd_ne (by omega)]; exact g2 k hk
  · rw [gI_pI_eq, upd_ne (by omega)]; exact g3
  · rw [gI_pI_eq, upd_ne (by omega)]; exact g4 k hk
theorem keep_m {σ : SS} {np nq dd : Nat} (h137 : gI σ 79 137 = nI np) (hd : (np = 8 ∧ nq = 7 ∧ dd = 1) ∨ (np < 8 ∧ nq = np ∧ dd = 0)) :
    Ok (FX12_keep 78 σ) (fun σ' => Eq0 P79 σ σ' ∧ (∀ k, k < 137 → gI σ' 79 k = gI σ 79 k) ∧ gI σ' 79 137 = nI (nq + 1) ∧ (∀ k, k < 30 * nq → gI σ' 79 (138 + k) = gI σ 79 (138 + k + 30 * dd)) ∧ (∀ uu, uu < 7 → gI σ' 79 (138 + 30 * nq + uu) = gI σ 79 (20 + 4 * uu)) ∧ ∀ k, k < 23 → gI σ' 79 (138 + 30 * nq + 7 + k) = gI σ 79 (45 + k)) := by
  have hnq : nq ≤ 7 := by omega
  unfold FX12_keep
  simp only [lk_78_0, ln_79, nm_eq]
  refine ok_gn (by omega) (by omega) (ok_bd (Q1 := fun s => KV σ s nq dd) ?_ ?_)
  · rw [ix_n (by omega), h137]
    rcases hd with ⟨rfl, rfl, rfl⟩ | ⟨h1, rfl, rfl⟩
    · refine ok_it rfl (ok_bd (ok_lp (fun jj xx => ∃ s, xx = (nI jj, s) ∧ Eq0 P79 σ s ∧ (∀ k, (k < 138 ∨ 138 + jj ≤ k) → gI s 79 k = gI σ 79 k) ∧ ∀ k, k < jj → gI s 79 (138 + k) = gI σ 79 (138 + k + 30)) 210 (by omega) (Q := fun s => Eq0 P79 σ s ∧ (∀ k, (k < 138 ∨ 138 + 210 ≤ k) → gI s 79 k = gI σ 79 k) ∧ ∀ k, k < 210 → gI s 79 (138 + k) = gI σ 79 (138 + k + 30)) ⟨σ, rfl, Eq0.rf, fun _ _ => rfl, fun _ hq => absurd hq (Nat.not_lt_zero _)⟩ ?_) ?_)
      · rintro jj xx hj ⟨s, rfl, g1, g2, g3⟩
        rw [u2_s]
        refine ok_ite (fun hc => ok_some ?_) (fun hc => ?_)
        · have hjj : jj = 210 := by have := le_of_nI hc (by omega) (by omega); omega
          subst hjj
          exact ⟨g1, g2, g3⟩
        have hj2 := lt_of_nle hc (by omega) (by omega)
        rw [nI_addn 138, nI_addn _ 30, nI_addn _ 1]
        refine ok_gn (by omega) (by omega) (ok_gn (by omega) (by omega) (ok_some ⟨hj2, _, rfl, g1.tr (Eq0.pI rfl), fun k hk => ?_, fun k hk => ?_⟩))
        · rw [ix_n (by omega), gI_pI_eq, upd_ne (by omega)]; exact g2 k (by omega)
        · rw [ix_n (by omega), ix_n (by omega), gI_pI_eq, upd_ap]
          by_cases hq : k = jj
          · rw [if_pos (by omega), hq]; exact g2 _ (by omega)
          · rw [if_neg (by omega)]; exact g3 k (by omega)
      · rintro s ⟨g1, g2, g3⟩
        refine ok_gn (by omega) (by omega) (ok_gn (by omega) (by omega) (ok_some ?_))
        rw [g2 137 (by omega), h137, nI_subn (by omega)]
        refine ⟨g1.tr (Eq0.pI rfl), fun k hk => ?_, ?_, fun k hk => ?_⟩
        · rw [gI_pI_eq, upd_ne (by omega)]; exact g2 k (by omega)
        · rw [gI_pI_eq, upd_eq]
        · rw [gI_pI_eq, upd_ne (by omega)]; exact g3 k (by omega)
    · refine ok_if (fun hq => by have := (nI_eqn (by omega) (by omega)).mp hq; omega) (ok_some ⟨Eq0.rf, fun _ _ => rfl, h137, fun k hk => by rw [Nat.mul_zero]; rfl⟩)
  rintro s1 hK1
  refine ok_gn (by omega) (by omega) ?_
  rw [ix_n (by omega), hK1.2.2.1, nI_muln, nI_addn]
  refine ok_bd (ok_lp (fun jj xx => ∃ s, xx = (nI jj, s) ∧ KV σ s nq dd ∧ ∀ uu, uu < jj → gI s 79 (138 + 30 * nq + uu) = gI σ 79 (20 + 4 * uu)) 7 (by omega) (Q := fun s => KV σ s nq dd ∧ ∀ uu, uu < 7 → gI s 79 (138 + 30 * nq + uu) = gI σ 79 (20 + 4 * uu)) ⟨s1, rfl, hK1, fun _ hq => absurd hq (Nat.not_lt_zero _)⟩ ?_) ?_
  · rintro jj xx hj ⟨s, rfl, hK, hU⟩
    rw [u2_s]
    refine ok_ite (fun hc => ok_some ?_) (fun hc => ?_)
    · have := le_of_nI hc (by omega) (by omega)
      exact ⟨hK, fun uu hu => hU uu (by omega)⟩
    have hj2 := lt_of_nle hc (by omega) (by omega)
    refine ok_bdr (userOf_eq ln_79 (by omega) (by omega) s) ?_
    rw [nI_addn, nI_addn]
    refine ok_gn (by omega) (by omega) (ok_some ⟨hj2, _, rfl, ?_, fun uu hu => ?_⟩)
    · rw [ix_n (by omega)]; exact kv_put hK (by omega)
    · rw [ix_n (by omega), gI_pI_eq, upd_ap]
      by_cases hq : uu = jj
      · rw [if_pos (by omega), hq, show 17 + 4 * jj + 3 = 20 + 4 * jj by omega]; exact hK.2.1 _ (by omega)
      · rw [if_neg (by omega)]; exact hU uu (by omega)
  rintro s4 ⟨hK4, hU4⟩
  rw [nI_addn _ 7]
  refine ok_bd (ok_lp (fun jj xx => ∃ s, xx = (nI jj, s) ∧ KV σ s nq dd ∧ (∀ uu, uu < 7 → gI s 79 (138 + 30 * nq + uu) = gI σ 79 (20 + 4 * uu)) ∧ ∀ k, k < jj → gI s 79 (138 + 30 * nq + 7 + k) = gI σ 79 (45 + k)) 23 (by omega) (Q := fun s => KV σ s nq dd ∧ (∀ uu, uu < 7 → gI s 79 (138 + 30 * nq + uu) = gI σ 79 (20 + 4 * uu)) ∧ ∀ k, k < 23 → gI s 79 (138 + 30 * nq + 7 + k) = gI σ 79 (45 + k)) ⟨s4, rfl, hK4, hU4, fun _ hq => absurd hq (Nat.not_lt_zero _)⟩ ?_) ?_
  · rintro jj xx hj ⟨s, rfl, hK, hU, hV⟩
    rw [u2_s]
    refine ok_ite (fun hc => ok_some ?_) (fun hc => ?_)
    · have hjj : jj = 23 := by have := le_of_nI hc (by omega) (by omega); omega
      subst hjj
      exact ⟨hK, hU, hV⟩
    have hj2 := lt_of_nle hc (by omega) (by omega)
    rw [nI_addn 45, nI_addn (138 + 30 * nq + 7), nI_addn jj 1]
    refine ok_gn (by omega) (by omega) (ok_gn (by omega) (by omega) (ok_some ⟨hj2, _, rfl, ?_, fun uu hu => ?_, fun k hk => ?_⟩))
    · rw [ix_n (by omega), ix_n (by omega)]; exact kv_put hK (by omega)
    · rw [ix_n (by omega), ix_n (by omega), gI_pI_eq, upd_ne (by omega)]; exact hU uu hu
    · rw [ix_n (by omega), ix_n (by omega), gI_pI_eq, upd_ap]
      by_cases hq : k = jj
      · rw [if_pos (by omega), hq]; exact hK.2.1 _ (by omega)
      · rw [if_neg (by omega)]; exact hV k (by omega)
  · rintro s ⟨⟨g1, g2, g3, g4⟩, hU, hV⟩
    refine ok_gn (by omega) (by omega) (ok_gn (by omega) (by omega) (ok_some ?_))
    rw [g3, nI_addn]
    refine ⟨g1.tr (Eq0.pI rfl), fun k hk => ?_, ?_, fun k hk => ?_, fun uu hu => ?_, fun k hk => ?_⟩
    · rw [gI_pI_eq, upd_ne (by omega)]; exact g2 k hk
    · rw [gI_pI_eq, upd_eq]
    · rw [gI_pI_eq, upd_ne (by omega)]; exact g4 k hk
    · rw [gI_pI_eq, upd_ne (by omega)]; exact hU uu hu
    · rw [gI_pI_eq, upd_ne (by omega)]; exact hV k hk
section C8
variable {σx σm : SS} {nu ns nr nn nk np hr : Nat}
theorem keep_both (hT : TCw 1 σx) (hI : IR 1 σx (gI σm 79) nu ns nr nn nk np hr) : ∃ σx' σm' nq, FX4_remember 1 σx = some σx' ∧ FX12_keep 78 σm = some σm' ∧ Eq0 P2x σx σx' ∧ Eq0 P79 σm σm' ∧ TCw 1 σx' ∧ (∀ k, k < 137 → gI σm' 79 k = gI σm 79 k) ∧ IR 1 σx' (gI σm' 79) nu ns nr nn nk nq hr ∧ (Bd (gI σm 79) nu ns np hr → Bd (gI σm' 79) nu ns nq hr) := by
  obtain ⟨h1, h2, h3, h4, h5, h6, h7, p1z, p2z, p3z, kk, p4, p5⟩ := hI.parts
  obtain ⟨nq, dd, hd⟩ : ∃ nq dd, (np = 8 ∧ nq = 7 ∧ dd = 1) ∨ (np < 8 ∧ nq = np ∧ dd = 0) := by
    rcases Nat.lt_or_ge np 8 with hq | hq
    · exact ⟨np, 0, Or.inr ⟨hq, rfl, rfl⟩⟩
    · exact ⟨7, 1, Or.inl ⟨by omega, rfl, rfl⟩⟩
  have hnq : nq + dd = np ∧ nq ≤ 7 := by omega
  have hu7 := h2.1
  have hs5 := h3.1
  obtain ⟨σx', e1, ⟨e2, ⟨e3, e4, e5⟩, e6, e7, e8, e9⟩, e10, e11⟩ := remember_x hT h2.2.2.1 h3.2.2.1 p3z hu7 hs5 hd
  obtain ⟨σm', f1, f2, f3, f4, f5, f6, f7⟩ := keep_m p2z hd
  have ex : ∀ c, c < 14 → gI σx' c = gI σx c := fun c hc => e2.1 c (fun hq => by rcases hq with hq | hq <;> omega)
  have em : ∀ k, k < 137 → gI σm' 79 k = gI σm 79 k := f3
  have eρ2 : ∀ jj z, jj < nq → z < 30 → gI σm' 79 (138 + 30 * jj + z) = gI σm 79 (138 + 30 * (jj + dd) + z) := fun jj z hj hz => by
    rw [show 138 + 30 * jj + z = 138 + (30 * jj + z) by omega, f5 _ (by omega)]
    congr 1; omega
  have g72 : ∀ k, k < 23 → gI σm' 79 (138 + 30 * nq + (7 + k)) = gI σm 79 (45 + k) := fun k hk => by
    rw [← f7 k hk]; congr 1; omega
  have hbq : Bd (gI σm 79) nu ns np hr → Bd (gI σm' 79) nu ns (nq + 1) hr := by
    intro hb
    refine ⟨fun uu hu => ?_, fun vv hv => ?_, fun jj hj => ?_, nb_cong hb.2.2.2 (fun k k1 k2 => em k (by omega))⟩
    · rw [em _ (by omega)]; exact hb.1 uu hu
    · rw [em _ (by omega)]; exact hb.2.1 vv hv
    · by_cases hq : jj < nq
      · obtain ⟨hh, y1, y2, y3⟩ := hb.2.2.1 (jj + dd) (by omega)
        refine ⟨hh, y1, ?_, fun uu hu => ?_⟩
        · rw [eρ2 jj 28 hq (by omega)]; exact y2
        · rw [eρ2 jj uu hq (by omega)]; exact y3 uu hu
      · have hjn : jj = nq := by omega
        subst hjn
        refine ⟨hr, h7.1, ?_, fun uu hu => ?_⟩
        · rw [show 138 + 30 * jj + 28 = 138 + 30 * jj + (7 + 21) by omega, g72 21 (by omega)]; exact h7.2.1
        · rw [f6 uu (by omega)]; exact hb.1 uu hu
  refine ⟨σx', σm', nq + 1, e1, f1, e2, f2, ?_, em, ?_, hbq⟩
  · refine hT.keep (fun d hd2 => ?_)
    rcases hd2 with rfl | rfl | rfl | rfl | rfl | rfl
    · rw [ex _ (by omega)]; exact ⟨rfl, rfl⟩
    · rw [ex _ (by omega)]; exact ⟨rfl, rfl⟩
    · rw [ex _ (by omega)]; exact ⟨rfl, rfl⟩
    · rw [ex _ (by omega)]; exact ⟨rfl, rfl⟩
    · rw [ex _ (by omega)]; exact ⟨rfl, rfl⟩
    · exact ⟨e3.trans hT.2.2.2.2.2.1.symm, e4.trans hT.2.2.2.2.2.2.symm⟩
  refine ir_of (h1.cong (ex _ (by omega)) (ex _ (by omega)) (fun k g1 => em k (by omega))) (h2.cong (by rw [ex _ (by omega)]) (ex _ (by omega)) (fun k g1 g2 => em k (by omega))) (h3.cong (by rw [ex _ (by omega)]) (ex _ (by omega)) (fun k g1 g2 => em k (by omega))) (h4.cong (by rw [ex _ (by omega)]) (ex _ (by omega)) (fun k g1 g2 => em k (by omega))) (h5.cong (by rw [ex _ (by omega)]) (ex _ (by omega)) (fun k g1 g2 => em k (by omega))) (h6.cong (by rw [ex _ (by omega)]) (ex _ (by omega)) (fun k g1 g2 => em k (by omega))) (h7.cong (by rw [ex _ (by omega)]) (by rw [ex _ (by omega)]) (fun k g1 g2 => em k (by omega))) ⟨by omega, f4, e5, fun jj => if jj < nq then kk (jj + dd) else ns, fun ii jj hij hj => ?_, fun jj hj => ?_⟩
  · dsimp only
    by_cases hq : jj < nq
    · rw [if_pos hq, if_pos (by omega)]; exact p4 _ _ (by omega) (by omega)
    · rw [if_neg hq]
      by_cases hq2 : ii < nq
      · rw [if_pos hq2]; exact (p5 _ (by omega)).1
      · rw [if_neg hq2]; exact Nat.le_refl _
  · dsimp only
    by_cases hq : jj < nq
    · rw [if_pos hq]
      obtain ⟨q0, q1, q2, q3, q4, q5, q6⟩ := p5 (jj + dd) (by omega)
      have eρ : ∀ z, z < 30 → gI σm' 79 (138 + 30 * jj + z) = gI σm 79 (138 + 30 * (jj + dd) + z) := fun z hz => by
        rw [show 138 + 30 * jj + z = 138 + (30 * jj + z) by omega, f5 _ (by omega)]
        congr 1; omega
      have ec : ∀ z, z < 15 → gI σx' 15 (jj * 15 + z) = gI σx 15 ((jj + dd) * 15 + z) := fun z hz => by
        rw [e6 _ (by omega)]
        congr 1; omega
      refine ⟨q0, ⟨?_, ?_⟩, ?_, ⟨?_, ?_⟩, fun uu hu => ?_, fun vv hv => ?_, fun vv hv ww hw => ?_⟩
      · show gI σx' 15 _ = _
        rw [ec 0 (by omega), eρ 28 (by omega)]; exact q1.1
      · rw [eρ 28 (by omega)]; exact q1.2
      · show gI σx' 15 _ = _
        rw [ec 1 (by omega), eρ 29 (by omega)]; exact q2
      · show gI σx' 15 _ = _
        rw [ec 2 (by omega)]; exact q3.1
      · rw [eρ 7 (by omega)]; exact q3.2
      · show gI σx' 15 _ = _
        rw [ec (3 + uu) (by omega), eρ uu (by omega)]; exact q4 uu hu
      · show gI σx' 15 _ = _
        rw [ec (10 + vv) (by omega), show 138 + 30 * jj + 8 + 4 * vv + 3 = 138 + 30 * jj + (8 + 4 * vv + 3) by omega, eρ _ (by omega)]
        have := q5 vv hv
        rw [show 138 + 30 * (jj + dd) + 8 + 4 * vv + 3 = 138 + 30 * (jj + dd) + (8 + 4 * vv + 3) by omega] at this
        exact this
      · rw [show 138 + 30 * jj + 8 + 4 * vv + ww = 138 + 30 * jj + (8 + 4 * vv + ww) by omega, eρ _ (by omega), em _ (by omega)]
        have := q6 vv hv ww hw
        rw [show 138 + 30 * (jj + dd) + 8 + 4 * vv + ww = 138 + 30 * (jj + dd) + (8 + 4 * vv + ww) by omega] at this
        exact this
    · have hjn : jj = nq := by omega
      subst hjn
      rw [if_neg hq]
      have g7 : ∀ k, k < 23 → gI σm' 79 (138 + 30 * jj + (7 + k)) = gI σm 79 (45 + k) := fun k hk => by
        rw [← f7 k hk]; congr 1; omega
      refine ⟨Nat.le_refl _, ⟨?_, ?_⟩, ?_, ⟨?_, ?_⟩, fun uu hu => ?_, fun vv hv => ?_, fun vv hv ww hw => ?_⟩
      · show gI σx' 15 _ = _
        rw [e7, show 138 + 30 * jj + 28 = 138 + 30 * jj + (7 + 21) by omega, g7 21 (by omega)]
        exact h7.2.2.1.trans h7.2.1.symm
      · rw [show 138 + 30 * jj + 28 = 138 + 30 * jj + (7 + 21) by omega, g7 21 (by omega)]
        exact ⟨hr, h7.1, h7.2.1⟩
      · show gI σx' 15 _ = _
        rw [e8, show 138 + 30 * jj + 29 = 138 + 30 * jj + (7 + 22) by omega, g7 22 (by omega)]
        exact h7.2.2.2
      · exact e9
      · rw [show 138 + 30 * jj + 7 = 138 + 30 * jj + (7 + 0) by omega, g7 0 (by omega)]
        exact h3.2.1
      · show gI σx' 15 _ = _
        rw [e10 uu hu, f6 uu (by omega), show 20 + 4 * uu = 17 + 4 * uu + 3 by omega]
        exact h2.2.2.2.1 uu 3 hu (by omega)
      · show gI σx' 15 _ = _
        rw [e11 vv hv, show 138 + 30 * jj + 8 + 4 * vv + 3 = 138 + 30 * jj + (7 + (1 + 4 * vv + 3)) by omega, g7 _ (by omega), show 45 + (1 + 4 * vv + 3) = 46 + 4 * vv + 3 by omega]
        exact h3.2.2.2.1 vv 3 hv (by omega)
      · rw [show 138 + 30 * jj + 8 + 4 * vv + ww = 138 + 30 * jj + (7 + (1 + 4 * vv + ww)) by omega, g7 _ (by omega), em _ (by omega)]
        congr 1; omega
end C8
