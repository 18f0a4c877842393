/-! ===== hours pass ===== -/
def P4x (t c : Nat) : Prop := c = t + 4
def rv (K tkn : Nat → Nat) (uu : Nat) : Int32 := nI (rn (K uu) (tkn uu))
section D1
variable {σx σm : SS} {t aa nu ns nr nn nk np hr : Nat} {K tkn : Nat → Nat}
theorem rentOf_x {σ : SS} {uu kk tt : Nat} (ha : FX9_at t (nI uu) (nI 0) σ = some (nI kk)) (hk : kk ≤ 5) (hu : uu < 7) (h51 : gI σ 51 uu = nI tt) (ht : tt ≤ 20) : FX0_rentOf 48 t (nI uu) σ = some (nI (rn kk tt)) := by
  unfold FX0_rentOf
  rw [bd_of ha, bd_of (takenBy_eq hu), h51, bd_of (rn_x hk ht σ)]
theorem rents_x {s6 : SS} {n3 : Int32} (ht : kd t = 4) (hT : TCw t s6) (h3 : gI s6 (t + 3) 3 = nI nu) (hu7 : nu ≤ 7) (hK : ∀ uu, uu < nu → gI s6 (t + 4) (uu * 4 + 0) = nI (K uu) ∧ K uu ≤ 5) (h51 : ∀ uu, uu < nu → gI s6 51 uu = nI (tkn uu) ∧ tkn uu ≤ 20) :
    Ok (lp FUEL (u3 (fun (n8 : Int32) (n9 : Int32) (s10 : SS) => if (gI s10 (t + 3) 3) ≤ n9 then (some (Sum.inr (n8, s10)) : Option ((Int32 × Int32 × SS) ⊕ (Int32 × SS))) else (bd (FX0_rentOf 48 (t + 3) n9 s10) (fun (r11 : Int32) => bd (FX9_at (t + 3) n9 (nI 3) s10) (fun (r13 : Int32) => bd (FX9_put (t + 3) n9 (nI 3) (r13 + r11) s10) (fun (s14 : SS) => some (Sum.inl (n8 + r11, n9 + (nI 1), s14)))))))) (n3, nI 0, s6))
      (fun ee => ee.1 = n3 + sI (rv K tkn) nu ∧ Eq0 (P4x t) s6 ee.2 ∧ ∀ k, gI ee.2 (t + 4) k = if k % 4 = 3 ∧ k / 4 < nu then gI s6 (t + 4) k + rv K tkn (k / 4) else gI s6 (t + 4) k) := by
  have n51 : ¬ P4x t 51 := fun hq => by have h4 := isl4 ht; have : 51 = t + 4 := hq; omega
  have n3t : ¬ P4x t (t + 3) := fun hq => by have : t + 3 = t + 4 := hq; omega
  refine ok_lp (fun jj xx => ∃ s, xx = (n3 + sI (rv K tkn) jj, nI jj, s) ∧ Eq0 (P4x t) s6 s ∧ ∀ k, gI s (t + 4) k = if k % 4 = 3 ∧ k / 4 < jj then gI s6 (t + 4) k + rv K tkn (k / 4) else gI s6 (t + 4) k) nu (by omega) ⟨s6, ?_, Eq0.rf, fun k => by rw [if_neg (by omega)]⟩ ?_
  · show (n3, nI 0, s6) = (n3 + nI 0, nI 0, s6)
    rw [nI_0, Int32.add_zero]
  rintro jj xx hj ⟨s, rfl, g1, g2⟩
  have z3 : gI s (t + 3) = gI s6 (t + 3) := g1.1 _ n3t
  rw [u3_s, z3, h3]
  refine ok_ite (fun hc => ok_some ?_) (fun hc => ?_)
  · have hjj : jj = nu := by have := le_of_nI hc (by omega) (by omega); omega
    subst hjj
    exact ⟨rfl, g1, g2⟩
  have hj2 := lt_of_nle hc (by omega) (by omega)
  have w0 : gI s (t + 3) 0 = nI 4 := by rw [z3]; exact hT.1.1
  have w3z : gI s (t + 3) 3 = nI nu := by rw [z3]; exact h3
  have aK : FX9_at (t + 3) (nI jj) (nI 0) s = some (nI (K jj)) := by
    rw [at_in (ikd_3 ht) w0 w3z (iln_4 ht) hj2 (by omega) (by omega) (by omega) (by omega) (by omega)]
    have := g2 (jj * 4 + 0)
    rw [if_neg (by omega)] at this
    exact congrArg some (this.trans (hK jj hj2).1)
  have aD : FX9_at (t + 3) (nI jj) (nI 3) s = some (gI s6 (t + 4) (jj * 4 + 3)) := by
    rw [at_in (ikd_3 ht) w0 w3z (iln_4 ht) hj2 (by omega) (by omega) (by omega) (by omega) (by omega)]
    have := g2 (jj * 4 + 3)
    rw [if_neg (by omega)] at this
    exact congrArg some this
  have hre : FX0_rentOf 48 (t + 3) (nI jj) s = some (rv K tkn jj) := rentOf_x aK (hK jj hj2).2 (by omega) (by rw [g1.1 51 n51]; exact (h51 jj hj2).1) (h51 jj hj2).2
  have hpt : FX9_put (t + 3) (nI jj) (nI 3) (gI s6 (t + 4) (jj * 4 + 3) + rv K tkn jj) s = some (pI s (t + 4) (jj * 4 + 3) (gI s6 (t + 4) (jj * 4 + 3) + rv K tkn jj)) := put_in (ikd_3 ht) w0 w3z (iln_4 ht) hj2 (by omega) (by omega) (by omega) (by omega) (by omega)
  refine ok_bdr hre (ok_bdr aD (ok_bdr hpt (ok_some ⟨hj2, pI s (t + 4) (jj * 4 + 3) (gI s6 (t + 4) (jj * 4 + 3) + rv K tkn jj), ?_, g1.tr (Eq0.pI rfl), fun k => ?_⟩)))
  · show (n3 + sI (rv K tkn) jj + rv K tkn jj, nI jj + nI 1, _) = (n3 + (sI (rv K tkn) jj + rv K tkn jj), nI (jj + 1), _)
    rw [Int32.add_assoc, nI_addn]
  · rw [gI_pI_eq, upd_ap]
    by_cases hq : k = jj * 4 + 3
    · rw [if_pos hq, if_pos (by omega), hq, show (jj * 4 + 3) / 4 = jj by omega]
    · rw [if_neg hq, g2 k]
      by_cases hq2 : k % 4 = 3 ∧ k / 4 < jj
      · rw [if_pos hq2, if_pos (by omega)]
      · rw [if_neg hq2, if_neg (by omega)]
theorem goOn_m {σ : SS} {hh : Nat} {ahd bhd : Nat → Nat} (ha : aa = 79 ∨ aa = 80) (h16 : gI σ aa 16 = nI nu) (hu7 : nu ≤ 7) (h66 : gI σ aa 66 = nI hh) (hh2 : hh < 100000) (hB : HB (gI σ aa) nu hh tkn ahd bhd) (hK : ∀ uu, uu < nu → gI σ aa (17 + 4 * uu) = nI (K uu) ∧ K uu ≤ 5) :
    ∃ σ', FX12_goOn 78 aa σ = some (sI (rv K tkn) nu, σ') ∧ Eq0 (Pm aa) σ σ' ∧ gI σ' aa 66 = nI (hh + 1) ∧ ∀ k, k ≠ 66 → gI σ' aa k = if 20 ≤ k ∧ (k - 20) % 4 = 0 ∧ (k - 20) / 4 < nu then gI σ aa k + rv K tkn ((k - 20) / 4) else gI σ aa k := by
  have hl : ln aa = 378 := by rcases ha with rfl | rfl; exact ln_79; exact ln_80
  have hPa : ¬ P3 aa := fun hq => by rcases hq with hq | hq | hq <;> omega
  suffices hok : Ok (FX12_goOn 78 aa σ) (fun yy => yy.1 = sI (rv K tkn) nu ∧ Eq0 (Pm aa) σ yy.2 ∧ gI yy.2 aa 66 = nI (hh + 1) ∧ ∀ k, k ≠ 66 → gI yy.2 aa k = if 20 ≤ k ∧ (k - 20) % 4 = 0 ∧ (k - 20) / 4 < nu then gI σ aa k + rv K tkn ((k - 20) / 4) else gI σ aa k) by
    obtain ⟨⟨y1, y2⟩, g1, g2, g3⟩ := hok
    dsimp only at g2 g3
    subst g2
    exact ⟨y2, g1, g3⟩
  unfold FX12_goOn
  simp only [lk_78_7, ln_84, hl, nm_eq]
  refine ok_gn (by omega) (by omega) (ok_bdr (everyone_eq hl h16 hu7) ?_)
  rw [ix_n (by omega), h66]
  refine ok_bd (hb_m ha h16 hB (by omega)) (fun s3 hq3 => ?_)
  obtain ⟨hE3, hk3, -⟩ := hq3
  have a3 : gI s3 aa = gI σ aa := hE3.1 aa hPa
  have n84 : aa ≠ 84 := by omega
  refine ok_bd (ok_lp (fun jj xx => ∃ s, xx = (sI (rv K tkn) jj, nI jj, s) ∧ Eq0 (fun c => c = aa) s3 s ∧ ∀ k, gI s aa k = if 20 ≤ k ∧ (k - 20) % 4 = 0 ∧ (k - 20) / 4 < jj then gI σ aa k + rv K tkn ((k - 20) / 4) else gI σ aa k) nu (by omega) (Q := fun ee => ee.1 = sI (rv K tkn) nu ∧ Eq0 (fun c => c = aa) s3 ee.2 ∧ ∀ k, gI ee.2 aa k = if 20 ≤ k ∧ (k - 20) % 4 = 0 ∧ (k - 20) / 4 < nu then gI σ aa k + rv K tkn ((k - 20) / 4) else gI σ aa k) ⟨s3, rfl, Eq0.rf, fun k => by rw [if_neg (by omega), a3]⟩ ?_) ?_
  · rintro jj xx hj ⟨s, rfl, g1, g2⟩
    have z16 : gI s aa 16 = nI nu := by rw [g2 16, if_neg (by omega)]; exact h16
    rw [u3_s, ix_n (n := 16) (by omega), z16]
    refine ok_gn (by omega) (by omega) (ok_ite (fun hc => ok_some ?_) (fun hc => ?_))
    · have hjj : jj = nu := by have := le_of_nI hc (by omega) (by omega); omega
      subst hjj
      exact ⟨rfl, g1, g2⟩
    have hj2 := lt_of_nle hc (by omega) (by omega)
    refine ok_bdr (userOf_eq hl (by omega) (by omega) s) (ok_gn (by omega) (by omega) ?_)
    have zK : gI s aa (17 + 4 * jj + 0) = nI (K jj) := by rw [g2 _, if_neg (by omega)]; exact (hK jj hj2).1
    rw [zK, ix_n (by omega), g1.1 84 (fun hq => n84 hq.symm), hk3 jj hj2]
    refine ok_bdr (rn_m (hK jj hj2).2 (hb_le hB hj2) s) ?_
    rw [nI_muln, nI_addn, nI_addn]
    refine ok_gn (by omega) (by omega) (ok_gn (by omega) (by omega) (ok_some ⟨hj2, _, rfl, g1.tr (Eq0.pI rfl), fun k => ?_⟩))
    have zD : gI s aa (20 + 4 * jj) = gI σ aa (20 + 4 * jj) := by rw [g2 _, if_neg (by omega)]
    rw [ix_n (by omega), gI_pI_eq, upd_ap, zD]
    by_cases hq : k = 20 + 4 * jj
    · rw [if_pos hq, if_pos (by omega), hq, show (20 + 4 * jj - 20) / 4 = jj by omega]
      rfl
    · rw [if_neg hq, g2 k]
      by_cases hq2 : 20 ≤ k ∧ (k - 20) % 4 = 0 ∧ (k - 20) / 4 < jj
      · rw [if_pos hq2, if_pos (by omega)]
      · rw [if_neg hq2, if_neg (by omega)]
  · rintro ⟨e1, s5⟩ ⟨g0, g1, g2⟩
    dsimp only at g0 g1 g2
    subst g0
    rw [u2_s]
    refine ok_gn (by omega) (by omega) (ok_gn (by omega) (by omega) (ok_some ⟨rfl, ?_, ?_, fun k hk => ?_⟩))
    · exact (hE3.up (fun c hq => Or.inr hq)).tr ((g1.up (fun c hq => Or.inl hq)).tr (Eq0.pI (Or.inl rfl)))
    · dsimp only
      rw [gI_pI_eq, upd_eq, g2 66, if_neg (by omega), h66, nI_addn]
    · dsimp only
      rw [gI_pI_eq, upd_ne hk]
      exact g2 k
theorem ir_day {σ σ' : SS} {ρ ρ' : Nat → Int32} (hI : IR t σ ρ nu ns nr nn nk np hr) (h9 : hr < 9999) (e : ∀ c, t ≤ c → c ≤ t + 14 → c ≠ t → c ≠ t + 4 → gI σ' c = gI σ c) (e8 : gI σ' t 8 = nI (hr + 1)) (e9 : gI σ' t 9 = gI σ t 9)
    (ex : ∀ k, gI σ' (t + 4) k = if k % 4 = 3 ∧ k / 4 < nu then gI σ (t + 4) k + rv K tkn (k / 4) else gI σ (t + 4) k) (e66 : ρ' 66 = nI (hr + 1)) (em : ∀ k, k ≠ 66 → ρ' k = if 20 ≤ k ∧ (k - 20) % 4 = 0 ∧ (k - 20) / 4 < nu then ρ k + rv K tkn ((k - 20) / 4) else ρ k) : IR t σ' ρ' nu ns nr nn nk np (hr + 1) := by
  obtain ⟨h1, ⟨u1, u2z, u3z, u4z, K2, C, H, u5z, u6z⟩, h3, h4, h5, h6, ⟨i1, i2, i3, i4⟩, h8⟩ := hI.parts
  have eo : ∀ k, k ≠ 66 → (k < 20 ∨ 48 ≤ k ∨ (k - 20) % 4 ≠ 0 ∨ 20 + 4 * nu ≤ k) → ρ' k = ρ k := fun k hk hk2 => by rw [em k hk, if_neg (by omega)]
  refine ir_of (h1.cong (e _ (by omega) (by omega) (by omega) (by omega)) (e _ (by omega) (by omega) (by omega) (by omega)) (fun k g1 => eo k (by omega) (by omega))) ⟨u1, ?_, ?_, fun uu cc hu hc => ?_, K2, C, H, u5z, fun uu hu => ?_⟩ (h3.cong (by rw [e _ (by omega) (by omega) (by omega) (by omega)]) (e _ (by omega) (by omega) (by omega) (by omega)) (fun k g1 g2 => eo k (by omega) (by omega))) (h4.cong (by rw [e _ (by omega) (by omega) (by omega) (by omega)]) (e _ (by omega) (by omega) (by omega) (by omega)) (fun k g1 g2 => eo k (by omega) (by omega))) (h5.cong (by rw [e _ (by omega) (by omega) (by omega) (by omega)]) (e _ (by omega) (by omega) (by omega) (by omega)) (fun k g1 g2 => eo k (by omega) (by omega))) (h6.cong (by rw [e _ (by omega) (by omega) (by omega) (by omega)]) (e _ (by omega) (by omega) (by omega) (by omega)) (fun k g1 g2 => eo k (by omega) (by omega))) ⟨by omega, e66, e8, by rw [e9, eo 67 (by omega) (by omega)]; exact i4⟩ (h8.cong u1 h3.1 (by rw [e _ (by omega) (by omega) (by omega) (by omega)]) (e _ (by omega) (by omega) (by omega) (by omega)) (fun k g1 g2 => eo k (by omega) (by omega)) (fun vv ww g1 g2 => eo _ (by omega) (by omega)))
  · rw [eo 16 (by omega) (by omega)]; exact u2z
  · rw [e _ (by omega) (by omega) (by omega) (by omega)]; exact u3z
  · rw [ex, em _ (by omega)]
    by_cases hq : cc = 3
    · rw [if_pos (by omega), if_pos (by omega), u4z uu cc hu hc, show (uu * 4 + cc) / 4 = uu by omega, show (17 + 4 * uu + cc - 20) / 4 = uu by omega]
    · rw [if_neg (by omega), if_neg (by omega)]; exact u4z uu cc hu hc
  · rw [eo (17 + 4 * uu) (by omega) (by omega), eo (18 + 4 * uu) (by omega) (by omega), eo (19 + 4 * uu) (by omega) (by omega)]; exact u6z uu hu
theorem bd_day {ρ ρ' : Nat → Int32} (h : Bd ρ nu ns np hr) (hu7 : nu ≤ 7) (hK : ∀ uu, uu < nu → tkn uu ≤ 20) (em : ∀ k, k ≠ 66 → ρ' k = if 20 ≤ k ∧ (k - 20) % 4 = 0 ∧ (k - 20) / 4 < nu then ρ k + rv K tkn ((k - 20) / 4) else ρ k) : Bd ρ' nu ns np (hr + 1) := by
  obtain ⟨h1, h2, h3, h4⟩ := h
  refine ⟨fun uu hu => ?_, fun vv hv => ?_, fun jj hj => ?_, nb_cong h4 (fun k k1 k2 => by rw [em k (by omega), if_neg (by omega)])⟩
  · obtain ⟨dd, g1, g2⟩ := h1 uu hu
    have g3 := rn_le (kk := K uu) (hK uu hu)
    refine ⟨dd + rn (K uu) (tkn uu), by omega, ?_⟩
    rw [em _ (by omega), if_pos (by omega), g2, show (20 + 4 * uu - 20) / 4 = uu by omega]
    exact nI_addn _ _
  · rw [em _ (by omega), if_neg (by omega)]; exact h2 vv hv
  · obtain ⟨hh, g1, g2, g3⟩ := h3 jj hj
    refine ⟨hh, g1, ?_, fun uu hu => ?_⟩
    · rw [em _ (by omega), if_neg (by omega)]; exact g2
    · rw [em _ (by omega), if_neg (by omega)]; exact g3 uu hu
def Ph (t c : Nat) : Prop := c = t ∨ c = t + 4 ∨ Q3 c
theorem hours_both {mh : Nat} (ht : kd t = 4) (ha : aa = 79 ∨ aa = 80) (hm : mh ≤ 99) (hT : TCw t σx) (hI : IR t σx (gI σm aa) nu ns nr nn nk np hr) :
    ∃ acc σx' σm' h2z, FX4_passHours t (nI mh) 48 σx = some (acc, σx') ∧ FX12_hoursOf 78 aa (nI mh) σm = some (acc, σm') ∧ Eq0 (Ph t) σx σx' ∧ Eq0 (Pm aa) σm σm' ∧ TCw t σx' ∧ gI σm' aa 137 = gI σm aa 137 ∧ IR t σx' (gI σm' aa) nu ns nr nn nk np h2z ∧ (Bd (gI σm aa) nu ns np hr → Bd (gI σm' aa) nu ns np h2z) := by
  have h4 := isl4 ht
  have hl : ln aa = 378 := by rcases ha with rfl | rfl; exact ln_79; exact ln_80
  suffices hh : Two (FX4_passHours t (nI mh) 48 σx) (FX12_hoursOf 78 aa (nI mh) σm) (fun x1 x2 => x1.1 = x2.1 ∧ Eq0 (Ph t) σx x1.2 ∧ Eq0 (Pm aa) σm x2.2 ∧ TCw t x1.2 ∧ gI x2.2 aa 137 = gI σm aa 137 ∧ ∃ h2z, IR t x1.2 (gI x2.2 aa) nu ns nr nn nk np h2z ∧ (Bd (gI σm aa) nu ns np hr → Bd (gI x2.2 aa) nu ns np h2z)) by
    obtain ⟨⟨y1, y2⟩, ⟨z1, z2⟩, g1, g2, g3, g4, g5, g6, g7, h2z, g8, g9⟩ := hh
    dsimp only at g3 g4 g5 g6 g7 g8 g9
    subst g3
    exact ⟨y1, y2, z2, h2z, g1, g2, g4, g5, g6, g7, g8, g9⟩
  unfold FX4_passHours FX12_hoursOf
  simp only [nm_eq, il_2 ht, hl]
  refine tw_bd (tw_lp (P := fun x1 x2 => x1.1 = x2.1 ∧ Eq0 (Ph t) σx x1.2 ∧ Eq0 (Pm aa) σm x2.2 ∧ TCw t x1.2 ∧ gI x2.2 aa 137 = gI σm aa 137 ∧ ∃ h2z, IR t x1.2 (gI x2.2 aa) nu ns nr nn nk np h2z ∧ (Bd (gI σm aa) nu ns np hr → Bd (gI x2.2 aa) nu ns np h2z)) (fun ii x1 x2 => ∃ acc s1 s2 h2z, x1 = (acc, nI ii, s1) ∧ x2 = (acc, nI ii, s2) ∧ Eq0 (Ph t) σx s1 ∧ Eq0 (Pm aa) σm s2 ∧ TCw t s1 ∧ gI s2 aa 137 = gI σm aa 137 ∧ IR t s1 (gI s2 aa) nu ns nr nn nk np h2z ∧ (Bd (gI σm aa) nu ns np hr → Bd (gI s2 aa) nu ns np h2z)) mh (by omega) ⟨nI 0, σx, σm, hr, rfl, rfl, Eq0.rf, Eq0.rf, hT, rfl, hI, id⟩ ?_) ?_
  · rintro ii x1 x2 hi ⟨acc, s1, s2, h2z, rfl, rfl, hE1, hE2, hT1, h137, hI1, hb1⟩
    rw [u3_s, u3_s]
    refine tw_ite Iff.rfl (fun hc => tw_some (s2_r ⟨rfl, hE1, hE2, hT1, h137, h2z, hI1, hb1⟩)) (fun hc => tw_gm (inb_n (by omega) (by omega)) ?_)
    have hi2 := lt_of_nle hc (by omega) (by omega)
    have e8 := hI1.2.2.1.2.2.2.2.2.2.1
    have e66 := hI1.2.1.2.2.2.2.2.2
    have h29 := hI1.1.2.2.2.2.2.2
    have hu7 := hI1.1.1
    rw [ix_n (n := 66) (by omega), e8, e66]
    refine tw_ite Iff.rfl (fun hc2 => tw_some (s2_r ⟨rfl, hE1, hE2, hT1, h137, h2z, hI1, hb1⟩)) (fun hc2 => ?_)
    have hlt := lt_of_nle hc2 (by omega) (by omega)
    obtain ⟨tkn, ahd, bhd, hB⟩ := hb_ex hI1.2.2.2.2.1 h2z
    obtain ⟨-, ⟨-, -, u3z, u4z, K, C, H, u5z, u6z⟩, -⟩ := hI1.parts
    refine tw_okx (hb_x ht hT1 hI1 hB (by omega)) (fun s6 hq6 => ?_)
    obtain ⟨hE6, hk6, -⟩ := hq6
    have q6 : ∀ c, t ≤ c → c ≤ t + 14 → gI s6 c = gI s1 c := fun c g1 g2 => hE6.1 c (fun hq => by rcases hq with hq | hq | hq <;> omega)
    have hT6 := tc_q ht hT1 hE6
    refine tw_okx (rents_x (K := K) (tkn := tkn) ht hT6 (by rw [q6 _ (by omega) (by omega)]; exact u3z) hu7 (fun uu hu => ⟨?_, (u5z.2 uu hu).1⟩) (fun uu hu => ⟨hk6 uu hu, hb_le hB hu⟩)) (fun ee hee => ?_)
    · rw [q6 _ (by omega) (by omega), u4z uu 0 hu (by omega)]; exact (u6z uu hu).1
    obtain ⟨e1, s18⟩ := ee
    obtain ⟨g0, g1, g2⟩ := hee
    dsimp only at g0 g1 g2
    subst g0
    rw [u2_s]
    obtain ⟨s19, k1, k2, k3, k4⟩ := goOn_m (K := K) (tkn := tkn) (σ := s2) (aa := aa) ha hI1.2.1.1 hu7 e66 (by omega) hB (fun uu hu => ⟨(u6z uu hu).1, (u5z.2 uu hu).1⟩)
    have zt : gI s18 t = gI s1 t := (g1.1 t (fun hq => by have : t = t + 4 := hq; omega)).trans (q6 t (by omega) (by omega))
    refine tw_bd2m k1 (tw_some (s2_l ⟨hi2, acc + sI (rv K tkn) nu, pI s18 t 8 (gI s18 t 8 + nI 1), s19, h2z + 1, by rw [nI_addn], by rw [nI_addn], ?_, ?_, ?_, ?_, ?_, fun hb => bd_day (hb1 hb) hu7 (fun uu hu => hb_le hB hu) k4⟩))
    · exact hE1.tr ((hE6.up (fun c hq => Or.inr (Or.inr hq))).tr ((g1.up (fun c hq => Or.inr (Or.inl hq))).tr (Eq0.pI (Or.inl rfl))))
    · exact hE2.tr k2
    · refine hT6.keep (fun d hd => ?_)
      rw [gI_pI_ne (by omega), g1.1 _ (fun hq => by have : t + d = t + 4 := hq; omega)]
      exact ⟨rfl, rfl⟩
    · rw [k4 137 (by omega), if_neg (by omega)]; exact h137
    · refine ir_day (K := K) (tkn := tkn) hI1 hlt (fun c c1 c2 c3 c4 => ?_) ?_ ?_ (fun k => ?_) k3 k4
      · rw [gI_pI_ne c3, g1.1 c c4, q6 c c1 c2]
      · rw [gI_pI_eq, upd_eq, zt, e8, nI_addn]
      · rw [gI_pI_eq, upd_ne (by omega), zt]
      · rw [gI_pI_ne (by omega), g2 k, q6 _ (by omega) (by omega)]
  · rintro ⟨y1, y2⟩ ⟨z1, z2⟩ hq
    rw [u2_s, u2_s]
    exact tw_some hq
theorem q_hour (R : Rel σx σm) (a : Int32) : Cm (FX11_hour 0 a σx) (FX12_hour 78 a σm) := by
  obtain ⟨⟨nu, ns, nr, nn, nk, np, hr, hI, hbd⟩, hT, -⟩ := id R
  unfold FX11_hour FX12_hour
  rw [l_N1, l_99]
  simp only [lk_0_0, lk_0_6, lk_78_0]
  refine cq_bdx (within_eq _ _ _ _) (cq_bdm (in_eq _ _ _ _) (cq_guard R (fun h1 => ?_)))
  obtain ⟨mh, -, hm, rfl⟩ := wi_in (by omega) (by omega) h1
  obtain ⟨s1, s2, nq, e1, e2, e3, e4, e5, e6, e7, e9⟩ := keep_both hT.1.1 hI
  obtain ⟨acc, s3, s4, h2z, f1, f2, f3, f4, f5, f6, f7, f8⟩ := hours_both (mh := mh) kd_1 (Or.inl rfl) hm e5 e7
  refine cq_bdx e1 (cq_bd2x f1 (cq_bdm e2 (cq_bd2m f2 (cq_some ?_))))
  exact rel_now R ((e3.up (fun c hq => Or.inl (by rcases hq with hq | hq <;> omega))).tr (f3.up (fun c hq => by rcases hq with hq | hq | hq; exact Or.inl (by omega); exact Or.inl (by omega); exact Or.inr hq))) ((e4.up (fun c hq => Or.inl hq)).tr f4) f5 ⟨nu, ns, nr, nn, nk, nq, h2z, f7, f8 (e9 hbd)⟩
/-! then -/
theorem layFresh_m (σ : SS) : Ok (FX12_layFresh 78 σ) (fun s => Eq0 (fun c => c = 80) σ s ∧ ∀ k, k < 378 → gI s 80 k = gI σ 79 k) := by
  unfold FX12_layFresh
  simp only [lk_78_0, lk_78_1, ln_79, ln_80, nm_eq]
  refine ok_bd (ok_lp (fun jj xx => ∃ s, xx = (nI jj, s) ∧ Eq0 (fun c => c = 80) σ s ∧ ∀ k, k < jj → gI s 80 k = gI σ 79 k) 378 (by omega) (Q := fun s => Eq0 (fun c => c = 80) σ s ∧ ∀ k, k < 378 → gI s 80 k = gI σ 79 k) ⟨σ, rfl, Eq0.rf, fun _ hq => absurd hq (Nat.not_lt_zero _)⟩ ?_) (fun s hq => ok_some hq)
  rintro jj xx hj ⟨s, rfl, g1, g2⟩
  rw [u2_s]
  refine ok_ite (fun hc => ok_some ?_) (fun hc => ?_)
  · have hjj : jj = 378 := by have := le_of_nI hc (by omega) (by omega); omega
    subst hjj
    exact ⟨g1, g2⟩
  have hj2 := lt_of_nle hc (by omega) (by omega)
  rw [ix_n (by omega), nI_addn]
  refine ok_gn (by omega) (by omega) (ok_gn (by omega) (by omega) (ok_some ⟨hj2, _, rfl, g1.tr eo_pI, fun k hk => ?_⟩))
  rw [gI_pI_eq, upd_ap]
  by_cases hq : k = jj
  · rw [if_pos hq, hq, g1.1 79 (by omega)]
  · rw [if_neg hq]; exact g2 k (by omega)
theorem hb_cong {ρ ρ' : Nat → Int32} {n1 hh : Nat} {t1 ahd bhd : Nat → Nat} (h : HB ρ n1 hh t1 ahd bhd) (hn : n1 ≤ 7) (hm : ∀ k, k < 45 → (∀ uu, uu < 7 → k ≠ 20 + 4 * uu) → ρ' k = ρ k) : HB ρ' n1 hh t1 ahd bhd := by
  obtain ⟨K, C, H, sx, sd, hU, hK, h1, h2, h3, h4, h5⟩ := h
  have h8 : hh % 8 < 8 := Nat.mod_lt _ (by omega)
  refine ⟨K, C, H, sx, sd, hU, fun uu hu => ?_, h1, h2, ?_, ?_, h5⟩
  · rw [hm (17 + 4 * uu) (by omega) (fun _ _ => by omega), hm (18 + 4 * uu) (by omega) (fun _ _ => by omega), hm (19 + 4 * uu) (by omega) (fun _ _ => by omega)]; exact hK uu hu
  · rw [hm _ (by omega) (fun _ _ => by omega)]; exact h3
  · rw [hm _ (by omega) (fun _ _ => by omega)]; exact h4
def P80 (c : Nat) : Prop := c = 80 ∨ P3 c
theorem q_then (R : Rel σx σm) (a b : Int32) : Cm (FX11_then 0 a b σx) (FX12_then 78 a b σm) := by
  obtain ⟨⟨nu, ns, nr, nn, nk, np, hr, hI, hbd⟩, hT, -⟩ := id R
  have hu7 := hI.1.1
  have hr9 := hI.1.2.2.2.2.2.2
  have e8 := hI.2.2.1.2.2.2.2.2.2.1
  have e66 := hI.2.1.2.2.2.2.2.2
  obtain ⟨-, ⟨-, u2z, u3z, u4z, K, C, H, u5z, u6z⟩, -⟩ := hI.parts
  unfold FX11_then FX12_then
  rw [l_N0, l_99]
  simp only [lk_0_0, lk_0_8, lk_78_1]
  refine cq_bdx (isUser_x a σx) (cq_bdm (isUser_m a σm) ?_)
  rw [hI.2.2.1.1, hI.2.1.1]
  refine cq_guard R (fun h1 => cq_bdx (within_eq _ _ _ _) (cq_bdm (in_eq _ _ _ _) (cq_guard R (fun h2 => ?_))))
  obtain ⟨uu, hu, rfl⟩ := wi_cnt (by omega) h1
  obtain ⟨mh, -, hmh, rfl⟩ := wi_in (by omega) (by omega) h2
  refine cq_okm (layFresh_m σm) (fun s7 hq7 => ?_)
  obtain ⟨hE7, hk7⟩ := hq7
  have hdx : FX4_duesOf 1 (nI uu) σx = some (gI σm 79 (20 + 4 * uu)) := dues_x hT.1.1 hI hu
  unfold FX2_duesBehind
  simp only [nm_eq, lk_68_0, lk_1_2]
  suffices hh : Two (bd (FX4_duesOf 1 (nI uu) σx) (fun (r1 : Int32) => bd (lp FUEL (u3 (fun (n4 : Int32) (n5 : Int32) (s6 : SS) => if (nI mh) ≤ n5 then some (Sum.inr (n4, s6)) else (bd (FX0_goInHour 48 1 ((gI s6 1 8) + n5) (nI 127) s6) (fun (s7 : SS) => bd (FX0_rentOf 48 4 (nI uu) s7) (fun (r8 : Int32) => some (Sum.inl (n4 + r8, n5 + (nI 1), s7))))))) (r1, nI 0, σx)) (u2 (fun (e11 : Int32) (s12 : SS) => some ((e11, s12))))))
      (bd (lp FUEL (u2 (fun (n9 : Int32) (s10 : SS) => if (nI mh) ≤ n9 then some (Sum.inr s10) else (bd2 (FX12_goOn 78 80 s10) (fun (r11 : Int32) (s12 : SS) => some (Sum.inl (n9 + (nI 1), s12)))))) (nI 0, s7)) (fun (s15 : SS) => bd (FX12_userOf 80 (nI uu) (nI 3) s15) (fun (r16 : Int32) => some ((r16, s15)))))
      (fun x1 x2 => x1.1 = x2.1 ∧ Eq0 Q3 σx x1.2 ∧ Eq0 P80 σm x2.2) by
    obtain ⟨⟨y1, y2⟩, ⟨z1, z2⟩, g1, g2, g3, g4, g5⟩ := hh
    dsimp only at g3 g4 g5
    subst g3
    rw [g1, g2]
    refine cq_bd2x rfl (cq_some ?_)
    refine R.cong (fun c hc => g4.1 c (fun hq => ?_)) (g4.2 77 (fun hq => ?_)) (R.2.1.cong (fun c h1 => g4.1 c (fun hq => ?_)) (g4.1 69 (fun hq => ?_))) (fun c hc => g5.1 c (fun hq => ?_)) (g5.2 78 (fun hq => ?_))
    · rcases hq with hq | hq | hq <;> omega
    · rcases hq with hq | hq | hq <;> omega
    · rcases hq with hq | hq | hq <;> omega
    · rcases hq with hq | hq | hq <;> omega
    · rcases hq with hq | hq | hq | hq <;> omega
    · rcases hq with hq | hq | hq | hq <;> omega
  refine tw_bdx hdx (tw_bd (tw_lp (P := fun x1 s2 => x1.1 = gI s2 80 (20 + 4 * uu) ∧ Eq0 Q3 σx x1.2 ∧ Eq0 P80 σm s2) (fun ii x1 x2 => ∃ s1 s2, x1 = (gI s2 80 (20 + 4 * uu), nI ii, s1) ∧ x2 = (nI ii, s2) ∧ Eq0 Q3 σx s1 ∧ Eq0 P80 σm s2 ∧ gI s2 80 66 = nI (hr + ii) ∧ ∀ k, k < 45 → (∀ vv, vv < 7 → k ≠ 20 + 4 * vv) → gI s2 80 k = gI σm 79 k) mh (by omega) ⟨σx, s7, ?_, rfl, Eq0.rf, ?_, ?_, ?_⟩ ?_) ?_)
  · rw [hk7 _ (by omega)]
  · exact hE7.up (fun c hq => Or.inl hq)
  · rw [hk7 _ (by omega)]; exact e66
  · intro k hk _; exact hk7 k (by omega)
  · rintro ii x1 x2 hi ⟨s1, s2, rfl, rfl, hE1, hE2, h66, hk2⟩
    rw [u3_s, u2_s]
    refine tw_ite Iff.rfl (fun hc => tw_some (s2_r ⟨rfl, hE1, hE2⟩)) (fun hc => ?_)
    have hi2 := lt_of_nle hc (by omega) (by omega)
    obtain ⟨tkn, ahd, bhd, hB⟩ := hb_ex hI.2.2.2.2.1 (hr + ii)
    have hI1 := ir_q kd_1 hI hE1
    have hT1 := tc_q kd_1 hT.1.1 hE1
    rw [hI1.2.2.1.2.2.2.2.2.2.1, nI_addn hr ii]
    refine tw_okx (hb_x kd_1 hT1 hI1 hB (by omega)) (fun s3 hq3 => ?_)
    have aK : FX9_at 4 (nI uu) (nI 0) s3 = some (nI (K uu)) := by
      have := ir_user kd_1 (tc_q kd_1 hT1 hq3.1) (ir_q kd_1 hI1 hq3.1) hu (cc := 0) (by omega)
      rw [show 17 + 4 * uu + 0 = 17 + 4 * uu from rfl, (u6z uu hu).1] at this
      exact this
    have hre : FX0_rentOf 48 4 (nI uu) s3 = some (rv K tkn uu) := rentOf_x aK (u5z.2 uu hu).1 (by omega) (hq3.2.1 uu hu) (hb_le hB hu)
    obtain ⟨s19, k1, k2, k3, k4⟩ := goOn_m (K := K) (tkn := tkn) (σ := s2) (aa := 80) (hh := hr + ii) (nu := nu) (Or.inr rfl) (by rw [hk2 16 (by omega) (fun _ _ => by omega)]; exact u2z) hu7 h66 (by omega) (hb_cong hB hu7 hk2) (fun vv hv => ⟨by rw [hk2 _ (by omega) (fun _ _ => by omega)]; exact (u6z vv hv).1, (u5z.2 vv hv).1⟩)
    refine tw_bdx hre (tw_bd2m k1 (tw_some (s2_l ⟨hi2, s3, s19, ?_, by rw [nI_addn], hE1.tr hq3.1, hE2.tr k2, ?_, fun k hk hk3 => ?_⟩)))
    · rw [k4 _ (by omega), if_pos (by omega), show (20 + 4 * uu - 20) / 4 = uu by omega, nI_addn]
    · rw [k3]; rfl
    · rw [k4 k (by omega), if_neg (fun hq => hk3 ((k - 20) / 4) (by omega) (by omega))]
      exact hk2 k hk hk3
  · rintro ⟨y1, y2⟩ s2 ⟨g1, g2, g3⟩
    dsimp only at g1 g2
    subst g1
    rw [u2_s]
    refine tw_bdm (userOf_eq ln_80 (by omega) (by omega) s2) (tw_some ⟨?_, g2, g3⟩)
    dsimp only
    rw [show 17 + 4 * uu + 3 = 20 + 4 * uu by omega]
end D1
