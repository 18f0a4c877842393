/-! ===== the fraction ===== -/
theorem lgc_n {aa bb : Nat} (ha : aa < 2 ^ 63) (hb : bb < 2 ^ 63) : lg_cmp (lN aa) (lN bb) = if bb < aa then 1 else if aa = bb then 0 else -1 := by
  unfold lg_cmp
  by_cases h1 : bb < aa
  · rw [if_pos ((pk_lLT hb ha).mpr h1), if_pos h1]
  · rw [if_neg (fun hq => h1 ((pk_lLT hb ha).mp hq)), if_neg h1]
    by_cases h2 : aa = bb
    · rw [if_pos (by rw [h2]), if_pos h2]
    · rw [if_neg (fun hq => h2 ((pk_lEQ ha hb).mp hq)), if_neg h2]
theorem lgc_0 {aa : Nat} (ha : aa < 2 ^ 63) : lg_cmp (lN aa) (lN 0) = 0 ↔ aa = 0 := by
  rw [lgc_n ha (by omega)]
  by_cases h1 : 0 < aa
  · rw [if_pos h1]
    exact ⟨fun hq => absurd hq (by decide), fun hq => by omega⟩
  · rw [if_neg h1, if_pos (by omega)]
    exact ⟨fun _ => by omega, fun _ => rfl⟩
theorem lN_ne {aa : Nat} (h0 : 0 < aa) (ha : aa < 2 ^ 63) : decide (¬ lN aa = 0) = true := by
  rw [decide_eq_true_iff]
  intro hq
  have : aa = 0 := (pk_lEQ ha (by omega)).mp (hq.trans (by decide +kernel : (0 : Int64) = lN 0))
  omega
theorem eu_step {xx yy : Nat} (hy : 0 < yy) (hxy : yy < xx) : 2 * (yy * (xx % yy)) < xx * yy := by
  have h1 : xx % yy < yy := Nat.mod_lt _ hy
  have h2 : yy * (xx / yy) + xx % yy = xx := Nat.div_add_mod xx yy
  have h3 : 1 ≤ xx / yy := (Nat.one_le_div_iff hy).mpr (by omega)
  have h4 : yy * 1 ≤ yy * (xx / yy) := Nat.mul_le_mul_left _ h3
  have h5 : 2 * (xx % yy) < xx := by omega
  calc 2 * (yy * (xx % yy)) = yy * (2 * (xx % yy)) := by rw [Nat.mul_left_comm]
    _ < yy * xx := Nat.mul_lt_mul_of_pos_left h5 hy
    _ = xx * yy := Nat.mul_comm _ _
theorem gcd_both {AA BB : Nat} (hA : AA < 2 ^ 62) (hB0 : 0 < BB) (hB : BB ≤ 5040) : Two
    (lp FUEL (u3 (fun (m4 : Int64) (m5 : Int64) (n6 : Int32) => if (nI 100) ≤ n6 then some (Sum.inr m4) else (if (lg_cmp m5 (lN 0)) = 0 then some (Sum.inr m4) else (gd (decide (¬ m5 = 0)) (nm (m4 - m4 / m5 * m5) (fun (l7 : Int64) => nm m5 (fun (l8 : Int64) => nm l7 (fun (l9 : Int64) => nm (n6 + (nI 1)) (fun (i10 : Int32) => some (Sum.inl (l8, l9, i10))))))))))) (lN AA, lN BB, nI 0))
    (lp FUEL (u2 (fun (m4 : Int64) (m5 : Int64) => if (lg_cmp m5 (lN 0)) = 0 then some (Sum.inr m4) else (gd (decide (¬ m5 = 0)) (nm (m4 - m4 / m5 * m5) (fun (l6 : Int64) => nm m5 (fun (l7 : Int64) => nm l6 (fun (l8 : Int64) => some (Sum.inl (l7, l8))))))))) (lN AA, lN BB))
    (fun e1 e2 => ∃ gg, 0 < gg ∧ gg ≤ 5040 ∧ e1 = lN gg ∧ e2 = lN gg) := by
  refine tw_lp (fun ii x1 x2 => ∃ xx yy, x1 = (lN xx, lN yy, nI ii) ∧ x2 = (lN xx, lN yy) ∧ ((ii = 0 ∧ xx = AA ∧ yy = BB) ∨ (1 ≤ ii ∧ yy < xx ∧ xx ≤ 5040 ∧ xx * yy * 2 ^ (ii - 1) < 2 ^ 25))) 40 (by omega) ⟨AA, BB, rfl, rfl, Or.inl ⟨rfl, rfl, rfl⟩⟩ ?_
  rintro ii x1 x2 hi ⟨xx, yy, rfl, rfl, hI⟩
  rw [u3_s, u2_s]
  refine tw_ifx (fun hq => by have := (nI_le_iff (by omega) (by omega)).mp hq; omega) ?_
  have hx62 : xx < 2 ^ 62 := by rcases hI with ⟨h1, h2, h3⟩ | ⟨h1, h2, h3, h4⟩ <;> omega
  have hy5 : yy ≤ 5040 := by rcases hI with ⟨h1, h2, h3⟩ | ⟨h1, h2, h3, h4⟩ <;> omega
  refine tw_ite Iff.rfl (fun hc => ?_) (fun hc => ?_)
  · have hy0 : yy = 0 := (lgc_0 (by omega)).mp hc
    refine tw_some (s2_r ⟨xx, ?_, ?_, rfl, rfl⟩)
    · rcases hI with ⟨h1, h2, h3⟩ | ⟨h1, h2, h3, h4⟩ <;> omega
    · rcases hI with ⟨h1, h2, h3⟩ | ⟨h1, h2, h3, h4⟩ <;> omega
  · have hy0 : 0 < yy := by
      rcases Nat.eq_zero_or_pos yy with hz | hz
      · exact absurd ((lgc_0 (by omega)).mpr hz) hc
      · exact hz
    have hm : xx % yy < yy := Nat.mod_lt _ hy0
    refine tw_gx (lN_ne hy0 (by omega)) (tw_gm (lN_ne hy0 (by omega)) (tw_nmx (tw_nmx (tw_nmx (tw_nmx (tw_nmm (tw_nmm (tw_nmm (tw_some (s2_l ⟨?_, yy, xx % yy, ?_, ?_, ?_⟩))))))))))
    · rcases hI with ⟨h1, h2, h3⟩ | ⟨h1, h2, h3, h4⟩
      · omega
      · have hp : 1 ≤ xx * yy := Nat.mul_pos (by omega) hy0
        rcases Nat.lt_or_ge ii 40 with hq | hq
        · exact hq
        · exfalso
          have h5 : 2 ^ 25 ≤ 2 ^ (ii - 1) := Nat.pow_le_pow_right (by omega) (by omega)
          have h6 : 1 * 2 ^ (ii - 1) ≤ xx * yy * 2 ^ (ii - 1) := Nat.mul_le_mul_right _ hp
          omega
    · rw [pk_lRem (by omega) hy0 (by omega), nI_addn]
    · rw [pk_lRem (by omega) hy0 (by omega)]
    · refine Or.inr ⟨by omega, hm, hy5, ?_⟩
      rw [show ii + 1 - 1 = ii by omega]
      rcases hI with ⟨h1, h2, h3⟩ | ⟨h1, h2, h3, h4⟩
      · rw [h1, Nat.pow_zero, Nat.mul_one]
        have : yy * (xx % yy) ≤ 5040 * 5040 := Nat.mul_le_mul hy5 (by omega)
        omega
      · have hst := eu_step hy0 h2
        have h5 : 2 * (yy * (xx % yy)) * 2 ^ (ii - 1) ≤ xx * yy * 2 ^ (ii - 1) := Nat.mul_le_mul_right _ (by omega)
        have h6 : yy * (xx % yy) * 2 ^ ii = 2 * (yy * (xx % yy)) * 2 ^ (ii - 1) := by
          have h7 : 2 ^ ii = 2 * 2 ^ (ii - 1) := by
            rw [← Nat.pow_succ']
            congr 1
            omega
          rw [h7, Nat.mul_left_comm]
          simp only [Nat.mul_assoc]
        omega
theorem labs_n {aa : Int64} (h1 : -4611686018427387904 < aa.toInt) (h2 : aa.toInt < 4611686018427387904) : ∃ AA, AA < 2 ^ 62 ∧ labs aa = lN AA ∧ (if 0 ≤ (lg_cmp aa (lN 0)) then some aa else some (-aa)) = some (lN AA) := by
  have e0 : (lN 0).toInt = 0 := by decide +kernel
  have key : ∀ bb : Int64, 0 ≤ bb.toInt → bb.toInt < 4611686018427387904 → bb = lN bb.toInt.toNat := by
    intro bb g1 g2
    apply Int64.toInt_inj.mp
    rw [pk_lT (by omega)]
    omega
  have eneg : (-aa).toInt = -aa.toInt := by
    rw [Int64.toInt_neg]
    exact Int.bmod_eq_of_le_mul_two (by omega) (by omega)
  by_cases hp : 0 < aa.toInt
  · refine ⟨aa.toInt.toNat, by omega, ?_, ?_⟩
    · unfold labs
      rw [if_pos (Int64.lt_iff_toInt_lt.mpr (by rw [Int64.toInt_zero]; exact hp))]
      exact key aa (by omega) h2
    · rw [if_pos ((lg_cmp_ge _ _).mpr (Int64.le_iff_toInt_le.mpr (by rw [e0]; omega)))]
      exact congrArg some (key aa (by omega) h2)
  · refine ⟨(-aa).toInt.toNat, by omega, ?_, ?_⟩
    · unfold labs
      rw [if_neg (fun hq => hp (by have := Int64.lt_iff_toInt_lt.mp hq; rw [Int64.toInt_zero] at this; exact this))]
      exact key (-aa) (by omega) (by omega)
    · by_cases hz : aa.toInt = 0
      · have ha0 : aa = 0 := Int64.toInt_inj.mp (by rw [hz]; rfl)
        subst ha0
        decide +kernel
      · rw [if_neg (fun hq => by have := Int64.le_iff_toInt_le.mp ((lg_cmp_ge _ _).mp hq); rw [e0] at this; omega)]
        exact congrArg some (key (-aa) (by omega) (by omega))
/-- both set the same fraction -/
theorem frac_both {aa : Int64} {BB : Nat} (h1 : -4611686018427387904 < aa.toInt) (h2 : aa.toInt < 4611686018427387904) (hB0 : 0 < BB) (hB : BB ≤ 5040) (σ τ : SS) :
    ∃ v1 v2, FX3_set 77 aa (lN BB) σ = some (pL (pL σ 77 0 v1) 77 1 v2) ∧ FX12_fraction 78 aa (lN BB) τ = some (nI 1, pL (pL τ 78 4 v1) 78 5 v2) := by
  obtain ⟨AA, hA, e1, e2⟩ := labs_n h1 h2
  obtain ⟨g1, g2, k1, k2, gg, hg0, hg, rfl, rfl⟩ := gcd_both hA hB0 hB
  simp only [nm_eq] at k1 k2
  refine ⟨aa / lN gg, lN BB / lN gg, ?_, ?_⟩
  · unfold FX3_set FX3_greatestDivisor
    rw [e1]
    simp only [nm_eq]
    rw [bd_of k1, bd_s, if_neg (fun hq => by rw [lg_cmp_le, pk_lLE (by omega) (by omega)] at hq; omega), gd_of (lN_ne hg0 (by omega)), gd_of (lN_ne hg0 (by omega))]
  · unfold FX12_fraction
    rw [e2, bd_s]
    simp only [nm_eq]
    rw [bd_of k2, gd_of (lN_ne hg0 (by omega)), gd_of (lN_ne hg0 (by omega))]
theorem rel_frac {σx σm : SS} (R : Rel σx σm) (v1 v2 : Int64) : Rel (pL (pL σx 77 0 v1) 77 1 v2) (pL (pL σm 78 4 v1) 78 5 v2) := by
  obtain ⟨h1, h2, h3, h4, h5, h6, h7⟩ := R
  refine ⟨h1, h2, h3, h4, h5, ?_, h7⟩
  unfold Fr
  simp [gL_pL, vp_updL]
section C4
variable {σx σm : SS}
theorem nI_toL {nn : Nat} (h : nn < 2147483648) : (nI nn).toInt64 = lN nn := nI_l (by omega)
theorem q_calms (R : Rel σx σm) (a b c : Int32) : Cm (FX11_calms 0 a b c σx) (FX12_calms 78 a b c σm) := by
  obtain ⟨⟨nu, ns, nr, nn, nk, np, hr, hI, hbd⟩, hT, -⟩ := id R
  have hu7 := hI.1.1
  have hh9 := hI.1.2.2.2.2.2.2
  unfold FX11_calms FX12_calms
  simp only [lk_0_0, lk_0_8, lk_0_11, lk_78_0, lk_78_7, ln_84, ln_79]
  refine cq_bdx (isUser_x a σx) (cq_bdm (isUser_m a σm) ?_)
  rw [hI.2.2.1.1, hI.2.1.1]
  refine cq_guard R (fun h1 => cq_bdx (within_eq _ _ _ _) (cq_bdm (x := FX12_in (Int32.toInt64 b) (lN 0) (8 : Int64) σm) (by rw [l_N0, l_8]; exact in_eq _ _ _ _) (cq_guard R (fun h2 => cq_bdx (within_eq _ _ _ _) (cq_bdm (x := FX12_in (Int32.toInt64 c) (lN 0) (10 : Int64) σm) (by rw [l_N0, l_10]; exact in_eq _ _ _ _) (cq_guard R (fun h3 => ?_)))))))
  obtain ⟨uu, hu, rfl⟩ := wi_cnt (by omega) h1
  obtain ⟨mh, -, hmh, rfl⟩ := wi_in (by omega) (by omega) h2
  obtain ⟨cw, -, hcw, rfl⟩ := wi_in (by omega) (by omega) h3
  unfold FX2_takenInNext
  simp only [lk_68_0, nm_eq]
  have key : Two
    (lp FUEL (u3 (fun (n3 : Int32) (n4 : Int32) (s5 : SS) => if nI mh ≤ n4 then some (Sum.inr (n3, s5)) else (bd (FX0_goInHour 48 1 ((gI s5 1 8) + n4) (nI 127) s5) (fun (s6 : SS) => bd (FX0_takenBy 48 (nI uu) s6) (fun (r7 : Int32) => some (Sum.inl (n3 + r7, n4 + (nI 1), s6))))))) (nI 0, nI 0, σx))
    (lp FUEL (u3 (fun (m12 : Int64) (n13 : Int32) (s14 : SS) => if nI mh ≤ n13 then some (Sum.inr (m12, s14)) else (gd (inb (nI 66) 378) (bd (FX12_everyone 79 s14) (fun (r15 : Int32) => bd (FX12_blowOf 78 79 ((gI s14 79 (Int32.toNatClampNeg (nI 66))) + n13) r15 s14) (fun (s16 : SS) => gd (inb (nI uu) 7) (some (Sum.inl (m12 + (Int32.toInt64 (gI s16 84 (Int32.toNatClampNeg (nI uu)))), n13 + (nI 1), s16))))))))) (lN 0, nI 0, σm))
    (fun e1 e2 => ∃ sm s1 s2, sm ≤ 160 ∧ e1 = (nI sm, s1) ∧ e2 = (lN sm, s2) ∧ Eq0 Q3 σx s1 ∧ Eq0 P3 σm s2) := by
    refine tw_lp (fun ii x1 x2 => ∃ sm s1 s2, sm ≤ 20 * ii ∧ x1 = (nI sm, nI ii, s1) ∧ x2 = (lN sm, nI ii, s2) ∧ Eq0 Q3 σx s1 ∧ Eq0 P3 σm s2) mh (by omega) ⟨0, σx, σm, by omega, rfl, rfl, Eq0.rf, Eq0.rf⟩ ?_
    rintro ii x1 x2 hi ⟨sm, s1, s2, hsm, rfl, rfl, hE1, hE2⟩
    rw [u3_s, u3_s]
    refine tw_ite Iff.rfl (fun hc => tw_some (s2_r ⟨sm, s1, s2, by omega, rfl, rfl, hE1, hE2⟩)) (fun hc => ?_)
    have hi2 : ii < mh := by
      rcases Nat.lt_or_ge ii mh with hq | hq
      · exact hq
      · exact absurd ((nI_le_iff (by omega) (by omega)).mpr hq) hc
    obtain ⟨tkn, ahd, bhd, hB⟩ := hb_ex hI.2.2.2.2.1 (hr + ii)
    have hI1 := ir_q kd_1 hI hE1
    have hm79 : gI s2 79 = gI σm 79 := hE2.1 79 (fun hq => by rcases hq with hq | hq | hq <;> omega)
    rw [ix_n (by omega), ix_n (by omega), hI1.2.2.1.2.2.2.2.2.2.1, hm79, hI.2.1.2.2.2.2.2.2, nI_addn hr ii]
    refine tw_okx (hb_x kd_1 (tc_q kd_1 hT.1.1 hE1) hI1 hB (by omega)) (fun s3 hq3 => tw_bdx (takenBy_eq (by omega)) (tw_gm (inb_n (by omega) (by omega)) (tw_bdm (everyone_eq ln_79 (by rw [hm79]; exact hI.2.1.1) hu7) (tw_okm (hb_m (Or.inl rfl) (by rw [hm79]; exact hI.2.1.1) (by rw [hm79]; exact hB) (by omega)) (fun s4 hq4 => tw_gm (inb_n (by omega) (by omega)) ?_)))))
    have htk := hb_le hB hu
    rw [hq3.2.1 uu hu, hq4.2.1 uu hu, nI_toL (by omega), lN_add, nI_addn, nI_addn]
    exact tw_some (s2_l ⟨hi2, sm + tkn uu, s3, s4, by omega, rfl, rfl, hE1.tr hq3.1, hE2.tr hq4.1⟩)
  obtain ⟨e1, e2, k1, k2, sm, s1, s2, hsm, rfl, rfl, hE1, hE2⟩ := key
  refine cq_bd2x (by rw [k1]; rfl) (cq_bdm k2 ?_)
  rw [u2_s, nI_subn (by omega), nI_toL (by omega), nI_toL (by omega), lN_mul]
  have hb1 : sm * (10 - cw) ≤ 160 * 10 := Nat.mul_le_mul hsm (by omega)
  have hT1 : (lN (sm * (10 - cw))).toInt = ((sm * (10 - cw) : Nat) : Int) := pk_lT (by omega)
  obtain ⟨v1, v2, f1, f2⟩ := frac_both (aa := lN (sm * (10 - cw))) (BB := 10) (by rw [hT1]; omega) (by rw [hT1]; omega) (by omega) (by omega) s1 s2
  have e10 : (10 : Int64) = lN 10 := by decide +kernel
  rw [e10]
  exact cq_bdx f1 (cq_bd2m f2 (cq_some (rel_frac (rel_q R hE1 hE2) v1 v2)))
end C4
