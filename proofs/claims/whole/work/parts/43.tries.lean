/-! ===== tries, parties ===== -/
section D6
variable {σx σm : SS}
theorem q_tries (R : Rel σx σm) (a : Int32) : Cm (FX11_tries 0 a σx) (FX12_tries 78 a σm) := by
  obtain ⟨⟨nu, ns, nr, nn, nk, np, hr, hI, hbd⟩, hT, -⟩ := id R
  unfold FX11_tries FX12_tries
  simp only [lk_0_0, lk_0_10, lk_78_0]
  refine cq_bdx (isSuit_x a σx) (cq_bdm (isSuit_m a σm) ?_)
  rw [hI.2.2.1.2.1, hI.2.1.2.1]
  refine cq_guard R (fun h1 => ?_)
  obtain ⟨PP, hPP⟩ : ∃ PP, PP = Bs (fun kk => gq (fM (gI σm 79) a) kk nk) := ⟨_, rfl⟩
  have hP : PP < 64 := by rw [hPP]; exact bs_lt _
  have ex := sset_x (fun kk hk => fitsM_x hT.1.1 hI a hk)
  have em := sset_m hI a
  rw [← hPP] at ex em
  unfold FX1_nextTry
  simp only [nm_eq, lk_75_1, ln_76]
  rw [bd_of ex]
  refine cq_bdm em (cq_tw ?_)
  rw [bd2_bd]
  refine tw_bd (P1 := fun x1 x2 => x1.1 = x2 ∧ Eq0 (fun c => c = 76) σx x1.2) ?hmain (fun x1 x2 hq => ?_)
  case hmain =>
    refine tw_lp (fun v x1 x2 => ∃ few wh s, x1 = (nI few, wh, nI v, s) ∧ x2 = (wh, nI few, nI v) ∧ few ≤ 7 ∧ Eq0 (fun c => c = 76) σx s) 310 (by omega) ⟨7, -1, σx, rfl, rfl, by omega, Eq0.rf⟩ ?_
    rintro v x1 x2 hv ⟨few, wh, s, rfl, rfl, hf7, hE⟩
    rw [u4_s, u3_s]
    refine tw_ite Iff.rfl (fun hc => tw_some (s2_r ⟨rfl, hE⟩)) (fun hc => tw_ite Iff.rfl (fun hc2 => tw_some (s2_r ⟨rfl, hE⟩)) (fun hc2 => ?_))
    have hv2 := lt_of_nle hc (by omega) (by omega)
    have hax := ans_x (s := s) (A := fun kk => aw kk (nI v / nI 10) (nI v - nI v / nI 10 * nI 10)) (put1 := fun n13 s14 => FX5_awardOf n13 (nI v / nI 10) (nI v - nI v / nI 10 * nI 10) s14) (fun kk s' hk => aw_x (by omega) _ _ s')
    obtain ⟨s20, k1, k2, k3⟩ := hax
    rw [bd_of k1, bd_of (alike_x hP k3)]
    have hmm := alike_m (PP := PP) (E := fun aa bb => decide (aw aa (nI v / nI 10) (nI v - nI v / nI 10 * nI 10) = aw bb (nI v / nI 10) (nI v - nI v / nI 10 * nI 10))) (inn := fun n15 n19 => bd (FX12_has (nI PP) n15 σm) (fun (r20 : Int32) => if r20 = 0 then some (nI 0) else bd (FX12_has (nI PP) n19 σm) (fun (r21 : Int32) => if r21 = 0 then some (nI 0) else bd (FX12_awardOf n15 (nI v / nI 10) (nI v - nI v / nI 10 * nI 10) σm) (fun (r22 : Int32) => bd (FX12_awardOf n19 (nI v / nI 10) (nI v - nI v / nI 10 * nI 10) σm) (fun (r23 : Int32) => if r22 = r23 then some (nI 1) else some (nI 0)))))) (fun aa bb ha hb => by
      rw [bd_of (has_b hP ha σm)]
      by_cases g1 : PP.testBit aa = true
      · rw [if_pos g1, if_neg n1_0, bd_of (has_b hP hb σm)]
        by_cases g2 : PP.testBit bb = true
        · rw [if_pos g2, if_neg n1_0, bd_of (aw_m (by omega) _ _ σm), bd_of (aw_m (by omega) _ _ σm), g1, g2, Bool.true_and, Bool.true_and]
          by_cases g3 : aw aa (nI v / nI 10) (nI v - nI v / nI 10 * nI 10) = aw bb (nI v / nI 10) (nI v - nI v / nI 10 * nI 10)
          · rw [if_pos g3, if_pos (decide_eq_true g3)]
          · rw [if_neg g3, if_neg (by rw [decide_eq_true_iff]; exact g3)]
        · rw [if_neg g2, if_pos rfl, Bool.eq_false_iff.mpr g2, Bool.and_false, Bool.false_and, if_neg (by decide)]
      · rw [if_neg g1, if_pos rfl, Bool.eq_false_iff.mpr g1, Bool.false_and, Bool.false_and, if_neg (by decide)])
    simp only [bd_bd, bd_s] at hmm
    rw [bd_of hmm]
    have hmo := mo_le (PP := PP) (E := fun aa bb => decide (aw aa (nI v / nI 10) (nI v - nI v / nI 10 * nI 10) = aw bb (nI v / nI 10) (nI v - nI v / nI 10 * nI 10)))
    obtain ⟨al, hal⟩ : ∃ al, al = mo PP (fun aa bb => decide (aw aa (nI v / nI 10) (nI v - nI v / nI 10 * nI 10) = aw bb (nI v / nI 10) (nI v - nI v / nI 10 * nI 10))) := ⟨_, rfl⟩
    rw [← hal] at hmo ⊢
    by_cases hfa : nI few ≤ nI al
    · rw [if_pos hfa, if_pos hfa, if_pos hfa, bd_s, u2_s, bd_s, bd_s]
      exact tw_some (s2_l ⟨by omega, few, wh, s20, by rw [nI_addn], by rw [nI_addn], hf7, hE.tr k2⟩)
    · rw [if_neg hfa, if_neg hfa, if_neg hfa, bd_s, u2_s, bd_s, bd_s]
      exact tw_some (s2_l ⟨by omega, al, nI v, s20, by rw [nI_addn], by rw [nI_addn], by omega, hE.tr k2⟩)
  obtain ⟨w1z, w2z⟩ := x1
  obtain ⟨g3, g4⟩ := hq
  dsimp only at g3 g4
  subst g3
  rw [u2_s, bd2_s]
  exact tw_some ⟨rfl, rel_76 R g4⟩
/-! parties -/
def Wd (sv pv : Nat) (D A : Int32) : Int32 := (if pv = 1 then D else if sv = 1 then A else nI 0) - nI 5 * nI sv
theorem toWind_eq {sv pv : Nat} (hs : sv ≤ 1) (hp : pv ≤ 1) (D A : Int32) (σ : SS) : FX6_toWind (nI sv) (nI pv) D A σ = some (Wd sv pv D A) := by
  have e1 : ∀ {zz : Nat}, zz ≤ 1 → ((nI zz = nI 1) ↔ zz = 1) := fun hz => nI_eqn (by omega) (by omega)
  unfold FX6_toWind Wd
  by_cases h1 : sv = 1
  · rw [if_pos ((e1 hs).mpr h1), bd_s, nm_eq, if_pos h1]
    by_cases h2 : pv = 1
    · rw [if_pos ((e1 hp).mpr h2), bd_s, if_pos h2]
    · rw [if_neg (fun hq => h2 ((e1 hp).mp hq)), bd_s, if_neg h2]
  · rw [if_neg (fun hq => h1 ((e1 hs).mp hq)), bd_s, nm_eq, if_neg h1]
    by_cases h2 : pv = 1
    · rw [if_pos ((e1 hp).mpr h2), bd_s, if_pos h2]
    · rw [if_neg (fun hq => h2 ((e1 hp).mp hq)), bd_s, if_neg h2]
/-- what goes from the user to the wind, before the costs -/
def By (sv pv : Nat) (D A : Int32) : Int32 := if pv = 1 then D else if sv = 1 then A else nI 0
theorem sub_z (x : Int32) : x - nI 5 * nI 0 = x := by
  have : nI 5 * nI 0 = (0 : Int32) := by decide +kernel
  rw [this, Int32.sub_zero]
theorem sub_5 (x : Int32) : x - nI 5 * nI 1 = x - nI 5 := by
  have : nI 5 * nI 1 = nI 5 := by decide +kernel
  rw [this]
theorem gain_eq {sv pv vv uu : Nat} (hs : sv ≤ 1) (hp : pv ≤ 1) (hv : vv < 50) (hu : uu < 50) (h47 : gI σm 79 (47 + 4 * vv) = nI uu) {A : Int32} (hA : FX12_awardNow 78 (nI vv) σm = some A) : FX12_gain 78 (nI vv) (nI 0) (nI (sv + 2 * pv)) σm = some (Wd sv pv (gI σm 79 (20 + 4 * uu)) A) ∧ FX12_gain 78 (nI vv) (nI 1) (nI (sv + 2 * pv)) σm = some (-(By sv pv (gI σm 79 (20 + 4 * uu)) A)) := by
  have t0 : (sv + 2 * pv).testBit 0 = decide (sv = 1) := by
    have hz : (sv = 0 ∨ sv = 1) ∧ (pv = 0 ∨ pv = 1) := by omega
    obtain ⟨rfl | rfl, rfl | rfl⟩ := hz <;> decide
  have t1 : (sv + 2 * pv).testBit 1 = decide (pv = 1) := by
    have hz : (sv = 0 ∨ sv = 1) ∧ (pv = 0 ∨ pv = 1) := by omega
    obtain ⟨rfl | rfl, rfl | rfl⟩ := hz <;> decide
  have hd : bd (FX12_suitOf 79 (nI vv) (nI 1) σm) (fun (r5 : Int32) => bd (FX12_duesOf 78 r5 σm) (fun (r6 : Int32) => some r6)) = some (gI σm 79 (20 + 4 * uu)) := by
    rw [bd_of (suitOf_eq ln_79 hv (by omega) σm), show 46 + 4 * vv + 1 = 47 + 4 * vv by omega, h47, bd_of (dues_m (by omega))]
  have n01 : ¬ nI 0 = nI 1 := by decide +kernel
  unfold FX12_gain
  simp only [nm_eq, lk_78_0]
  rw [bd_of (has_n (by omega) (by omega) σm), bd_of (has_n (by omega) (by omega) σm), bd_of (has_n (by omega) (by omega) σm), bd_of (has_n (by omega) (by omega) σm), t0, t1, hd]
  unfold Wd By
  by_cases h1 : sv = 1
  · by_cases h2 : pv = 1
    · simp only [h1, h2, decide_true, if_true, if_neg n1_0, bd_s, if_neg n01, sub_5]
      exact ⟨trivial, trivial⟩
    · rw [decide_eq_true h1, decide_eq_false h2]
      simp only [h1, if_true, if_neg n1_0, if_neg h2, Bool.false_eq_true, if_false, bd_of hA, bd_s, if_neg n01, sub_5]
      exact ⟨trivial, trivial⟩
  · have h0 : sv = 0 := by omega
    by_cases h2 : pv = 1
    · rw [decide_eq_false h1, decide_eq_true h2]
      simp only [h0, h2, if_true, if_neg n1_0, Bool.false_eq_true, if_false, bd_s, if_neg n01, sub_z]
      exact ⟨trivial, trivial⟩
    · rw [decide_eq_false h1, decide_eq_false h2]
      simp only [h0, if_true, if_neg h2, Bool.false_eq_true, if_false, bd_s, if_neg n01, sub_z, show ¬ (0 : Nat) = 1 by omega]
      exact ⟨trivial, trivial⟩
theorem i32_sub {x y : Int32} (h1 : -1000000000 ≤ x.toInt - y.toInt) (h2 : x.toInt - y.toInt ≤ 1000000000) : (x - y).toInt = x.toInt - y.toInt := by
  rw [Int32.toInt_sub]
  exact Int.bmod_eq_of_le_mul_two (by omega) (by omega)
theorem i32_add {x y : Int32} (h1 : -1000000000 ≤ x.toInt + y.toInt) (h2 : x.toInt + y.toInt ≤ 1000000000) : (x + y).toInt = x.toInt + y.toInt := by
  rw [Int32.toInt_add]
  exact Int.bmod_eq_of_le_mul_two (by omega) (by omega)
theorem i32_mul2 {y : Int32} (h1 : -500000000 ≤ y.toInt) (h2 : y.toInt ≤ 500000000) : (nI 2 * y).toInt = 2 * y.toInt := by
  rw [Int32.toInt_mul, nI_toInt (by omega)]
  exact Int.bmod_eq_of_le_mul_two (by omega) (by omega)
theorem i32_neg {x : Int32} (h1 : -1000000000 ≤ x.toInt) (h2 : x.toInt ≤ 1000000000) : (-x).toInt = -x.toInt := by
  rw [Int32.toInt_neg]
  exact Int.bmod_eq_of_le_mul_two (by omega) (by omega)
def Sm (x : Int32) : Prop := -100000000 ≤ x.toInt ∧ x.toInt ≤ 100000000
theorem sm_n {nn : Nat} (h : nn ≤ 100000000) : Sm (nI nn) := by
  unfold Sm
  rw [nI_toInt (by omega)]
  omega
theorem aw_sm {kk dd : Nat} {gg : Int32} (hk : kk ≤ 5) (hd : dd ≤ 2000000) (h1 : -10000 ≤ gg.toInt) (h2 : gg.toInt ≤ 10000) : Sm (aw kk (nI dd) gg) := by
  have e1 : (nI dd).toInt = (dd : Int) := nI_toInt (by omega)
  have e2 : (nI dd + gg).toInt = dd + gg.toInt := by rw [i32_add (by omega) (by omega), e1]
  unfold aw
  have hz : kk = 0 ∨ kk = 1 ∨ kk = 2 ∨ kk = 3 ∨ kk = 4 ∨ kk = 5 := by omega
  rcases hz with rfl | rfl | rfl | rfl | rfl | rfl
  · exact sm_n (by omega)
  · show Sm (nI 2 * nI dd)
    rw [nI_muln]; exact sm_n (by omega)
  · show Sm (nI dd + gg)
    unfold Sm; omega
  · show Sm ((nI dd + nI 1) / nI 2)
    rw [nI_addn, pk_div (by omega) (by omega) (by omega)]; exact sm_n (by omega)
  · show Sm (if nI 8 ≤ gg then nI 2 * (nI dd + gg) else nI 0)
    split
    · unfold Sm; rw [i32_mul2 (by omega) (by omega)]; omega
    · exact sm_n (by omega)
  · show Sm (if nI 40 < nI 2 * nI dd then nI 40 else nI 2 * nI dd)
    split
    · exact sm_n (by omega)
    · rw [nI_muln]; exact sm_n (by omega)
theorem neg_lt {x y : Int32} (hx : Sm x) (hy : Sm y) {c5 : Int32} (h5 : Sm c5) : (y - c5 < x - c5) ↔ (-x < -y) := by
  unfold Sm at hx hy h5
  rw [Int32.lt_iff_toInt_lt, Int32.lt_iff_toInt_lt, i32_sub (by omega) (by omega), i32_sub (by omega) (by omega), i32_neg (by omega) (by omega), i32_neg (by omega) (by omega)]
  omega
theorem pair_x {sv pv : Nat} (hs : sv ≤ 1) (hp : pv ≤ 1) : (nI (sv + 2 * pv) &&& nI 1) = nI sv ∧ (nI (sv + 2 * pv) >>> (nI 1 &&& 31)) = nI pv ∧ nI 1 - nI sv = nI (1 - sv) ∧ nI 1 - nI pv = nI (1 - pv) ∧ (nI (sv + 2 * pv) ^^^ nI 1) = nI ((1 - sv) + 2 * pv) ∧ (nI (sv + 2 * pv) ^^^ nI 2) = nI (sv + 2 * (1 - pv)) := by
  have hz : (sv = 0 ∨ sv = 1) ∧ (pv = 0 ∨ pv = 1) := by omega
  obtain ⟨rfl | rfl, rfl | rfl⟩ := hz <;> decide +kernel
theorem q_parties (R : Rel σx σm) (a : Int32) : Cm (FX11_parties 0 a σx) (FX12_parties 78 a σm) := by
  obtain ⟨⟨nu, ns, nr, nn, nk, np, hr, hI, hbd⟩, hT, -⟩ := id R
  have hu7 := hI.1.1
  have hs5 := hI.1.2.1
  have hr9 := hI.1.2.2.2.2.2.2
  unfold FX11_parties FX12_parties
  simp only [lk_0_0, lk_1_3]
  refine cq_bdx (isSuit_x a σx) (cq_bdm (isSuit_m a σm) ?_)
  rw [hI.2.2.1.2.1, hI.2.1.2.1]
  refine cq_guard R (fun h1 => ?_)
  obtain ⟨vv, hv, rfl⟩ := wi_cnt (by omega) h1
  refine cq_bdx (heard_x hT.1.1 hI hv) (cq_bdm (heard_m (by omega)) ?_)
  by_cases hh : gI σm 79 (49 + 4 * vv) = nI 1
  · rw [if_pos hh, if_neg n1_0, if_neg n1_0]
    exact cq_no R
  rw [if_neg hh, if_pos nI_0, if_pos nI_0]
  obtain ⟨kk, uu, hk, hu, g1, g2, g3, g4⟩ := awn_both hT.1.1 hI hv
  have a1 : FX9_at 6 (nI vv) (nI 1) σx = some (nI uu) := by
    have := ir_suit kd_1 hT.1.1 hI hv (cc := 1) (by omega)
    rw [show 46 + 4 * vv + 1 = 47 + 4 * vv by omega, g2] at this
    exact this
  have hAe : awn (gI σm 79) vv kk uu = aw kk (gI σm 79 (20 + 4 * uu)) (gI σm 79 66 - gI σm 79 (48 + 4 * vv)) := by unfold awn; rw [if_neg hh]
  obtain ⟨dd, hdd, ed⟩ := hbd.1 uu hu
  obtain ⟨h9, hh9, e48⟩ := hbd.2.1 vv hv
  have e66 : gI σm 79 66 = nI hr := hI.2.1.2.2.2.2.2.2
  have hd2 : dd ≤ 2000000 := by
    have : 120 * hr ≤ 120 * 9999 := Nat.mul_le_mul_left _ hr9
    omega
  have hsA : Sm (awn (gI σm 79) vv kk uu) := by
    rw [hAe, ed, e66, e48]
    have i1 : (nI hr).toInt = (hr : Int) := nI_toInt (by omega)
    have i2 : (nI h9).toInt = (h9 : Int) := nI_toInt (by omega)
    refine aw_sm hk hd2 ?_ ?_
    · rw [i32_sub (by omega) (by omega)]; omega
    · rw [i32_sub (by omega) (by omega)]; omega
  have hsD : Sm (gI σm 79 (20 + 4 * uu)) := by rw [ed]; exact sm_n (by omega)
  obtain ⟨A, hA⟩ : ∃ A, A = awn (gI σm 79) vv kk uu := ⟨_, rfl⟩
  rw [← hA] at g3 g4 hsA
  obtain ⟨D, hD⟩ : ∃ D, D = gI σm 79 (20 + 4 * uu) := ⟨_, rfl⟩
  have hgn : ∀ sv pv, sv ≤ 1 → pv ≤ 1 → FX12_gain 78 (nI vv) (nI 0) (nI (sv + 2 * pv)) σm = some (Wd sv pv D A) ∧ FX12_gain 78 (nI vv) (nI 1) (nI (sv + 2 * pv)) σm = some (-(By sv pv D A)) := fun sv pv h1 h2 => by rw [hD]; exact gain_eq h1 h2 (by omega) (by omega) g2 g4
  rw [← hD] at hsD
  have hB : ∀ sv pv, Sm (By sv pv D A) := fun sv pv => by
    unfold By
    split
    · exact hsD
    · split
      · exact hsA
      · exact sm_n (by omega)
  refine cq_bdx a1 (cq_bdx (dues_x hT.1.1 hI hu) (cq_bdx g3 ?_))
  rw [← hD]
  simp only [nm_eq]
  refine cq_tw ?_
  unfold FX6_restingPairs
  simp only [nm_eq]
  rw [bd_bd]
  refine tw_bd (P1 := fun x1 x2 => x1 = x2) (tw_lp (fun pp x1 x2 => ∃ bs, x1 = (bs, nI pp) ∧ x2 = (bs, nI pp)) 4 (by omega) ⟨nI 0, rfl, rfl⟩ ?_) (fun x1 x2 hq => tw_some ⟨hq, R⟩)
  rintro pp x1 x2 hp ⟨bs, rfl, rfl⟩
  rw [u2_s, u2_s]
  refine tw_ite Iff.rfl (fun hc => tw_some (s2_r rfl)) (fun hc => ?_)
  have hp2 := lt_of_nle hc (by omega) (by omega)
  obtain ⟨sv, pv, hs1, hp1, rfl⟩ : ∃ sv pv, sv ≤ 1 ∧ pv ≤ 1 ∧ pp = sv + 2 * pv := ⟨pp % 2, pp / 2, by omega, by omega, by omega⟩
  obtain ⟨q1, q2, q3, q4, q5, q6⟩ := pair_x hs1 hp1
  rw [q1, q2, q3, q4, q5, q6, bd_of (toWind_eq hs1 hp1 D A σx), bd_of (toWind_eq (by omega) hp1 D A σx), bd_of (hgn sv pv hs1 hp1).1, bd_of (hgn (1 - sv) pv (by omega) hp1).1]
  have w4 := toWind_eq (pv := 1 - pv) hs1 (by omega) D A σx
  have w5 := (hgn sv pv hs1 hp1).2
  have w6 := (hgn sv (1 - pv) hs1 (by omega)).2
  have hlt : (Wd sv (1 - pv) D A < Wd sv pv D A) ↔ (-(By sv pv D A) < -(By sv (1 - pv) D A)) := by
    refine neg_lt (hB sv pv) (hB sv (1 - pv)) ?_
    rw [nI_muln]
    exact sm_n (by omega)
  have hor : bs ||| nI 0 = bs := by rw [nI_0]; exact Int32.or_zero
  by_cases c1 : Wd sv pv D A < Wd (1 - sv) pv D A
  · rw [if_pos c1, if_pos c1, bd_s, bd_s, bd_of w4]
    by_cases c2 : Wd sv (1 - pv) D A < Wd sv pv D A
    · rw [if_pos c2, bd_s, if_pos nI_0, if_pos nI_0, bd_s, bd_s, hor, nI_addn]
      exact tw_some (s2_l ⟨hp2, bs, rfl, rfl⟩)
    · rw [if_neg c2, bd_s, if_pos nI_0, if_pos nI_0, bd_s, bd_s, hor, nI_addn]
      exact tw_some (s2_l ⟨hp2, bs, rfl, rfl⟩)
  · rw [if_neg c1, if_neg c1, bd_s, bd_of w4, bd_of w5, bd_of w6]
    by_cases c2 : Wd sv (1 - pv) D A < Wd sv pv D A
    · rw [if_pos c2, if_pos (hlt.mp c2), bd_s, bd_s, if_neg n1_0, if_pos nI_0, if_pos nI_0, bd_s, bd_s, hor, nI_addn]
      exact tw_some (s2_l ⟨hp2, bs, rfl, rfl⟩)
    · rw [if_neg c2, if_neg (fun hq => c2 (hlt.mpr hq)), bd_s, bd_s, if_neg n1_0, if_neg n1_0, if_neg n1_0, bd_s, bd_s, nI_addn]
      exact tw_some (s2_l ⟨hp2, _, rfl, rfl⟩)
end D6
