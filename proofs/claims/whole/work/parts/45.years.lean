/-! ===== years by a seed ===== -/
section D8
variable {σx σm : SS}
theorem rentAll_x {s6 : SS} {t nu : Nat} {K tkn : Nat → Nat} (h3 : gI s6 t 3 = nI nu) (hu7 : nu ≤ 7) (hK : ∀ uu, uu < nu → FX9_at t (nI uu) (nI 0) s6 = some (nI (K uu)) ∧ K uu ≤ 5) (h51 : ∀ uu, uu < nu → gI s6 51 uu = nI (tkn uu) ∧ tkn uu ≤ 20) : FX0_rentOfAll 48 t s6 = some (sI (rv K tkn) nu) := by
  unfold FX0_rentOfAll
  simp only [nm_eq]
  rw [h3]
  refine bd_of (lp_F (fun jj => (sI (rv K tkn) jj, nI jj)) nu (fuel_of (by omega)) rfl (fun jj hj => ?_) ?_) _
  · rw [u2_s, if_neg (fun hq => by have := le_of_nI hq (by omega) (by omega); omega), bd_of (rentOf_x (hK jj hj).1 (hK jj hj).2 (by omega) (h51 jj hj).1 (h51 jj hj).2), nI_addn]
    rfl
  · rw [u2_s, if_pos ((nI_le_iff (by omega) (by omega)).mpr (Nat.le_refl _))]
theorem rentAll_m {s6 : SS} {aa nu : Nat} {K tkn : Nat → Nat} {n0 : Int32} (hl : ln aa = 378) (h16 : gI s6 aa 16 = nI nu) (hu7 : nu ≤ 7) (hK : ∀ uu, uu < nu → gI s6 aa (17 + 4 * uu) = nI (K uu) ∧ K uu ≤ 5) (h84 : ∀ uu, uu < nu → gI s6 84 uu = nI (tkn uu) ∧ tkn uu ≤ 20) :
    lp FUEL (u2 (fun (n18 : Int32) (n19 : Int32) => gd (inb (nI 16) 378) (if (gI s6 aa (Int32.toNatClampNeg (nI 16))) ≤ n19 then some (Sum.inr n18) else (bd (FX12_userOf aa n19 (nI 0) s6) (fun (r20 : Int32) => gd (inb n19 7) (bd (FX12_rentOf r20 (gI s6 84 (Int32.toNatClampNeg n19)) s6) (fun (r21 : Int32) => some (Sum.inl (n18 + r21, n19 + (nI 1)))))))))) (n0, nI 0) = some (n0 + sI (rv K tkn) nu) := by
  refine lp_F (fun jj => (n0 + sI (rv K tkn) jj, nI jj)) nu (fuel_of (by omega)) ?_ (fun jj hj => ?_) ?_
  · show (n0, nI 0) = (n0 + nI 0, nI 0)
    rw [nI_0, Int32.add_zero]
  · rw [u2_s, gd_n (by omega) (by omega), ix_n (n := 16) (by omega), h16, if_neg (fun hq => by have := le_of_nI hq (by omega) (by omega); omega), bd_of (userOf_eq hl (by omega) (by omega) s6), gd_n (by omega) (by omega), ix_n (by omega), (h84 jj hj).1]
    rw [show 17 + 4 * jj + 0 = 17 + 4 * jj from rfl, (hK jj hj).1, bd_of (rn_m (hK jj hj).2 (h84 jj hj).2 s6), nI_addn, Int32.add_assoc]
    rfl
  · rw [u2_s, gd_n (by omega) (by omega), ix_n (n := 16) (by omega), h16, if_pos ((nI_le_iff (by omega) (by omega)).mpr (Nat.le_refl _))]
theorem seed_step {kk : Nat} (hk : kk < 2147483648) : ((lN kk * (1103515245 : Int64)) + (12345 : Int64)) - ((lN kk * (1103515245 : Int64)) + (12345 : Int64)) / (2147483648 : Int64) * (2147483648 : Int64) = lN ((kk * 1103515245 + 12345) % 2147483648) := by
  rw [(by decide +kernel : (1103515245 : Int64) = lN 1103515245), (by decide +kernel : (12345 : Int64) = lN 12345), (by decide +kernel : (2147483648 : Int64) = lN 2147483648), lN_mul, lN_add, pk_lRem (by omega) (by omega) (by omega)]
theorem seed_str {kk : Nat} (hk : kk < 2147483648) : Int64.toInt32 ((lN kk / (65536 : Int64)) - (lN kk / (65536 : Int64)) / (21 : Int64) * (21 : Int64)) = nI (kk / 65536 % 21) := by
  rw [(by decide +kernel : (65536 : Int64) = lN 65536), (by decide +kernel : (21 : Int64) = lN 21), pk_lDiv (by omega) (by omega) (by omega), pk_lRem (by omega) (by omega) (by omega), lN_i]
theorem seed_sid {kk : Nat} (hk : kk < 2147483648) : Int64.toInt32 ((lN kk / (1048576 : Int64)) - (lN kk / (1048576 : Int64)) / (2 : Int64) * (2 : Int64)) = nI (kk / 1048576 % 2) := by
  rw [(by decide +kernel : (1048576 : Int64) = lN 1048576), (by decide +kernel : (2 : Int64) = lN 2), pk_lDiv (by omega) (by omega) (by omega), pk_lRem (by omega) (by omega) (by omega), lN_i]
theorem years_lp {nu ns nr nn nk np hr sd0 mh : Nat} {K C H : Nat → Nat} (hT : TCw 1 σx) (hI : IR 1 σx (gI σm 79) nu ns nr nn nk np hr) (u2z : gI σm 79 16 = nI nu) (u5z : UR nu K C H) (u6z : ∀ uu, uu < nu → gI σm 79 (17 + 4 * uu) = nI (K uu) ∧ gI σm 79 (18 + 4 * uu) = nI (C uu) ∧ gI σm 79 (19 + 4 * uu) = nI (H uu)) (hs0 : sd0 < 2147483648) (hmh : mh ≤ 60) :
    Two (bd (lp FUEL (u4 (fun (m4 : Int64) (n5 : Int32) (n6 : Int32) (s7 : SS) => if nI mh ≤ n6 then some (Sum.inr (n5, s7)) else (bd (FX0_go 48 4 (nI 127) (Int64.toInt32 ((((m4 * (1103515245 : Int64)) + (12345 : Int64)) - ((m4 * (1103515245 : Int64)) + (12345 : Int64)) / (2147483648 : Int64) * (2147483648 : Int64)) / (65536 : Int64) - (((m4 * (1103515245 : Int64)) + (12345 : Int64)) - ((m4 * (1103515245 : Int64)) + (12345 : Int64)) / (2147483648 : Int64) * (2147483648 : Int64)) / (65536 : Int64) / (21 : Int64) * (21 : Int64))) (Int64.toInt32 ((((m4 * (1103515245 : Int64)) + (12345 : Int64)) - ((m4 * (1103515245 : Int64)) + (12345 : Int64)) / (2147483648 : Int64) * (2147483648 : Int64)) / (1048576 : Int64) - (((m4 * (1103515245 : Int64)) + (12345 : Int64)) - ((m4 * (1103515245 : Int64)) + (12345 : Int64)) / (2147483648 : Int64) * (2147483648 : Int64)) / (1048576 : Int64) / (2 : Int64) * (2 : Int64))) s7) (fun (s11 : SS) => bd (FX0_rentOfAll 48 4 s11) (fun (r12 : Int32) => some (Sum.inl (((m4 * (1103515245 : Int64)) + (12345 : Int64)) - ((m4 * (1103515245 : Int64)) + (12345 : Int64)) / (2147483648 : Int64) * (2147483648 : Int64), n5 + r12, n6 + nI 1, s11))))))) (lN sd0, nI 0, nI 0, σx)) (u2 (fun (e15 : Int32) (s16 : SS) => some (e15, s16))))
      (bd (lp FUEL (u4 (fun (m10 : Int64) (n11 : Int32) (n12 : Int32) (s13 : SS) => if nI mh ≤ n12 then some (Sum.inr (n11, s13)) else (bd (FX12_everyone 79 s13) (fun (r15 : Int32) => bd (FX12_blow 78 79 (Int64.toInt32 ((((m10 * (1103515245 : Int64)) + (12345 : Int64)) - ((m10 * (1103515245 : Int64)) + (12345 : Int64)) / (2147483648 : Int64) * (2147483648 : Int64)) / (65536 : Int64) - (((m10 * (1103515245 : Int64)) + (12345 : Int64)) - ((m10 * (1103515245 : Int64)) + (12345 : Int64)) / (2147483648 : Int64) * (2147483648 : Int64)) / (65536 : Int64) / (21 : Int64) * (21 : Int64))) (Int64.toInt32 ((((m10 * (1103515245 : Int64)) + (12345 : Int64)) - ((m10 * (1103515245 : Int64)) + (12345 : Int64)) / (2147483648 : Int64) * (2147483648 : Int64)) / (1048576 : Int64) - (((m10 * (1103515245 : Int64)) + (12345 : Int64)) - ((m10 * (1103515245 : Int64)) + (12345 : Int64)) / (2147483648 : Int64) * (2147483648 : Int64)) / (1048576 : Int64) / (2 : Int64) * (2 : Int64))) r15 s13) (fun (s16 : SS) => bd (lp FUEL (u2 (fun (n18 : Int32) (n19 : Int32) => gd (inb (nI 16) 378) (if (gI s16 79 (Int32.toNatClampNeg (nI 16))) ≤ n19 then some (Sum.inr n18) else (bd (FX12_userOf 79 n19 (nI 0) s16) (fun (r20 : Int32) => gd (inb n19 7) (bd (FX12_rentOf r20 (gI s16 84 (Int32.toNatClampNeg n19)) s16) (fun (r21 : Int32) => some (Sum.inl (n18 + r21, n19 + (nI 1)))))))))) (n11, nI 0)) (fun (e24 : Int32) => some (Sum.inl (((m10 * (1103515245 : Int64)) + (12345 : Int64)) - ((m10 * (1103515245 : Int64)) + (12345 : Int64)) / (2147483648 : Int64) * (2147483648 : Int64), e24, n12 + nI 1, s16)))))))) (lN sd0, nI 0, nI 0, σm)) (u2 (fun (e26 : Int32) (s27 : SS) => some (e26, s27))))
      (fun x1 x2 => x1.1 = x2.1 ∧ Eq0 Q3 σx x1.2 ∧ Eq0 P3 σm x2.2) := by
  have hu7 := hI.1.1
  have hp := p2_lt hu7
  refine tw_bd (tw_lp (P := fun x1 x2 => x1.1 = x2.1 ∧ Eq0 Q3 σx x1.2 ∧ Eq0 P3 σm x2.2) (fun ii x1 x2 => ∃ kk acc s1 s2, kk < 2147483648 ∧ x1 = (lN kk, acc, nI ii, s1) ∧ x2 = (lN kk, acc, nI ii, s2) ∧ Eq0 Q3 σx s1 ∧ Eq0 P3 σm s2) mh (by omega) ⟨sd0, nI 0, σx, σm, by omega, rfl, rfl, Eq0.rf, Eq0.rf⟩ ?_) ?_
  · rintro ii x1 x2 hi ⟨kk, acc, s1, s2, hkk, rfl, rfl, hE1, hE2⟩
    rw [u4_s, u4_s]
    refine tw_ite Iff.rfl (fun hc => tw_some (s2_r ⟨rfl, hE1, hE2⟩)) (fun hc => ?_)
    have hi2 := lt_of_nle hc (by omega) (by omega)
    have hk2 : (kk * 1103515245 + 12345) % 2147483648 < 2147483648 := Nat.mod_lt _ (by omega)
    rw [seed_step hkk, seed_str hk2, seed_sid hk2]
    have hI1 := ir_q kd_1 hI hE1
    have hT1 := tc_q kd_1 hT hE1
    have a79 : gI s2 79 = gI σm 79 := hE2.1 79 (fun hq => by rcases hq with hq | hq | hq <;> omega)
    have hM : MR s2 79 nu K C H := mr_of (Or.inl rfl) (by rw [a79]; exact u2z) (fun uu hu => by rw [a79]; exact u6z uu hu)
    refine tw_okx (blow_x (mm := 127) u5z (xr_of kd_1 hT1 hI1 u6z) (by omega) (by omega) (by omega)) (fun s3 hq3 => ?_)
    refine tw_bdm (everyone_eq ln_79 (by rw [a79]; exact u2z) hu7) (tw_okm (blow_m (mm := 2 ^ nu - 1) u5z hM (by omega) (by omega) (by omega)) (fun s4 hq4 => ?_))
    obtain ⟨hE3, hB3, -⟩ := hq3
    obtain ⟨hE4, hB4⟩ := hq4
    have hI3 := ir_q kd_1 hI1 hE3
    have hT3 := tc_q kd_1 hT1 hE3
    have b79 : gI s4 79 = gI σm 79 := (hE4.1 79 (fun hq => by rcases hq with hq | hq | hq <;> omega)).trans a79
    have hB3' := br_cong (S' := SA) (fun uu hu => tb127 (by omega)) hB3
    have hB4' := br_cong (S' := SA) (fun uu hu => tbAll hu) hB4
    refine tw_bdx (rentAll_x (K := K) hI3.2.2.1.1 hu7 (fun uu hu => ⟨?_, (u5z.2 uu hu).1⟩) (fun uu hu => ⟨hB3'.1 uu hu rfl, bf_le u5z hu (by omega)⟩)) (tw_bdm (rentAll_m (K := K) ln_79 (by rw [b79]; exact u2z) hu7 (fun uu hu => ⟨by rw [b79]; exact (u6z uu hu).1, (u5z.2 uu hu).1⟩) (fun uu hu => ⟨hB4'.1 uu hu rfl, bf_le u5z hu (by omega)⟩)) (tw_some (s2_l ⟨hi2, _, _, s3, s4, hk2, by rw [nI_addn], by rw [nI_addn], hE1.tr hE3, hE2.tr hE4⟩)))
    have := ir_user kd_1 hT3 hI3 hu (cc := 0) (by omega)
    rw [show 17 + 4 * uu + 0 = 17 + 4 * uu from rfl, (u6z uu hu).1] at this
    exact this
  · rintro ⟨y1, y2⟩ ⟨z1, z2⟩ hq
    rw [u2_s, u2_s]
    exact tw_some hq
/-- as nm_eq, but no rfl-row: where long numbers stand, the kernel does not end with a rfl-row -/
theorem nm_q {α τ : Type} (e : α) (k : α → Option τ) : nm e k = k e := Eq.trans rfl rfl
theorem q_years (R : Rel σx σm) (a b : Int32) : Cm (FX11_years 0 a b σx) (FX12_years 78 a b σm) := by
  obtain ⟨⟨nu, ns, nr, nn, nk, np, hr, hI, hbd⟩, hT, -⟩ := id R
  have hu7 := hI.1.1
  have hp := p2_lt hu7
  obtain ⟨-, ⟨-, u2z, u3z, u4z, K, C, H, u5z, u6z⟩, -⟩ := hI.parts
  unfold FX11_years FX12_years
  simp only [lk_0_0, lk_0_8, lk_78_0, lk_78_7, ln_79, ln_84, nm_q]
  rw [(by decide +kernel : (999999 : Int32) = nI 999999)]
  refine cq_bdx (within_eq _ _ _ _) (cq_bdm (x := FX12_in (Int32.toInt64 a) (lN 0) (999999 : Int64) σm) (by rw [l_N0, l_999999]; exact in_eq _ _ _ _) (cq_guard R (fun h1 => cq_bdx (within_eq _ _ _ _) (cq_bdm (x := FX12_in (Int32.toInt64 b) (lN 0) (60 : Int64) σm) (by rw [l_N0, l_60]; exact in_eq _ _ _ _) (cq_guard R (fun h2 => ?_))))))
  obtain ⟨sd0, -, hs0, rfl⟩ := wi_in (by omega) (by omega) h1
  obtain ⟨mh, -, hmh, rfl⟩ := wi_in (by omega) (by omega) h2
  unfold FX2_rentBySeed
  simp only [lk_68_0, lk_1_2, nm_q]
  rw [nI_toL (by omega)]
  obtain ⟨⟨y1, y2⟩, ⟨z1, z2⟩, g1, g2, g3, g4, g5⟩ := years_lp (sd0 := sd0) (mh := mh) hT.1.1 hI u2z u5z u6z (by omega) hmh
  dsimp only at g3 g4 g5
  subst g3
  rw [g1, g2]
  exact cq_bd2x rfl (cq_some (rel_q R g4 g5))
end D8
