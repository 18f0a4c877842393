/-! ===== digest ===== -/
def dg (ff : Nat → Int32) (h0 : Int64) : Nat → Int64
  | 0 => h0
  | nn + 1 => (31 : Int64) * dg ff h0 nn + (ff nn).toInt64
theorem dg_cong {ff gg : Nat → Int32} {h0 : Int64} : ∀ {nn : Nat}, (∀ k, k < nn → ff k = gg k) → dg ff h0 nn = dg gg h0 nn
  | 0, _ => rfl
  | nn + 1, hh => by
    show (31 : Int64) * dg ff h0 nn + (ff nn).toInt64 = (31 : Int64) * dg gg h0 nn + (gg nn).toInt64
    rw [dg_cong (nn := nn) (fun k hk => hh k (by omega)), hh nn (by omega)]
section D9
variable {σx σm : SS}
theorem dig_x {t : Nat} (ht : kd t = 7) {s : SS} {w n N : Nat} (hw : gI s t 0 = nI w) (hn : gI s t 3 = nI n) (hN : ln (t + 1) = N) (hb : n * w ≤ N) (h1 : n < 1000) (h2 : w < 1000) (h3 : N < 1000) (a : Int64) : FX9_digestBehind t a s = some (dg (gI s (t + 1)) a (n * w)) := by
  unfold FX9_digestBehind
  simp only [nm_eq]
  rw [hn, hw]
  refine bd_of (lp_F (fun jj => (dg (gI s (t + 1)) a (jj * w), nI jj)) n (fuel_of (by omega)) (by rw [Nat.zero_mul]; rfl) (fun jj hj => ?_) ?_) _
  · have hb2 : (jj + 1) * w ≤ n * w := Nat.mul_le_mul_right w hj
    rw [Nat.add_mul, Nat.one_mul] at hb2
    rw [u2_s, if_neg (fun hq => by have := le_of_nI hq (by omega) (by omega); omega)]
    rw [bd_of (lp_F (e := dg (gI s (t + 1)) a ((jj + 1) * w)) (s := (dg (gI s (t + 1)) a (jj * w), nI 0)) (fun cc => (dg (gI s (t + 1)) a (jj * w + cc), nI cc)) w (fuel_of (by omega)) rfl (fun cc hc => ?_) ?_), nI_addn]
    · rw [u2_s, if_pos ((nI_le_iff (by omega) (by omega)).mpr (Nat.le_refl _)), Nat.add_mul, Nat.one_mul]
    · rw [u2_s, if_neg (fun hq => by have := le_of_nI hq (by omega) (by omega); omega), bd_of (at_in ht hw hn hN hj hc (by omega) h1 h2 h3), nI_addn]
      rfl
  · rw [u2_s, if_pos ((nI_le_iff (by omega) (by omega)).mpr (Nat.le_refl _))]
theorem dig_m {s : SS} {b c : Nat} (hb : b + c ≤ 378) (a : Int64) : FX12_digestOf 78 a (nI b) (nI c) s = some (dg (fun k => gI s 79 (b + k)) a c) := by
  unfold FX12_digestOf
  simp only [lk_78_0, ln_79, nm_eq]
  refine bd_of (lp_F (fun jj => (dg (fun k => gI s 79 (b + k)) a jj, nI jj)) c (fuel_of (by omega)) rfl (fun jj hj => ?_) ?_) _
  · rw [u2_s, if_neg (fun hq => by have := le_of_nI hq (by omega) (by omega); omega), nI_addn, gd_n (by omega) (by omega), ix_n (by omega), nI_addn]
    rfl
  · rw [u2_s, if_pos ((nI_le_iff (by omega) (by omega)).mpr (Nat.le_refl _))]
theorem dg_rows {ff gg : Nat → Int32} {h0 : Int64} {nn ww bb : Nat} (hw : 0 < ww) (h : ∀ uu cc, uu < nn → cc < ww → ff (uu * ww + cc) = gg (bb + ww * uu + cc)) : dg ff h0 (nn * ww) = dg (fun k => gg (bb + k)) h0 (ww * nn) := by
  rw [Nat.mul_comm ww nn]
  refine dg_cong (fun k hk => ?_)
  have e1 := Nat.div_add_mod k ww
  have e2 := Nat.mod_lt k hw
  have e3 : k / ww < nn := Nat.div_lt_of_lt_mul (by rw [Nat.mul_comm]; exact hk)
  have e4 := h (k / ww) (k % ww) e3 e2
  rw [Nat.mul_comm (k / ww) ww, e1, Nat.add_assoc, e1] at e4
  exact e4
theorem q_digest (R : Rel σx σm) : ∃ rr, FX11_digest 0 σx = some rr ∧ FX12_digest 78 σm = some rr := by
  obtain ⟨⟨nu, ns, nr, nn, nk, np, hr, hI, hbd⟩, hT, -, -, ⟨nl, t1, t2, t3, t4⟩, ⟨f1, f2⟩, -⟩ := id R
  obtain ⟨a1, a2, a3, a4, a5, a6, a7⟩ := hI.1
  obtain ⟨b1, b2, b3, b4, b5, b6, b7⟩ := hI.2.1
  obtain ⟨c1, c2, c3, c4, c5, c6, c7, c8⟩ := hI.2.2.1
  obtain ⟨d1, d2, d3, d4, d5, d6⟩ := hI.2.2.2.1
  obtain ⟨w1, w2, w3, w4, w5, w6⟩ := hT.1.1
  unfold FX11_digest FX12_digest
  simp only [nm_eq, lk_0_0, lk_1_0, lk_1_1, lk_1_2, lk_1_3, lk_1_4, lk_1_5, lk_1_6, lk_0_11, lk_78_0, ln_2, ln_3, ln_79]
  have L1 : lp FUEL (u2 (fun (m3 : Int64) (n4 : Int32) => if (nI 10) ≤ n4 then some (Sum.inr m3) else (bd (FX11_howMany 0 n4 σx) (fun (r5 : Int32) => some (Sum.inl (((31 : Int64) * m3) + (Int32.toInt64 r5), n4 + (nI 1))))))) ((1493 : Int64), nI 0) = some (dg (cnt (gI σm 79) nu (nI nl)) 1493 10) := by
    refine lp_F (fun jj => (dg (cnt (gI σm 79) nu (nI nl)) 1493 jj, nI jj)) 10 (fuel_of (by omega)) rfl (fun jj hj => ?_) ?_
    · rw [u2_s, if_neg (fun hq => by have := le_of_nI hq (by omega) (by omega); omega), bd_of (cnt_x hT.1.1 hI t2 hj), nI_addn]
      rfl
    · rw [u2_s, if_pos ((nI_le_iff (by omega) (by omega)).mpr (Nat.le_refl _))]
  have L2 : lp FUEL (u2 (fun (m3 : Int64) (n4 : Int32) => if (nI 10) ≤ n4 then some (Sum.inr m3) else (bd (FX12_counted 78 n4 σm) (fun (r5 : Int32) => some (Sum.inl (((31 : Int64) * m3) + (Int32.toInt64 r5), n4 + (nI 1))))))) ((1493 : Int64), nI 0) = some (dg (cnt (gI σm 79) nu (nI nl)) 1493 10) := by
    refine lp_F (fun jj => (dg (cnt (gI σm 79) nu (nI nl)) 1493 jj, nI jj)) 10 (fuel_of (by omega)) rfl (fun jj hj => ?_) ?_
    · rw [u2_s, if_neg (fun hq => by have := le_of_nI hq (by omega) (by omega); omega), bd_of (cnt_m b1 a1 t3 hj), nI_addn]
      rfl
    · rw [u2_s, if_pos ((nI_le_iff (by omega) (by omega)).mpr (Nat.le_refl _))]
  have L3 : ∀ h1 : Int64, lp FUEL (u2 (fun (m10 : Int64) (n11 : Int32) => if (nI 8) ≤ n11 then some (Sum.inr m10) else (gd (inb n11 8) (gd (inb n11 8) (some (Sum.inl (((31 : Int64) * (((31 : Int64) * m10) + (Int32.toInt64 (gI σx 2 (Int32.toNatClampNeg n11))))) + (Int32.toInt64 (gI σx 3 (Int32.toNatClampNeg n11))), n11 + (nI 1)))))))) (h1, nI 0) = some (dg (gI σm 79) h1 16) := by
    intro h1
    refine lp_F (fun jj => (dg (gI σm 79) h1 (2 * jj), nI jj)) 8 (fuel_of (by omega)) rfl (fun jj hj => ?_) ?_
    · obtain ⟨g1, g2⟩ := d1 jj hj
      rw [u2_s, if_neg (fun hq => by have := le_of_nI hq (by omega) (by omega); omega), gd_n hj (by omega), gd_n hj (by omega), ix_n (by omega), nI_addn]
      rw [show gI σx 2 jj = gI σm 79 (2 * jj) from g1, show gI σx 3 jj = gI σm 79 (2 * jj + 1) from g2, show 2 * (jj + 1) = 2 * jj + 1 + 1 by omega]
      rfl
    · rw [u2_s, if_pos ((nI_le_iff (by omega) (by omega)).mpr (Nat.le_refl _))]
  rw [bd_of L1, bd_of (L3 _)]
  rw [bd_of (dig_x kd_4 w1.1 c1 ln_5 (by omega) (by omega) (by omega) (by omega) _)]
  rw [bd_of (dig_x kd_6 w2.1 c2 ln_7 (by omega) (by omega) (by omega) (by omega) _)]
  rw [bd_of (dig_x kd_8 w3.1 c3 ln_9 (by omega) (by omega) (by omega) (by omega) _)]
  rw [bd_of (dig_x kd_10 w4.1 c4 ln_11 (by omega) (by omega) (by omega) (by omega) _)]
  rw [bd_of (dig_x kd_12 w5.1 c5 ln_13 (by omega) (by omega) (by omega) (by omega) _)]
  rw [bd_of L2, bd_of (dig_m (by omega) _), gd_n (by omega) (by omega), ix_n (n := 16) (by omega), b1, nI_muln]
  rw [bd_of (dig_m (by omega) _), gd_n (by omega) (by omega), ix_n (n := 45) (by omega), b2, nI_muln]
  rw [bd_of (dig_m (by omega) _), gd_n (by omega) (by omega), ix_n (n := 68) (by omega), b3, nI_muln]
  rw [bd_of (dig_m (by omega) _), gd_n (by omega) (by omega), ix_n (n := 81) (by omega), b4, nI_muln]
  rw [bd_of (dig_m (by omega) _), gd_n (by omega) (by omega), ix_n (n := 112) (by omega), b5, nI_muln]
  rw [bd_of (dig_m (by omega) _)]
  refine ⟨_, rfl, ?_⟩
  have k0 : (fun k => gI σm 79 (0 + k)) = gI σm 79 := by funext k; rw [Nat.zero_add]
  have k1 : ∀ h0, dg (gI σx (4 + 1)) h0 (nu * 4) = dg (fun k => gI σm 79 (17 + k)) h0 (4 * nu) := fun h0 => dg_rows (by omega) d2
  have k2 : ∀ h0, dg (gI σx (6 + 1)) h0 (ns * 4) = dg (fun k => gI σm 79 (46 + k)) h0 (4 * ns) := fun h0 => dg_rows (by omega) d3
  have k3 : ∀ h0, dg (gI σx (8 + 1)) h0 (nr * 3) = dg (fun k => gI σm 79 (69 + k)) h0 (3 * nr) := fun h0 => dg_rows (by omega) d4
  have k4 : ∀ h0, dg (gI σx (10 + 1)) h0 (nn * 5) = dg (fun k => gI σm 79 (82 + k)) h0 (5 * nn) := fun h0 => dg_rows (by omega) d5
  have k5 : ∀ h0, dg (gI σx (12 + 1)) h0 (nk * 4) = dg (fun k => gI σm 79 (113 + k)) h0 (4 * nk) := fun h0 => dg_rows (by omega) d6
  rw [k0, k1, k2, k3, k4, k5, f1, f2]
end D9
