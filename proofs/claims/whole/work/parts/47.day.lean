/-! ===== what is taken in a day ===== -/
def sn (ff : Nat → Nat) : Nat → Nat
  | 0 => 0
  | nn + 1 => sn ff nn + ff nn
theorem sn_le {ff : Nat → Nat} {bb : Nat} : ∀ {nn : Nat}, (∀ k, k < nn → ff k ≤ bb) → sn ff nn ≤ bb * nn
  | 0, _ => Nat.zero_le _
  | nn + 1, hh => by
    have h1 := sn_le (ff := ff) (bb := bb) (nn := nn) (fun k hk => hh k (by omega))
    have h2 := hh nn (by omega)
    show sn ff nn + ff nn ≤ bb * (nn + 1)
    rw [Nat.mul_add, Nat.mul_one]
    omega
theorem sn_cong {ff gg : Nat → Nat} : ∀ {nn : Nat}, (∀ k, k < nn → ff k = gg k) → sn ff nn = sn gg nn
  | 0, _ => rfl
  | nn + 1, hh => by
    show sn ff nn + ff nn = sn gg nn + gg nn
    rw [sn_cong (nn := nn) (fun k hk => hh k (by omega)), hh nn (by omega)]
def hrs (S Q : Nat → Bool) (K C H : Nat → Nat) (nn : Nat) (wS wD : Nat → Nat) (cn hh : Nat) : Nat := sn (fun uu => if Q uu = true then bf S K C H nn (wS hh) (wD hh) uu else 0) cn
def day (S Q : Nat → Bool) (K C H : Nat → Nat) (nn : Nat) (wS wD : Nat → Nat) (cn dd : Nat) : Nat := sn (hrs S Q K C H nn wS wD cn) dd
theorem hrs_cong {S S' Q Q' : Nat → Bool} {K C H : Nat → Nat} {nn : Nat} {wS wD : Nat → Nat} {cn hh : Nat} (h1 : ∀ uu, uu < cn → Q uu = Q' uu ∧ (Q uu = true → uu < nn ∧ S uu = true)) (h2 : ∀ uu, uu < nn → S uu = S' uu) : hrs S Q K C H nn wS wD cn hh = hrs S' Q' K C H nn wS wD cn hh := by
  refine sn_cong (fun k hk => ?_)
  obtain ⟨g1, g2⟩ := h1 k hk
  by_cases hq : Q k = true
  · rw [if_pos hq, if_pos (g1 ▸ hq)]
    obtain ⟨g3, g4⟩ := g2 hq
    exact bf_cong g3 g4 (fun uu hu => ⟨h2 uu hu, fun _ => ⟨rfl, rfl, rfl⟩⟩)
  · rw [if_neg hq, if_neg (g1 ▸ hq)]
theorem day_cong {S S' Q Q' : Nat → Bool} {K C H : Nat → Nat} {nn : Nat} {wS wD : Nat → Nat} {cn dd : Nat} (h1 : ∀ uu, uu < cn → Q uu = Q' uu ∧ (Q uu = true → uu < nn ∧ S uu = true)) (h2 : ∀ uu, uu < nn → S uu = S' uu) : day S Q K C H nn wS wD cn dd = day S' Q' K C H nn wS wD cn dd :=
  sn_cong (fun _ _ => hrs_cong h1 h2)
theorem hrs_one {S Q : Nat → Bool} {K C H : Nat → Nat} {nn : Nat} {wS wD : Nat → Nat} {cn hh : Nat} (hq : Q cn = false) : hrs S Q K C H nn wS wD (cn + 1) hh = hrs S Q K C H nn wS wD cn hh := by
  show hrs S Q K C H nn wS wD cn hh + (if Q cn = true then _ else 0) = _
  rw [if_neg (by rw [hq]; decide)]
  rfl
theorem day_one {S Q : Nat → Bool} {K C H : Nat → Nat} {nn : Nat} {wS wD : Nat → Nat} {cn dd : Nat} (hq : Q cn = false) : day S Q K C H nn wS wD (cn + 1) dd = day S Q K C H nn wS wD cn dd := sn_cong (fun _ _ => hrs_one hq)
def WH (ff gg : Nat → Int32) (wS wD : Nat → Nat) : Prop := ∀ hh, hh < 8 → (ff hh = nI (wS hh) ∧ wS hh ≤ 20) ∧ gg hh = nI (wD hh) ∧ wD hh ≤ 1
theorem hrs_le {S Q : Nat → Bool} {K C H : Nat → Nat} {nn : Nat} {wS wD : Nat → Nat} {cn hh : Nat} (hU : UR nn K C H) (hw : wS hh ≤ 20) (h1 : ∀ uu, uu < cn → Q uu = true → uu < nn) : hrs S Q K C H nn wS wD cn hh ≤ 20 * cn := by
  refine sn_le (fun k hk => ?_)
  by_cases hq : Q k = true
  · rw [if_pos hq]; exact bf_le hU (h1 k hk hq) hw
  · rw [if_neg hq]; exact Nat.zero_le _
theorem day_le {S Q : Nat → Bool} {K C H : Nat → Nat} {nn : Nat} {wS wD : Nat → Nat} {cn dd : Nat} (hU : UR nn K C H) (hw : ∀ hh, hh < dd → wS hh ≤ 20) (h1 : ∀ uu, uu < cn → Q uu = true → uu < nn) : day S Q K C H nn wS wD cn dd ≤ 20 * cn * dd := sn_le (fun k hk => hrs_le hU (hw k hk) h1)
section DA
variable {K C H wS wD : Nat → Nat} {nn mm cm cn : Nat}
theorem first_x {σ : SS} {tkn : Nat → Nat} (hc : cn ≤ 7) (h51 : ∀ vv, vv < cn → gI σ 51 vv = nI (tkn vv)) : FX0_takenByFirst 48 (nI cn) σ = some (nI (sn tkn cn)) := by
  unfold FX0_takenByFirst
  simp only [nm_eq]
  refine bd_of (lp_F (fun jj => (nI (sn tkn jj), nI jj)) cn (fuel_of (by omega)) rfl (fun jj hj => ?_) ?_) _
  · rw [u2_s, if_neg (fun hq => by have := le_of_nI hq (by omega) (by omega); omega), bd_of (takenBy_eq (by omega)), h51 jj hj, nI_addn, nI_addn]
    rfl
  · rw [u2_s, if_pos ((nI_le_iff (by omega) (by omega)).mpr (Nat.le_refl _))]
theorem day_x {σ : SS} {tb : Nat} (hU : UR nn K C H) (hX : XR σ tb nn K C H) (hw : WH (gI σ 2) (gI σ 3) wS wD) (hm : mm < 2147483648) (hc : cn ≤ 7) :
    Ok (FX2_takenInDay 68 1 tb (nI mm) (nI cn) σ) (fun yy => yy.1 = nI (day (fun uu => mm.testBit uu) (fun uu => decide (uu < nn) && mm.testBit uu) K C H nn wS wD cn 8) ∧ Eq0 Q3 σ yy.2) := by
  unfold FX2_takenInDay
  simp only [nm_eq, lk_1_0, lk_1_1, lk_68_0, ln_2, ln_3]
  refine ok_bd (ok_lp (fun jj xx => ∃ s, xx = (nI (day (fun uu => mm.testBit uu) (fun uu => decide (uu < nn) && mm.testBit uu) K C H nn wS wD cn jj), nI jj, s) ∧ Eq0 Q3 σ s) 8 (by omega) (Q := fun yy => yy.1 = nI (day (fun uu => mm.testBit uu) (fun uu => decide (uu < nn) && mm.testBit uu) K C H nn wS wD cn 8) ∧ Eq0 Q3 σ yy.2) ⟨σ, rfl, Eq0.rf⟩ ?_) ?_
  · rintro jj xx hj ⟨s, rfl, hE⟩
    rw [u3_s]
    refine ok_ite (fun hc => ok_some ?_) (fun hc2 => ?_)
    · have hjj : jj = 8 := by have := le_of_nI hc (by omega) (by omega); omega
      subst hjj
      exact ⟨rfl, hE⟩
    have hj2 := lt_of_nle hc2 (by omega) (by omega)
    obtain ⟨⟨w1, w2⟩, w3, w4⟩ := hw jj hj2
    refine ok_gn hj2 (by omega) (ok_gn hj2 (by omega) ?_)
    rw [ix_n (by omega), hE.1 2 (fun hq => by rcases hq with hq | hq | hq <;> omega), hE.1 3 (fun hq => by rcases hq with hq | hq | hq <;> omega), w1, w3]
    refine ok_bd (blow_x hU (hX.kept hE) w2 w4 hm) (fun s6 hq6 => ?_)
    obtain ⟨hE6, hB6, hZ6⟩ := hq6
    refine ok_bdr (first_x (tkn := fun uu => if (decide (uu < nn) && mm.testBit uu) = true then bf (fun uu => mm.testBit uu) K C H nn (wS jj) (wD jj) uu else 0) hc (fun vv hv => ?_)) (ok_some ⟨hj2, s6, ?_, hE.tr hE6⟩)
    · by_cases hq : vv < nn ∧ mm.testBit vv = true
      · rw [if_pos (by rw [hq.2, decide_eq_true hq.1]; rfl)]
        exact hB6.1 vv hq.1 hq.2
      · rw [if_neg (fun hz => hq (by rw [Bool.and_eq_true, decide_eq_true_iff] at hz; exact hz))]
        exact hZ6 vv (by omega) hq
    · rw [nI_addn, nI_addn]
      rfl
  · rintro ⟨e1, s5⟩ hq
    rw [u2_s]
    exact ok_some hq
theorem day_m {σ : SS} {aa : Nat} (ha : aa = 79 ∨ aa = 80) (hU : UR nn K C H) (hM : MR σ aa nn K C H) (hw : WH (fun hh => gI σ aa (2 * hh)) (fun hh => gI σ aa (2 * hh + 1)) wS wD) (hm : mm < 2147483648) (hcm : cm < 2147483648) (hs : ∀ uu, uu < nn → cm.testBit uu = true → mm.testBit uu = true) :
    Ok (FX12_dayOf 78 aa (nI mm) (nI cm) σ) (fun yy => yy.1 = nI (day (fun uu => mm.testBit uu) (fun uu => cm.testBit uu) K C H nn wS wD nn 8) ∧ Eq0 P3 σ yy.2) := by
  have hn7 := hU.1
  have hPa : ¬ P3 aa := fun hq => by rcases hq with hq | hq | hq <;> omega
  have hl : ln aa = 378 := hM.1
  unfold FX12_dayOf
  simp only [nm_eq, lk_78_7, ln_84, hl]
  refine ok_bd (ok_lp (fun jj xx => ∃ s, xx = (nI (day (fun uu => mm.testBit uu) (fun uu => cm.testBit uu) K C H nn wS wD nn jj), nI jj, s) ∧ Eq0 P3 σ s) 8 (by omega) (Q := fun yy => yy.1 = nI (day (fun uu => mm.testBit uu) (fun uu => cm.testBit uu) K C H nn wS wD nn 8) ∧ Eq0 P3 σ yy.2) ⟨σ, rfl, Eq0.rf⟩ ?_) ?_
  · rintro jj xx hj ⟨s, rfl, hE⟩
    rw [u3_s]
    refine ok_ite (fun hc => ok_some ?_) (fun hc2 => ?_)
    · have hjj : jj = 8 := by have := le_of_nI hc (by omega) (by omega); omega
      subst hjj
      exact ⟨rfl, hE⟩
    have hj2 := lt_of_nle hc2 (by omega) (by omega)
    obtain ⟨⟨w1, w2⟩, w3, w4⟩ := hw jj hj2
    have za : gI s aa = gI σ aa := hE.1 aa hPa
    refine ok_bd (blowOf_m (hh := jj) hU (hM.kept hE hPa) (by rw [za, Nat.mod_eq_of_lt hj2]; exact w1) (by rw [za, Nat.mod_eq_of_lt hj2]; exact w3) w2 w4 hm (by omega)) (fun s6 hq6 => ?_)
    obtain ⟨hE6, hB6⟩ := hq6
    have z6 : gI s6 aa 16 = nI nn := by rw [hE6.1 aa hPa, za]; exact hM.2.2.2.2.1
    have L1 : lp FUEL (u2 (fun (n8 : Int32) (n9 : Int32) => gd (inb (nI 16) 378) (if (gI s6 aa (Int32.toNatClampNeg (nI 16))) ≤ n9 then some (Sum.inr n8) else (bd (FX12_has (nI cm) n9 s6) (fun (r10 : Int32) => bd (if r10 = 0 then some ((nI 0)) else (gd (inb n9 7) (some ((gI s6 84 (Int32.toNatClampNeg n9)))))) (fun (j11 : Int32) => some (Sum.inl (n8 + j11, n9 + (nI 1))))))))) (nI (day (fun uu => mm.testBit uu) (fun uu => cm.testBit uu) K C H nn wS wD nn jj), nI 0) = some (nI (day (fun uu => mm.testBit uu) (fun uu => cm.testBit uu) K C H nn wS wD nn (jj + 1))) := by
      refine lp_F (fun kk => (nI (day (fun uu => mm.testBit uu) (fun uu => cm.testBit uu) K C H nn wS wD nn jj + hrs (fun uu => mm.testBit uu) (fun uu => cm.testBit uu) K C H nn wS wD kk jj), nI kk)) nn (fuel_of (by omega)) rfl (fun kk hk => ?_) ?_
      · rw [u2_s, gd_n (by omega) (by omega), ix_n (n := 16) (by omega), z6, if_neg (fun hq => by have := le_of_nI hq (by omega) (by omega); omega), bd_of (has_n hcm (by omega) s6)]
        by_cases hq : cm.testBit kk = true
        · rw [if_pos hq, if_neg n1_0, gd_n (by omega) (by omega), ix_n (by omega), bd_s, hB6.1 kk hk (hs kk hk hq), nI_addn, nI_addn, Nat.add_assoc]
          show some (Sum.inl (nI (_ + (hrs (fun uu => mm.testBit uu) (fun uu => cm.testBit uu) K C H nn wS wD kk jj + _)), _)) = some (Sum.inl (nI (_ + (hrs (fun uu => mm.testBit uu) (fun uu => cm.testBit uu) K C H nn wS wD kk jj + (if cm.testBit kk = true then _ else 0))), _))
          rw [if_pos hq]
        · rw [if_neg hq, if_pos rfl, bd_s, nI_addn, nI_addn]
          show some (Sum.inl (nI (_ + _ + 0), _)) = some (Sum.inl (nI (_ + (hrs (fun uu => mm.testBit uu) (fun uu => cm.testBit uu) K C H nn wS wD kk jj + (if cm.testBit kk = true then _ else 0))), _))
          rw [if_neg hq]
          rfl
      · rw [u2_s, gd_n (by omega) (by omega), ix_n (n := 16) (by omega), z6, if_pos ((nI_le_iff (by omega) (by omega)).mpr (Nat.le_refl _))]
        rfl
    refine ok_bdr L1 (ok_some ⟨hj2, s6, ?_, hE.tr hE6⟩)
    rw [nI_addn]
  · rintro ⟨e1, s5⟩ hq
    rw [u2_s]
    exact ok_some hq
end DA
