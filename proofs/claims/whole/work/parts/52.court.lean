/-! ===== court ===== -/
def us (ρ : Nat → Int32) (vv : Nat) : Nat := nat1 (ρ (47 + 4 * vv))
def wns (ρ : Nat → Int32) (xs : List Nat) : Nat → Int32 × Nat
  | 0 => (nI 0, 0)
  | nn + 1 => ((wns ρ xs nn).1 + aw (nat1 (ρ (46 + 4 * gx xs nn))) (if (wns ρ xs nn).2.testBit (us ρ (gx xs nn)) = true then nI 0 else ρ (20 + 4 * us ρ (gx xs nn))) ((ρ 66 + nI nn) - ρ (48 + 4 * gx xs nn)), (wns ρ xs nn).2 ||| 2 ^ us ρ (gx xs nn))
def Vs (ρ : Nat → Int32) (nu ns : Nat) : Prop := ∀ vv, vv < ns → (ρ (46 + 4 * vv) = nI (nat1 (ρ (46 + 4 * vv))) ∧ nat1 (ρ (46 + 4 * vv)) ≤ 5) ∧ ρ (47 + 4 * vv) = nI (us ρ vv) ∧ us ρ vv < nu
theorem vs_of {ρ : Nat → Int32} {nu ns nr : Nat} (hu7 : nu ≤ 7) (h : VR ρ nu ns nr) : Vs ρ nu ns := by
  intro vv hv
  obtain ⟨⟨kk, g1, g2⟩, uu, g3, g4⟩ := h.2.2.1 vv hv
  unfold us nat1
  rw [g2, g4, ix_n (by omega), ix_n (by omega)]
  exact ⟨⟨rfl, g1⟩, rfl, g3⟩
theorem wn_lt {ρ : Nat → Int32} {xs : List Nat} {nu ns : Nat} (hu7 : nu ≤ 7) (hV : Vs ρ nu ns) (hx : ∀ k, k < xs.length → gx xs k < ns) : ∀ nn, nn ≤ xs.length → (wns ρ xs nn).2 < 2 ^ 7
  | 0, _ => by show 0 < 2 ^ 7; decide
  | nn + 1, h => by
    have h1 := wn_lt hu7 hV hx nn (by omega)
    have h2 := (hV _ (hx nn (by omega))).2.2
    exact Nat.or_lt_two_pow h1 (Nat.pow_lt_pow_right (by omega) (by omega))
def stp (wf : List Nat → Int32) (xs : List Nat) (pp : Int32 × (Nat → Int32)) : Int32 × (Nat → Int32) := if wf xs ≤ pp.1 then pp else (wf xs, fun k => if k < xs.length then nI (gx xs k) else pp.2 k)
def crt (wf : List Nat → Int32) : Nat → List Nat → Int32 × (Nat → Int32) → Option (Int32 × (Nat → Int32))
  | 0, _, _ => none
  | nn + 1, xs, pp => match nx xs with
    | none => some (stp wf xs pp)
    | some ys => crt wf nn ys (stp wf xs pp)
theorem crt_run {wf : List Nat → Int32} : ∀ (nn : Nat) (xs : List Nat) (pp : Int32 × (Nat → Int32)), run nn xs = true → ∃ R, crt wf nn xs pp = some R := by
  intro nn
  induction nn with
  | zero => intro xs pp h; exact absurd (show false = true from h) Bool.false_ne_true
  | succ nn ih =>
    intro xs pp h
    simp only [run] at h
    simp only [crt]
    cases hn : nx xs with
    | none => exact ⟨_, rfl⟩
    | some ys =>
      rw [hn] at h
      exact ih ys _ h
theorem rw_app {gg : Nat → Int32} {xs : List Nat} {bb vv : Nat} (h : RW gg xs bb) (hl : xs.length < 5) (hv : vv < bb) : RW (upd gg xs.length (nI vv)) (xs ++ [vv]) bb := by
  have hL : (xs ++ [vv]).length = xs.length + 1 := by rw [List.length_append]; rfl
  refine ⟨by rw [hL]; omega, fun k hk => ?_⟩
  rw [hL] at hk
  rw [gx_app]
  by_cases hq : k = xs.length
  · rw [if_pos hq, hq, upd_eq]; exact ⟨rfl, hv⟩
  · rw [if_neg hq, upd_ne hq]; exact h.2 k (by omega)
theorem age_eq (a r n : Int32) : a - r + n = a + n - r := by
  rw [Int32.sub_eq_add_neg, Int32.sub_eq_add_neg, Int32.add_assoc, Int32.add_comm (-r) n, ← Int32.add_assoc]
section DF
variable {σx σm : SS} {nu ns nr nn nk np hr : Nat} {xs : List Nat}
theorem won_x {s : SS} (hT : TCw 1 s) (hI : IR 1 s (gI σm 79) nu ns nr nn nk np hr) (hR : RW (gI s 73) xs ns) (hl : gI s 72 2 = nI xs.length) : FX8_wonInOrder 72 1 s = some (wns (gI σm 79) xs xs.length).1 := by
  have hu7 := hI.1.1
  have hV := vs_of hu7 hI.2.2.2.2.1
  have h5 := hR.1
  have hw := wn_lt hu7 hV (fun k hk => (hR.2 k hk).2)
  have e8 : gI s 1 8 = gI σm 79 66 := hI.2.2.1.2.2.2.2.2.2.1.trans hI.2.1.2.2.2.2.2.2.symm
  unfold FX8_wonInOrder
  simp only [nm_eq, lk_72_0, lk_1_3, ln_73]
  rw [hl, e8]
  refine bd_of (lp_F (fun jj => ((wns (gI σm 79) xs jj).1, nI (wns (gI σm 79) xs jj).2, nI jj)) xs.length (fuel_of (by omega)) rfl (fun jj hj => ?_) ?_) _
  · have hm := hw jj (by omega)
    obtain ⟨g1, g2⟩ := hR.2 jj hj
    obtain ⟨⟨v1, v2⟩, v3, v4⟩ := hV _ g2
    rw [u3_s, if_neg (fun hq => by have := le_of_nI hq (by omega) (by omega); omega), gd_n (by omega) (by omega), ix_n (by omega), g1]
    rw [bd_of (ir_suit (t := 1) kd_1 hT hI g2 (cc := 1) (by omega)), show 46 + 4 * gx xs jj + 1 = 47 + 4 * gx xs jj by omega, v3]
    have hj1 : (if ((nI (wns (gI σm 79) xs jj).2 >>> (nI (us (gI σm 79) (gx xs jj)) &&& 31)) &&& (nI 1)) = (nI 1) then some ((nI 0)) else (bd (FX4_duesOf 1 (nI (us (gI σm 79) (gx xs jj))) s) (fun (r10 : Int32) => some (r10)))) = some (if (wns (gI σm 79) xs jj).2.testBit (us (gI σm 79) (gx xs jj)) = true then nI 0 else gI σm 79 (20 + 4 * us (gI σm 79) (gx xs jj))) := by
      by_cases hb : (wns (gI σm 79) xs jj).2.testBit (us (gI σm 79) (gx xs jj)) = true
      · rw [if_pos ((bit_1 (by omega) (by omega)).mpr hb), if_pos hb]
      · rw [if_neg (fun hq => hb ((bit_1 (by omega) (by omega)).mp hq)), if_neg hb, bd_of (dues_x hT hI v4)]
    rw [bd_of hj1, bd_of (ir_suit (t := 1) kd_1 hT hI g2 (cc := 2) (by omega)), bd_of (ir_suit (t := 1) kd_1 hT hI g2 (cc := 0) (by omega)), show 46 + 4 * gx xs jj + 2 = 48 + 4 * gx xs jj by omega, show 46 + 4 * gx xs jj + 0 = 46 + 4 * gx xs jj from rfl]
    rw [show gI σm 79 (46 + 4 * gx xs jj) = nI (nat1 (gI σm 79 (46 + 4 * gx xs jj))) from v1, bd_of (aw_x v2 _ _ s), shl_n (by omega), or_n, nI_addn]
    rfl
  · rw [u3_s, if_pos ((nI_le_iff (by omega) (by omega)).mpr (Nat.le_refl _))]
theorem won_m {s : SS} (h79 : gI s 79 = gI σm 79) (hu7 : nu ≤ 7) (hs5 : ns ≤ 5) (h16 : gI σm 79 16 = nI nu) (hV : Vs (gI σm 79) nu ns) (hR : RW (gI s 88) xs ns) : Ok (FX12_wonBy 78 (nI xs.length) s) (fun yy => yy.1 = (wns (gI σm 79) xs xs.length).1 ∧ Eq0 (fun c => c = 90) s yy.2) := by
  have h5 := hR.1
  have hw := wn_lt hu7 hV (fun k hk => (hR.2 k hk).2)
  unfold FX12_wonBy
  simp only [nm_eq, lk_78_0, lk_78_16, lk_78_18, ln_79, ln_88, ln_90]
  refine ok_bd (ok_lp (fun jj tt => ∃ s1, tt = (nI jj, s1) ∧ Eq0 (fun c => c = 90) s s1 ∧ ∀ uu, uu < jj → gI s1 90 uu = gI σm 79 (20 + 4 * uu)) nu (by omega) (Q := fun s1 => Eq0 (fun c => c = 90) s s1 ∧ ∀ uu, uu < nu → gI s1 90 uu = gI σm 79 (20 + 4 * uu)) ⟨s, rfl, Eq0.rf, fun _ hq => absurd hq (Nat.not_lt_zero _)⟩ ?_) (fun s7 hq7 => ?_)
  · rintro jj tt hj ⟨s1, rfl, hE, hk⟩
    have z79 : gI s1 79 = gI σm 79 := (hE.1 79 (by omega)).trans h79
    rw [u2_s, ix_n (n := 16) (by omega), z79, h16]
    refine ok_gn (by omega) (by omega) (ok_ite (fun hc => ok_some ?_) (fun hc => ?_))
    · have hjj : jj = nu := by have := le_of_nI hc (by omega) (by omega); omega
      subst hjj
      exact ⟨hE, hk⟩
    have hj2 := lt_of_nle hc (by omega) (by omega)
    refine ok_bdr (dues_m (σm := s1) (by omega)) (ok_gn (by omega) (by omega) (ok_some ⟨hj2, _, by rw [nI_addn], hE.tr eo_pI, fun uu hu => ?_⟩))
    rw [ix_n (by omega), gI_pI_eq, upd_ap, z79]
    by_cases hq : uu = jj
    · rw [if_pos hq, hq]
    · rw [if_neg hq]; exact hk uu (by omega)
  obtain ⟨hE7, hk7⟩ := hq7
  refine ok_bd (ok_lp (fun jj tt => ∃ s1, tt = ((wns (gI σm 79) xs jj).1, nI jj, s1) ∧ Eq0 (fun c => c = 90) s s1 ∧ ∀ uu, uu < nu → gI s1 90 uu = if (wns (gI σm 79) xs jj).2.testBit uu = true then nI 0 else gI σm 79 (20 + 4 * uu)) xs.length (by omega) (Q := fun yy => yy.1 = (wns (gI σm 79) xs xs.length).1 ∧ Eq0 (fun c => c = 90) s yy.2) ⟨s7, rfl, hE7, fun uu hu => ?_⟩ ?_) ?_
  · rw [hk7 uu hu]
    show _ = if Nat.testBit 0 uu = true then _ else _
    rw [Nat.zero_testBit, if_neg (by decide)]
  · rintro jj tt hj ⟨s1, rfl, hE, hk⟩
    have z79 : gI s1 79 = gI σm 79 := (hE.1 79 (by omega)).trans h79
    have z88 : gI s1 88 = gI s 88 := hE.1 88 (by omega)
    rw [u3_s]
    refine ok_ite (fun hc => ok_some ?_) (fun hc => ?_)
    · have hjj : jj = xs.length := by have := le_of_nI hc (by omega) (by omega); omega
      subst hjj
      exact ⟨rfl, hE⟩
    have hj2 := lt_of_nle hc (by omega) (by omega)
    have hm := hw jj (by omega)
    obtain ⟨g1, g2⟩ := hR.2 jj hj2
    obtain ⟨⟨v1, v2⟩, v3, v4⟩ := hV _ g2
    have hag : FX12_ageOf 78 (nI (gx xs jj)) s1 = some (gI σm 79 66 - gI σm 79 (48 + 4 * gx xs jj)) := by
      unfold FX12_ageOf
      simp only [lk_78_0, ln_79]
      rw [gd_n (by omega) (by omega), bd_of (suitOf_eq ln_79 (by omega) (by omega) s1), ix_n (by omega), z79, show 46 + 4 * gx xs jj + 2 = 48 + 4 * gx xs jj by omega]
    rw [ix_n (n := jj) (by omega), z88, g1]
    refine ok_gn (by omega) (by omega) (ok_bdr (suitOf_eq ln_79 (by omega) (by omega) s1) (ok_gn (by omega) (by omega) (ok_bdr (suitOf_eq ln_79 (by omega) (by omega) s1) ?_)))
    rw [z79, show 46 + 4 * gx xs jj + 1 = 47 + 4 * gx xs jj by omega, show 46 + 4 * gx xs jj + 0 = 46 + 4 * gx xs jj from rfl, v3, ix_n (n := us (gI σm 79) (gx xs jj)) (by omega), hk _ v4]
    refine ok_gn (by omega) (by omega) (ok_gn (by omega) (by omega) (ok_bdr hag ?_))
    rw [show gI σm 79 (46 + 4 * gx xs jj) = nI (nat1 (gI σm 79 (46 + 4 * gx xs jj))) from v1]
    refine ok_bdr (aw_m v2 _ _ s1) (ok_gn (by omega) (by omega) (ok_some ⟨hj2, pI s1 90 (us (gI σm 79) (gx xs jj)) (nI 0), ?_, hE.tr eo_pI, fun uu hu => ?_⟩))
    · rw [nI_addn, age_eq]
      rfl
    · rw [gI_pI_eq, upd_ap]
      show _ = if ((wns (gI σm 79) xs jj).2 ||| 2 ^ us (gI σm 79) (gx xs jj)).testBit uu = true then nI 0 else _
      rw [Nat.testBit_or, Nat.testBit_two_pow]
      by_cases hq : uu = us (gI σm 79) (gx xs jj)
      · rw [if_pos hq, hq, decide_eq_true rfl, Bool.or_true, if_pos rfl]
      · rw [if_neg hq, decide_eq_false (fun hz => hq hz.symm), Bool.or_false]
        exact hk uu hu
  · rintro ⟨e1, s5⟩ hq
    rw [u2_s]
    exact ok_some hq
end DF
