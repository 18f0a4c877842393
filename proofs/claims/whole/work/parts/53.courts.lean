/-! ===== court, the calls ===== -/
def P72 (c : Nat) : Prop := c = 72 ∨ c = 73 ∨ c = 74
def P88 (c : Nat) : Prop := c = 88 ∨ c = 89 ∨ c = 90
def hd (ρ : Nat → Int32) (vv : Nat) : Bool := decide (ρ (49 + 4 * vv) = nI 1)
def wf (ρ : Nat → Int32) (xs : List Nat) : Int32 := (wns ρ xs xs.length).1
theorem rw_nil {gg : Nat → Int32} {bb : Nat} : RW gg [] bb := ⟨Nat.zero_le _, fun _ hq => absurd hq (Nat.not_lt_zero _)⟩
theorem ul_t {hf : Nat → Bool} {nn : Nat} (h : hf nn = true) : ul hf (nn + 1) = ul hf nn := if_pos h
theorem ul_f {hf : Nat → Bool} {nn : Nat} (h : ¬ hf nn = true) : ul hf (nn + 1) = ul hf nn ++ [nn] := if_neg h
theorem len_1 (xs : List Nat) (vv : Nat) : (xs ++ [vv]).length = xs.length + 1 := by rw [List.length_append]; rfl
section DG
variable {σx σm : SS} {nu ns nr nn nk np hr : Nat} {R : Int32 × (Nat → Int32)}
theorem ir_72 {s : SS} (hT : TCw 1 σx) (hI : IR 1 σx (gI σm 79) nu ns nr nn nk np hr) (hE : Eq0 P72 σx s) : TCw 1 s ∧ IR 1 s (gI σm 79) nu ns nr nn nk np hr :=
  ⟨hT.cong (fun c c1 c2 => hE.1 c (fun hq => by rcases hq with hq | hq | hq <;> omega)), hI.cong (fun c c1 c2 => hE.1 c (fun hq => by rcases hq with hq | hq | hq <;> omega)) (fun _ _ => rfl)⟩
theorem best_x (hT : TCw 1 σx) (hI : IR 1 σx (gI σm 79) nu ns nr nn nk np hr) (hc : crt (wf (gI σm 79)) 120 (ul (hd (gI σm 79)) ns) ((-1 : Int32), gI σx 74) = some R) :
    Ok (FX8_findBestOrder 72 1 σx) (fun s => Eq0 P72 σx s ∧ gI s 72 2 = nI (ul (hd (gI σm 79)) ns).length ∧ gI s 72 3 = R.1 ∧ ∀ k, k < 5 → gI s 74 k = R.2 k) := by
  have hs5 := hI.1.2.1
  have hlen := ul_len (hd (gI σm 79))
  have k72 : P72 72 := Or.inl rfl
  have k73 : P72 73 := Or.inr (Or.inl rfl)
  have k74 : P72 74 := Or.inr (Or.inr rfl)
  unfold FX8_findBestOrder
  simp only [nm_eq, lk_1_3, lk_72_0, lk_72_1, ln_73, ln_74]
  refine ok_bd (ok_lp (fun ii tt => ∃ s, tt = (nI ii, s) ∧ Eq0 P72 σx s ∧ gI s 74 = gI σx 74 ∧ gI s 72 2 = nI (ul (hd (gI σm 79)) ii).length ∧ RW (gI s 73) (ul (hd (gI σm 79)) ii) ns) ns (by omega) (Q := fun s => Eq0 P72 σx s ∧ gI s 74 = gI σx 74 ∧ gI s 72 2 = nI (ul (hd (gI σm 79)) ns).length ∧ RW (gI s 73) (ul (hd (gI σm 79)) ns) ns) ⟨_, rfl, Eq0.pI k72, gI_pI_ne (by omega), by rw [gI_pI_eq, upd_eq]; rfl, rw_nil⟩ ?_) (fun s10 hq10 => ?_)
  · rintro ii tt hi ⟨s, rfl, hE, h74, h72, hR⟩
    obtain ⟨hT1, hI1⟩ := ir_72 hT hI hE
    have hl := hlen ii
    rw [u2_s, hI1.2.2.1.2.1, h72]
    refine ok_ite (fun hcc => ok_some ?_) (fun hcc => ?_)
    · have hii : ii = ns := by have := le_of_nI hcc (by omega) (by omega); omega
      subst hii
      exact ⟨hE, h74, h72, hR⟩
    have hi2 := lt_of_nle hcc (by omega) (by omega)
    refine ok_if (fun hq => by have := le_of_nI (nn := 5) hq (by omega) (by omega); omega) (ok_bdr (heard_x hT1 hI1 hi2) ?_)
    by_cases hh : gI σm 79 (49 + 4 * ii) = nI 1
    · rw [if_pos hh, if_neg n1_0]
      refine ok_bdr rfl (ok_some ⟨hi2, s, by rw [nI_addn], hE, h74, ?_, ?_⟩)
      · rw [ul_t (decide_eq_true hh)]; exact h72
      · rw [ul_t (decide_eq_true hh)]; exact hR
    · rw [if_neg hh, if_pos nI_0, gd_n (by omega) (by omega), ix_n (by omega)]
      refine ok_bdr rfl (ok_some ⟨hi2, _, by rw [nI_addn], hE.tr ((Eq0.pI k73).tr (Eq0.pI k72)), ?_, ?_, ?_⟩)
      · rw [gI_pI_ne (by omega), gI_pI_ne (by omega)]; exact h74
      · rw [gI_pI_eq, upd_eq, gI_pI_ne (by omega), h72, nI_addn, ul_f (fun hz => hh (of_decide_eq_true hz)), len_1]
      · rw [gI_pI_ne (by omega), gI_pI_eq, ul_f (fun hz => hh (of_decide_eq_true hz))]
        exact rw_app hR (by omega) hi2
  obtain ⟨hE10, h74, h72, hR10⟩ := hq10
  refine ok_bde (Q1 := fun s => Eq0 P72 σx s ∧ gI s 72 2 = nI (ul (hd (gI σm 79)) ns).length ∧ gI s 72 3 = R.1 ∧ ∀ k, k < 5 → gI s 74 k = R.2 k) (ok_lp (fun ii tt => ∃ s xs pp, tt = (nI ii, s) ∧ Eq0 P72 σx s ∧ xs.length = (ul (hd (gI σm 79)) ns).length ∧ gI s 72 2 = nI xs.length ∧ RW (gI s 73) xs ns ∧ (gI s 72 3 = pp.1 ∧ ∀ k, k < 5 → gI s 74 k = pp.2 k) ∧ crt (wf (gI σm 79)) (120 - ii) xs pp = some R) 120 (by omega) ⟨_, _, _, rfl, hE10.tr (Eq0.pI k72), rfl, ?_, ?_, ⟨?_, fun k _ => ?_⟩, hc⟩ ?_) (fun s hq => ok_some hq)
  · rw [gI_pI_eq, upd_ne (by omega)]; exact h72
  · rw [gI_pI_ne (by omega)]; exact hR10
  · rw [gI_pI_eq, upd_eq]
  · rw [gI_pI_ne (by omega), h74]
  rintro ii tt hi ⟨s, xs, pp, rfl, hE, hlx, h72s, hR, ⟨hp1, hp2⟩, hcr⟩
  obtain ⟨hT1, hI1⟩ := ir_72 hT hI hE
  rw [u2_s]
  refine ok_ite (fun hcc => ?_) (fun hcc => ?_)
  · have hii : ii = 120 := by have := le_of_nI hcc (by omega) (by omega); omega
    subst hii
    cases hcr
  have hi2 := lt_of_nle hcc (by omega) (by omega)
  have h5 := hR.1
  rw [show 120 - ii = (119 - ii) + 1 by omega] at hcr
  simp only [crt] at hcr
  refine ok_bdr (won_x hT1 hI1 hR h72s) ?_
  obtain ⟨s19, e19, hE19, h72t, hR19, hs1, hs2⟩ : ∃ s19, (if (wns (gI σm 79) xs xs.length).1 ≤ (gI s 72 3) then some (s) else (gd (cpok (nI 0) (nI 0) (gI (pI s 72 3 (wns (gI σm 79) xs xs.length).1) 72 2) 5 5) (some (pA (pI s 72 3 (wns (gI σm 79) xs xs.length).1) 74 (va_cpy (gI (pI s 72 3 (wns (gI σm 79) xs xs.length).1) 73) (gI (pI s 72 3 (wns (gI σm 79) xs xs.length).1) 74) (Int32.toNatClampNeg (nI 0)) (Int32.toNatClampNeg (nI 0)) (Int32.toNatClampNeg (gI (pI s 72 3 (wns (gI σm 79) xs xs.length).1) 72 2))))))) = some s19 ∧ Eq0 P72 s s19 ∧ gI s19 72 2 = nI xs.length ∧ RW (gI s19 73) xs ns ∧ gI s19 72 3 = (stp (wf (gI σm 79)) xs pp).1 ∧ ∀ k, k < 5 → gI s19 74 k = (stp (wf (gI σm 79)) xs pp).2 k := by
    rw [hp1]
    unfold stp
    by_cases hw : wf (gI σm 79) xs ≤ pp.1
    · rw [if_pos hw]
      exact ⟨s, if_pos hw, Eq0.rf, h72s, hR, hp1, hp2⟩
    · rw [if_neg hw]
      have z2 : gI (pI s 72 3 (wns (gI σm 79) xs xs.length).1) 72 2 = nI xs.length := by rw [gI_pI_eq, upd_ne (by omega)]; exact h72s
      refine ⟨_, (if_neg hw).trans (gd_of (by rw [z2]; exact cpok_n (by omega) (by omega) (by omega) (by omega)) _), (Eq0.pI k72).tr (Eq0.pA k74), ?_, ?_, ?_, fun k hk => ?_⟩
      · rw [gI_pA_ne (by omega)]; exact z2
      · rw [gI_pA_ne (by omega), gI_pI_ne (by omega)]; exact hR
      · rw [gI_pA_ne (by omega), gI_pI_eq, upd_eq]; rfl
      · rw [gI_pA_eq, z2, ix_n (by omega), ix_n (by omega), cpy_0, gI_pI_ne (by omega), gI_pI_ne (by omega)]
        dsimp only
        by_cases hkl : k < xs.length
        · rw [if_pos hkl, if_pos hkl]; exact (hR.2 k hkl).1
        · rw [if_neg hkl, if_neg hkl]; exact hp2 k hk
  refine ok_bdr e19 ?_
  obtain ⟨r, s', e', hn⟩ := next_x hR19 hs5 h72t
  refine ok_bd2r e' ?_
  rcases hn with ⟨hn, rfl, rfl⟩ | ⟨ys, hn, rfl, hE', hR', hL'⟩
  · rw [if_pos nI_0]
    rw [hn] at hcr
    have hcr2 : stp (wf (gI σm 79)) xs pp = R := Option.some.inj hcr
    rw [hcr2] at hs1 hs2
    exact ok_some ⟨hE.tr hE19, by rw [h72t, hlx], hs1, hs2⟩
  · rw [if_neg n1_0]
    rw [hn] at hcr
    refine ok_some ⟨hi2, s', ys, stp (wf (gI σm 79)) xs pp, by rw [nI_addn], hE.tr (hE19.tr (hE'.up (fun c hq => Or.inr (Or.inl hq)))), by rw [hL']; exact hlx, ?_, hR', ⟨?_, fun k hk => ?_⟩, ?_⟩
    · rw [hE'.1 72 (by omega), hL']; exact h72t
    · rw [hE'.1 72 (by omega)]; exact hs1
    · rw [hE'.1 74 (by omega)]; exact hs2 k hk
    · rw [show 120 - (ii + 1) = 119 - ii by omega]; exact hcr
theorem copy_89 {s : SS} {ll : Nat} (h5 : ll ≤ 5) : Ok (lp FUEL (u2 (fun (n24 : Int32) (s25 : SS) => if nI ll ≤ n24 then some (Sum.inr s25) else (gd (inb n24 5) (gd (inb n24 5) (some (Sum.inl (n24 + (nI 1), pI s25 89 (Int32.toNatClampNeg n24) (gI s25 88 (Int32.toNatClampNeg n24))))))))) (nI 0, s)) (fun s' => Eq0 (fun c => c = 89) s s' ∧ ∀ k, gI s' 89 k = if k < ll then gI s 88 k else gI s 89 k) := by
  refine ok_lp (fun ii tt => ∃ s1, tt = (nI ii, s1) ∧ Eq0 (fun c => c = 89) s s1 ∧ ∀ k, gI s1 89 k = if k < ii then gI s 88 k else gI s 89 k) ll (by omega) ⟨s, rfl, Eq0.rf, fun k => by rw [if_neg (by omega)]⟩ ?_
  rintro ii tt hi ⟨s1, rfl, hE, hk⟩
  rw [u2_s]
  refine ok_ite (fun hc => ok_some ?_) (fun hc => ?_)
  · have hii : ii = ll := by have := le_of_nI hc (by omega) (by omega); omega
    subst hii
    exact ⟨hE, hk⟩
  have hi2 := lt_of_nle hc (by omega) (by omega)
  refine ok_gn (by omega) (by omega) (ok_gn (by omega) (by omega) (ok_some ⟨hi2, _, by rw [nI_addn], hE.tr eo_pI, fun k => ?_⟩))
  rw [ix_n (by omega), gI_pI_eq, upd_ap, hE.1 88 (by omega)]
  by_cases hq : k = ii
  · rw [if_pos hq, if_pos (by omega), hq]
  · rw [if_neg hq, hk k]
    by_cases hq2 : k < ii
    · rw [if_pos hq2, if_pos (by omega)]
    · rw [if_neg hq2, if_neg (by omega)]
theorem rows_m (h45 : gI σm 79 45 = nI ns) (hs5 : ns ≤ 5) :
    Ok (lp FUEL (u3 (fun (n3 : Int32) (n4 : Int32) (s5 : SS) => gd (inb (nI 45) 378) (if (gI s5 79 (Int32.toNatClampNeg (nI 45))) ≤ n4 then some (Sum.inr (n3, s5)) else (bd (FX12_isHeard 78 n4 s5) (fun (r6 : Int32) => bd (if r6 = 0 then gd (inb n3 5) (some ((n3 + (nI 1), pI s5 88 (Int32.toNatClampNeg n3) n4))) else (some ((n3, s5)))) (u2 (fun (j9 : Int32) (s10 : SS) => some (Sum.inl (j9, n4 + (nI 1), s10))))))))) (nI 0, nI 0, σm)) (fun yy => yy.1 = nI (ul (hd (gI σm 79)) ns).length ∧ Eq0 (fun c => c = 88) σm yy.2 ∧ RW (gI yy.2 88) (ul (hd (gI σm 79)) ns) ns) := by
  have hlen := ul_len (hd (gI σm 79))
  refine ok_lp (fun ii tt => ∃ s, tt = (nI (ul (hd (gI σm 79)) ii).length, nI ii, s) ∧ Eq0 (fun c => c = 88) σm s ∧ RW (gI s 88) (ul (hd (gI σm 79)) ii) ns) ns (by omega) ⟨σm, rfl, Eq0.rf, rw_nil⟩ ?_
  rintro ii tt hi ⟨s, rfl, hE, hR⟩
  have hl := hlen ii
  have z79 : gI s 79 = gI σm 79 := hE.1 79 (by omega)
  rw [u3_s, ix_n (n := 45) (by omega), z79, h45]
  refine ok_gn (by omega) (by omega) (ok_ite (fun hcc => ok_some ?_) (fun hcc => ?_))
  · have hii : ii = ns := by have := le_of_nI hcc (by omega) (by omega); omega
    subst hii
    exact ⟨rfl, hE, hR⟩
  have hi2 := lt_of_nle hcc (by omega) (by omega)
  refine ok_bdr (heard_m (σm := s) (by omega)) ?_
  rw [z79]
  by_cases hh : gI σm 79 (49 + 4 * ii) = nI 1
  · rw [if_pos hh, if_neg n1_0]
    refine ok_bdr rfl ?_
    rw [u2_s]
    refine ok_some ⟨hi2, s, ?_, hE, ?_⟩
    · rw [ul_t (decide_eq_true hh), nI_addn]
    · rw [ul_t (decide_eq_true hh)]; exact hR
  · rw [if_neg hh, if_pos nI_0, gd_n (by omega) (by omega), ix_n (by omega), bd_s, u2_s]
    refine ok_some ⟨hi2, pI s 88 (ul (hd (gI σm 79)) ii).length (nI ii), ?_, hE.tr eo_pI, ?_⟩
    · rw [ul_f (fun hz => hh (of_decide_eq_true hz)), len_1, nI_addn, nI_addn]
    · rw [gI_pI_eq, ul_f (fun hz => hh (of_decide_eq_true hz))]
      exact rw_app hR (by omega) hi2
theorem best_m {s13 : SS} {LL : Nat} (hu7 : nu ≤ 7) (hs5 : ns ≤ 5) (h16 : gI σm 79 16 = nI nu) (hV : Vs (gI σm 79) nu ns) (hE0 : Eq0 (fun c => c = 88) σm s13) {x0 : List Nat} (hL0 : x0.length = LL) (hR0 : RW (gI s13 88) x0 ns) {b0 : Nat → Int32} (hb0 : ∀ k, k < 5 → gI σm 89 k = b0 k) (hc : crt (wf (gI σm 79)) 120 x0 ((-1 : Int32), b0) = some R) :
    Ok (lp FUEL (u3 (fun (n16 : Int32) (n17 : Int32) (s18 : SS) => if n17 = 0 then some (Sum.inr (n16, s18)) else (bd2 (FX12_wonBy 78 (nI LL) s18) (fun (r19 : Int32) (s20 : SS) => bd (if r19 ≤ n16 then some ((n16, s20)) else (bd (lp FUEL (u2 (fun (n24 : Int32) (s25 : SS) => if nI LL ≤ n24 then some (Sum.inr s25) else (gd (inb n24 5) (gd (inb n24 5) (some (Sum.inl (n24 + (nI 1), pI s25 89 (Int32.toNatClampNeg n24) (gI s25 88 (Int32.toNatClampNeg n24))))))))) (nI 0, s20)) (fun (s28 : SS) => some ((r19, s28))))) (u2 (fun (j29 : Int32) (s30 : SS) => bd2 (FX12_nextRow 78 (nI LL) s30) (fun (r31 : Int32) (s32 : SS) => some (Sum.inl (j29, r31, s32))))))))) ((-1 : Int32), nI 1, s13)) (fun yy => yy.1 = R.1 ∧ Eq0 P88 σm yy.2 ∧ ∀ k, k < 5 → gI yy.2 89 k = R.2 k) := by
  have h5 := hR0.1
  refine ok_lp (fun ii tt => ∃ pp fl s, tt = (pp.1, fl, s) ∧ Eq0 P88 σm s ∧ (∀ k, k < 5 → gI s 89 k = pp.2 k) ∧ ((fl = nI 1 ∧ ii ≤ 120 ∧ ∃ xs : List Nat, xs.length = LL ∧ RW (gI s 88) xs ns ∧ crt (wf (gI σm 79)) (120 - ii) xs pp = some R) ∨ (fl = nI 0 ∧ pp = R))) 121 (by omega) ⟨((-1 : Int32), b0), nI 1, s13, rfl, hE0.up (fun c hq => Or.inl hq), fun k hk => by rw [hE0.1 89 (by omega)]; exact hb0 k hk, Or.inl ⟨rfl, by omega, x0, hL0, hR0, hc⟩⟩ ?_
  rintro ii tt hi ⟨pp, fl, s, rfl, hE, hb, hcs⟩
  rw [u3_s]
  rcases hcs with ⟨rfl, hi1, xs, hlx, hR, hcr⟩ | ⟨rfl, rfl⟩
  rotate_left
  · rw [if_pos nI_0]
    exact ok_some ⟨rfl, hE, hb⟩
  rw [if_neg n1_0]
  have hi2 : ii < 120 := by
    rcases Nat.lt_or_ge ii 120 with hq | hq
    · exact hq
    · rw [show 120 - ii = 0 by omega] at hcr
      cases hcr
  rw [show 120 - ii = (119 - ii) + 1 by omega] at hcr
  simp only [crt] at hcr
  have z79 : gI s 79 = gI σm 79 := hE.1 79 (fun hq => by rcases hq with hq | hq | hq <;> omega)
  subst hlx
  obtain ⟨⟨r19, s20⟩, e20, hq1, hE20⟩ := won_m z79 hu7 hs5 h16 hV hR
  dsimp only at hq1 hE20
  subst hq1
  refine ok_bd2r e20 ?_
  have hR20 : RW (gI s20 88) xs ns := by rw [hE20.1 88 (by omega)]; exact hR
  have z89 : gI s20 89 = gI s 89 := hE20.1 89 (by omega)
  obtain ⟨j29, s30, e30, hE30, hR30, hs1, hs2⟩ : ∃ j29 s30, (if (wns (gI σm 79) xs xs.length).1 ≤ pp.1 then some ((pp.1, s20)) else (bd (lp FUEL (u2 (fun (n24 : Int32) (s25 : SS) => if nI xs.length ≤ n24 then some (Sum.inr s25) else (gd (inb n24 5) (gd (inb n24 5) (some (Sum.inl (n24 + (nI 1), pI s25 89 (Int32.toNatClampNeg n24) (gI s25 88 (Int32.toNatClampNeg n24))))))))) (nI 0, s20)) (fun (s28 : SS) => some (((wns (gI σm 79) xs xs.length).1, s28))))) = some (j29, s30) ∧ Eq0 P88 s20 s30 ∧ RW (gI s30 88) xs ns ∧ j29 = (stp (wf (gI σm 79)) xs pp).1 ∧ ∀ k, k < 5 → gI s30 89 k = (stp (wf (gI σm 79)) xs pp).2 k := by
    unfold stp
    by_cases hw : wf (gI σm 79) xs ≤ pp.1
    · rw [if_pos hw]
      exact ⟨_, _, if_pos hw, Eq0.rf, hR20, rfl, fun k hk => by rw [z89]; exact hb k hk⟩
    · obtain ⟨s28, e28, hE28, hk28⟩ := copy_89 (s := s20) (ll := xs.length) hR.1
      rw [if_neg hw]
      refine ⟨_, _, (if_neg hw).trans (bd_of e28 _), hE28.up (fun c hq => Or.inr (Or.inl hq)), by rw [hE28.1 88 (by omega)]; exact hR20, rfl, fun k hk => ?_⟩
      rw [hk28 k, z89]
      dsimp only
      by_cases hkl : k < xs.length
      · rw [if_pos hkl, if_pos hkl]; exact (hR20.2 k hkl).1
      · rw [if_neg hkl, if_neg hkl]; exact hb k hk
  refine ok_bdr e30 ?_
  rw [u2_s]
  obtain ⟨r, s', e', hn⟩ := next_m hR30 hs5
  have zE : Eq0 P88 σm s30 := hE.tr ((hE20.up (fun c hq => Or.inr (Or.inr hq))).tr hE30)
  refine ok_bd2r e' ?_
  rcases hn with ⟨hn, rfl, rfl⟩ | ⟨ys, hn, rfl, hE', hR', hL'⟩
  · rw [hn] at hcr
    have hcr2 : stp (wf (gI σm 79)) xs pp = R := Option.some.inj hcr
    exact ok_some ⟨by omega, stp (wf (gI σm 79)) xs pp, _, _, by rw [hs1], zE, hs2, Or.inr ⟨rfl, hcr2⟩⟩
  · rw [hn] at hcr
    refine ok_some ⟨by omega, stp (wf (gI σm 79)) xs pp, _, _, by rw [hs1], zE.tr (hE'.up (fun c hq => Or.inl hq)), fun k hk => by rw [hE'.1 89 (by omega)]; exact hs2 k hk, Or.inl ⟨rfl, by omega, ys, hL', hR', ?_⟩⟩
    rw [show 120 - (ii + 1) = 119 - ii by omega]; exact hcr
theorem court_ix {a : Int32} {LL : Nat} (h5 : LL ≤ 5) (h1 : (-1 : Int32) ≤ a) (h2 : ¬ a = (-1 : Int32)) (h3 : ¬ nI LL ≤ a) : ∃ jj, jj < LL ∧ a = nI jj := by
  have e1 := Int32.le_iff_toInt_le.mp h1
  have e2 : ¬ a.toInt = (-1 : Int32).toInt := fun hq => h2 (Int32.toInt_inj.mp hq)
  have e3 : ¬ (nI LL).toInt ≤ a.toInt := fun hq => h3 (Int32.le_iff_toInt_le.mpr hq)
  rw [nI_toInt (by omega)] at e3
  have e0 : (-1 : Int32).toInt = -1 := by decide +kernel
  rw [e0] at e1 e2
  refine ⟨a.toInt.toNat, by omega, ?_⟩
  apply Int32.toInt_inj.mp
  rw [nI_toInt (by omega)]
  omega
theorem q_court (R : Rel σx σm) (a : Int32) : Cm (FX11_court 0 a σx) (FX12_court 78 a σm) := by
  obtain ⟨⟨nu, ns, nr, nn, nk, np, hr, hI, hbd⟩, hT, -, -, -, -, -, -, -, hB⟩ := id R
  have hu7 := hI.1.1
  have hs5 := hI.1.2.1
  have hl := ul_len (hd (gI σm 79)) ns
  unfold FX11_court FX12_court
  simp only [nm_eq, lk_0_0, lk_0_9, lk_72_1, ln_74, lk_78_0, lk_78_6, lk_78_16, lk_78_17, ln_79, ln_83, ln_88, ln_89]
  refine cq_both (fun h1 => ?_) (fun h1 => ?_)
  rotate_left
  · refine cq_bd2x (refuse_bad σx) (cq_gm (inb_n (by omega) (by omega)) (cq_gm (inb_n (by omega) (by omega)) (cq_some ?_)))
    rw [ix_n (by omega)]
    exact rel_ref R (jj := 0) (by omega)
  obtain ⟨RR, hcr⟩ := crt_run (wf := wf (gI σm 79)) 120 (ul (hd (gI σm 79)) ns) ((-1 : Int32), gI σx 74) (run_ul _ hs5)
  obtain ⟨sx, ex, hEx, hx2, hx3, hx4⟩ := best_x hT.1.1 hI hcr
  obtain ⟨⟨r12, s13⟩, e13, hq13, hE13, hR13⟩ := rows_m (σm := σm) hI.2.1.2.1 hs5
  dsimp only at hq13 hE13 hR13
  subst hq13
  obtain ⟨⟨r34, s35⟩, e35, hq35, hE35, hb35⟩ := best_m (σm := σm) (R := RR) hu7 hs5 hI.2.1.1 (vs_of hu7 hI.2.2.2.2.1) hE13 rfl hR13 (fun k hk => (hB k hk).symm) hcr
  dsimp only at hq35 hE35 hb35
  subst hq35
  have R2 : Rel sx s35 := by
    refine R.congB (fun c hc => hEx.1 c (fun hq => ?_)) (hEx.2 77 (fun hq => ?_)) (R.2.1.cong (fun c h1 => hEx.1 c (fun hq => ?_)) (hEx.1 69 (fun hq => ?_))) (fun c hc => hE35.1 c (fun hq => ?_)) (hE35.2 78 (fun hq => ?_)) (fun k hk => (hx4 k hk).trans (hb35 k hk).symm)
    · rcases hq with hq | hq | hq <;> omega
    · rcases hq with hq | hq | hq <;> omega
    · rcases hq with hq | hq | hq <;> omega
    · rcases hq with hq | hq | hq <;> omega
    · rcases hq with hq | hq | hq <;> omega
    · rcases hq with hq | hq | hq <;> omega
  refine cq_bdx ex (cq_bdm e13 ?_)
  rw [u2_s]
  refine cq_bdm e35 ?_
  rw [u2_s, hx3, hx2]
  refine cq_both (fun h2 => cq_some R2) (fun h2 => cq_both (fun h3 => cq_some R2) (fun h3 => ?_))
  obtain ⟨jj, hj, rfl⟩ := court_ix (by omega) h1 h2 h3
  refine cq_gx (inb_n (by omega) (by omega)) (cq_gm (inb_n (by omega) (by omega)) ?_)
  rw [ix_n (by omega), hx4 jj (by omega), hb35 jj (by omega)]
  exact cq_some R2
end DG
