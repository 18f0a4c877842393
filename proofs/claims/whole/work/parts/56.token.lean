/-! ===== a token is read, on both sides ===== -/
def NE (s s' : SS) : Prop := Eq0 (fun c => c = 78) s s' ∧ gL s' 78 = gL s 78 ∧ ∀ k, k ≠ 12 → k ≠ 14 → k ≠ 15 → gI s' 78 k = gI s 78 k
theorem NE.rf {s : SS} : NE s s := ⟨Eq0.rf, rfl, fun _ _ _ _ => rfl⟩
theorem NE.tr {s s' s2 : SS} (h : NE s s') (g : NE s' s2) : NE s s2 := ⟨h.1.tr g.1, g.2.1.trans h.2.1, fun k k1 k2 k3 => (g.2.2 k k1 k2 k3).trans (h.2.2 k k1 k2 k3)⟩
theorem NE.p {s : SS} {k : Nat} {v : Int32} (hk : k = 12 ∨ k = 14 ∨ k = 15) : NE s (pI s 78 k v) := ⟨Eq0.pI rfl, rfl, fun j j1 j2 j3 => by rw [gI_pI_eq, upd_ne (by omega)]⟩
theorem TX.ne {s1 s2 s2' : SS} {T : Nat → Nat} {nl : Nat} (h : TX s1 s2 T nl) (g : NE s2 s2') : TX s1 s2' T nl := by
  obtain ⟨h1, h2, h3, h4⟩ := h
  exact ⟨h1, h2, by rw [g.2.2 11 (by omega) (by omega) (by omega)]; exact h3, fun k hk => by rw [g.1.1 87 (by omega)]; exact h4 k hk⟩
theorem TX.x {s1 s1' s2 : SS} {T : Nat → Nat} {nl : Nat} (h : TX s1 s2 T nl) (g1 : gI s1' 46 = gI s1 46) (g2 : gI s1' 47 = gI s1 47) : TX s1' s2 T nl := by
  obtain ⟨h1, h2, h3, h4⟩ := h
  exact ⟨h1, by rw [g1]; exact h2, h3, fun k hk => by rw [g2]; exact h4 k hk⟩
theorem letter_eq (a : Int32) (s : SS) : FX12_isLetter a s = some (wi a (nI 97) (nI 122)) := by
  unfold FX12_isLetter wi
  split
  · rfl
  · split <;> rfl
theorem figure_eq (a : Int32) (s : SS) : FX12_isFigure a s = some (wi a (nI 48) (nI 57)) := by
  unfold FX12_isFigure wi
  split
  · rfl
  · split <;> rfl
section DI
variable {s1 s2 : SS} {T : Nat → Nat} {nl : Nat}
theorem blank_m (h : TX s1 s2 T nl) {pp : Nat} (hp : pp ≤ nl) (h12 : gI s2 78 12 = nI pp) : Ok (lp FUEL (fun (s1 : SS) => if (gI s1 78 11) ≤ (gI s1 78 12) then some (Sum.inr s1) else (gd (inb (gI s1 78 12) 150) (if (gI s1 87 (Int32.toNatClampNeg (gI s1 78 12))) = (nI 32) then some (Sum.inl (pI s1 78 12 ((gI s1 78 12) + (nI 1)))) else (some (Sum.inr s1))))) s2) (fun s => NE s2 s ∧ gI s 78 12 = nI (rE T 32 32 (nl - pp) pp)) := by
  have hn := h.1
  refine ok_lp (fun ii s => ∃ qq, qq = pp + ii ∧ qq ≤ nl ∧ NE s2 s ∧ gI s 78 12 = nI qq ∧ rE T 32 32 (nl - pp) pp = rE T 32 32 (nl - qq) qq) (nl - pp) (by omega) ⟨pp, rfl, hp, NE.rf, h12, rfl⟩ ?_
  rintro ii s hi ⟨qq, hqq, hle, hN, g12, he⟩
  have hX := h.ne hN
  rw [hX.2.2.1, g12]
  refine ok_ite (fun hc => ok_some ⟨hN, ?_⟩) (fun hc => ?_)
  · have := le_of_nI hc (by omega) (by omega)
    rw [g12, he, show nl - qq = 0 by omega]; rfl
  have hlt := lt_of_nle hc (by omega) (by omega)
  obtain ⟨-, hT1, hT2⟩ := hX.2.2.2 qq hlt
  rw [show nl - qq = (nl - (qq + 1)) + 1 by omega] at he
  simp only [rE] at he
  refine ok_gn (by omega) (by omega) ?_
  rw [ix_n (by omega), hT1]
  refine ok_ite (fun hc2 => ok_some ⟨by omega, qq + 1, by omega, by omega, hN.tr (NE.p (Or.inl rfl)), ?_, ?_⟩) (fun hc2 => ok_some ⟨hN, ?_⟩)
  · rw [gI_pI_eq, upd_eq, nI_addn]
  · have h32 := (nI_eqn (by omega) (by omega)).mp hc2
    rw [if_pos (by omega)] at he
    exact he
  · rw [if_neg (fun hz => hc2 (by rw [show T qq = 32 by omega]))] at he
    rw [g12, he]
theorem letters_m (h : TX s1 s2 T nl) {pp : Nat} (hp : pp ≤ nl) (h12 : gI s2 78 12 = nI pp) : Ok (lp FUEL (fun (s12 : SS) => if (gI s12 78 11) ≤ (gI s12 78 12) then some (Sum.inr s12) else (gd (inb (gI s12 78 12) 150) (bd (FX12_isLetter (gI s12 87 (Int32.toNatClampNeg (gI s12 78 12))) s12) (fun (r13 : Int32) => if r13 = 0 then some (Sum.inr s12) else (some (Sum.inl (pI s12 78 12 ((gI s12 78 12) + (nI 1)))))))) ) s2) (fun s => NE s2 s ∧ gI s 78 14 = gI s2 78 14 ∧ gI s 78 15 = gI s2 78 15 ∧ gI s 78 12 = nI (rE T 97 122 (nl - pp) pp)) := by
  have hn := h.1
  refine ok_lp (fun ii s => ∃ qq, qq = pp + ii ∧ qq ≤ nl ∧ NE s2 s ∧ gI s 78 14 = gI s2 78 14 ∧ gI s 78 15 = gI s2 78 15 ∧ gI s 78 12 = nI qq ∧ rE T 97 122 (nl - pp) pp = rE T 97 122 (nl - qq) qq) (nl - pp) (by omega) ⟨pp, rfl, hp, NE.rf, rfl, rfl, h12, rfl⟩ ?_
  rintro ii s hi ⟨qq, hqq, hle, hN, g14, g15, g12, he⟩
  have hX := h.ne hN
  rw [hX.2.2.1, g12]
  refine ok_ite (fun hc => ok_some ⟨hN, g14, g15, ?_⟩) (fun hc => ?_)
  · have := le_of_nI hc (by omega) (by omega)
    rw [g12, he, show nl - qq = 0 by omega]; rfl
  have hlt := lt_of_nle hc (by omega) (by omega)
  obtain ⟨-, hT1, hT2⟩ := hX.2.2.2 qq hlt
  rw [show nl - qq = (nl - (qq + 1)) + 1 by omega] at he
  simp only [rE] at he
  refine ok_gn (by omega) (by omega) ?_
  rw [ix_n (by omega), hT1]
  refine ok_bdr (letter_eq _ _) ?_
  by_cases hw : 97 ≤ T qq ∧ T qq ≤ 122
  · rw [wi_yes (by omega) (by omega) (by omega) hw, if_neg n1_0]
    rw [if_pos hw] at he
    refine ok_some ⟨by omega, qq + 1, by omega, by omega, hN.tr (NE.p (Or.inl rfl)), ?_, ?_, ?_, he⟩
    · rw [gI_pI_eq, upd_ne (by omega)]; exact g14
    · rw [gI_pI_eq, upd_ne (by omega)]; exact g15
    · rw [gI_pI_eq, upd_eq, nI_addn]
  · rw [wi_no (by omega) (by omega) (by omega) hw, if_pos rfl]
    rw [if_neg hw] at he
    exact ok_some ⟨hN, g14, g15, by rw [g12, he]⟩
/-- what a run of figures from st to qq is told as -/
def fv (T : Nat → Nat) (st qq : Nat) : Int32 := if qq = st + 1 then nI (T st - 48) else if qq = st + 2 then nI (10 * (T st - 48) + (T (st + 1) - 48)) else nI 300
theorem figures_m (h : TX s1 s2 T nl) {st : Nat} (hp : st < nl) (hf : 48 ≤ T st ∧ T st ≤ 57) (h12 : gI s2 78 12 = nI (st + 1)) (h14 : gI s2 78 14 = nI (T st - 48)) (h15 : gI s2 78 15 = nI st) : Ok (lp FUEL (fun (s19 : SS) => if (gI s19 78 11) ≤ (gI s19 78 12) then some (Sum.inr s19) else (gd (inb (gI s19 78 12) 150) (bd (FX12_isFigure (gI s19 87 (Int32.toNatClampNeg (gI s19 78 12))) s19) (fun (r20 : Int32) => if r20 = 0 then some (Sum.inr s19) else (bd (if (gI s19 78 12) = ((gI s19 78 15) + (nI 1)) then gd (inb (gI s19 78 12) 150) (some (((((nI 10) * (gI s19 78 14)) + (gI s19 87 (Int32.toNatClampNeg (gI s19 78 12)))) - (nI 48)))) else (some ((nI 300)))) (fun (j21 : Int32) => some (Sum.inl (pI (pI s19 78 14 j21) 78 12 ((gI (pI s19 78 14 j21) 78 12) + (nI 1)))))))))) s2) (fun s => NE s2 s ∧ gI s 78 15 = nI st ∧ gI s 78 12 = nI (rE T 48 57 (nl - (st + 1)) (st + 1)) ∧ gI s 78 14 = fv T st (rE T 48 57 (nl - (st + 1)) (st + 1))) := by
  have hn := h.1
  refine ok_lp (fun ii s => ∃ qq, qq = st + 1 + ii ∧ qq ≤ nl ∧ NE s2 s ∧ gI s 78 15 = nI st ∧ gI s 78 12 = nI qq ∧ gI s 78 14 = fv T st qq ∧ rE T 48 57 (nl - (st + 1)) (st + 1) = rE T 48 57 (nl - qq) qq) (nl - (st + 1)) (by omega) ⟨st + 1, rfl, hp, NE.rf, h15, h12, by unfold fv; rw [if_pos rfl]; exact h14, rfl⟩ ?_
  rintro ii s hi ⟨qq, hqq, hle, hN, g15, g12, g14, he⟩
  have hX := h.ne hN
  rw [hX.2.2.1, g12]
  refine ok_ite (fun hc => ok_some ?_) (fun hc => ?_)
  · have := le_of_nI hc (by omega) (by omega)
    have hz : rE T 48 57 (nl - (st + 1)) (st + 1) = qq := by rw [he, show nl - qq = 0 by omega]; rfl
    rw [hz]
    exact ⟨hN, g15, g12, g14⟩
  have hlt := lt_of_nle hc (by omega) (by omega)
  obtain ⟨-, hT1, hT2⟩ := hX.2.2.2 qq hlt
  rw [show nl - qq = (nl - (qq + 1)) + 1 by omega] at he
  simp only [rE] at he
  refine ok_gn (by omega) (by omega) ?_
  rw [ix_n (by omega), hT1]
  refine ok_bdr (figure_eq _ _) ?_
  by_cases hw : 48 ≤ T qq ∧ T qq ≤ 57
  rotate_left
  · rw [wi_no (by omega) (by omega) (by omega) hw, if_pos rfl]
    rw [if_neg hw] at he
    rw [he]
    exact ok_some ⟨hN, g15, g12, g14⟩
  rw [wi_yes (by omega) (by omega) (by omega) hw, if_neg n1_0, g15, nI_addn]
  rw [if_pos hw] at he
  refine ok_bdr (a := fv T st (qq + 1)) ?_ (ok_some ⟨by omega, qq + 1, by omega, by omega, hN.tr ((NE.p (Or.inr (Or.inl rfl))).tr (NE.p (Or.inl rfl))), ?_, ?_, ?_, he⟩)
  · by_cases hq : qq = st + 1
    · subst hq
      rw [if_pos rfl, gd_n (by omega) (by omega), g14]
      unfold fv
      rw [if_pos rfl, if_neg (by omega), if_pos (by omega), nI_muln, nI_addn, nI_subn (by omega), Nat.add_sub_assoc (by omega)]
    · rw [if_neg (fun hz => hq ((nI_eqn (by omega) (by omega)).mp hz))]
      unfold fv
      rw [if_neg (by omega), if_neg (by omega)]
  · rw [gI_pI_eq, upd_ne (by omega), gI_pI_eq, upd_ne (by omega)]; exact g15
  · rw [gI_pI_eq, upd_eq, gI_pI_eq, upd_ne (by omega), g12, nI_addn]
  · rw [gI_pI_eq, upd_ne (by omega), gI_pI_eq, upd_eq]
/-- what the class knows of the token that the model calls tok -/
def LK (s1 : SS) (tok : Int32) : Prop := (∀ kk, kk < 5 → FX7_isWord 52 (100 + kk) s1 = some (if tok = nI (100 + kk) then nI 1 else nI 0)) ∧ (gI s1 52 5 = nI 3 ↔ tok = nI 200) ∧ (gI s1 52 5 = 0 ↔ tok = (-1 : Int32)) ∧
  ∀ (lo : Nat) (hi : Int32), lo < 1000 → hi ≤ nI 99 → FX7_isNumber 52 (nI lo) hi s1 = some (wi tok (nI lo) hi) ∧ (¬ wi tok (nI lo) hi = 0 → gI s1 52 6 = tok)
theorem isNum_x {lo hi : Int32} (s : SS) : FX7_isNumber 52 lo hi s = some (if gI s 52 5 = nI 2 then wi (gI s 52 6) lo hi else nI 0) := by
  unfold FX7_isNumber
  by_cases h : gI s 52 5 = nI 2
  · rw [if_pos h, if_pos h, within_eq, bd_s]
    rcases wi_01 (gI s 52 6) lo hi with hq | hq
    · rw [hq, if_pos rfl, nI_0]
    · rw [hq, if_neg n1_0]
  · rw [if_neg h, if_neg h]
theorem wi_big {tok : Int32} {vv lo : Nat} {hi : Int32} (ht : tok = nI vv) (hv : 100 ≤ vv) (hv2 : vv < 1000) (hl : lo < 1000) (hh : hi ≤ nI 99) : wi tok (nI lo) hi = 0 := by
  subst ht
  have e1 := Int32.le_iff_toInt_le.mp hh
  rw [nI_toInt (by omega)] at e1
  unfold wi
  split
  · exact nI_0
  · rw [if_pos (Int32.lt_iff_toInt_lt.mpr (by rw [nI_toInt (by omega)]; omega)), nI_0]
theorem wi_neg {lo : Nat} {hi : Int32} (hl : lo < 1000) : wi (-1 : Int32) (nI lo) hi = 0 := by
  unfold wi
  rw [if_pos (Int32.lt_iff_toInt_lt.mpr (by rw [nI_toInt (by omega), (by decide +kernel : (-1 : Int32).toInt = -1)]; omega)), nI_0]
theorem lk_word {s : SS} {tok : Int32} (h : TX s s2 T nl) {st nt : Nat} (h5 : gI s 52 5 = nI 1) (h4 : gI s 52 4 = nI nt) (h3 : gI s 52 3 = nI st) (h1 : st ≤ nt) (h2 : nt ≤ nl) (hT : ∀ k, st ≤ k → k < nt → 97 ≤ T k ∧ T k ≤ 122) (ht : tok = wT T st nt) : LK s tok := by
  subst ht
  obtain ⟨vv, v1, v2, v3, v4⟩ := wT_rng (T := T) (st := st) (nt := nt)
  refine ⟨fun kk hk => ?_, ?_, ?_, fun lo hi hl hh => ?_⟩
  · rw [isWord_x h hk h5 h4 h3 h1 h2]
    by_cases hw : isW T st nt kk = true
    · rw [if_pos hw, if_pos ((wT_iff hk hT h1).mpr hw)]
    · rw [if_neg hw, if_neg (fun hq => hw ((wT_iff hk hT h1).mp hq))]
  · rw [h5, v4, nI_eqn (by omega) (by omega), nI_eqn (by omega) (by omega)]
    omega
  · rw [h5, v4]
    exact ⟨fun hq => absurd hq n1_0, fun hq => absurd hq (m1_n (by omega))⟩
  · rw [isNum_x, h5, if_neg (by decide +kernel), wi_big v4 v1 (by omega) hl hh]
    exact ⟨congrArg some nI_0, fun hq => absurd rfl hq⟩
/-- a token that is no word -/
theorem lk_other {s : SS} {tok : Int32} {so : Nat} (hso : so ≤ 4) (h5 : gI s 52 5 = nI so) (hn1 : so ≠ 1) (h3 : so = 3 ↔ tok = nI 200) (h0 : so = 0 ↔ tok = (-1 : Int32)) (h2 : so = 2 → gI s 52 6 = tok ∧ ∃ vv, vv ≤ 99 ∧ tok = nI vv) (h9 : so ≠ 2 → tok = (-1 : Int32) ∨ ∃ vv, 105 ≤ vv ∧ vv ≤ 300 ∧ tok = nI vv) : LK s tok := by
  refine ⟨fun kk hk => ?_, ?_, ?_, fun lo hi hl hh => ?_⟩
  · unfold FX7_isWord
    rw [h5, if_neg (fun hq => hn1 ((nI_eqn (by omega) (by omega)).mp hq)), if_neg]
    intro hq
    by_cases hz : so = 2
    · obtain ⟨-, vv, v1, v2⟩ := h2 hz
      have := (nI_eqn (by omega) (by omega)).mp (v2.symm.trans hq)
      omega
    · rcases h9 hz with hy | ⟨vv, v1, v2, v3⟩
      · exact m1_n (by omega) (hq.symm.trans hy)
      · have := (nI_eqn (by omega) (by omega)).mp (v3.symm.trans hq)
        omega
  · rw [h5, nI_eqn (by omega) (by omega)]; exact h3
  · rw [h5, zI, nI_eqn (by omega) (by omega)]; exact h0
  · rw [isNum_x, h5]
    by_cases hz : so = 2
    · obtain ⟨g1, vv, v1, v2⟩ := h2 hz
      rw [if_pos (by rw [hz]), g1]
      exact ⟨rfl, fun _ => rfl⟩
    · rw [if_neg (fun hq => hz ((nI_eqn (by omega) (by omega)).mp hq))]
      have hw : wi tok (nI lo) hi = 0 := by
        rcases h9 hz with hy | ⟨vv, v1, v2, v3⟩
        · rw [hy]; exact wi_neg hl
        · exact wi_big v3 (by omega) (by omega) hl hh
      rw [hw]
      exact ⟨congrArg some nI_0, fun hq => absurd rfl hq⟩
def VF (T : Nat → Nat) (st nt : Nat) (va : Int32) : Prop := nt - st ≤ 2 → va = fv T st nt ∧ ∃ vv, vv ≤ 99 ∧ fv T st nt = nI vv
set_option maxHeartbeats 1000000 in
theorem lex (h : TX s1 s2 T nl) {pp : Nat} (hp : pp ≤ nl) (h4 : gI s1 52 4 = nI pp) (h12 : gI s2 78 12 = nI pp) : ∃ s1' s2' st nt tok, FX7_goOn 52 s1 = some s1' ∧ FX12_next 78 s2 = some s2' ∧ Eq0 (fun c => c = 52) s1 s1' ∧ NE s2 s2' ∧ pp ≤ st ∧ st ≤ nl ∧ gI s1' 52 3 = nI st ∧ gI s2' 78 15 = nI st ∧ gI s2' 78 12 = nI nt ∧ gI s2' 78 14 = tok ∧ nt ≤ nl ∧ (¬ tok = (-1 : Int32) → st < nt ∧ gI s1' 52 4 = nI nt) ∧ LK s1' tok := by
  have hn := h.1
  have hr := rE_le (T := T) (lo := 32) (hi := 32) (nl - pp) pp
  obtain ⟨st, hst⟩ : ∃ st, st = rE T 32 32 (nl - pp) pp := ⟨_, rfl⟩
  rw [← hst] at hr
  -- the class, to the token's start
  obtain ⟨t2, ht2⟩ : ∃ s, s = pI s1 52 3 (nI st) := ⟨_, rfl⟩
  have t23 : gI t2 52 3 = nI st := by rw [ht2, gI_pI_eq, upd_eq]
  have hX2 : TX t2 s2 T nl := h.x (by rw [ht2, gI_pI_ne (by omega)]) (by rw [ht2, gI_pI_ne (by omega)])
  have hE2 : Eq0 (fun c => c = 52) s1 t2 := by rw [ht2]; exact Eq0.pI rfl
  have hrun : FX7_runEnd 52 (gI s1 52 4) (nI 32) (nI 32) s1 = some (nI st) := by rw [h4, hst]; exact run_x h hp (by omega) (by omega)
  -- the model, to the token's start
  obtain ⟨m3, e3, hN3, g3⟩ := blank_m h hp h12
  rw [← hst] at g3
  obtain ⟨m4, hm4⟩ : ∃ s, s = pI m3 78 15 (nI st) := ⟨_, rfl⟩
  have hN4 : NE s2 m4 := by rw [hm4]; exact hN3.tr (NE.p (Or.inr (Or.inr rfl)))
  have hX4 := h.ne hN4
  have m412 : gI m4 78 12 = nI st := by rw [hm4, gI_pI_eq, upd_ne (by omega)]; exact g3
  have m415 : gI m4 78 15 = nI st := by rw [hm4, gI_pI_eq, upd_eq]
  unfold FX7_goOn FX12_next
  simp only [nm_eq, lk_52_0, lk_78_10, ln_87]
  rw [bd_of hrun, bd_of e3, g3, ← ht2, ← hm4, t23, m412, hX4.2.2.1]
  by_cases hend : st = nl
  · -- the text's end
    rw [bd_of (tat_out hX2 (by omega) (by omega)), within_eq, bd_s, wi_m1 (by omega), if_pos rfl, within_eq, bd_s, wi_m1 (by omega), if_pos rfl, if_pos (show nI st = nI nl by rw [hend]), if_neg (fun hq => m1_n (ii := 59) (by omega) hq.symm), if_pos rfl, bd_s]
    refine ⟨_, _, st, st, (-1 : Int32), rfl, rfl, hE2.tr (eo_pI.tr eo_pI), hN4.tr (NE.p (Or.inr (Or.inl rfl))), hr.1, by omega, ?_, ?_, ?_, ?_, by omega, fun hq => absurd rfl hq, ?_⟩
    · rw [gI_pI_eq, upd_ne (by omega), gI_pI_eq, upd_ne (by omega)]; exact t23
    · rw [gI_pI_eq, upd_ne (by omega)]; exact m415
    · rw [gI_pI_eq, upd_ne (by omega)]; exact m412
    · rw [gI_pI_eq, upd_eq]
    · refine lk_other (so := 0) (by omega) (by rw [gI_pI_eq, upd_eq]) (by omega) ⟨fun hq => absurd hq (by omega), fun hq => absurd hq (by decide +kernel)⟩ ⟨fun _ => rfl, fun _ => rfl⟩ (fun hq => absurd hq (by omega)) (fun _ => Or.inl rfl)
  have hlt : st < nl := by omega
  obtain ⟨T1, T2, T3⟩ := hX4.2.2.2 st hlt
  obtain ⟨m7, hm7⟩ : ∃ s, s = pI m4 78 12 (nI st + nI 1) := ⟨_, rfl⟩
  have hN7 : NE s2 m7 := by rw [hm7]; exact hN4.tr (NE.p (Or.inl rfl))
  have m712 : gI m7 78 12 = nI (st + 1) := by rw [hm7, gI_pI_eq, upd_eq, nI_addn]
  have m715 : gI m7 78 15 = nI st := by rw [hm7, gI_pI_eq, upd_ne (by omega)]; exact m415
  rw [bd_of (tat_in hX2 hlt), within_eq, bd_s, if_neg (fun hq => hend ((nI_eqn (by omega) (by omega)).mp hq)), gd_n (by omega) (by omega), ix_n (by omega), T2, ← hm7, figure_eq, bd_s]
  by_cases hlet : 97 ≤ T st ∧ T st ≤ 122
  · -- a word
    rw [wi_yes (by omega) (by omega) (by omega) hlet, if_neg n1_0, wi_no (by omega) (by omega) (by omega) (show ¬ (48 ≤ T st ∧ T st ≤ 57) by omega), if_pos rfl, letter_eq, bd_s, wi_yes (by omega) (by omega) (by omega) hlet, if_neg n1_0]
    obtain ⟨nt, hnt⟩ : ∃ nt, nt = rE T 97 122 (nl - (st + 1)) (st + 1) := ⟨_, rfl⟩
    have hle := rE_le (T := T) (lo := 97) (hi := 122) (nl - (st + 1)) (st + 1)
    have hin : ∀ k, st ≤ k → k < nt → 97 ≤ T k ∧ T k ≤ 122 := fun k k1 k2 => by
      by_cases hq : k = st
      · rw [hq]; exact hlet
      · exact rE_in (nl - (st + 1)) (st + 1) k (by omega) (by omega)
    have hr2 : FX7_runEnd 52 (nI st) (nI 97) (nI 122) t2 = some (nI nt) := by
      rw [run_x hX2 (by omega) (by omega) (by omega), show nl - st = (nl - (st + 1)) + 1 by omega, hnt]
      simp only [rE]
      rw [if_pos hlet]
    obtain ⟨m15, e15, hN15, g14, g15, g12⟩ := letters_m (h.ne hN7) (pp := st + 1) (by omega) m712
    rw [← hnt] at g12 hle
    have hN15b := hN7.tr hN15
    rw [bd_of hr2, bd_of e15, g12, bd_of (word_m (h.ne hN15b) (g15.trans m715) (by omega) (by omega) hin)]
    refine ⟨_, _, st, nt, wT T st nt, rfl, rfl, hE2.tr (eo_pI.tr eo_pI), hN15b.tr (NE.p (Or.inr (Or.inl rfl))), hr.1, by omega, ?_, ?_, ?_, ?_, by omega, fun _ => ⟨by omega, ?_⟩, ?_⟩
    · rw [gI_pI_eq, upd_ne (by omega), gI_pI_eq, upd_ne (by omega)]; exact t23
    · rw [gI_pI_eq, upd_ne (by omega)]; exact g15.trans m715
    · rw [gI_pI_eq, upd_ne (by omega)]; exact g12
    · rw [gI_pI_eq, upd_eq]
    · rw [gI_pI_eq, upd_ne (by omega), gI_pI_eq, upd_eq]
    · refine lk_word (s := pI (pI t2 52 4 (nI nt)) 52 5 (nI 1)) (s2 := s2) (st := st) (nt := nt) (hX2.x (by rw [gI_pI_ne (by omega), gI_pI_ne (by omega)]) (by rw [gI_pI_ne (by omega), gI_pI_ne (by omega)])) (by rw [gI_pI_eq, upd_eq]) (by rw [gI_pI_eq, upd_ne (by omega), gI_pI_eq, upd_eq]) (by rw [gI_pI_eq, upd_ne (by omega), gI_pI_eq, upd_ne (by omega)]; exact t23) (by omega) (by omega) hin rfl
  rw [wi_no (by omega) (by omega) (by omega) hlet, if_pos rfl, within_eq, bd_s]
  by_cases hfig : 48 ≤ T st ∧ T st ≤ 57
  · -- a number
    rw [wi_yes (by omega) (by omega) (by omega) hfig, if_neg n1_0, if_neg n1_0]
    obtain ⟨nt, hnt⟩ : ∃ nt, nt = rE T 48 57 (nl - (st + 1)) (st + 1) := ⟨_, rfl⟩
    have hle := rE_le (T := T) (lo := 48) (hi := 57) (nl - (st + 1)) (st + 1)
    have hr2 : FX7_runEnd 52 (nI st) (nI 48) (nI 57) t2 = some (nI nt) := by
      rw [run_x hX2 (by omega) (by omega) (by omega), show nl - st = (nl - (st + 1)) + 1 by omega, hnt]
      simp only [rE]
      rw [if_pos hfig]
    obtain ⟨m18, hm18⟩ : ∃ s, s = pI m7 78 14 (nI (T st) - nI 48) := ⟨_, rfl⟩
    have hN18 : NE s2 m18 := by rw [hm18]; exact hN7.tr (NE.p (Or.inr (Or.inl rfl)))
    obtain ⟨m24, e24, hN24, g15, g12, g14⟩ := figures_m (h.ne hN18) hlt hfig (by rw [hm18, gI_pI_eq, upd_ne (by omega)]; exact m712) (by rw [hm18, gI_pI_eq, upd_eq, nI_subn (by omega)]) (by rw [hm18, gI_pI_eq, upd_ne (by omega)]; exact m715)
    rw [← hnt] at g12 g14 hle
    have hin : ∀ k, st ≤ k → k < nt → 48 ≤ T k ∧ T k ≤ 57 := fun k k1 k2 => by
      by_cases hq : k = st
      · rw [hq]; exact hfig
      · exact rE_in (nl - (st + 1)) (st + 1) k (by omega) (by omega)
    obtain ⟨t11, ht11⟩ : ∃ s, s = pI t2 52 4 (nI nt) := ⟨_, rfl⟩
    have t113 : gI t11 52 3 = nI st := by rw [ht11, gI_pI_eq, upd_ne (by omega)]; exact t23
    have t114 : gI t11 52 4 = nI nt := by rw [ht11, gI_pI_eq, upd_eq]
    rw [bd_of hr2, ← hm18, bd_of e24, ← ht11, t114, t113, nI_subn (show st ≤ nt by omega)]
    obtain ⟨so, hso, hso2⟩ : ∃ so, (if nI (nt - st) ≤ nI 2 then some (nI 2) else some (nI 4)) = some (nI so) ∧ ((so = 2 ∧ nt - st ≤ 2) ∨ (so = 4 ∧ 2 < nt - st)) := by
      by_cases hq : nt - st ≤ 2
      · exact ⟨2, if_pos ((nI_le_iff (by omega) (by omega)).mpr hq), Or.inl ⟨rfl, hq⟩⟩
      · exact ⟨4, if_neg (fun hz => hq (le_of_nI hz (by omega) (by omega))), Or.inr ⟨rfl, by omega⟩⟩
    rw [hso, bd_s]
    obtain ⟨t13, ht13⟩ : ∃ s, s = pI t11 52 5 (nI so) := ⟨_, rfl⟩
    have t133 : gI t13 52 3 = nI st := by rw [ht13, gI_pI_eq, upd_ne (by omega)]; exact t113
    have t134 : gI t13 52 4 = nI nt := by rw [ht13, gI_pI_eq, upd_ne (by omega)]; exact t114
    have t135 : gI t13 52 5 = nI so := by rw [ht13, gI_pI_eq, upd_eq]
    have hX13 : TX t13 m4 T nl := (h.ne hN4).x (by rw [ht13, ht11, gI_pI_ne (by omega), gI_pI_ne (by omega), ht2, gI_pI_ne (by omega)]) (by rw [ht13, ht11, gI_pI_ne (by omega), gI_pI_ne (by omega), ht2, gI_pI_ne (by omega)])
    rw [← ht13, t134, t133, nI_subn (show st ≤ nt by omega)]
    obtain ⟨va, hva, hva2⟩ : ∃ va, (if nI (nt - st) = nI 2 then bd (FX10_at 46 (nI st + nI 1) t13) (fun (r14 : Int32) => some (((((nI 10) * (nI (T st) - (nI 48))) + r14) - (nI 48)))) else some (nI (T st) - nI 48)) = some va ∧ VF T st nt va := by
      by_cases hq : nt - st = 2
      · have g1 := hin (st + 1) (by omega) (by omega)
        rw [if_pos (by rw [hq]), nI_addn, bd_of (tat_in hX13 (by omega)), nI_subn (by omega), nI_muln, nI_addn, nI_subn (by omega)]
        refine ⟨_, rfl, fun _ => ?_⟩
        unfold fv
        rw [if_neg (by omega), if_pos (by omega), Nat.add_sub_assoc (by omega)]
        exact ⟨rfl, _, by omega, rfl⟩
      · rw [if_neg (fun hz => hq ((nI_eqn (by omega) (by omega)).mp hz)), nI_subn (by omega)]
        refine ⟨_, rfl, fun hq2 => ?_⟩
        unfold fv
        rw [if_pos (by omega)]
        exact ⟨rfl, _, by omega, rfl⟩
    rw [hva, bd_s]
    have hfv : ¬ nt - st ≤ 2 → fv T st nt = nI 300 := fun hq => by unfold fv; rw [if_neg (by omega), if_neg (by omega)]
    refine ⟨_, _, st, nt, fv T st nt, rfl, rfl, ?_, hN18.tr hN24, hr.1, by omega, ?_, g15, g12, g14, by omega, fun _ => ⟨by omega, ?_⟩, ?_⟩
    · rw [ht13, ht11]; exact hE2.tr (eo_pI.tr (eo_pI.tr eo_pI))
    · rw [gI_pI_eq, upd_ne (by omega)]; exact t133
    · rw [gI_pI_eq, upd_ne (by omega)]; exact t134
    · refine lk_other (so := so) (by omega) (by rw [gI_pI_eq, upd_ne (by omega)]; exact t135) (by omega) ?_ ?_ (fun hq => ?_) (fun hq => Or.inr ⟨300, by omega, by omega, hfv (by omega)⟩)
      · refine ⟨fun hq => by omega, fun hq => ?_⟩
        by_cases hz : nt - st ≤ 2
        · obtain ⟨-, vv, v1, v2⟩ := hva2 hz
          have := (nI_eqn (by omega) (by omega)).mp (v2.symm.trans hq)
          omega
        · have := (nI_eqn (by omega) (by omega)).mp ((hfv hz).symm.trans hq)
          omega
      · refine ⟨fun hq => by omega, fun hq => ?_⟩
        by_cases hz : nt - st ≤ 2
        · obtain ⟨-, vv, v1, v2⟩ := hva2 hz
          exact absurd (v2.symm.trans hq) (m1_n (by omega))
        · exact absurd ((hfv hz).symm.trans hq) (m1_n (by omega))
      · obtain ⟨v0, v1⟩ := hva2 (by omega)
        exact ⟨by rw [gI_pI_eq, upd_eq]; exact v0, v1⟩
  · -- a sign, or nothing that can stand
    rw [wi_no (by omega) (by omega) (by omega) hfig, if_pos rfl, if_pos rfl, letter_eq, bd_s, wi_no (by omega) (by omega) (by omega) hlet, if_pos rfl]
    by_cases h59 : T st = 59
    · rw [h59, if_pos rfl, if_pos rfl, bd_s, bd_s]
      refine ⟨_, _, st, st + 1, nI 200, rfl, rfl, hE2.tr (eo_pI.tr eo_pI), hN7.tr (NE.p (Or.inr (Or.inl rfl))), hr.1, by omega, ?_, ?_, ?_, ?_, by omega, fun _ => ⟨by omega, ?_⟩, ?_⟩
      · rw [gI_pI_eq, upd_ne (by omega), gI_pI_eq, upd_ne (by omega)]; exact t23
      · rw [gI_pI_eq, upd_ne (by omega)]; exact m715
      · rw [gI_pI_eq, upd_ne (by omega)]; exact m712
      · rw [gI_pI_eq, upd_eq]
      · rw [gI_pI_eq, upd_ne (by omega), gI_pI_eq, upd_eq, nI_addn]
      · refine lk_other (so := 3) (by omega) (by rw [gI_pI_eq, upd_eq]) (by omega) ⟨fun _ => rfl, fun _ => rfl⟩ ⟨fun hq => absurd hq (by omega), fun hq => absurd hq (m1_n (by omega))⟩ (fun hq => absurd hq (by omega)) (fun _ => Or.inr ⟨200, by omega, by omega, rfl⟩)
    · have n59 : ¬ nI (T st) = nI 59 := fun hq => h59 ((nI_eqn (by omega) (by omega)).mp hq)
      rw [if_neg n59, if_neg n59, if_neg (m1_n (by omega)), bd_s, bd_s]
      refine ⟨_, _, st, st + 1, nI 300, rfl, rfl, hE2.tr (eo_pI.tr eo_pI), hN7.tr (NE.p (Or.inr (Or.inl rfl))), hr.1, by omega, ?_, ?_, ?_, ?_, by omega, fun _ => ⟨by omega, ?_⟩, ?_⟩
      · rw [gI_pI_eq, upd_ne (by omega), gI_pI_eq, upd_ne (by omega)]; exact t23
      · rw [gI_pI_eq, upd_ne (by omega)]; exact m715
      · rw [gI_pI_eq, upd_ne (by omega)]; exact m712
      · rw [gI_pI_eq, upd_eq]
      · rw [gI_pI_eq, upd_ne (by omega), gI_pI_eq, upd_eq, nI_addn]
      · refine lk_other (so := 4) (by omega) (by rw [gI_pI_eq, upd_eq]) (by omega) ⟨fun hq => absurd hq (by omega), fun hq => absurd hq (by decide +kernel)⟩ ⟨fun hq => absurd hq (by omega), fun hq => absurd hq (m1_n (by omega))⟩ (fun hq => absurd hq (by omega)) (fun _ => Or.inr ⟨300, by omega, by omega, rfl⟩)
end DI
