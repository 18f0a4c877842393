/-! ===== who stood there ===== -/
theorem and_n (aa bb : Nat) : nI aa &&& nI bb = nI (aa &&& bb) := by
  apply Int32.toBitVec_inj.mp
  show (BitVec.ofNat 32 aa) &&& (BitVec.ofNat 32 bb) = BitVec.ofNat 32 (aa &&& bb)
  rw [BitVec.ofNat_and]
theorem and_m1 (x : Int32) : (-1 : Int32) &&& x = x := by
  apply Int32.toBitVec_inj.mp
  show BitVec.ofInt 32 (-1) &&& x.toBitVec = x.toBitVec
  rw [show BitVec.ofInt 32 (-1) = BitVec.allOnes 32 by decide, BitVec.allOnes_and]
def nat1 (x : Int32) : Nat := Int32.toNatClampNeg x
def PE (c : Nat) : Prop := Q3 c ∨ c = 75
def bh (ρ : Nat → Int32) (K C H : Nat → Nat) (nu st vv : Nat) : Nat := bi (fun uu => st.testBit uu) K C H (nat1 (ρ (70 + 3 * vv))) nu (bw (fun uu => st.testBit uu) K C H nu (nat1 (ρ (2 * nat1 (ρ (69 + 3 * vv))))) (nat1 (ρ (2 * nat1 (ρ (69 + 3 * vv)) + 1))) (bp (nat1 (ρ (2 * nat1 (ρ (69 + 3 * vv)) + 1))) (nat1 (ρ (70 + 3 * vv)))))
def fR (ρ : Nat → Int32) (K C H : Nat → Nat) (nu st vv : Nat) : Bool := decide (nI (bh ρ K C H nu st vv) = ρ (71 + 3 * vv))
section D7
variable {σx σm : SS} {nu ns nr nn nk np hr : Nat} {K C H : Nat → Nat}
theorem ir_read {s : SS} {ρ : Nat → Int32} (hT : TCw 1 s) (hI : IR 1 s ρ nu ns nr nn nk np hr) {vv cc : Nat} (hv : vv < nr) (hc : cc < 3) : FX9_at 8 (nI vv) (nI cc) s = some (ρ (69 + 3 * vv + cc)) := by
  have h6 := hI.1.2.2.1
  have h0 : gI s 8 0 = nI 3 := hT.2.2.1.1
  have h3 : gI s 8 3 = nI nr := hI.2.2.1.2.2.1
  rw [at_in kd_8 h0 h3 ln_9 hv hc (by omega) (by omega) (by omega) (by omega)]
  exact congrArg some (hI.2.2.2.1.2.2.2.1 vv cc hv hc)
theorem left_eq {σ : SS} {cc : Nat} (hc : cc ≤ 11) : FX0_leftBehind 48 (nI cc) σ = some (gI σ 50 cc) := by
  unfold FX0_leftBehind
  simp only [lk_48_1, ln_50]
  have hwi : wi (nI cc) (nI 0) (nI 11) = nI 1 := by rw [wi_n (by omega) (by omega) (by omega), if_pos ⟨Nat.zero_le _, by omega⟩]
  rw [isCell_eq, bd_s, hwi, if_neg n1_0, gd_n (by omega) (by omega), ix_n (by omega)]
theorem fitsR_x {s : SS} {st : Nat} (hT : TCw 1 σx) (hI : IR 1 σx (gI σm 79) nu ns nr nn nk np hr) (hU : UR nu K C H) (hK : ∀ uu, uu < nu → gI σm 79 (17 + 4 * uu) = nI (K uu) ∧ gI σm 79 (18 + 4 * uu) = nI (C uu) ∧ gI σm 79 (19 + 4 * uu) = nI (H uu)) (hE : Eq0 PE σx s) (hst : st < 2147483648) :
    Ok (FX1_fitsReadings 75 1 (nI st) s) (fun yy => yy.1 = (if gq (fR (gI σm 79) K C H nu) st nr = true then nI 1 else nI 0) ∧ Eq0 Q3 s yy.2) := by
  have h4 := hI.1.2.2.1
  unfold FX1_fitsReadings
  simp only [nm_eq, lk_1_4, lk_75_0]
  have cE : ∀ {s' : SS}, Eq0 Q3 s s' → IR 1 s' (gI σm 79) nu ns nr nn nk np hr ∧ TCw 1 s' := fun hq => by
    have e2 : ∀ c, 1 ≤ c → c ≤ 1 + 14 → gI _ c = gI σx c := fun c c1 c2 => (hq.1 c (fun hz => by rcases hz with hz | hz | hz <;> omega)).trans (hE.1 c (fun hz => by rcases hz with (hz | hz | hz) | hz <;> omega))
    exact ⟨hI.cong e2 (fun _ _ => rfl), hT.cong e2⟩
  refine ok_bde (Q1 := fun s' => gq (fR (gI σm 79) K C H nu) st nr = true ∧ Eq0 Q3 s s') (ok_lp (fun mm xx => ∃ s', xx = (nI mm, s') ∧ gq (fR (gI σm 79) K C H nu) st mm = true ∧ Eq0 Q3 s s') nr (by omega) ⟨s, rfl, rfl, Eq0.rf⟩ ?_) (fun s' hq => ok_some ⟨by rw [if_pos hq.1], hq.2⟩)
  rintro mm xx hm ⟨s', rfl, hg, hE2⟩
  obtain ⟨hI2, hT2⟩ := cE hE2
  have c3 : gI s' 8 3 = nI nr := hI2.2.2.1.2.2.1
  rw [u2_s, c3]
  refine ok_ite (fun hc => ok_some ?_) (fun hc => ?_)
  · have := le_of_nI hc (by omega) (by omega)
    have hmm : mm = nr := by omega
    subst hmm
    exact ⟨hg, hE2⟩
  have hm2 := lt_of_nle hc (by omega) (by omega)
  obtain ⟨⟨hh, hh7, e1⟩, cc, hc11, e2⟩ := hI.2.2.2.2.1.2.2.2 mm hm2
  obtain ⟨⟨sx, hsx, e3⟩, sd, hsd, e4⟩ := hI.2.2.2.2.1.1 hh (by omega)
  have hd := hI2.2.2.2.1.1 hh (by omega)
  refine ok_bdr (ir_read hT2 hI2 hm2 (by omega)) ?_
  rw [show 69 + 3 * mm + 0 = 69 + 3 * mm from rfl, e1]
  have h8 : hh % 8 = hh := Nat.mod_eq_of_lt (by omega)
  refine ok_bd (goIn_x (hh := hh) (sx := sx) (sd := sd) (mm := st) kd_1 hU (xr_of kd_1 hT2 hI2 hK) (by rw [h8]; exact hd.1.trans e3) (by rw [h8]; exact hd.2.trans e4) hsx hsd hst (by omega)) (fun s5 hq5 => ?_)
  obtain ⟨hE5, hB5, -⟩ := hq5
  obtain ⟨hI5, hT5⟩ := cE (hE2.tr hE5)
  refine ok_bdr (ir_read hT5 hI5 hm2 (by omega)) ?_
  rw [show 69 + 3 * mm + 1 = 70 + 3 * mm by omega, e2]
  refine ok_bdr (left_eq hc11) (ok_bdr (ir_read hT5 hI5 hm2 (by omega)) ?_)
  rw [show 69 + 3 * mm + 2 = 71 + 3 * mm by omega, (hB5.2 cc (by omega)).2]
  have hbh : bi (fun uu => st.testBit uu) K C H cc nu (bw (fun uu => st.testBit uu) K C H nu sx sd (bp sd cc)) = bh (gI σm 79) K C H nu st mm := by
    unfold bh nat1
    rw [e1, e2, ix_n (n := hh) (by omega), ix_n (n := cc) (by omega), e3, e4, ix_n (n := sx) (by omega), ix_n (n := sd) (by omega)]
  rw [hbh]
  refine ok_ite (fun ht => ok_some ⟨hm2, s5, by rw [nI_addn], ?_, hE2.tr hE5⟩) (fun ht => ok_some ⟨?_, hE2.tr hE5⟩)
  · simp only [gq]
    have : fR (gI σm 79) K C H nu st mm = true := decide_eq_true ht
    rw [hg, this]
    rfl
  · have : fR (gI σm 79) K C H nu st mm = false := decide_eq_false ht
    show nI 0 = _
    rw [gq_no this nr hm2, if_neg (by decide)]
theorem isSo_m {s : SS} {st : Nat} (hI : IR 1 σx (gI σm 79) nu ns nr nn nk np hr) (hU : UR nu K C H) (hK : ∀ uu, uu < nu → gI σm 79 (17 + 4 * uu) = nI (K uu) ∧ gI σm 79 (18 + 4 * uu) = nI (C uu) ∧ gI σm 79 (19 + 4 * uu) = nI (H uu)) (hE : Eq0 P3 σm s) (hst : st < 2147483648) :
    Ok (FX12_isSo 78 (nI st) s) (fun yy => yy.1 = (if gq (fR (gI σm 79) K C H nu) st nr = true then nI 1 else nI 0) ∧ Eq0 P3 s yy.2) := by
  have h4 := hI.1.2.2.1
  unfold FX12_isSo
  simp only [nm_eq, lk_78_0, lk_78_9, ln_79, ln_86]
  have n79 : ¬ P3 79 := fun hz => by rcases hz with hz | hz | hz <;> omega
  refine ok_bd (ok_lp (fun mm xx => ∃ s', xx = ((if gq (fR (gI σm 79) K C H nu) st mm = true then nI 1 else nI 0), nI mm, s') ∧ Eq0 P3 s s') nr (by omega) (Q := fun yy => yy.1 = (if gq (fR (gI σm 79) K C H nu) st nr = true then nI 1 else nI 0) ∧ Eq0 P3 s yy.2) ⟨s, rfl, Eq0.rf⟩ ?_) ?_
  · rintro mm xx hm ⟨s', rfl, hE2⟩
    have c79 : gI s' 79 = gI σm 79 := (hE2.1 79 n79).trans (hE.1 79 n79)
    rw [u3_s, ix_n (n := 68) (by omega), c79, hI.2.1.2.2.1]
    refine ok_gn (by omega) (by omega) (ok_ite (fun hc => ok_some ?_) (fun hc => ?_))
    · have := le_of_nI hc (by omega) (by omega)
      have hmm : mm = nr := by omega
      subst hmm
      exact ⟨rfl, hE2⟩
    have hm2 := lt_of_nle hc (by omega) (by omega)
    obtain ⟨⟨hh, hh7, e1⟩, cc, hc11, e2⟩ := hI.2.2.2.2.1.2.2.2 mm hm2
    obtain ⟨⟨sx, hsx, e3⟩, sd, hsd, e4⟩ := hI.2.2.2.2.1.1 hh (by omega)
    have h8 : hh % 8 = hh := Nat.mod_eq_of_lt (by omega)
    rw [nI_muln, nI_addn 69, nI_addn _ 1, nI_addn _ 2, ix_n (by omega), ix_n (by omega), ix_n (by omega), e1, show 69 + 3 * mm + 1 = 70 + 3 * mm by omega, show 69 + 3 * mm + 2 = 71 + 3 * mm by omega]
    refine ok_gn (by omega) (by omega) (ok_bd (blowOf_m (hh := hh) (sx := sx) (sd := sd) (mm := st) hU (mr_of (Or.inl rfl) (by rw [c79]; exact hI.2.1.1) (by rw [c79]; exact hK)) (by rw [h8, c79]; exact e3) (by rw [h8, c79]; exact e4) hsx hsd hst (by omega)) (fun s7 hq7 => ?_))
    obtain ⟨hE7, hB7⟩ := hq7
    have c7 : gI s7 79 = gI σm 79 := (hE7.1 79 n79).trans c79
    have hbh : bi (fun uu => st.testBit uu) K C H cc nu (bw (fun uu => st.testBit uu) K C H nu sx sd (bp sd cc)) = bh (gI σm 79) K C H nu st mm := by
      unfold bh nat1
      rw [e1, e2, ix_n (n := hh) (by omega), ix_n (n := cc) (by omega), e3, e4, ix_n (n := sx) (by omega), ix_n (n := sd) (by omega)]
    rw [c7, e2, ix_n (by omega), (hB7.2 cc (by omega)).2, hbh]
    refine ok_bd (Q1 := fun jv => jv = if gq (fR (gI σm 79) K C H nu) st (mm + 1) = true then nI 1 else nI 0) ?_ (fun jv hjv => ok_some ⟨hm2, s7, by rw [hjv, nI_addn], hE2.tr hE7⟩)
    have hstep : gq (fR (gI σm 79) K C H nu) st (mm + 1) = (gq (fR (gI σm 79) K C H nu) st mm && fR (gI σm 79) K C H nu st mm) := rfl
    by_cases hg : gq (fR (gI σm 79) K C H nu) st mm = true
    · rw [if_pos hg, if_neg n1_0]
      refine ok_gn (by omega) (by omega) (ok_gn (by omega) (by omega) (ok_gn (by omega) (by omega) (ok_ite (fun ht => ok_some ?_) (fun ht => ok_some ?_))))
      · have e5 : gq (fR (gI σm 79) K C H nu) st (mm + 1) = true := by
          rw [hstep, hg, show fR (gI σm 79) K C H nu st mm = true from decide_eq_true ht]; rfl
        rw [if_pos e5]
      · have e5 : gq (fR (gI σm 79) K C H nu) st (mm + 1) = false := by
          rw [hstep, hg, show fR (gI σm 79) K C H nu st mm = false from decide_eq_false ht]; rfl
        rw [if_neg (by rw [e5]; decide)]
    · have e5 : gq (fR (gI σm 79) K C H nu) st (mm + 1) = false := by
        rw [hstep, Bool.eq_false_iff.mpr hg, Bool.false_and]
      rw [if_neg hg, if_pos nI_0, if_neg (by rw [e5]; decide)]
      exact ok_some rfl
  · rintro ⟨e1, s12⟩ ⟨g1, g2⟩
    dsimp only at g1 g2
    subst g1
    rw [u2_s]
    refine ok_gd ?_ (ok_some ⟨rfl, g2⟩)
    split
    · exact zb_1
    · exact zb_0
theorem q_stood (R : Rel σx σm) (a : Int32) : Cm (FX11_stood 0 a σx) (FX12_stood 78 a σm) := by
  obtain ⟨⟨nu, ns, nr, nn, nk, np, hr, hI, hbd⟩, hT, -⟩ := id R
  obtain ⟨-, ⟨hu7, -, -, -, K, C, H, hU, hK⟩, -⟩ := hI.parts
  have hp := p2_lt hu7
  unfold FX11_stood FX12_stood
  rw [l_N0, l_2]
  simp only [lk_0_0, lk_0_10, lk_78_0, nm_eq]
  refine cq_bdx (within_eq _ _ _ _) (cq_bdm (in_eq _ _ _ _) (cq_guard R (fun h1 => ?_)))
  obtain ⟨kk, -, hk, rfl⟩ := wi_in (by omega) (by omega) h1
  refine cq_bdm (everyone_eq ln_79 hI.2.1.1 hu7) (cq_tw ?_)
  unfold FX1_findSets
  simp only [nm_eq, lk_1_2]
  rw [bd_bd]
  have n79 : ¬ P3 79 := fun hz => by rcases hz with hz | hz | hz <;> omega
  have h1p : 1 ≤ 2 ^ nu := Nat.one_le_two_pow
  refine tw_bd (P1 := fun s1 x2 => ∃ cn ia al so s2, x2 = (nI cn, nI al, nI so, s2) ∧ Eq0 PE σx s1 ∧ Eq0 P3 σm s2 ∧ (gI s1 75 2 = nI cn ∧ gI s1 75 3 = ia ∧ gI s1 75 4 = nI so) ∧ cn ≤ 1000 ∧ ((cn = 0 ∧ ia = -1) ∨ (0 < cn ∧ ia = nI al))) (tw_lp (fun st x1 x2 => ∃ cn ia al so s1 s2, x1 = (nI st, s1) ∧ x2 = (nI cn, nI al, nI so, nI st, s2) ∧ Eq0 PE σx s1 ∧ Eq0 P3 σm s2 ∧ (gI s1 75 2 = nI cn ∧ gI s1 75 3 = ia ∧ gI s1 75 4 = nI so) ∧ cn ≤ st ∧ al < 2 ^ nu ∧ ((cn = 0 ∧ ia = -1 ∧ al = 2 ^ nu - 1) ∨ (0 < cn ∧ ia = nI al))) (2 ^ nu) (by omega) ⟨0, -1, 2 ^ nu - 1, 0, _, σm, rfl, rfl, ?_, Eq0.rf, ⟨?_, ?_, ?_⟩, by omega, by omega, Or.inl ⟨rfl, rfl, rfl⟩⟩ ?_) ?_
  · exact (Eq0.pI (Or.inr rfl)).tr ((Eq0.pI (Or.inr rfl)).tr (Eq0.pI (Or.inr rfl)))
  · simp (disch := omega) only [gI_pI_eq, upd_ne, upd_eq]
  · simp (disch := omega) only [gI_pI_eq, upd_ne, upd_eq]
  · simp (disch := omega) only [gI_pI_eq, upd_ne, upd_eq]
  · rintro st x1 x2 hs ⟨cn, ia, al, so, s1, s2, rfl, rfl, hE1, hE2, ⟨f2, f3, f4⟩, hcn, hal, hia⟩
    have c43 : gI s1 4 3 = nI nu := by
      rw [hE1.1 4 (fun hz => by rcases hz with (hz | hz | hz) | hz <;> omega)]; exact hI.2.2.1.1
    have m79 : gI s2 79 = gI σm 79 := hE2.1 79 n79
    rw [u2_s, u5_s, c43, shl_n (by omega), bd_of (everyone_eq ln_79 (by rw [m79]; exact hI.2.1.1) hu7)]
    refine tw_ite ?_ (fun hc => tw_some (s2_r ⟨cn, ia, al, so, s2, rfl, hE1, hE2, ⟨f2, f3, f4⟩, by omega, hia.imp (fun hz => ⟨hz.1, hz.2.1⟩) id⟩)) (fun hc => ?_)
    · rw [nI_le_iff (by omega) (by omega), nI_gt (by omega) (by omega)]; omega
    have hst2 := lt_of_nle hc (by omega) (by omega)
    obtain ⟨⟨y1, y2⟩, k1, k2, k3⟩ := fitsR_x hT.1.1 hI hU hK hE1 (st := st) (by omega)
    obtain ⟨⟨z1, z2⟩, l1, l2z, l3⟩ := isSo_m hI hU hK hE2 (st := st) (by omega)
    dsimp only at k2 k3 l2z l3
    rw [bd2_of k1, bd2_of l1, k2, l2z]
    have hE3 : Eq0 PE σx y2 := hE1.tr (k3.up (fun c hq => Or.inl hq))
    have hE4 : Eq0 P3 σm z2 := hE2.tr l3
    have c75 : gI y2 75 = gI s1 75 := k3.1 75 (fun hz => by rcases hz with hz | hz | hz <;> omega)
    by_cases hg : gq (fR (gI σm 79) K C H nu) st nr = true
    · rw [if_pos hg, if_neg n1_0, if_neg n1_0, bd_s, bd_s, u3_s]
      have e3x : gI (pI y2 75 2 (gI y2 75 2 + nI 1)) 75 3 = ia := by rw [gI_pI_eq, upd_ne (by omega), c75]; exact f3
      have e4x : gI (pI (pI y2 75 2 (gI y2 75 2 + nI 1)) 75 3 (ia &&& nI st)) 75 4 = nI so := by rw [gI_pI_eq, upd_ne (by omega), gI_pI_eq, upd_ne (by omega), c75]; exact f4
      rw [e3x, e4x, nI_addn, nI_addn, and_n, or_n]
      refine tw_some (s2_l ⟨hst2, cn + 1, ia &&& nI st, al &&& st, so ||| st, _, z2, rfl, rfl, ?_, hE4, ⟨?_, ?_, ?_⟩, by omega, Nat.and_lt_two_pow _ hst2, Or.inr ⟨by omega, ?_⟩⟩)
      · exact hE3.tr ((Eq0.pI (Or.inr rfl)).tr ((Eq0.pI (Or.inr rfl)).tr (Eq0.pI (Or.inr rfl))))
      · simp (disch := omega) only [gI_pI_eq, upd_ne, upd_eq]
        rw [c75, f2, nI_addn]
      · simp (disch := omega) only [gI_pI_eq, upd_ne, upd_eq]
      · simp (disch := omega) only [gI_pI_eq, upd_eq]
      · rcases hia with ⟨-, w1z, w2z⟩ | ⟨-, w1z⟩
        · rw [w1z, and_m1, w2z, Nat.and_comm, Nat.and_two_pow_sub_one_of_lt_two_pow hst2]
        · rw [w1z, and_n]
    · rw [if_neg hg, if_pos nI_0, if_pos nI_0, bd_s, bd_s, u3_s, nI_addn]
      exact tw_some (s2_l ⟨hst2, cn, ia, al, so, y2, z2, rfl, rfl, hE3, hE4, by rw [c75]; exact ⟨f2, f3, f4⟩, by omega, hal, hia⟩)
  · rintro s1 x2 ⟨cn, ia, al, so, s2, rfl, hE1, hE2, ⟨f2, f3, f4⟩, hcn, hia⟩
    rw [u4_s, bd_s]
    have R2 : Rel s1 s2 := by
      refine R.cong (fun c hc => hE1.1 c (fun hq => ?_)) (hE1.2 77 (fun hq => ?_)) (R.2.1.cong (fun c h1 => hE1.1 c (fun hq => ?_)) (hE1.1 69 (fun hq => ?_))) (fun c hc => hE2.1 c (fun hq => ?_)) (hE2.2 78 (fun hq => ?_))
      · rcases hq with (hq | hq | hq) | hq <;> omega
      · rcases hq with (hq | hq | hq) | hq <;> omega
      · rcases hq with (hq | hq | hq) | hq <;> omega
      · rcases hq with (hq | hq | hq) | hq <;> omega
      · rcases hq with hq | hq | hq <;> omega
      · rcases hq with hq | hq | hq <;> omega
    have hz : kk = 0 ∨ kk = 1 ∨ kk = 2 := by omega
    have n20 : ¬ nI 2 = (0 : Int32) := by decide +kernel
    have n21 : ¬ nI 2 = nI 1 := by decide +kernel
    have n12 : ¬ nI 1 = nI 2 := by decide +kernel
    rcases hz with rfl | rfl | rfl
    · rw [if_pos nI_0, if_pos nI_0]
      exact tw_some ⟨f2, R2⟩
    · rw [if_neg n1_0, if_neg n1_0, if_pos rfl, if_neg n12]
      rcases hia with ⟨w1z, w2z⟩ | ⟨w1z, w2z⟩
      · rw [w1z, if_pos nI_0]
        exact tw_some ⟨f3.trans w2z, R2⟩
      · rw [if_neg (fun hq => by have := (nI_eqn (a := cn) (b := 0) (by omega) (by omega)).mp (hq.trans zI); omega)]
        exact tw_some ⟨f3.trans w2z, R2⟩
    · rw [if_neg n20, if_neg n20, if_neg n21, if_pos rfl]
      exact tw_some ⟨f4, R2⟩
end D7
