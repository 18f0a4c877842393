/-! ===== place ===== -/
def gu (F : Nat → Nat) (nu vv uu : Nat) : Nat := if uu = nu then vv else F uu
theorem gu_eq {F : Nat → Nat} {nu vv : Nat} : gu F nu vv nu = vv := if_pos rfl
theorem gu_ne {F : Nat → Nat} {nu vv uu : Nat} (h : uu ≠ nu) : gu F nu vv uu = F uu := if_neg h
theorem ur_gu {nu kk cc hh : Nat} {K C H : Nat → Nat} (hU : UR nu K C H) (h7 : nu < 7) (hk : kk ≤ 5) (hc : cc ≤ 11) (hh1 : 1 ≤ hh) (hh4 : hh ≤ 4) : UR (nu + 1) (gu K nu kk) (gu C nu cc) (gu H nu hh) := by
  refine ⟨by omega, fun uu hu => ?_⟩
  by_cases hq : uu = nu
  · subst hq
    rw [gu_eq, gu_eq, gu_eq]; exact ⟨hk, hc, hh1, hh4⟩
  · rw [gu_ne hq, gu_ne hq, gu_ne hq]; exact hU.2 uu (by omega)
def SB (nu : Nat) : Nat → Bool := fun uu => decide (uu < nu)
/-- the class's guests -/
def GV (s : SS) (nu kk hh : Nat) (K C H : Nat → Nat) : Prop := gI s 69 0 = nI 4 ∧ gI s 69 1 = nI 7 ∧ gI s 69 3 = nI (nu + 1) ∧ (∀ uu, uu < nu → gI s 70 (uu * 4 + 0) = nI (K uu) ∧ gI s 70 (uu * 4 + 1) = nI (C uu) ∧ gI s 70 (uu * 4 + 2) = nI (H uu)) ∧ gI s 70 (nu * 4 + 0) = nI kk ∧ gI s 70 (nu * 4 + 2) = nI hh
def Pf (c : Nat) : Prop := Q3 c ∨ c = 68 ∨ c = 69 ∨ c = 70
theorem rel_f {σx σm σx' σm' : SS} (R : Rel σx σm) (hx : Eq0 Pf σx σx') (h0 : gI σx' 69 0 = nI 4) (h1 : gI σx' 69 1 = nI 7) (hm : Eq0 P80 σm σm') : Rel σx' σm' := by
  have zx : ∀ c, c ≤ 47 ∨ (52 ≤ c ∧ c ≤ 67) ∨ c = 74 → gI σx' c = gI σx c := fun c hc => hx.1 c (fun hq => by rcases hq with (hq | hq | hq) | hq | hq | hq <;> omega)
  obtain ⟨⟨g1, g2, g3, g4⟩, -⟩ := R.2.1
  refine R.cong (fun c hc => zx c (by omega)) (hx.2 77 (fun hq => by rcases hq with (hq | hq | hq) | hq | hq | hq <;> omega)) ⟨⟨g1.cong (fun c _ _ => zx c (by omega)), g2.cong (fun c _ _ => zx c (by omega)), g3.cong (fun c _ _ => zx c (by omega)), g4.cong (fun c _ _ => zx c (by omega))⟩, h0, h1⟩ (fun c hc => hm.1 c (fun hq => ?_)) (hm.2 78 (fun hq => ?_))
  · rcases hq with hq | hq | hq | hq <;> omega
  · rcases hq with hq | hq | hq | hq <;> omega
theorem GV.kept {s s' : SS} {nu kk hh : Nat} {K C H : Nat → Nat} (h : GV s nu kk hh K C H) (e1 : gI s' 69 = gI s 69) (e2 : gI s' 70 = gI s 70) : GV s' nu kk hh K C H := by
  unfold GV at h ⊢
  rw [e1, e2]
  exact h
section DB
variable {σx σm : SS} {nu ns nr nn nk np hr : Nat} {K C H : Nat → Nat}
theorem guests_x {s3 : SS} {kk hh : Nat} (h4 : gI s3 4 3 = nI nu) (h7 : nu < 7) (hK : ∀ uu, uu < nu → gI s3 5 (uu * 4 + 0) = nI (K uu) ∧ gI s3 5 (uu * 4 + 1) = nI (C uu) ∧ gI s3 5 (uu * 4 + 2) = nI (H uu)) (h0 : gI s3 69 0 = nI 4) (h1 : gI s3 69 1 = nI 7) :
    ∃ s5 s7 s9 s10, FX9_copyFrom 69 4 s3 = some s5 ∧ FX9_open 69 s5 = some (nI nu, s7) ∧ FX9_put 69 (nI nu) (nI 0) (nI kk) s7 = some s9 ∧ FX9_put 69 (nI nu) (nI 2) (nI hh) s9 = some s10 ∧ Eq0 Pf s3 s10 ∧ GV s10 nu kk hh K C H := by
  have e28 : ln 70 = 28 := ln_70
  obtain ⟨s5, hs5⟩ : ∃ s, s = pI (pA s3 70 (fun k => if k < 28 then gI s3 5 k else gI s3 70 k)) 69 3 (gI s3 4 3) := ⟨_, rfl⟩
  have o0 : FX9_copyFrom 69 4 s3 = some s5 := by rw [hs5]; exact tcopy_eq kd_69 kd_4 ln_70 ln_5 (by omega) (by omega)
  have w0 : gI s5 69 0 = nI 4 := by rw [hs5]; simp (disch := omega) only [gI_pI_eq, gI_pA_ne, upd_ne]; exact h0
  have w1 : gI s5 69 1 = nI 7 := by rw [hs5]; simp (disch := omega) only [gI_pI_eq, gI_pA_ne, upd_ne]; exact h1
  have w3 : gI s5 69 3 = nI nu := by rw [hs5, gI_pI_eq, upd_eq]; exact h4
  have w70 : ∀ k, k < 28 → gI s5 70 k = gI s3 5 k := fun k hk => by rw [hs5, gI_pI_ne (by omega), gI_pA_eq]; exact if_pos hk
  obtain ⟨s7, hs7⟩ : ∃ s, s = pA (pI s5 69 3 (nI (nu + 1))) 70 (fun k => if nu * 4 ≤ k ∧ k < nu * 4 + 4 then nI 0 else gI s5 70 k) := ⟨_, rfl⟩
  have o1 : FX9_open 69 s5 = some (nI nu, s7) := by rw [hs7]; exact open_in kd_69 w0 w1 w3 ln_70 h7 (by omega) (by omega) (by omega) (by omega)
  have v0 : gI s7 69 0 = nI 4 := by rw [hs7, gI_pA_ne (by omega), gI_pI_eq, upd_ne (by omega)]; exact w0
  have v1 : gI s7 69 1 = nI 7 := by rw [hs7, gI_pA_ne (by omega), gI_pI_eq, upd_ne (by omega)]; exact w1
  have v3 : gI s7 69 3 = nI (nu + 1) := by rw [hs7, gI_pA_ne (by omega), gI_pI_eq, upd_eq]
  have v70 : ∀ k, k < nu * 4 → gI s7 70 k = gI s3 5 k := fun k hk => by
    rw [hs7, gI_pA_eq]
    show (if nu * 4 ≤ k ∧ k < nu * 4 + 4 then nI 0 else gI s5 70 k) = _
    rw [if_neg (by omega)]; exact w70 k (by omega)
  have p1 : FX9_put 69 (nI nu) (nI 0) (nI kk) s7 = some (pI s7 70 (nu * 4 + 0) (nI kk)) := put_in kd_69 v0 v3 e28 (by omega) (by omega) (by omega) (by omega) (by omega) (by omega)
  have p2 : FX9_put 69 (nI nu) (nI 2) (nI hh) (pI s7 70 (nu * 4 + 0) (nI kk)) = some (pI (pI s7 70 (nu * 4 + 0) (nI kk)) 70 (nu * 4 + 2) (nI hh)) := put_in kd_69 (by rw [gI_pI_ne (by omega)]; exact v0) (by rw [gI_pI_ne (by omega)]; exact v3) e28 (by omega) (by omega) (by omega) (by omega) (by omega) (by omega)
  refine ⟨s5, s7, _, _, o0, o1, p1, p2, ?_, ?_, ?_, ?_, fun uu hu => ?_, ?_, ?_⟩
  · have k70 : Pf 70 := Or.inr (Or.inr (Or.inr rfl))
    have k69 : Pf 69 := Or.inr (Or.inr (Or.inl rfl))
    rw [hs7, hs5]
    exact (Eq0.pA k70).tr ((Eq0.pI k69).tr ((Eq0.pI k69).tr ((Eq0.pA k70).tr ((Eq0.pI k70).tr (Eq0.pI k70)))))
  · rw [gI_pI_ne (by omega), gI_pI_ne (by omega)]; exact v0
  · rw [gI_pI_ne (by omega), gI_pI_ne (by omega)]; exact v1
  · rw [gI_pI_ne (by omega), gI_pI_ne (by omega)]; exact v3
  · simp (disch := omega) only [gI_pI_eq, upd_ne]
    rw [v70 _ (by omega), v70 _ (by omega), v70 _ (by omega)]
    exact hK uu hu
  · simp (disch := omega) only [gI_pI_eq, upd_ne, upd_eq]
  · simp (disch := omega) only [gI_pI_eq, upd_eq]
theorem guest_at {s : SS} {kk hh cc : Nat} (h : GV s nu kk hh K C H) (h7 : nu < 7) :
    ∃ s', FX9_put 69 (nI nu) (nI 1) (nI cc) s = some s' ∧ Eq0 Pf s s' ∧ GV s' nu kk hh K C H ∧ gI s' 68 = gI s 68 ∧ XR s' 69 (nu + 1) (gu K nu kk) (gu C nu cc) (gu H nu hh) := by
  obtain ⟨g1, g2, g3, g4, g5, g6⟩ := h
  have p1 : FX9_put 69 (nI nu) (nI 1) (nI cc) s = some (pI s 70 (nu * 4 + 1) (nI cc)) := put_in kd_69 g1 g3 ln_70 (by omega) (by omega) (by omega) (by omega) (by omega) (by omega)
  have z1 : ∀ k, k ≠ nu * 4 + 1 → gI (pI s 70 (nu * 4 + 1) (nI cc)) 70 k = gI s 70 k := fun k hk => by rw [gI_pI_eq, upd_ne hk]
  refine ⟨_, p1, Eq0.pI (Or.inr (Or.inr (Or.inr rfl))), ⟨?_, ?_, ?_, fun uu hu => ?_, ?_, ?_⟩, gI_pI_ne (by omega), ⟨kd_69, ln_70, fun hq => by rcases hq with hq | hq | hq <;> omega, fun hq => by rcases hq with hq | hq | hq <;> omega, ?_, ?_, fun uu hu => ?_⟩⟩
  · rw [gI_pI_ne (by omega)]; exact g1
  · rw [gI_pI_ne (by omega)]; exact g2
  · rw [gI_pI_ne (by omega)]; exact g3
  · rw [z1 _ (by omega), z1 _ (by omega), z1 _ (by omega)]; exact g4 uu hu
  · rw [z1 _ (by omega)]; exact g5
  · rw [z1 _ (by omega)]; exact g6
  · rw [gI_pI_ne (by omega)]; exact g1
  · rw [gI_pI_ne (by omega)]; exact g3
  · show gI (pI s 70 (nu * 4 + 1) (nI cc)) 70 (uu * 4 + 0) = _ ∧ gI (pI s 70 (nu * 4 + 1) (nI cc)) 70 (uu * 4 + 1) = _ ∧ gI (pI s 70 (nu * 4 + 1) (nI cc)) 70 (uu * 4 + 2) = _
    by_cases hq : uu = nu
    · subst hq
      rw [gu_eq, gu_eq, gu_eq, z1 (uu * 4 + 0) (by omega), z1 (uu * 4 + 2) (by omega), gI_pI_eq, upd_eq]
      exact ⟨g5, rfl, g6⟩
    · rw [gu_ne hq, gu_ne hq, gu_ne hq, z1 _ (by omega), z1 _ (by omega), z1 _ (by omega)]
      exact g4 uu (by omega)
theorem wh_ex {ρ : Nat → Int32} (hV : VR ρ nu ns nr) : ∃ wS wD, WH (fun hh => ρ (2 * hh)) (fun hh => ρ (2 * hh + 1)) wS wD := by
  refine ⟨fun hh => nat1 (ρ (2 * hh)), fun hh => nat1 (ρ (2 * hh + 1)), fun hh hl => ?_⟩
  obtain ⟨⟨sx, g1, g2⟩, sd, g3, g4⟩ := hV.1 hh hl
  dsimp only [nat1]
  rw [g2, g4, ix_n (by omega), ix_n (by omega)]
  exact ⟨⟨rfl, g1⟩, rfl, g3⟩
theorem fresh_at {s : SS} {kk hh cc : Nat} (h79 : gI s 79 = gI σm 79) (h16 : gI σm 79 16 = nI nu) (hK : ∀ uu, uu < nu → gI σm 79 (17 + 4 * uu) = nI (K uu) ∧ gI σm 79 (18 + 4 * uu) = nI (C uu) ∧ gI σm 79 (19 + 4 * uu) = nI (H uu)) (h7 : nu < 7) :
    Ok (FX12_layFresh 78 s) (fun s24 => Ok (FX12_comes 80 (nI kk) (nI cc) (nI hh) s24) (fun s25 => Eq0 P80 s s25 ∧ MR s25 80 (nu + 1) (gu K nu kk) (gu C nu cc) (gu H nu hh) ∧ ∀ k, k < 16 → gI s25 80 k = gI σm 79 k)) := by
  refine ok_mono (layFresh_m s) (fun s24 hq => ?_)
  obtain ⟨hE, hk⟩ := hq
  rw [h79] at hk
  refine ok_eq (come_m ln_80 (by rw [hk 16 (by omega)]; exact h16) h7) ⟨?_, ?_, fun k hk2 => ?_⟩
  · exact (hE.up (fun c hq => Or.inl hq)).tr (Eq0.tr (Eq0.pI (Or.inl rfl)) (Eq0.tr (Eq0.pI (Or.inl rfl)) (Eq0.tr (Eq0.pI (Or.inl rfl)) (Eq0.tr (Eq0.pI (Or.inl rfl)) (Eq0.pI (Or.inl rfl))))))
  · refine mr_of (Or.inr rfl) ?_ (fun uu hu => ?_)
    · rw [gI_pI_eq, upd_eq]
    · by_cases hq : uu = nu
      · subst hq
        rw [gu_eq, gu_eq, gu_eq]
        simp (disch := omega) only [gI_pI_eq, upd_ne, upd_eq]
        exact ⟨trivial, trivial, trivial⟩
      · rw [gu_ne hq, gu_ne hq, gu_ne hq]
        simp (disch := omega) only [gI_pI_eq, upd_ne]
        rw [hk _ (by omega), hk _ (by omega), hk _ (by omega)]
        exact hK uu (by omega)
  · simp (disch := omega) only [gI_pI_eq, upd_ne]
    exact hk k (by omega)
theorem imax_0 (x : Int32) : imax x (nI 0) = if 0 ≤ x then x else nI 0 := by
  unfold imax
  rw [nI_0]
  by_cases hq : x < 0
  · rw [if_pos hq, if_neg (Int32.not_le.mpr hq)]
  · rw [if_neg hq, if_pos (Int32.not_lt.mp hq)]
/-- the day's total with everyone there, told the same on both sides -/
theorem day_all_x {wS wD : Nat → Nat} {K C H : Nat → Nat} {n1 cn : Nat} (h1 : n1 ≤ 7) (hc : cn ≤ n1) : day (fun uu => Nat.testBit 127 uu) (fun uu => decide (uu < n1) && Nat.testBit 127 uu) K C H n1 wS wD cn 8 = day SA SA K C H n1 wS wD cn 8 :=
  day_cong (fun uu hu => ⟨by rw [tb127 (by omega), decide_eq_true (show uu < n1 by omega)]; rfl, fun _ => ⟨by omega, tb127 (by omega)⟩⟩) (fun uu hu => by rw [tb127 (by omega)]; rfl)
theorem day_all_m {wS wD : Nat → Nat} {K C H : Nat → Nat} {n1 : Nat} : day (fun uu => Nat.testBit (2 ^ n1 - 1) uu) (fun uu => Nat.testBit (2 ^ n1 - 1) uu) K C H n1 wS wD n1 8 = day SA SA K C H n1 wS wD n1 8 :=
  day_cong (fun uu hu => ⟨by rw [tbAll hu]; rfl, fun _ => ⟨hu, tbAll hu⟩⟩) (fun uu hu => by rw [tbAll hu]; rfl)
theorem day_all_g {wS wD : Nat → Nat} {K C H : Nat → Nat} {n1 : Nat} : day (fun uu => Nat.testBit (2 ^ (n1 + 1) - 1) uu) (fun uu => Nat.testBit (2 ^ n1 - 1) uu) K C H (n1 + 1) wS wD (n1 + 1) 8 = day SA SA K C H (n1 + 1) wS wD n1 8 := by
  rw [day_one (by rw [Nat.testBit_two_pow_sub_one]; exact decide_eq_false (Nat.lt_irrefl _))]
  exact day_cong (fun uu hu => ⟨by rw [tbAll hu]; rfl, fun _ => ⟨by omega, tbAll (by omega)⟩⟩) (fun uu hu => by rw [tbAll hu]; rfl)
theorem m1_n {ii : Nat} (h : ii < 1000) : ¬ nI ii = (-1 : Int32) := fun hq => nI_pos (n := ii) (by omega) (hq ▸ (by decide : (-1 : Int32) < 0))
theorem q_place (R : Rel σx σm) (a b c : Int32) : Cm (FX11_place 0 a b c σx) (FX12_place 78 a b c σm) := by
  obtain ⟨⟨nu, ns, nr, nn, nk, np, hr, hI, hbd⟩, hT, -⟩ := id R
  have hu7 := hI.1.1
  have d1 := hI.2.2.2.1.1
  obtain ⟨wS, wD, hw⟩ := wh_ex hI.2.2.2.2.1
  obtain ⟨-, ⟨-, u2z, u3z, u4z, K, C, H, u5z, u6z⟩, -⟩ := hI.parts
  unfold FX11_place FX12_place
  rw [l_N0, l_N1, l_5, l_4]
  simp only [lk_0_0, lk_0_8, lk_1_2, lk_78_0, lk_78_1, ln_79]
  refine cq_bdx (isKind_eq _ _) (cq_bdm (in_eq _ _ _ _) (cq_guard R (fun h1 => cq_bdx (isHeight_eq _ _) (cq_bdm (in_eq _ _ _ _) (cq_guard R (fun h2 => cq_bdx (within_eq _ _ _ _) (cq_bdm (in_eq _ _ _ _) (cq_guard R (fun h3 => ?_)))))))))
  obtain ⟨kk, -, hk5, rfl⟩ := wi_in (by omega) (by omega) h1
  obtain ⟨hh, hh1, hh4, rfl⟩ := wi_in (by omega) (by omega) h2
  refine cq_bdx (isFull_eq 4 σx hI.2.2.1.1 hT.1.1.1.2 (by omega) (by omega)) (cq_gm (inb_n (by omega) (by omega)) ?_)
  rw [ix_n (by omega), hI.2.1.1]
  by_cases hf : nu < 7
  rotate_left
  · have h7 : nu = 7 := by omega
    subst h7
    rw [if_neg hf, if_neg n1_0, if_pos rfl]
    exact cq_full R
  rw [if_pos hf, if_pos rfl, if_neg (fun hq => by have := (nI_eqn (by omega) (by omega)).mp hq; omega)]
  have hp := p2_lt hu7
  have hp1 := p2_lt (show nu + 1 ≤ 7 by omega)
  have hwx : ∀ s, Eq0 Pf σx s → WH (gI s 2) (gI s 3) wS wD := fun s hE hh hl => by
    obtain ⟨g1, g2⟩ := d1 hh hl
    rw [hE.1 2 (fun hq => by rcases hq with (hq | hq | hq) | hq | hq | hq <;> omega), hE.1 3 (fun hq => by rcases hq with (hq | hq | hq) | hq | hq | hq <;> omega)]
    rw [show gI σx 2 hh = gI σm 79 (2 * hh) from g1, show gI σx 3 hh = gI σm 79 (2 * hh + 1) from g2]
    exact hw hh hl
  obtain ⟨⟨r2, s3⟩, e3, hq3, hE3⟩ := day_x (σ := σx) (tb := 4) (nn := nu) (mm := 127) (cn := nu) u5z (xr_of kd_1 hT.1.1 hI u6z) (hwx σx Eq0.rf) (by omega) hu7
  dsimp only at hq3 hE3
  rw [day_all_x hu7 (Nat.le_refl _)] at hq3
  subst hq3
  have z3 : ∀ c, ¬ Q3 c → gI s3 c = gI σx c := hE3.1
  obtain ⟨s5, s7, s9, s10, o0, o1, p1, p2, hE10, hG10⟩ := guests_x (s3 := s3) (kk := kk) (hh := hh) (K := K) (C := C) (H := H) (by rw [z3 4 (fun hq => by rcases hq with hq | hq | hq <;> omega)]; exact u3z) hf (fun uu hu => by
    rw [z3 5 (fun hq => by rcases hq with hq | hq | hq <;> omega)]
    obtain ⟨g1, g2, g3⟩ := u6z uu hu
    exact ⟨(u4z uu 0 hu (by omega)).trans g1, (u4z uu 1 hu (by omega)).trans (by rw [show 17 + 4 * uu + 1 = 18 + 4 * uu by omega]; exact g2), (u4z uu 2 hu (by omega)).trans (by rw [show 17 + 4 * uu + 2 = 19 + 4 * uu by omega]; exact g3)⟩) (by rw [z3 69 (fun hq => by rcases hq with hq | hq | hq <;> omega)]; exact hT.2.1) (by rw [z3 69 (fun hq => by rcases hq with hq | hq | hq <;> omega)]; exact hT.2.2)
  obtain ⟨⟨r14, s15⟩, e15, hq15, hE15⟩ := day_m (σ := σm) (aa := 79) (nn := nu) (mm := 2 ^ nu - 1) (cm := 2 ^ nu - 1) (wS := wS) (wD := wD) (Or.inl rfl) u5z (mr_of (Or.inl rfl) u2z u6z) hw (by omega) (by omega) (fun _ _ hq => hq)
  dsimp only at hq15 hE15
  rw [day_all_m] at hq15
  subst hq15
  unfold FX2_findPlace
  simp only [nm_eq, lk_1_2, lk_68_1]
  rw [u3z, bd2_of e3, bd_of o0, bd2_of o1, bd_of p1, bd_of p2, bd_bd]
  refine cq_bdm (everyone_eq ln_79 u2z hu7) (cq_bd2m e15 (cq_tw (tw_bd (tw_lp (P := fun s1 x2 => gI s1 68 3 = x2.1 ∧ gI s1 68 4 = x2.2.1 ∧ gI s1 69 0 = nI 4 ∧ gI s1 69 1 = nI 7 ∧ Eq0 Pf σx s1 ∧ Eq0 P80 σm x2.2.2) (fun ii x1 x2 => ∃ s1 s2 bb ll, x1 = (nI ii, s1) ∧ x2 = (bb, ll, nI ii, s2) ∧ Eq0 Pf σx s1 ∧ Eq0 P80 σm s2 ∧ GV s1 nu kk hh K C H ∧ ((ii = 0 ∧ bb = (-1 : Int32) ∧ ll = nI 0) ∨ (0 < ii ∧ ¬ bb = (-1 : Int32) ∧ gI s1 68 3 = bb ∧ gI s1 68 4 = ll))) 12 (by omega) ⟨s10, s15, _, _, rfl, rfl, (hE3.up (fun c hq => Or.inl hq)).tr hE10, hE15.up (fun c hq => Or.inr hq), hG10, Or.inl ⟨rfl, rfl, rfl⟩⟩ ?_) ?_)))
  · rintro ii x1 x2 hi ⟨s1, s2, bb, ll, rfl, rfl, hE1, hE2, hG1, hcs⟩
    rw [u2_s, u4_s]
    refine tw_ite Iff.rfl (fun hc => tw_some (s2_r ?_)) (fun hc => ?_)
    · have hii : ii = 12 := by have := le_of_nI hc (by omega) (by omega); omega
      subst hii
      rcases hcs with hcs | hcs
      · omega
      · exact ⟨hcs.2.2.1, hcs.2.2.2, hG1.1, hG1.2.1, hE1, hE2⟩
    have hi2 := lt_of_nle hc (by omega) (by omega)
    obtain ⟨s14, q1, hE14, hG14, h68, hX14⟩ := guest_at (cc := ii) hG1 hf
    have hU2 := ur_gu (cc := ii) u5z hf hk5 (by omega) hh1 hh4
    obtain ⟨⟨r15, s16⟩, e16, hq16, hE16⟩ := day_x (σ := s14) (tb := 69) (nn := nu + 1) (mm := 127) (cn := nu) hU2 hX14 (hwx s14 (hE1.tr hE14)) (by omega) hu7
    dsimp only at hq16 hE16
    rw [day_all_x (by omega) (by omega)] at hq16
    have a79 : gI s2 79 = gI σm 79 := hE2.1 79 (fun hq => by rcases hq with hq | hq | hq | hq <;> omega)
    obtain ⟨s24, e24, s25, e25, hE25, hM25, hk25⟩ := fresh_at (s := s2) (kk := kk) (hh := hh) (cc := ii) a79 u2z u6z hf
    obtain ⟨⟨r27, s28⟩, e28, hq28, hE28⟩ := day_m (σ := s25) (aa := 80) (nn := nu + 1) (mm := 2 ^ (nu + 1) - 1) (cm := 2 ^ nu - 1) (wS := wS) (wD := wD) (Or.inr rfl) hU2 hM25 (fun h0 hl => by
      dsimp only
      rw [hk25 _ (by omega), hk25 _ (by omega)]
      exact hw h0 hl) (by omega) (by omega) (fun uu hu _ => tbAll hu)
    dsimp only at hq28 hE28
    rw [day_all_g] at hq28
    subst hq16 hq28
    refine tw_bdx q1 (tw_bd2x e16 (tw_bdm e24 (tw_bdm e25 (tw_bdm (everyone_eq ln_80 hM25.2.2.2.2.1 (by omega)) (tw_bd2m e28 ?_)))))
    have zE1 : Eq0 Pf σx s16 := hE1.tr (hE14.tr (hE16.up (fun c hq => Or.inl hq)))
    have zE2 : Eq0 P80 σm s28 := hE2.tr (hE25.tr (hE28.up (fun c hq => Or.inr hq)))
    have zG : GV s16 nu kk hh K C H := hG14.kept (hE16.1 69 (fun hq => by rcases hq with hq | hq | hq <;> omega)) (hE16.1 70 (fun hq => by rcases hq with hq | hq | hq <;> omega))
    have z68 : gI s16 68 = gI s1 68 := (hE16.1 68 (fun hq => by rcases hq with hq | hq | hq <;> omega)).trans h68
    obtain ⟨DD, hDD⟩ : ∃ x, x = nI (day SA SA K C H nu wS wD nu 8) - nI (day SA SA (gu K nu kk) (gu C nu ii) (gu H nu hh) (nu + 1) wS wD nu 8) := ⟨_, rfl⟩
    rw [← hDD]
    refine tw_bdm (show (if 0 ≤ DD then some DD else some (nI 0)) = some (imax DD (nI 0)) by rw [imax_0]; split <;> rfl) ?_
    obtain ⟨LL, hLL⟩ : ∃ x, x = imax DD (nI 0) := ⟨_, rfl⟩
    rw [← hLL]
    have zP : Eq0 Pf σx (pI (pI s16 68 3 (nI ii)) 68 4 LL) := zE1.tr ((Eq0.pI (Or.inr (Or.inl rfl))).tr (Eq0.pI (Or.inr (Or.inl rfl))))
    have zGP : GV (pI (pI s16 68 3 (nI ii)) 68 4 LL) nu kk hh K C H := zG.kept (by rw [gI_pI_ne (by omega), gI_pI_ne (by omega)]) (by rw [gI_pI_ne (by omega), gI_pI_ne (by omega)])
    have z683 : gI (pI (pI s16 68 3 (nI ii)) 68 4 LL) 68 3 = nI ii := by simp (disch := omega) only [gI_pI_eq, upd_ne, upd_eq]
    have z684 : gI (pI (pI s16 68 3 (nI ii)) 68 4 LL) 68 4 = LL := by rw [gI_pI_eq, upd_eq]
    rcases hcs with ⟨rfl, rfl, rfl⟩ | ⟨hpos, hbb, b3, b4⟩
    · rw [if_pos nI_0, if_pos rfl]
      refine tw_bdx rfl (tw_bdm rfl ?_)
      rw [if_neg n1_0, if_neg n1_0]
      exact tw_bdm rfl (tw_bdm rfl (tw_some (s2_l ⟨hi2, _, s28, nI 0, LL, by rw [nI_addn], by rw [nI_addn], zP, zE2, zGP, Or.inr ⟨by omega, m1_n (by omega), z683, z684⟩⟩)))
    · rw [if_neg (fun hq => by have := (nI_eqn (by omega) (by omega)).mp (hq.trans zI); omega), if_neg hbb, z68, b4]
      by_cases hle : ll ≤ LL
      · rw [if_pos hle, if_pos hle]
        refine tw_bdx rfl (tw_bdm rfl ?_)
        rw [if_pos nI_0, if_pos nI_0]
        exact tw_bdm rfl (tw_bdm rfl (tw_some (s2_l ⟨hi2, s16, s28, bb, ll, by rw [nI_addn], by rw [nI_addn], zE1, zE2, zG, Or.inr ⟨by omega, hbb, by rw [z68]; exact b3, by rw [z68]; exact b4⟩⟩)))
      · rw [if_neg hle, if_neg hle]
        refine tw_bdx rfl (tw_bdm rfl ?_)
        rw [if_neg n1_0, if_neg n1_0]
        exact tw_bdm rfl (tw_bdm rfl (tw_some (s2_l ⟨hi2, _, s28, nI ii, LL, by rw [nI_addn], by rw [nI_addn], zP, zE2, zGP, Or.inr ⟨by omega, m1_n (by omega), z683, z684⟩⟩)))
  · rintro s1 ⟨x1, x2, x3⟩ ⟨g1, g2, g3, g4, g5, g6⟩
    dsimp only at g1 g2 g6
    rw [u3_s, bd_s]
    refine tw_ite Iff.rfl (fun hc => tw_some ⟨g1, rel_f R g5 g3 g4 g6⟩) (fun hc => tw_some ⟨g2, rel_f R g5 g3 g4 g6⟩)
end DB
