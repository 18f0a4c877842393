/-! ===== blows of an hour ===== -/
theorem isl4 {t : Nat} (h : kd t = 4) : t = 1 ∨ t = 16 ∨ t = 31 ∨ t = 53 :=
  kd_all (P := fun t => kd t = 4 → (t = 1 ∨ t = 16 ∨ t = 31 ∨ t = 53)) (by decide +kernel) (fun c h9 h => absurd (h9.symm.trans h) (by decide)) t h
def SA : Nat → Bool := fun _ => true
theorem br_cong {σ' : SS} {ct ca cb nn w0s sd : Nat} {S S' : Nat → Bool} {K C H : Nat → Nat} (hS : ∀ uu, uu < nn → S uu = S' uu) (h : BR σ' ct ca cb S K C H nn w0s sd) : BR σ' ct ca cb S' K C H nn w0s sd := by
  have hh : ∀ uu, uu < nn → S uu = S' uu ∧ (S uu = true → K uu = K uu ∧ C uu = C uu ∧ H uu = H uu) := fun uu hu => ⟨hS uu hu, fun _ => ⟨rfl, rfl, rfl⟩⟩
  refine ⟨fun vv hv hs => ?_, fun cc hc => ⟨?_, ?_⟩⟩
  · have hs2 : S vv = true := by rw [hS vv hv]; exact hs
    rw [h.1 vv hv hs2, bf_cong hv hs2 hh]
  · rw [(h.2 cc hc).1, bw_cong hh]
  · rw [(h.2 cc hc).2, bw_cong hh, bi_cong hh]
theorem tb127 {uu : Nat} (h : uu < 7) : Nat.testBit 127 uu = true := by
  have hz : uu = 0 ∨ uu = 1 ∨ uu = 2 ∨ uu = 3 ∨ uu = 4 ∨ uu = 5 ∨ uu = 6 := by omega
  rcases hz with rfl | rfl | rfl | rfl | rfl | rfl | rfl <;> decide +kernel
theorem tbAll {nn uu : Nat} (h : uu < nn) : Nat.testBit (2 ^ nn - 1) uu = true := by
  rw [Nat.testBit_two_pow_sub_one, decide_eq_true_iff]; exact h
theorem everyone_eq {σ : SS} {aa nn : Nat} (hl : ln aa = 378) (h : gI σ aa 16 = nI nn) (hn : nn ≤ 7) : FX12_everyone aa σ = some (nI (2 ^ nn - 1)) := by
  unfold FX12_everyone
  rw [hl, gd_n (by omega) (by omega), ix_n (by omega), h, shl_n (by omega), nI_subn (Nat.one_le_two_pow)]
theorem p2_lt {nn : Nat} (hn : nn ≤ 7) : 2 ^ nn ≤ 128 := by
  have : 2 ^ nn ≤ 2 ^ 7 := Nat.pow_le_pow_right (by omega) hn
  omega
theorem xor_n (aa bb : Nat) : nI aa ^^^ nI bb = nI (aa ^^^ bb) := by
  apply Int32.toBitVec_inj.mp
  show (BitVec.ofNat 32 aa) ^^^ (BitVec.ofNat 32 bb) = BitVec.ofNat 32 (aa ^^^ bb)
  rw [BitVec.ofNat_xor]
theorem floorMod_eq {hh : Nat} (h : hh < 2147483648) (σ : SS) : FJ9_floorMod_7cf53 (nI hh) (nI 8) σ = some (nI (hh % 8)) := by
  unfold FJ9_floorMod_7cf53
  rw [pk_rem h (by omega) (by omega)]
  have h1 : (0 : Int32) ≤ (nI hh ^^^ nI 8) := by
    rw [xor_n]
    have : hh ^^^ 8 < 2 ^ 31 := Nat.xor_lt_two_pow (by omega) (by omega)
    exact nI_pos' (by omega)
  rw [gd_of (by decide +kernel), nm_eq, if_pos h1]
theorem xr_of {t : Nat} {σ : SS} {ρ : Nat → Int32} {nu ns nr nn nk np hr : Nat} {K C H : Nat → Nat} (ht : kd t = 4) (hT : TCw t σ) (hI : IR t σ ρ nu ns nr nn nk np hr) (hK : ∀ uu, uu < nu → ρ (17 + 4 * uu) = nI (K uu) ∧ ρ (18 + 4 * uu) = nI (C uu) ∧ ρ (19 + 4 * uu) = nI (H uu)) : XR σ (t + 3) nu K C H := by
  have h4 := isl4 ht
  refine ⟨ikd_3 ht, iln_4 ht, fun hq => ?_, fun hq => ?_, hT.1.1, hI.2.2.1.1, fun uu hu => ?_⟩
  · rcases hq with hq | hq | hq <;> omega
  · rcases hq with hq | hq | hq <;> omega
  · obtain ⟨g1, g2, g3⟩ := hK uu hu
    have hd := hI.2.2.2.1.2.1
    exact ⟨(hd uu 0 hu (by omega)).trans g1, (hd uu 1 hu (by omega)).trans (by rw [show 17 + 4 * uu + 1 = 18 + 4 * uu by omega]; exact g2), (hd uu 2 hu (by omega)).trans (by rw [show 17 + 4 * uu + 2 = 19 + 4 * uu by omega]; exact g3)⟩
theorem mr_of {σ : SS} {aa nu : Nat} {K C H : Nat → Nat} (ha : aa = 79 ∨ aa = 80) (h16 : gI σ aa 16 = nI nu) (hK : ∀ uu, uu < nu → gI σ aa (17 + 4 * uu) = nI (K uu) ∧ gI σ aa (18 + 4 * uu) = nI (C uu) ∧ gI σ aa (19 + 4 * uu) = nI (H uu)) : MR σ aa nu K C H := by
  refine ⟨?_, by omega, by omega, by omega, h16, hK⟩
  rcases ha with rfl | rfl
  · exact ln_79
  · exact ln_80
/-- the class, in an hour -/
theorem goIn_x {t : Nat} {σ : SS} {nn hh sx sd mm : Nat} {K C H : Nat → Nat} (ht : kd t = 4) (hU : UR nn K C H) (hX : XR σ (t + 3) nn K C H) (h1 : gI σ (t + 1) (hh % 8) = nI sx) (h2 : gI σ (t + 2) (hh % 8) = nI sd) (hsx : sx ≤ 20) (hsd : sd ≤ 1) (hm : mm < 2147483648) (hh2 : hh < 2147483648) :
    Ok (FX0_goInHour 48 t (nI hh) (nI mm) σ) (fun σ' => Eq0 Q3 σ σ' ∧ BR σ' 51 49 50 (fun uu => mm.testBit uu) K C H nn sx sd ∧ ∀ vv, vv < 7 → ¬ (vv < nn ∧ mm.testBit vv = true) → gI σ' 51 vv = nI 0) := by
  have h8 : hh % 8 < 8 := Nat.mod_lt _ (by omega)
  unfold FX0_goInHour
  refine ok_bdr (floorMod_eq hh2 σ) (ok_nm ?_)
  rw [il_0 ht, il_1 ht, il_2 ht, iln_1 ht, iln_2 ht]
  refine ok_gn h8 (by omega) (ok_gn h8 (by omega) ?_)
  rw [ix_n (by omega), h1, h2]
  exact ok_bd (blow_x hU hX hsx hsd hm) (fun σ' hq => ok_some hq)
/-- the model, in an hour -/
theorem blowOf_m {σ : SS} {aa nn hh sx sd mm : Nat} {K C H : Nat → Nat} (hU : UR nn K C H) (hR : MR σ aa nn K C H) (h1 : gI σ aa (2 * (hh % 8)) = nI sx) (h2 : gI σ aa (2 * (hh % 8) + 1) = nI sd) (hsx : sx ≤ 20) (hsd : sd ≤ 1) (hm : mm < 2147483648) (hh2 : hh < 2147483648) :
    Ok (FX12_blowOf 78 aa (nI hh) (nI mm) σ) (fun σ' => Eq0 P3 σ σ' ∧ BR σ' 84 85 86 (fun uu => mm.testBit uu) K C H nn sx sd) := by
  have h8 : hh % 8 < 8 := Nat.mod_lt _ (by omega)
  unfold FX12_blowOf
  rw [pk_rem hh2 (by omega) (by omega), nI_muln, nI_addn, hR.1]
  refine ok_gn (by omega) (by omega) (ok_gn (by omega) (by omega) ?_)
  rw [ix_n (by omega), ix_n (by omega), h1, h2]
  exact ok_bd (blow_m hU hR hsx hsd hm) (fun σ' hq => ok_some hq)
theorem takenBy_eq {σ : SS} {uu : Nat} (hu : uu < 7) : FX0_takenBy 48 (nI uu) σ = some (gI σ 51 uu) := by
  unfold FX0_takenBy
  simp only [lk_48_2, ln_51]
  have hwi : wi (nI uu) (nI 0) (nI 6) = nI 1 := by rw [wi_n (by omega) (by omega) (by omega), if_pos ⟨Nat.zero_le _, by omega⟩]
  rw [within_eq, bd_s, hwi, if_neg n1_0, gd_n hu (by omega), ix_n (by omega)]
/-- everyone, in an hour, on both sides: the same users take the same -/
def HB (ρ : Nat → Int32) (nn hh : Nat) (tkn ahd bhd : Nat → Nat) : Prop := ∃ (K C H : Nat → Nat) (sx sd : Nat), UR nn K C H ∧ (∀ uu, uu < nn → ρ (17 + 4 * uu) = nI (K uu) ∧ ρ (18 + 4 * uu) = nI (C uu) ∧ ρ (19 + 4 * uu) = nI (H uu)) ∧ sx ≤ 20 ∧ sd ≤ 1 ∧ ρ (2 * (hh % 8)) = nI sx ∧ ρ (2 * (hh % 8) + 1) = nI sd ∧ tkn = bf SA K C H nn sx sd ∧ (ahd = fun cc => bw SA K C H nn sx sd (bp sd cc)) ∧ bhd = fun cc => bi SA K C H cc nn (bw SA K C H nn sx sd (bp sd cc))
theorem hb_ex {ρ : Nat → Int32} {nu ns nr : Nat} (hV : VR ρ nu ns nr) (hh : Nat) : ∃ tkn ahd bhd, HB ρ nu hh tkn ahd bhd := by
  obtain ⟨v1, ⟨K, C, H, hU, hK⟩, -⟩ := hV
  obtain ⟨⟨sx, hsx, e1⟩, sd, hsd, e2⟩ := v1 (hh % 8) (Nat.mod_lt _ (by omega))
  exact ⟨_, _, _, K, C, H, sx, sd, hU, hK, hsx, hsd, e1, e2, rfl, rfl, rfl⟩
theorem hb_x {t : Nat} {σ : SS} {ρ : Nat → Int32} {nu ns nr nn nk np hr hh : Nat} {tkn ahd bhd : Nat → Nat} (ht : kd t = 4) (hT : TCw t σ) (hI : IR t σ ρ nu ns nr nn nk np hr) (hB : HB ρ nu hh tkn ahd bhd) (hh2 : hh < 2147483648) :
    Ok (FX0_goInHour 48 t (nI hh) (nI 127) σ) (fun σ' => Eq0 Q3 σ σ' ∧ (∀ vv, vv < nu → gI σ' 51 vv = nI (tkn vv)) ∧ ∀ cc, cc < 12 → gI σ' 49 cc = nI (ahd cc) ∧ gI σ' 50 cc = nI (bhd cc)) := by
  obtain ⟨K, C, H, sx, sd, hU, hK, hsx, hsd, e1, e2, rfl, rfl, rfl⟩ := hB
  have h8 : hh % 8 < 8 := Nat.mod_lt _ (by omega)
  have hd := hI.2.2.2.1.1 (hh % 8) h8
  have hu7 := hU.1
  refine ok_mono (goIn_x (mm := 127) ht hU (xr_of ht hT hI hK) (hd.1.trans e1) (hd.2.trans e2) hsx hsd (by omega) hh2) (fun σ' hq => ?_)
  obtain ⟨q1, q2, -⟩ := hq
  have q3 := br_cong (S' := SA) (fun uu hu => tb127 (by omega)) q2
  exact ⟨q1, fun vv hv => q3.1 vv hv rfl, q3.2⟩
theorem hb_m {σ : SS} {aa nu hh : Nat} {tkn ahd bhd : Nat → Nat} (ha : aa = 79 ∨ aa = 80) (h16 : gI σ aa 16 = nI nu) (hB : HB (gI σ aa) nu hh tkn ahd bhd) (hh2 : hh < 2147483648) :
    Ok (FX12_blowOf 78 aa (nI hh) (nI (2 ^ nu - 1)) σ) (fun σ' => Eq0 P3 σ σ' ∧ (∀ vv, vv < nu → gI σ' 84 vv = nI (tkn vv)) ∧ ∀ cc, cc < 12 → gI σ' 85 cc = nI (ahd cc) ∧ gI σ' 86 cc = nI (bhd cc)) := by
  obtain ⟨K, C, H, sx, sd, hU, hK, hsx, hsd, e1, e2, rfl, rfl, rfl⟩ := hB
  have hp := p2_lt hU.1
  refine ok_mono (blowOf_m (mm := 2 ^ nu - 1) hU (mr_of ha h16 hK) e1 e2 hsx hsd (by omega) hh2) (fun σ' hq => ?_)
  obtain ⟨q1, q2⟩ := hq
  have q3 := br_cong (S' := SA) (fun uu hu => tbAll hu) q2
  exact ⟨q1, fun vv hv => q3.1 vv hv rfl, q3.2⟩
theorem hb_le {ρ : Nat → Int32} {nu hh : Nat} {tkn ahd bhd : Nat → Nat} (hB : HB ρ nu hh tkn ahd bhd) {vv : Nat} (hv : vv < nu) : tkn vv ≤ 20 := by
  obtain ⟨K, C, H, sx, sd, hU, hK, hsx, hsd, e1, e2, rfl, rfl, rfl⟩ := hB
  exact bf_le hU hv hsx
/-- the relation stays when only what blows leave has changed -/
theorem rel_q {σx σm σx' σm' : SS} (R : Rel σx σm) (hx : Eq0 Q3 σx σx') (hm : Eq0 P3 σm σm') : Rel σx' σm' := by
  refine R.cong (fun c hc => hx.1 c (fun hq => ?_)) (hx.2 77 (fun hq => ?_)) (R.2.1.cong (fun c h1 => hx.1 c (fun hq => ?_)) (hx.1 69 (fun hq => ?_))) (fun c hc => hm.1 c (fun hq => ?_)) (hm.2 78 (fun hq => ?_))
  · rcases hq with hq | hq | hq <;> omega
  · rcases hq with hq | hq | hq <;> omega
  · rcases hq with hq | hq | hq <;> omega
  · rcases hq with hq | hq | hq <;> omega
  · rcases hq with hq | hq | hq <;> omega
  · rcases hq with hq | hq | hq <;> omega
