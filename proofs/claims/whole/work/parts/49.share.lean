/-! ===== share ===== -/
def fc : Nat → Nat
  | 0 => 1
  | nn + 1 => fc nn * (nn + 1)
def pc (ss : Nat) : Nat := sn (fun kk => ss / 2 ^ kk % 2) 7
theorem fc_dec : ∀ kk, kk < 8 → FX11_factorial (nI kk) ss0 = some (nI (fc kk)) ∧ fc kk ≤ 5040 ∧ 0 < fc kk := by decide +kernel
theorem fact_x {kk : Nat} (h : kk < 8) (σ : SS) : FX11_factorial (nI kk) σ = some (nI (fc kk)) := (fc_dec kk h).1
theorem fc_le {kk : Nat} (h : kk < 8) : fc kk ≤ 5040 := (fc_dec kk h).2.1
theorem fc_pos {kk : Nat} (h : kk < 8) : 0 < fc kk := (fc_dec kk h).2.2
theorem pc_dec : ∀ ss, ss < 128 → FJ6_bitCount_0f7a4 (nI ss) ss0 = some (nI (pc ss)) := by decide +kernel
theorem pc_x {ss : Nat} (h : ss < 128) (σ : SS) : FJ6_bitCount_0f7a4 (nI ss) σ = some (nI (pc ss)) := pc_dec ss h
theorem pc_lt : ∀ nu, nu < 8 → ∀ uu, uu < nu → ∀ ss, ss < 2 ^ nu → ss.testBit uu = false → pc ss < nu := by decide +kernel
theorem or_dec : ∀ ss, ss < 128 → ∀ uu, uu < 7 → (ss.testBit uu = true → ss ||| 2 ^ uu = ss) ∧ (ss.testBit uu = false → ¬ (ss ||| 2 ^ uu) = ss) := by decide +kernel
theorem bits_m {ss : Nat} (h : ss < 128) (σ : SS) : FX12_bits (nI ss) σ = some (nI (pc ss)) := by
  unfold FX12_bits
  simp only [nm_eq]
  refine bd_of (lp_F (fun jj => (nI (sn (fun kk => ss / 2 ^ kk % 2) jj), nI jj)) 7 (fuel_of (by omega)) rfl (fun jj hj => ?_) ?_) _
  · rw [u2_s, if_neg (fun hq => by have := le_of_nI hq (by omega) (by omega); omega), bit_n (by omega) (by omega), nI_addn, nI_addn]
    rfl
  · rw [u2_s, if_pos ((nI_le_iff (by omega) (by omega)).mpr (Nat.le_refl _))]
    rfl
theorem orders_m {kk : Nat} (h : kk < 8) (σ : SS) : FX12_orders (nI kk) σ = some (lN (fc kk)) := by
  unfold FX12_orders
  simp only [nm_eq]
  have e1 : fc (kk - 1 + 1) = fc kk := by
    by_cases hz : kk = 0
    · subst hz; rfl
    · rw [show kk - 1 + 1 = kk by omega]
  rw [← e1]
  refine bd_of (lp_F (fun jj => (lN (fc (jj + 1)), nI (jj + 2))) (kk - 1) (fuel_of (by omega)) rfl (fun jj hj => ?_) ?_) _
  · rw [u2_s, if_neg (fun hq => by have := (nI_ltn (by omega) (by omega)).mp hq; omega), nI_toL (by omega), lN_mul, nI_addn]
    rfl
  · rw [u2_s, if_pos ((nI_ltn (by omega) (by omega)).mpr (by omega))]
theorem lN_int (nn : Nat) : lN nn = Int64.ofInt (nn : Int) := Int64.ofInt_eq_ofNat.symm
theorem dif_int {aa bb : Nat} (ha : aa ≤ 1000000) (hb : bb ≤ 1000000) : (nI aa - nI bb).toInt64 = Int64.ofInt ((aa : Int) - (bb : Int)) := by
  apply Int64.toInt_inj.mp
  have e1 := nI_toInt (n := aa) (by omega)
  have e2 := nI_toInt (n := bb) (by omega)
  rw [Int32.toInt_toInt64, i32_sub (by omega) (by omega), e1, e2, Int64.toInt_ofInt_of_le (by omega) (by omega)]
theorem bd_ite {α τ : Type} {c : Prop} [Decidable c] (x y : Option α) (k : α → Option τ) : bd (if c then x else y) k = if c then bd x k else bd y k := by split <;> rfl
section DC
variable {σx σm : SS}
def P71 (c : Nat) : Prop := Q3 c ∨ c = 71
def TT (K C H wS wD : Nat → Nat) (nu kk : Nat) : Nat := day (fun uu => kk.testBit uu) (fun uu => kk.testBit uu) K C H nu wS wD nu 8
theorem day_set_x {wS wD : Nat → Nat} {K C H : Nat → Nat} {nu mm : Nat} : day (fun uu => mm.testBit uu) (fun uu => decide (uu < nu) && mm.testBit uu) K C H nu wS wD nu 8 = TT K C H wS wD nu mm :=
  day_cong (fun uu hu => ⟨by rw [decide_eq_true hu]; rfl, fun hq => ⟨hu, by rw [Bool.and_eq_true] at hq; exact hq.2⟩⟩) (fun uu hu => rfl)
theorem totals_x {nu : Nat} {K C H wS wD : Nat → Nat} (hU : UR nu K C H) (hX : XR σx 4 nu K C H) (hw : WH (gI σx 2) (gI σx 3) wS wD) :
    Ok (lp FUEL (u2 (fun (n4 : Int32) (s5 : SS) => if nI (2 ^ nu) ≤ n4 then some (Sum.inr s5) else (bd2 (FX2_takenInDay 68 1 4 n4 (nI nu) s5) (fun (r6 : Int32) (s7 : SS) => gd (inb n4 128) (some (Sum.inl (n4 + (nI 1), pI s7 71 (Int32.toNatClampNeg n4) r6))))))) (nI 0, σx))
      (fun s => Eq0 P71 σx s ∧ ∀ k, k < 2 ^ nu → gI s 71 k = nI (TT K C H wS wD nu k)) := by
  have hu7 := hU.1
  have hp := p2_lt hu7
  refine ok_lp (fun ii xx => ∃ s, xx = (nI ii, s) ∧ Eq0 P71 σx s ∧ ∀ k, k < ii → gI s 71 k = nI (TT K C H wS wD nu k)) (2 ^ nu) (by omega) ⟨σx, rfl, Eq0.rf, fun _ hq => absurd hq (Nat.not_lt_zero _)⟩ ?_
  rintro ii xx hi ⟨s, rfl, hE, hk⟩
  rw [u2_s]
  refine ok_ite (fun hc => ok_some ?_) (fun hc => ?_)
  · have hii : ii = 2 ^ nu := by have := le_of_nI hc (by omega) (by omega); omega
    subst hii
    exact ⟨hE, hk⟩
  have hi2 := lt_of_nle hc (by omega) (by omega)
  have zs : ∀ c, c ≤ 47 → gI s c = gI σx c := fun c hc => hE.1 c (fun hq => by rcases hq with (hq | hq | hq) | hq <;> omega)
  have hX1 : XR s 4 nu K C H := by
    obtain ⟨x1, x2, x3, x4, x5, x6, x7⟩ := hX
    exact ⟨x1, x2, x3, x4, by rw [zs 4 (by omega)]; exact x5, by rw [zs 4 (by omega)]; exact x6, fun uu hu => by rw [zs 5 (by omega)]; exact x7 uu hu⟩
  obtain ⟨⟨r6, s7⟩, e7, hq7, hE7⟩ := day_x (σ := s) (tb := 4) (nn := nu) (mm := ii) (cn := nu) (wS := wS) (wD := wD) hU hX1 (by rw [zs 2 (by omega), zs 3 (by omega)]; exact hw) (by omega) hu7
  dsimp only at hq7 hE7
  rw [day_set_x] at hq7
  subst hq7
  refine ok_bd2r e7 (ok_gn (by omega) (by omega) (ok_some ⟨hi2, _, by rw [nI_addn], hE.tr ((hE7.up (fun c hq => Or.inl hq)).tr (Eq0.pI (Or.inr rfl))), fun k hk2 => ?_⟩))
  rw [ix_n (by omega), gI_pI_eq, upd_ap]
  by_cases hq : k = ii
  · rw [if_pos hq, hq]
  · rw [if_neg hq, hE7.1 71 (fun hz => by rcases hz with hz | hz | hz <;> omega)]
    exact hk k (by omega)
theorem rel_71 {σx' σm' : SS} (R : Rel σx σm) (hx : Eq0 P71 σx σx') (hm : Eq0 P3 σm σm') : Rel σx' σm' := by
  refine R.cong (fun c hc => hx.1 c (fun hq => ?_)) (hx.2 77 (fun hq => ?_)) (R.2.1.cong (fun c h1 => hx.1 c (fun hq => ?_)) (hx.1 69 (fun hq => ?_))) (fun c hc => hm.1 c (fun hq => ?_)) (hm.2 78 (fun hq => ?_))
  · rcases hq with (hq | hq | hq) | hq <;> omega
  · rcases hq with (hq | hq | hq) | hq <;> omega
  · rcases hq with (hq | hq | hq) | hq <;> omega
  · rcases hq with (hq | hq | hq) | hq <;> omega
  · rcases hq with hq | hq | hq <;> omega
  · rcases hq with hq | hq | hq <;> omega
theorem mul_bd {F : Nat} {d : Int} (hF : F ≤ 25401600) (h1 : -1120 ≤ d) (h2 : d ≤ 1120) : -28449792000 ≤ (F : Int) * d ∧ (F : Int) * d ≤ 28449792000 := by
  have g1 := Int.mul_le_mul_of_nonneg_left h2 (Int.natCast_nonneg F)
  have g2 := Int.mul_le_mul_of_nonneg_left h1 (Int.natCast_nonneg F)
  constructor <;> omega
theorem q_share (R : Rel σx σm) (a : Int32) : Cm (FX11_share 0 a σx) (FX12_share 78 a σm) := by
  obtain ⟨⟨nu, ns, nr, nn, nk, np, hr, hI, hbd⟩, hT, -⟩ := id R
  have hu7 := hI.1.1
  have hp := p2_lt hu7
  have hp0 : 0 < 2 ^ nu := Nat.two_pow_pos nu
  have d1 := hI.2.2.2.1.1
  obtain ⟨wS, wD, hw⟩ := wh_ex hI.2.2.2.2.1
  obtain ⟨-, ⟨-, u2z, u3z, u4z, K, C, H, u5z, u6z⟩, -⟩ := hI.parts
  unfold FX11_share FX12_share
  simp only [lk_0_0, lk_0_8, lk_0_11, lk_1_2, lk_78_0, ln_79, nm_eq]
  refine cq_bdx (isUser_x a σx) (cq_bdm (isUser_m a σm) ?_)
  rw [hI.2.2.1.1, hI.2.1.1]
  refine cq_guard R (fun h1 => ?_)
  obtain ⟨uu, hu, rfl⟩ := wi_cnt (by omega) h1
  have hpu : 2 ^ uu < 2 ^ nu := Nat.pow_lt_pow_right (by omega) hu
  have hwx : WH (gI σx 2) (gI σx 3) wS wD := fun hh hl => by
    obtain ⟨g1, g2⟩ := d1 hh hl
    rw [show gI σx 2 hh = gI σm 79 (2 * hh) from g1, show gI σx 3 hh = gI σm 79 (2 * hh + 1) from g2]
    exact hw hh hl
  obtain ⟨s10, e10, hE10, hk10⟩ := totals_x u5z (xr_of kd_1 hT.1.1 hI u6z) hwx
  have hTT : ∀ kk, TT K C H wS wD nu kk ≤ 1120 := fun kk => by
    have h9 : TT K C H wS wD nu kk ≤ 20 * nu * 8 := day_le u5z (fun hh hl => (hw hh hl).1.2) (fun uu hu _ => hu)
    omega
  have himin : imin (nI 1 <<< (nI nu &&& 31)) (nI 128) = nI (2 ^ nu) := by
    rw [shl_n (by omega)]
    unfold imin
    rw [if_neg (fun hq => by have := (nI_ltn (by omega) (by omega)).mp hq; omega)]
  unfold FX2_sumOverOrders
  simp only [nm_eq, lk_1_2, lk_68_2, ln_71]
  rw [u3z, himin, bd_of e10, bd2_bd]
  refine cq_bdm (everyone_eq ln_79 u2z hu7) (cq_tw (tw_bd (tw_lp (P := fun e1 x2 => ∃ (Z : Int) (s2 : SS), e1 = Int64.ofInt Z ∧ x2 = (Int64.ofInt Z, s2) ∧ Eq0 P3 σm s2 ∧ -3641573376000 ≤ Z ∧ Z ≤ 3641573376000) (fun ii x1 x2 => ∃ (Z : Int) (s2 : SS), x1 = (Int64.ofInt Z, nI ii) ∧ x2 = (Int64.ofInt Z, nI ii, s2) ∧ Eq0 P3 σm s2 ∧ -(28449792000 * (ii : Int)) ≤ Z ∧ Z ≤ 28449792000 * (ii : Int)) (2 ^ nu) (by omega) ⟨0, σm, rfl, rfl, Eq0.rf, by omega, by omega⟩ ?_) ?_))
  · rintro ii x1 x2 hi ⟨Z, s2, rfl, rfl, hE2, hZ1, hZ2⟩
    rw [u2_s, u3_s]
    have hiff : nI (2 ^ nu) ≤ nI ii ↔ nI (2 ^ nu - 1) < nI ii := by
      rw [nI_le_iff (by omega) (by omega), nI_ltn (by omega) (by omega)]
      omega
    refine tw_ite hiff (fun hc => tw_some (s2_r ⟨Z, s2, rfl, rfl, hE2, by omega, by omega⟩)) (fun hc => ?_)
    have hi2 := lt_of_nle hc (by omega) (by omega)
    obtain ⟨or1, or2⟩ := or_dec ii (by omega) uu (by omega)
    refine tw_bdm (has_n (by omega) (by omega) s2) ?_
    rw [shl_n (by omega), or_n]
    by_cases hb : ii.testBit uu = true
    · rw [or1 hb, if_pos rfl, if_pos hb, if_neg n1_0]
      exact tw_bdx rfl (tw_bdm rfl (tw_some (s2_l ⟨hi2, Z, s2, by rw [nI_addn], by show (Int64.ofInt Z, nI ii + nI 1, s2) = _; rw [nI_addn], hE2, by omega, by omega⟩)))
    have hb0 : ii.testBit uu = false := by simpa using hb
    have hpc := pc_lt nu (by omega) uu hu ii hi2 hb0
    have hwi : ii ||| 2 ^ uu < 2 ^ nu := Nat.or_lt_two_pow hi2 hpu
    have a79 : gI s2 79 = gI σm 79 := hE2.1 79 (fun hq => by rcases hq with hq | hq | hq <;> omega)
    obtain ⟨⟨r13, s14⟩, e14, hq14, hE14⟩ := day_m (σ := s2) (aa := 79) (nn := nu) (mm := ii ||| 2 ^ uu) (cm := ii ||| 2 ^ uu) (wS := wS) (wD := wD) (Or.inl rfl) u5z (mr_of (Or.inl rfl) (by rw [a79]; exact u2z) (fun vv hv => by rw [a79]; exact u6z vv hv)) (by rw [a79]; exact hw) (by omega) (by omega) (fun _ _ hq => hq)
    dsimp only at hq14 hE14
    have b79 : gI s14 79 = gI σm 79 := (hE14.1 79 (fun hq => by rcases hq with hq | hq | hq <;> omega)).trans a79
    obtain ⟨⟨r15, s16⟩, e16, hq16, hE16⟩ := day_m (σ := s14) (aa := 79) (nn := nu) (mm := ii) (cm := ii) (wS := wS) (wD := wD) (Or.inl rfl) u5z (mr_of (Or.inl rfl) (by rw [b79]; exact u2z) (fun vv hv => by rw [b79]; exact u6z vv hv)) (by rw [b79]; exact hw) (by omega) (by omega) (fun _ _ hq => hq)
    dsimp only at hq16 hE16
    have c79 : gI s16 79 = gI σm 79 := (hE16.1 79 (fun hq => by rcases hq with hq | hq | hq <;> omega)).trans b79
    subst hq14 hq16
    rw [if_neg (fun hq => or2 hb0 ((nI_eqn (by omega) (by omega)).mp hq)), if_neg (fun hq => by have := le_of_nI hq (by omega) (by omega); omega), bd_of (pc_x (by omega) s10), bd_of (fact_x (by omega) s10), nI_subn (by omega), nI_subn (by omega), bd_of (fact_x (by omega) s10), gd_n (by omega) (by omega), gd_n (by omega) (by omega), ix_n (by omega), ix_n (by omega), hk10 _ hwi, hk10 _ hi2]
    rw [if_neg hb, if_pos rfl, bd2_of e14, bd2_of e16, bd_of (bits_m (by omega) s16), bd_of (orders_m (by omega) s16), gd_n (by omega) (by omega), bd_of (bits_m (by omega) s16), ix_n (n := 16) (by omega), c79, u2z, nI_subn (a := nu) (b := 1) (by omega), nI_subn (a := nu - 1) (b := pc ii) (by omega), bd_of (orders_m (by omega) s16)]
    have hd1 := hTT (ii ||| 2 ^ uu)
    have hd2 := hTT ii
    have hF : fc (pc ii) * fc (nu - 1 - pc ii) ≤ 25401600 := by
      have := Nat.mul_le_mul (fc_le (kk := pc ii) (by omega)) (fc_le (kk := nu - 1 - pc ii) (by omega))
      omega
    have hm := mul_bd (d := (TT K C H wS wD nu (ii ||| 2 ^ uu) : Int) - (TT K C H wS wD nu ii : Int)) hF (by omega) (by omega)
    have f1 := fc_le (kk := pc ii) (by omega)
    have f2 := fc_le (kk := nu - 1 - pc ii) (by omega)
    have ex : Int64.ofInt Z + (Int32.toInt64 (nI (fc (pc ii))) * Int32.toInt64 (nI (fc (nu - 1 - pc ii)))) * Int32.toInt64 (nI (TT K C H wS wD nu (ii ||| 2 ^ uu)) - nI (TT K C H wS wD nu ii)) = Int64.ofInt (Z + ((fc (pc ii) * fc (nu - 1 - pc ii) : Nat) : Int) * ((TT K C H wS wD nu (ii ||| 2 ^ uu) : Int) - (TT K C H wS wD nu ii : Int))) := by
      rw [nI_toL (by omega), nI_toL (by omega), lN_mul, dif_int (by omega) (by omega), lN_int, ← Int64.ofInt_mul, ← Int64.ofInt_add]
    have em : Int64.ofInt Z + ((Int32.toInt64 (nI (TT K C H wS wD nu (ii ||| 2 ^ uu)) - nI (TT K C H wS wD nu ii))) * lN (fc (pc ii))) * lN (fc (nu - 1 - pc ii)) = Int64.ofInt (Z + ((fc (pc ii) * fc (nu - 1 - pc ii) : Nat) : Int) * ((TT K C H wS wD nu (ii ||| 2 ^ uu) : Int) - (TT K C H wS wD nu ii : Int))) := by
      rw [Int64.mul_assoc, lN_mul, Int64.mul_comm, dif_int (by omega) (by omega), lN_int, ← Int64.ofInt_mul, ← Int64.ofInt_add]
    refine tw_bdx (congrArg some ex) (tw_bdm rfl ?_)
    refine tw_some (s2_l ⟨hi2, _, s16, by rw [nI_addn], ?_, hE2.tr (hE14.tr hE16), ?_, ?_⟩)
    · show (Int64.ofInt Z + ((Int32.toInt64 (nI (TT K C H wS wD nu (ii ||| 2 ^ uu)) - nI (TT K C H wS wD nu ii))) * lN (fc (pc ii))) * lN (fc (nu - 1 - pc ii)), nI ii + nI 1, s16) = _
      rw [em, nI_addn]
    · obtain ⟨m1, m2⟩ := hm
      omega
    · obtain ⟨m1, m2⟩ := hm
      omega
  · rintro e1 x2 ⟨Z, s2, rfl, rfl, hE2, hZ1, hZ2⟩
    have a79 : gI s2 79 = gI σm 79 := hE2.1 79 (fun hq => by rcases hq with hq | hq | hq <;> omega)
    have a4 : gI s10 4 = gI σx 4 := hE10.1 4 (fun hq => by rcases hq with (hq | hq | hq) | hq <;> omega)
    have hZ : (Int64.ofInt Z).toInt = Z := Int64.toInt_ofInt_of_le (by omega) (by omega)
    obtain ⟨v1, v2, f1, f2⟩ := frac_both (aa := Int64.ofInt Z) (BB := fc nu) (by rw [hZ]; omega) (by rw [hZ]; omega) (fc_pos (by omega)) (fc_le (by omega)) s10 s2
    have hf := fc_le (kk := nu) (by omega)
    rw [u2_s, bd2_s, a4, u3z, bd_of (fact_x (by omega) s10), nI_toL (by omega), gd_n (by omega) (by omega), ix_n (n := 16) (by omega), a79, u2z, bd_of (orders_m (by omega) s2), bd_of f1, bd2_of f2]
    exact tw_some ⟨rfl, rel_frac (rel_71 R hE10 hE2) v1 v2⟩
end DC
