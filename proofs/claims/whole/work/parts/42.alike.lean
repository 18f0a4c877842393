/-! ===== the largest group of like answers ===== -/
theorem bd_bd {α β τ : Type} (x : Option α) (k : α → Option β) (k2 : β → Option τ) : bd (bd x k) k2 = bd x (fun a => bd (k a) k2) := by cases x <;> rfl
theorem bd2_bd {α β γ τ : Type} (x : Option α) (k : α → Option (β × γ)) (k2 : β → γ → Option τ) : bd2 (bd x k) k2 = bd x (fun a => bd2 (k a) k2) := by cases x <;> rfl
def c6 (gg : Nat → Bool) : Nat → Nat
  | 0 => 0
  | bb + 1 => c6 gg bb + (if gg bb = true then 1 else 0)
theorem c6_le (gg : Nat → Bool) : ∀ bb, c6 gg bb ≤ bb
  | 0 => Nat.le_refl _
  | bb + 1 => by
    have hr := c6_le gg bb
    simp only [c6]
    split <;> omega
theorem c6_cong {gg hh : Nat → Bool} : ∀ {bb : Nat}, (∀ zz, zz < bb → gg zz = hh zz) → c6 gg bb = c6 hh bb
  | 0, _ => rfl
  | bb + 1, h => by
    simp only [c6]
    rw [c6_cong (bb := bb) (fun zz hz => h zz (by omega)), h bb (by omega)]
def m6 (cf : Nat → Nat) : Nat → Nat
  | 0 => 0
  | aa + 1 => max (m6 cf aa) (cf aa)
theorem m6_le {cf : Nat → Nat} (h : ∀ zz, cf zz ≤ 6) : ∀ aa, m6 cf aa ≤ 6
  | 0 => by simp only [m6]; omega
  | aa + 1 => by
    have hr := m6_le h aa
    have h2 := h aa
    simp only [m6]
    omega
/-- the largest of the groups -/
def mo (PP : Nat) (E : Nat → Nat → Bool) : Nat := m6 (fun aa => c6 (fun bb => PP.testBit aa && PP.testBit bb && E aa bb) 6) 6
theorem m6_cong {cf cg : Nat → Nat} : ∀ {aa : Nat}, (∀ zz, zz < aa → cf zz = cg zz) → m6 cf aa = m6 cg aa
  | 0, _ => rfl
  | aa + 1, h => by
    simp only [m6]
    rw [m6_cong (aa := aa) (fun zz hz => h zz (by omega)), h aa (by omega)]
theorem mo_cong {PP : Nat} {E E' : Nat → Nat → Bool} (h : ∀ ii jj, ii < 6 → jj < 6 → E ii jj = E' ii jj) : mo PP E = mo PP E' := m6_cong (fun aa ha => c6_cong (fun bb hb => by rw [h aa bb ha hb]))
theorem mo_le {PP : Nat} {E : Nat → Nat → Bool} : mo PP E ≤ 6 := m6_le (fun zz => c6_le _ 6) 6
theorem bit2 : ∀ PP, PP < 64 → ∀ ii, ii < 6 → ∀ jj, jj < 6 → (decide ((((nI PP >>> (nI ii &&& 31)) &&& (nI PP >>> (nI jj &&& 31))) &&& nI 1) = nI 1)) = (PP.testBit ii && PP.testBit jj) := by decide +kernel
theorem bz_lt : ∀ b0 b1 b2 b3 b4 b5 : Bool, Bz b0 b1 b2 b3 b4 b5 < 64 := by decide +kernel
theorem bs_lt (gg : Nat → Bool) : Bs gg < 64 := bz_lt _ _ _ _ _ _
theorem imax_n {aa bb : Nat} (ha : aa < 1000) (hb : bb < 1000) : imax (nI aa) (nI bb) = nI (max aa bb) := by
  unfold imax
  by_cases h : aa < bb
  · rw [if_pos ((nI_ltn (by omega) (by omega)).mpr h), Nat.max_eq_right (by omega)]
  · rw [if_neg (fun hq => h ((nI_ltn (by omega) (by omega)).mp hq)), Nat.max_eq_left (by omega)]
theorem alike_x {PP : Nat} {s : SS} {A : Nat → Int32} (hP : PP < 64) (hA : ∀ kk, kk < 6 → gI s 76 kk = A kk) : FX1_mostAlike 75 (nI PP) s = some (nI (mo PP (fun aa bb => decide (A aa = A bb)))) := by
  suffices hh : Ok (FX1_mostAlike 75 (nI PP) s) (fun rr => rr = nI (mo PP (fun aa bb => decide (A aa = A bb)))) by
    obtain ⟨rr, h1, h2⟩ := hh
    rw [h1, h2]
  unfold FX1_mostAlike
  simp only [nm_eq, lk_75_1, ln_76]
  refine ok_bd (ok_lp (fun aa xx => xx = (nI (m6 (fun aa => c6 (fun bb => PP.testBit aa && PP.testBit bb && decide (A aa = A bb)) 6) aa), nI aa)) 6 (by omega) (Q := fun rr => rr = nI (mo PP (fun aa bb => decide (A aa = A bb)))) rfl ?_) (fun rr hq => ok_some hq)
  rintro aa xx ha rfl
  rw [u2_s]
  refine ok_ite (fun hc => ok_some ?_) (fun hc => ?_)
  · have := le_of_nI hc (by omega) (by omega)
    have hkk : aa = 6 := by omega
    subst hkk
    rfl
  have ha2 := lt_of_nle hc (by omega) (by omega)
  refine ok_bd (ok_lp (fun bb xx => xx = (nI (c6 (fun bb => PP.testBit aa && PP.testBit bb && decide (A aa = A bb)) bb), nI bb)) 6 (by omega) (Q := fun rr => rr = nI (c6 (fun bb => PP.testBit aa && PP.testBit bb && decide (A aa = A bb)) 6)) rfl ?_) (fun rr hq => ok_some ⟨ha2, ?_⟩)
  · rintro bb xx hb rfl
    rw [u2_s]
    refine ok_ite (fun hc2 => ok_some ?_) (fun hc2 => ?_)
    · have := le_of_nI hc2 (by omega) (by omega)
      have hkk : bb = 6 := by omega
      subst hkk
      rfl
    have hb2 := lt_of_nle hc2 (by omega) (by omega)
    refine ok_bd (Q1 := fun jv => jv = nI (c6 (fun bb => PP.testBit aa && PP.testBit bb && decide (A aa = A bb)) (bb + 1))) ?_ (fun jv hjv => ok_some ⟨hb2, by rw [hjv, nI_addn]⟩)
    have hbt := bit2 PP hP aa ha2 bb hb2
    simp only [c6]
    refine ok_ite (fun hc3 => ?_) (fun hc3 => ok_some ?_)
    · rw [decide_eq_true hc3] at hbt
      have hg1 : (PP.testBit aa && PP.testBit bb && decide (A aa = A bb)) = decide (A aa = A bb) := by rw [← hbt, Bool.true_and]
      refine ok_gn (by omega) (by omega) (ok_gn (by omega) (by omega) ?_)
      rw [ix_n (by omega), ix_n (by omega), hA aa ha2, hA bb hb2]
      refine ok_ite (fun hc4 => ok_some ?_) (fun hc4 => ok_some ?_)
      · rw [if_pos (hg1.trans (decide_eq_true hc4)), nI_addn]
      · rw [if_neg (by rw [hg1, decide_eq_false hc4]; decide)]; rfl
    · rw [decide_eq_false hc3] at hbt
      have hg1 : (PP.testBit aa && PP.testBit bb && decide (A aa = A bb)) = false := by rw [← hbt, Bool.false_and]
      rw [if_neg (by rw [hg1]; decide)]
      rfl
  · subst hq
    have h1 : m6 (fun aa => c6 (fun bb => PP.testBit aa && PP.testBit bb && decide (A aa = A bb)) 6) aa ≤ 6 := m6_le (fun zz => c6_le _ 6) aa
    have h2 : c6 (fun bb => PP.testBit aa && PP.testBit bb && decide (A aa = A bb)) 6 ≤ 6 := c6_le _ 6
    rw [imax_n (by omega) (by omega), nI_addn]
    rfl
/-- the model's, its inner answer given -/
theorem alike_m {PP : Nat} {E : Nat → Nat → Bool} {inn : Int32 → Int32 → Option Int32} (hin : ∀ aa bb, aa < 6 → bb < 6 → inn (nI aa) (nI bb) = some (if (PP.testBit aa && PP.testBit bb && E aa bb) = true then nI 1 else nI 0)) :
    lp FUEL (u2 (fun (n16 : Int32) (n17 : Int32) => if (nI 6) ≤ n17 then (some (Sum.inr n16) : Option ((Int32 × Int32) ⊕ Int32)) else (bd (lp FUEL (u2 (fun (n20 : Int32) (n21 : Int32) => if (nI 6) ≤ n21 then (some (Sum.inr n20) : Option ((Int32 × Int32) ⊕ Int32)) else (bd (inn n17 n21) (fun (j29 : Int32) => some (Sum.inl (n20 + j29, n21 + (nI 1))))))) (nI 0, nI 0)) (fun (e32 : Int32) => bd (if e32 ≤ n16 then some (n16) else (some (e32))) (fun (j33 : Int32) => some (Sum.inl (j33, n17 + (nI 1)))))))) (nI 0, nI 0) = some (nI (mo PP E)) := by
  suffices hh : Ok (lp FUEL (u2 (fun (n16 : Int32) (n17 : Int32) => if (nI 6) ≤ n17 then (some (Sum.inr n16) : Option ((Int32 × Int32) ⊕ Int32)) else (bd (lp FUEL (u2 (fun (n20 : Int32) (n21 : Int32) => if (nI 6) ≤ n21 then (some (Sum.inr n20) : Option ((Int32 × Int32) ⊕ Int32)) else (bd (inn n17 n21) (fun (j29 : Int32) => some (Sum.inl (n20 + j29, n21 + (nI 1))))))) (nI 0, nI 0)) (fun (e32 : Int32) => bd (if e32 ≤ n16 then some (n16) else (some (e32))) (fun (j33 : Int32) => some (Sum.inl (j33, n17 + (nI 1)))))))) (nI 0, nI 0)) (fun rr => rr = nI (mo PP E)) by
    obtain ⟨rr, h1, h2⟩ := hh
    rw [h1, h2]
  refine ok_lp (fun aa xx => xx = (nI (m6 (fun aa => c6 (fun bb => PP.testBit aa && PP.testBit bb && E aa bb) 6) aa), nI aa)) 6 (by omega) rfl ?_
  rintro aa xx ha rfl
  rw [u2_s]
  refine ok_ite (fun hc => ok_some ?_) (fun hc => ?_)
  · have := le_of_nI hc (by omega) (by omega)
    have hkk : aa = 6 := by omega
    subst hkk
    rfl
  have ha2 := lt_of_nle hc (by omega) (by omega)
  refine ok_bd (ok_lp (fun bb xx => xx = (nI (c6 (fun bb => PP.testBit aa && PP.testBit bb && E aa bb) bb), nI bb)) 6 (by omega) (Q := fun rr => rr = nI (c6 (fun bb => PP.testBit aa && PP.testBit bb && E aa bb) 6)) rfl ?_) (fun rr hq => ?_)
  · rintro bb xx hb rfl
    rw [u2_s]
    refine ok_ite (fun hc2 => ok_some ?_) (fun hc2 => ?_)
    · have := le_of_nI hc2 (by omega) (by omega)
      have hkk : bb = 6 := by omega
      subst hkk
      rfl
    have hb2 := lt_of_nle hc2 (by omega) (by omega)
    refine ok_bdr (hin aa bb ha2 hb2) (ok_some ⟨hb2, ?_⟩)
    simp only [c6]
    split
    · rw [nI_addn, nI_addn]
    · rw [nI_addn, nI_addn]
  · subst hq
    have h1 : m6 (fun aa => c6 (fun bb => PP.testBit aa && PP.testBit bb && E aa bb) 6) aa ≤ 6 := m6_le (fun zz => c6_le _ 6) aa
    have h2 : c6 (fun bb => PP.testBit aa && PP.testBit bb && E aa bb) 6 ≤ 6 := c6_le _ 6
    refine ok_bd (Q1 := fun jv => jv = nI (m6 (fun aa => c6 (fun bb => PP.testBit aa && PP.testBit bb && E aa bb) 6) (aa + 1))) ?_ (fun jv hjv => ok_some ⟨ha2, by rw [hjv, nI_addn]⟩)
    simp only [m6]
    refine ok_ite (fun hc3 => ok_some ?_) (fun hc3 => ok_some ?_)
    · have := (nI_le_iff (by omega) (by omega)).mp hc3
      rw [Nat.max_eq_left this]
    · have : ¬ c6 (fun bb => PP.testBit aa && PP.testBit bb && E aa bb) 6 ≤ m6 (fun aa => c6 (fun bb => PP.testBit aa && PP.testBit bb && E aa bb) 6) aa := fun hz => hc3 ((nI_le_iff (by omega) (by omega)).mpr hz)
      rw [Nat.max_eq_right (by omega)]
theorem has_b {PP aa : Nat} (hP : PP < 64) (ha : aa < 6) (σ : SS) : FX12_has (nI PP) (nI aa) σ = some (if PP.testBit aa = true then nI 1 else 0) := has_n (by omega) (by omega) σ
section D5
variable {σx σm : SS}
theorem rel_76 {σx' : SS} (R : Rel σx σm) (hE : Eq0 (fun c => c = 76) σx σx') : Rel σx' σm := by
  refine R.cong (fun c hc => hE.1 c (by omega)) (hE.2 77 (by omega)) (R.2.1.cong (fun c h1 => hE.1 c (by omega)) (hE.1 69 (by omega))) (fun c hc => rfl) rfl
/-- the class writes six answers -/
theorem ans_x {s : SS} {A : Nat → Int32} {put1 : Int32 → SS → Option Int32} (hp : ∀ kk s', kk < 6 → put1 (nI kk) s' = some (A kk)) :
    Ok (lp FUEL (u2 (fun (n11 : Int32) (s12 : SS) => if (nI 6) ≤ n11 then (some (Sum.inr s12) : Option ((Int32 × SS) ⊕ SS)) else (bd (put1 n11 s12) (fun (r13 : Int32) => gd (inb n11 6) (some (Sum.inl (n11 + (nI 1), pI s12 76 (Int32.toNatClampNeg n11) r13))))))) (nI 0, s)) (fun s' => Eq0 (fun c => c = 76) s s' ∧ ∀ kk, kk < 6 → gI s' 76 kk = A kk) := by
  refine ok_lp (fun jj xx => ∃ s', xx = (nI jj, s') ∧ Eq0 (fun c => c = 76) s s' ∧ ∀ kk, kk < jj → gI s' 76 kk = A kk) 6 (by omega) ⟨s, rfl, Eq0.rf, fun _ hq => absurd hq (Nat.not_lt_zero _)⟩ ?_
  rintro jj xx hj ⟨s', rfl, g1, g2⟩
  rw [u2_s]
  refine ok_ite (fun hc => ok_some ?_) (fun hc => ?_)
  · have := le_of_nI hc (by omega) (by omega)
    have hkk : jj = 6 := by omega
    subst hkk
    exact ⟨g1, g2⟩
  have hj2 := lt_of_nle hc (by omega) (by omega)
  refine ok_bdr (hp jj s' hj2) (ok_gn (by omega) (by omega) (ok_some ⟨hj2, _, by rw [nI_addn], g1.tr eo_pI, fun kk hk => ?_⟩))
  rw [ix_n (by omega), gI_pI_eq, upd_ap]
  by_cases hq : kk = jj
  · rw [if_pos hq, hq]
  · rw [if_neg hq]; exact g2 kk (by omega)
theorem q_look (R : Rel σx σm) (a : Int32) : Cm (FX11_look 0 a σx) (FX12_look 78 a σm) := by
  obtain ⟨⟨nu, ns, nr, nn, nk, np, hr, hI, hbd⟩, hT, -⟩ := id R
  obtain ⟨-, ⟨hu7, -, -, -, K, C, H, u5z, u6z⟩, -⟩ := hI.parts
  unfold FX11_look FX12_look
  simp only [lk_0_0, lk_0_10, lk_78_0]
  refine cq_bdx (isUser_x a σx) (cq_bdm (isUser_m a σm) ?_)
  rw [hI.2.2.1.1, hI.2.1.1]
  refine cq_guard R (fun h1 => ?_)
  obtain ⟨uu, hu, rfl⟩ := wi_cnt (by omega) h1
  obtain ⟨PP, hPP⟩ : ∃ PP, PP = Bs (fun kk => gq (fN (gI σm 79) (nI uu)) kk nn) := ⟨_, rfl⟩
  have hP : PP < 64 := by rw [hPP]; exact bs_lt _
  have ex := uset_x (fun kk hk => fitsN_x hT.1.1 hI hbd (nI uu) hk)
  have em := uset_m hI hbd (nI uu)
  rw [← hPP] at ex em
  have hH4 := (u5z.2 uu hu).2.2.2
  have ah : FX9_at 4 (nI uu) (nI 2) σx = some (nI (H uu)) := by
    have := ir_user kd_1 hT.1.1 hI hu (cc := 2) (by omega)
    rw [show 17 + 4 * uu + 2 = 19 + 4 * uu by omega, (u6z uu hu).2.2] at this
    exact this
  have mh : FX12_userOf 79 (nI uu) (nI 2) σm = some (nI (H uu)) := by
    rw [userOf_eq ln_79 (by omega) (by omega), show 17 + 4 * uu + 2 = 19 + 4 * uu by omega, (u6z uu hu).2.2]
  unfold FX1_nextWind
  simp only [nm_eq, lk_1_2, lk_75_1, ln_76]
  rw [bd_of ex, bd_of ah]
  refine cq_bdm em (cq_bdm mh (cq_tw ?_))
  have hl6 : ∀ v kk, kk < 6 → v ≤ 20 → tk kk (H uu) v ≤ 20 := fun v kk hk hv => by have := tk_le (kk := kk) (by omega) hH4 hv; omega
  rw [bd2_bd]
  refine tw_bd (P1 := fun x1 x2 => x1.1 = x2 ∧ Eq0 (fun c => c = 76) σx x1.2) ?hmain (fun x1 x2 hq => ?_)
  case hmain =>
    refine tw_lp (fun v x1 x2 => ∃ few wh s, x1 = (nI few, wh, nI v, s) ∧ x2 = (wh, nI few, nI v) ∧ few ≤ 7 ∧ Eq0 (fun c => c = 76) σx s) 21 (by omega) ⟨7, -1, σx, rfl, rfl, by omega, Eq0.rf⟩ ?_
    rintro v x1 x2 hv ⟨few, wh, s, rfl, rfl, hf7, hE⟩
    rw [u4_s, u3_s]
    refine tw_ite Iff.rfl (fun hc => tw_some (s2_r ⟨rfl, hE⟩)) (fun hc => tw_ite Iff.rfl (fun hc2 => tw_some (s2_r ⟨rfl, hE⟩)) (fun hc2 => ?_))
    have hv20 : v ≤ 20 := by
      rcases Nat.lt_or_ge 20 v with hq | hq
      · exact absurd ((nI_ltn (by omega) (by omega)).mpr hq) hc
      · exact hq
    have hax := ans_x (s := s) (A := fun kk => nI (1000 * tk kk (H uu) v + rn kk (tk kk (H uu) v))) (put1 := fun n13 s14 => bd (FX5_takenOf n13 (nI (H uu)) (nI v) s14) (fun (r15 : Int32) => bd (FX5_rentOf n13 r15 s14) (fun (r17 : Int32) => some (((nI 1000) * r15) + r17)))) (fun kk s' hk => by
      rw [bd_of (tk_x (by omega) hH4 hv20 s'), bd_of (rn_x (by omega) (hl6 v kk hk hv20) s'), nI_muln, nI_addn])
    simp only [bd_bd, bd_s] at hax
    obtain ⟨s20, k1, k2, k3⟩ := hax
    rw [bd_of k1, bd_of (alike_x hP k3)]
    have hE1 : mo PP (fun aa bb => decide (nI (1000 * tk aa (H uu) v + rn aa (tk aa (H uu) v)) = nI (1000 * tk bb (H uu) v + rn bb (tk bb (H uu) v)))) = mo PP (fun aa bb => decide (tk bb (H uu) v = tk aa (H uu) v ∧ rn bb (tk aa (H uu) v) = rn aa (tk aa (H uu) v))) := by
      refine mo_cong (fun ii jj hi hj => ?_)
      have t1 := hl6 v ii hi hv20
      have t2 := hl6 v jj hj hv20
      have r1 := rn_le (kk := ii) t1
      have r2 := rn_le (kk := jj) t2
      refine decide_eq_decide.mpr ?_
      rw [nI_eqn (by omega) (by omega)]
      constructor
      · intro hq
        have h3 : tk jj (H uu) v = tk ii (H uu) v := by omega
        refine ⟨h3, ?_⟩
        rw [h3] at hq
        omega
      · rintro ⟨h3, h4⟩
        rw [h3]
        omega
    rw [hE1]
    have hmm := alike_m (PP := PP) (E := fun aa bb => decide (tk bb (H uu) v = tk aa (H uu) v ∧ rn bb (tk aa (H uu) v) = rn aa (tk aa (H uu) v))) (inn := fun n17 n21 => bd (FX12_taken n17 (nI (H uu)) (nI v) σm) (fun (r22 : Int32) => bd (FX12_has (nI PP) n17 σm) (fun (r24 : Int32) => if r24 = 0 then some (nI 0) else bd (FX12_has (nI PP) n21 σm) (fun (r25 : Int32) => if r25 = 0 then some (nI 0) else bd (FX12_taken n21 (nI (H uu)) (nI v) σm) (fun (r26 : Int32) => if r26 = r22 then bd (FX12_rentOf n21 r22 σm) (fun (r27 : Int32) => bd (FX12_rentOf n17 r22 σm) (fun (r28 : Int32) => if r27 = r28 then some (nI 1) else some (nI 0))) else some (nI 0)))))) (fun aa bb ha hb => by
      have t1 := hl6 v aa ha hv20
      have t2 := hl6 v bb hb hv20
      have r1 := rn_le (kk := aa) t1
      have r2 := rn_le (kk := bb) t1
      rw [bd_of (tk_m (by omega) hH4 hv20 σm), bd_of (has_b hP ha σm)]
      by_cases g1 : PP.testBit aa = true
      · rw [if_pos g1, if_neg n1_0, bd_of (has_b hP hb σm)]
        by_cases g2 : PP.testBit bb = true
        · rw [if_pos g2, if_neg n1_0, bd_of (tk_m (by omega) hH4 hv20 σm), g1, g2, Bool.true_and, Bool.true_and]
          by_cases g3 : tk bb (H uu) v = tk aa (H uu) v
          · rw [if_pos (by rw [g3]), bd_of (rn_m (by omega) t1 σm), bd_of (rn_m (by omega) t1 σm)]
            by_cases g4 : rn bb (tk aa (H uu) v) = rn aa (tk aa (H uu) v)
            · rw [if_pos (by rw [g4]), if_pos (by rw [decide_eq_true_iff]; exact ⟨g3, g4⟩)]
            · rw [if_neg (fun hq => g4 ((nI_eqn (by omega) (by omega)).mp hq)), if_neg (by rw [decide_eq_true_iff]; exact fun hq => g4 hq.2)]
          · rw [if_neg (fun hq => g3 ((nI_eqn (by omega) (by omega)).mp hq)), if_neg (by rw [decide_eq_true_iff]; exact fun hq => g3 hq.1)]
        · rw [if_neg g2, if_pos rfl, Bool.eq_false_iff.mpr g2, Bool.and_false, Bool.false_and, if_neg (by decide)]
      · rw [if_neg g1, if_pos rfl, Bool.eq_false_iff.mpr g1, Bool.false_and, Bool.false_and, if_neg (by decide)])
    simp only [bd_bd, bd_s] at hmm
    rw [bd_of hmm]
    have hmo := mo_le (PP := PP) (E := fun aa bb => decide (tk bb (H uu) v = tk aa (H uu) v ∧ rn bb (tk aa (H uu) v) = rn aa (tk aa (H uu) v)))
    obtain ⟨al, hal⟩ : ∃ al, al = mo PP (fun aa bb => decide (tk bb (H uu) v = tk aa (H uu) v ∧ rn bb (tk aa (H uu) v) = rn aa (tk aa (H uu) v))) := ⟨_, rfl⟩
    rw [← hal] at hmo ⊢
    by_cases hfa : nI few ≤ nI al
    · rw [if_pos hfa, if_pos hfa, if_pos hfa, bd_s, u2_s, bd_s, bd_s]
      exact tw_some (s2_l ⟨by omega, few, wh, s20, by rw [nI_addn], by rw [nI_addn], hf7, hE.tr k2⟩)
    · rw [if_neg hfa, if_neg hfa, if_neg hfa, bd_s, u2_s, bd_s, bd_s]
      exact tw_some (s2_l ⟨by omega, al, nI v, s20, by rw [nI_addn], by rw [nI_addn], by omega, hE.tr k2⟩)
  obtain ⟨w1z, w2z⟩ := x1
  obtain ⟨g3, g4⟩ := hq
  dsimp only at g3 g4
  subst g3
  rw [u2_s, bd2_s]
  exact tw_some ⟨rfl, rel_76 R g4⟩
end D5
