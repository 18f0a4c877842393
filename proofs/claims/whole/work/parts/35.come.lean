/-! ===== users come, suits are filed ===== -/
theorem TCw.keep {t : Nat} {σ σ' : SS} (h : TCw t σ) (hx : ∀ d, d = 3 ∨ d = 5 ∨ d = 7 ∨ d = 9 ∨ d = 11 ∨ d = 13 → gI σ' (t + d) 0 = gI σ (t + d) 0 ∧ gI σ' (t + d) 1 = gI σ (t + d) 1) : TCw t σ' := by
  unfold TCw at h ⊢
  rw [(hx 3 (by omega)).1, (hx 3 (by omega)).2, (hx 5 (by omega)).1, (hx 5 (by omega)).2, (hx 7 (by omega)).1, (hx 7 (by omega)).2, (hx 9 (by omega)).1, (hx 9 (by omega)).2, (hx 11 (by omega)).1, (hx 11 (by omega)).2, (hx 13 (by omega)).1, (hx 13 (by omega)).2]
  exact h
theorem Jp.cong2 {t : Nat} {σ σ' : SS} {ρ ρ' : Nat → Int32} {nu ns ns' np : Nat} (h : Jp t σ ρ nu ns np) (hu7 : nu ≤ 7) (hs5 : ns ≤ 5) (hss : ns ≤ ns') (e1 : gI σ' (t + 13) 3 = gI σ (t + 13) 3) (e2 : gI σ' (t + 14) = gI σ (t + 14)) (hm : ∀ k, 137 ≤ k → k < 378 → ρ' k = ρ k) (hk : ∀ vv ww, vv < ns → ww < 3 → ρ' (46 + 4 * vv + ww) = ρ (46 + 4 * vv + ww)) : Jp t σ' ρ' nu ns' np := by
  obtain ⟨g1, g2, g3, kk, p1, p2⟩ := h
  refine ⟨g1, by rw [hm 137 (by omega) (by omega)]; exact g2, by rw [e1]; exact g3, kk, p1, fun jj hj => ?_⟩
  obtain ⟨q0, q1, q2, q3, q4, q5, q6⟩ := p2 jj hj
  refine ⟨by omega, ?_, ?_, ?_, fun uu hu => ?_, fun vv hv => ?_, fun vv hv ww hw => ?_⟩
  · rw [e2, hm _ (by omega) (by omega)]; exact q1
  · rw [e2, hm _ (by omega) (by omega)]; exact q2
  · rw [e2, hm _ (by omega) (by omega)]; exact q3
  · rw [e2, hm _ (by omega) (by omega)]; exact q4 uu hu
  · rw [e2, hm _ (by omega) (by omega)]; exact q5 vv hv
  · rw [hm _ (by omega) (by omega), hk _ _ (by omega) hw]; exact q6 vv hv ww hw
theorem eo_pI {σ : SS} {aa k : Nat} {v : Int32} : Eq0 (fun c => c = aa) σ (pI σ aa k v) := Eq0.pI rfl
section C7
variable {σx σm : SS} {t aa nu ns nr nn nk np hr : Nat}
theorem come_x {kk cc hh : Nat} (ht : kd t = 4) (hT : TCw t σx) (h3 : gI σx (t + 3) 3 = nI nu) (hu7 : nu < 7) :
    ∃ σx', FX4_addUser t (nI kk) (nI cc) (nI hh) σx = some (nI nu, σx') ∧ Eq0 (fun c => c = t + 3 ∨ c = t + 4 ∨ c = t + 13) σx σx' ∧ TCw t σx' ∧ gI σx' (t + 3) 3 = nI (nu + 1) ∧ gI σx' (t + 13) 3 = nI 0 ∧ (∀ k, k < nu * 4 → gI σx' (t + 4) k = gI σx (t + 4) k) ∧ gI σx' (t + 4) (nu * 4 + 0) = nI kk ∧ gI σx' (t + 4) (nu * 4 + 1) = nI cc ∧ gI σx' (t + 4) (nu * 4 + 2) = nI hh ∧ gI σx' (t + 4) (nu * 4 + 3) = nI 0 := by
  have k7 := ikd_3 ht
  have e28 : ln (t + 3 + 1) = 28 := iln_4 ht
  obtain ⟨σ2, hσ2⟩ : ∃ s, s = pA (pI σx (t + 3) 3 (nI (nu + 1))) (t + 3 + 1) (fun k => if nu * 4 ≤ k ∧ k < nu * 4 + 4 then nI 0 else gI σx (t + 3 + 1) k) := ⟨_, rfl⟩
  have o1 : FX9_open (t + 3) σx = some (nI nu, σ2) := by rw [hσ2]; exact open_in k7 hT.1.1 hT.1.2 h3 e28 hu7 (by omega) (by omega) (by omega) (by omega)
  have w0 : gI σ2 (t + 3) 0 = nI 4 := by rw [hσ2, gI_pA_ne (by omega), gI_pI_eq, upd_ne (by omega)]; exact hT.1.1
  have w3 : gI σ2 (t + 3) 3 = nI (nu + 1) := by rw [hσ2, gI_pA_ne (by omega), gI_pI_eq, upd_eq]
  have p1 : FX9_put (t + 3) (nI nu) (nI 0) (nI kk) σ2 = some (pI σ2 (t + 3 + 1) (nu * 4 + 0) (nI kk)) := put_in k7 w0 w3 e28 (by omega) (by omega) (by omega) (by omega) (by omega) (by omega)
  have p2 : FX9_put (t + 3) (nI nu) (nI 1) (nI cc) (pI σ2 (t + 3 + 1) (nu * 4 + 0) (nI kk)) = some (pI (pI σ2 (t + 3 + 1) (nu * 4 + 0) (nI kk)) (t + 3 + 1) (nu * 4 + 1) (nI cc)) := put_in k7 (by rw [gI_pI_ne (by omega)]; exact w0) (by rw [gI_pI_ne (by omega)]; exact w3) e28 (by omega) (by omega) (by omega) (by omega) (by omega) (by omega)
  have p3 : FX9_put (t + 3) (nI nu) (nI 2) (nI hh) (pI (pI σ2 (t + 3 + 1) (nu * 4 + 0) (nI kk)) (t + 3 + 1) (nu * 4 + 1) (nI cc)) = some (pI (pI (pI σ2 (t + 3 + 1) (nu * 4 + 0) (nI kk)) (t + 3 + 1) (nu * 4 + 1) (nI cc)) (t + 3 + 1) (nu * 4 + 2) (nI hh)) := put_in k7 (by rw [gI_pI_ne (by omega), gI_pI_ne (by omega)]; exact w0) (by rw [gI_pI_ne (by omega), gI_pI_ne (by omega)]; exact w3) e28 (by omega) (by omega) (by omega) (by omega) (by omega) (by omega)
  refine ⟨pI (pI (pI (pI σ2 (t + 3 + 1) (nu * 4 + 0) (nI kk)) (t + 3 + 1) (nu * 4 + 1) (nI cc)) (t + 3 + 1) (nu * 4 + 2) (nI hh)) (t + 13) 3 (nI 0), ?_, ?_, ?_, ?_, ?_, ?_, ?_, ?_, ?_, ?_⟩
  · unfold FX4_addUser
    rw [il_2 ht, il_7 ht, bd2_of o1, nm_eq, bd_of p1, bd_of p2, bd_of p3, empty_eq, bd2_s]
  · rw [hσ2]
    exact (Eq0.pI (Or.inl rfl)).tr ((Eq0.pA (Or.inr (Or.inl rfl))).tr ((Eq0.pI (Or.inr (Or.inl rfl))).tr ((Eq0.pI (Or.inr (Or.inl rfl))).tr ((Eq0.pI (Or.inr (Or.inl rfl))).tr (Eq0.pI (Or.inr (Or.inr rfl)))))))
  · refine hT.keep (fun d hd => ?_)
    rw [hσ2]
    rcases hd with rfl | rfl | rfl | rfl | rfl | rfl <;> constructor <;> simp (disch := omega) only [gI_pI_ne, gI_pA_ne, gI_pI_eq, upd_ne]
  · rw [hσ2]; simp (disch := omega) only [gI_pI_ne, gI_pA_ne, gI_pI_eq, upd_eq]
  · rw [gI_pI_eq, upd_eq]
  · intro k hk
    rw [hσ2]; simp (disch := omega) only [gI_pI_ne, gI_pA_eq, gI_pI_eq, upd_ne]
    rw [if_neg (by omega)]
  · simp (disch := omega) only [gI_pI_ne, gI_pA_eq, gI_pI_eq, upd_ne, upd_eq]
  · simp (disch := omega) only [gI_pI_ne, gI_pA_eq, gI_pI_eq, upd_ne, upd_eq]
  · simp (disch := omega) only [gI_pI_ne, gI_pA_eq, gI_pI_eq, upd_ne, upd_eq]
  · rw [hσ2]; simp (disch := omega) only [gI_pI_ne, gI_pA_eq, gI_pI_eq, upd_ne]
    rw [if_pos (by omega)]
theorem come_m {σ : SS} {kk cc hh : Nat} (ha : ln aa = 378) (h16 : gI σ aa 16 = nI nu) (hu7 : nu < 7) : FX12_comes aa (nI kk) (nI cc) (nI hh) σ = some (pI (pI (pI (pI (pI σ aa (17 + 4 * nu) (nI kk)) aa (18 + 4 * nu) (nI cc)) aa (19 + 4 * nu) (nI hh)) aa (20 + 4 * nu) (nI 0)) aa 16 (nI (nu + 1))) := by
  unfold FX12_comes
  simp only [nm_eq, ha]
  rw [ix_n (n := 16) (by omega), h16, nI_muln, nI_addn 17, nI_addn _ 1, nI_addn _ 2, nI_addn _ 3, gd_n (by omega) (by omega), gd_n (by omega) (by omega), gd_n (by omega) (by omega), gd_n (by omega) (by omega), gd_n (by omega) (by omega), gd_n (by omega) (by omega), gd_n (by omega) (by omega), ix_n (by omega), ix_n (by omega), ix_n (by omega), ix_n (by omega)]
  rw [show 17 + 4 * nu + 1 = 18 + 4 * nu by omega, show 17 + 4 * nu + 2 = 19 + 4 * nu by omega, show 17 + 4 * nu + 3 = 20 + 4 * nu by omega]
  have e16 : gI (pI (pI (pI (pI σ aa (17 + 4 * nu) (nI kk)) aa (18 + 4 * nu) (nI cc)) aa (19 + 4 * nu) (nI hh)) aa (20 + 4 * nu) (nI 0)) aa 16 = nI nu := by
    simp (disch := omega) only [gI_pI_eq, upd_ne]
    exact h16
  rw [e16, nI_addn]
theorem come_both {kk cc hh : Nat} (ht : kd t = 4) (ha : ln aa = 378) (hT : TCw t σx) (hI : IR t σx (gI σm aa) nu ns nr nn nk np hr) (hu7 : nu < 7) (hk : kk ≤ 5) (hc : cc ≤ 11) (hh1 : 1 ≤ hh) (hh4 : hh ≤ 4) :
    ∃ σx' σm', FX4_addUser t (nI kk) (nI cc) (nI hh) σx = some (nI nu, σx') ∧ FX12_comes aa (nI kk) (nI cc) (nI hh) σm = some σm' ∧ Eq0 (fun c => c = t + 3 ∨ c = t + 4 ∨ c = t + 13) σx σx' ∧ Eq0 (fun c => c = aa) σm σm' ∧ TCw t σx' ∧ gI σm' aa 137 = gI σm aa 137 ∧ gI σm' aa 16 = nI (nu + 1) ∧ IR t σx' (upd (gI σm' aa) 137 (nI 0)) (nu + 1) ns nr nn nk 0 hr ∧ (Bd (gI σm aa) nu ns np hr → Bd (upd (gI σm' aa) 137 (nI 0)) (nu + 1) ns 0 hr) := by
  obtain ⟨h1, ⟨u1, u2z, u3z, u4z, K, C, H, u5z, u6z⟩, ⟨s1z, s2z, s3z, s4z, s5z⟩, h4, h5, h6, h7, h8⟩ := hI.parts
  obtain ⟨σx', e1, e2, e3, e4, e5, e6, e7, e8, e9, e10⟩ := come_x (kk := kk) (cc := cc) (hh := hh) ht hT u3z hu7
  refine ⟨σx', _, e1, come_m ha u2z hu7, e2, ?_, e3, ?_, ?_, ?_, fun hb => ⟨fun uu hu => ?_, fun vv hv => ?_, fun _ hq => absurd hq (Nat.not_lt_zero _), nb_cong hb.2.2.2 (fun k k1 k2 => by simp (disch := omega) only [gI_pI_eq, upd_ne])⟩⟩
  · exact Eq0.tr eo_pI (Eq0.tr eo_pI (Eq0.tr eo_pI (Eq0.tr eo_pI eo_pI)))
  · simp (disch := omega) only [gI_pI_eq, upd_ne]
  · rw [gI_pI_eq, upd_eq]
  rotate_left
  · by_cases hq : uu = nu
    · subst hq
      simp (disch := omega) only [gI_pI_eq, upd_ne, upd_eq]
      exact ⟨0, by omega, rfl⟩
    · simp (disch := omega) only [gI_pI_eq, upd_ne]
      exact hb.1 uu (by omega)
  · simp (disch := omega) only [gI_pI_eq, upd_ne]
    exact hb.2.1 vv hv
  have ex : ∀ c, c ≠ t + 3 → c ≠ t + 4 → c ≠ t + 13 → gI σx' c = gI σx c := fun c g1 g2 g3 => e2.1 c (fun hq => by rcases hq with hq | hq | hq <;> omega)
  refine ir_of (h1.cong (ex _ (by omega) (by omega) (by omega)) (ex _ (by omega) (by omega) (by omega)) (fun k g1 => ?_)) ⟨by omega, ?_, e4, fun uu c2 hu hc2 => ?_, fun uu => if uu = nu then kk else K uu, fun uu => if uu = nu then cc else C uu, fun uu => if uu = nu then hh else H uu, ⟨by omega, fun uu hu => ?_⟩, fun uu hu => ?_⟩ ⟨s1z, ?_, ?_, fun uu c2 hu hc2 => ?_, fun vv hv => ⟨?_, ?_⟩⟩ (h4.cong (by rw [ex _ (by omega) (by omega) (by omega)]) (ex _ (by omega) (by omega) (by omega)) (fun k g1 g2 => ?_)) (h5.cong (by rw [ex _ (by omega) (by omega) (by omega)]) (ex _ (by omega) (by omega) (by omega)) (fun k g1 g2 => ?_)) (h6.cong (by rw [ex _ (by omega) (by omega) (by omega)]) (ex _ (by omega) (by omega) (by omega)) (fun k g1 g2 => ?_)) (h7.cong (by rw [ex _ (by omega) (by omega) (by omega)]) (by rw [ex _ (by omega) (by omega) (by omega)]) (fun k g1 g2 => ?_)) (jp_0 upd_eq e5)
  · simp (disch := omega) only [gI_pI_eq, upd_ne]
  · simp (disch := omega) only [gI_pI_eq, upd_ne, upd_eq]
  · by_cases hq : uu = nu
    · subst hq
      have hz : c2 = 0 ∨ c2 = 1 ∨ c2 = 2 ∨ c2 = 3 := by omega
      rcases hz with rfl | rfl | rfl | rfl
      · rw [e7, show 17 + 4 * uu + 0 = 17 + 4 * uu from rfl]; simp (disch := omega) only [gI_pI_eq, upd_ne, upd_eq]
      · rw [e8, show 17 + 4 * uu + 1 = 18 + 4 * uu by omega]; simp (disch := omega) only [gI_pI_eq, upd_ne, upd_eq]
      · rw [e9, show 17 + 4 * uu + 2 = 19 + 4 * uu by omega]; simp (disch := omega) only [gI_pI_eq, upd_ne, upd_eq]
      · rw [e10, show 17 + 4 * uu + 3 = 20 + 4 * uu by omega]; simp (disch := omega) only [gI_pI_eq, upd_ne, upd_eq]
    · rw [e6 _ (by omega), u4z uu c2 (by omega) hc2]
      simp (disch := omega) only [gI_pI_eq, upd_ne]
  · by_cases hq : uu = nu
    · dsimp only; rw [if_pos hq, if_pos hq, if_pos hq]; exact ⟨hk, hc, hh1, hh4⟩
    · dsimp only; rw [if_neg hq, if_neg hq, if_neg hq]; exact u5z.2 uu (by omega)
  · by_cases hq : uu = nu
    · dsimp only; rw [if_pos hq, if_pos hq, if_pos hq]
      subst hq
      simp (disch := omega) only [gI_pI_eq, upd_ne, upd_eq]
      exact ⟨trivial, trivial, trivial⟩
    · dsimp only; rw [if_neg hq, if_neg hq, if_neg hq]
      simp (disch := omega) only [gI_pI_eq, upd_ne]
      exact u6z uu (by omega)
  · simp (disch := omega) only [gI_pI_eq, upd_ne]; exact s2z
  · rw [ex _ (by omega) (by omega) (by omega)]; exact s3z
  · rw [ex _ (by omega) (by omega) (by omega)]; simp (disch := omega) only [gI_pI_eq, upd_ne]; exact s4z uu c2 hu hc2
  · simp (disch := omega) only [gI_pI_eq, upd_ne]; exact (s5z vv hv).1
  · simp (disch := omega) only [gI_pI_eq, upd_ne]
    obtain ⟨uu, g1, g2⟩ := (s5z vv hv).2
    exact ⟨uu, by omega, g2⟩
  · simp (disch := omega) only [gI_pI_eq, upd_ne]
  · simp (disch := omega) only [gI_pI_eq, upd_ne]
  · simp (disch := omega) only [gI_pI_eq, upd_ne]
  · simp (disch := omega) only [gI_pI_eq, upd_ne]
theorem q_user (R : Rel σx σm) (a b c : Int32) : Cm (FX11_user 0 a b c σx) (FX12_user 78 a b c σm) := by
  obtain ⟨⟨nu, ns, nr, nn, nk, np, hr, hI, hbd⟩, hT, -⟩ := id R
  have hu7 := hI.1.1
  unfold FX11_user FX12_user
  rw [l_N0, l_N1, l_5, l_11, l_4]
  simp only [lk_0_0, lk_1_2, lk_78_0, ln_79]
  refine cq_bdx (isKind_eq _ _) (cq_bdm (in_eq _ _ _ _) (cq_guard R (fun h1 => cq_bdx (isCell_eq _ _) (cq_bdm (in_eq _ _ _ _) (cq_guard R (fun h2 => cq_bdx (isHeight_eq _ _) (cq_bdm (in_eq _ _ _ _) (cq_guard R (fun h3 => ?_)))))))))
  obtain ⟨kk, -, hk5, rfl⟩ := wi_in (by omega) (by omega) h1
  obtain ⟨cc, -, hc11, rfl⟩ := wi_in (by omega) (by omega) h2
  obtain ⟨hh, hh1, hh4, rfl⟩ := wi_in (by omega) (by omega) h3
  refine cq_bdx (isFull_eq 4 σx hI.2.2.1.1 hT.1.1.1.2 (by omega) (by omega)) (cq_gm (inb_n (by omega) (by omega)) ?_)
  rw [ix_n (by omega), ix_n (by omega), hI.2.1.1]
  by_cases hf : nu < 7
  · rw [if_pos hf, if_pos rfl, if_neg (fun hq => by have := (nI_eqn (by omega) (by omega)).mp hq; omega)]
    obtain ⟨σx', σm', e1, e2, e3, e4, e5, e6, e7, e8, e9⟩ := come_both (kk := kk) (cc := cc) (hh := hh) kd_1 ln_79 hT.1.1 hI hf hk5 hc11 hh1 hh4
    refine cq_bd2x e1 (cq_bdm e2 (cq_gm (inb_n (by omega) (by omega)) (cq_nmm (cq_gm (inb_n (by omega) (by omega)) ?_))))
    rw [gI_pI_eq, upd_ne (by omega), e7, nI_subn (by omega)]
    refine cq_some (rel_now R (e3.up (fun c hq => Or.inl (by omega))) ((e4.up (fun c hq => Or.inl hq)).tr (Eq0.pI (Or.inl rfl))) e5 ⟨nu + 1, ns, nr, nn, nk, 0, hr, ?_⟩)
    rw [gI_pI_eq]
    exact ⟨e8, e9 hbd⟩
  · have h7 : nu = 7 := by omega
    subst h7
    rw [if_neg hf, if_neg n1_0, if_pos rfl]
    exact cq_full R
/-! suits -/
theorem file_x {kk uu : Nat} (ht : kd t = 4) (hT : TCw t σx) (h3 : gI σx (t + 5) 3 = nI ns) (hs5 : ns < 5) :
    ∃ σx', FX4_fileSuit t (nI kk) (nI uu) σx = some (nI ns, σx') ∧ Eq0 (fun c => c = t + 5 ∨ c = t + 6) σx σx' ∧ TCw t σx' ∧ gI σx' (t + 5) 3 = nI (ns + 1) ∧ (∀ k, k < ns * 4 → gI σx' (t + 6) k = gI σx (t + 6) k) ∧ gI σx' (t + 6) (ns * 4 + 0) = nI kk ∧ gI σx' (t + 6) (ns * 4 + 1) = nI uu ∧ gI σx' (t + 6) (ns * 4 + 2) = gI σx t 8 ∧ gI σx' (t + 6) (ns * 4 + 3) = nI 0 := by
  have k7 := ikd_5 ht
  have e28 : ln (t + 5 + 1) = 20 := iln_6 ht
  obtain ⟨σ2, hσ2⟩ : ∃ s, s = pA (pI σx (t + 5) 3 (nI (ns + 1))) (t + 5 + 1) (fun k => if ns * 4 ≤ k ∧ k < ns * 4 + 4 then nI 0 else gI σx (t + 5 + 1) k) := ⟨_, rfl⟩
  have o1 : FX9_open (t + 5) σx = some (nI ns, σ2) := by rw [hσ2]; exact open_in k7 hT.2.1.1 hT.2.1.2 h3 e28 hs5 (by omega) (by omega) (by omega) (by omega)
  have w0 : gI σ2 (t + 5) 0 = nI 4 := by rw [hσ2, gI_pA_ne (by omega), gI_pI_eq, upd_ne (by omega)]; exact hT.2.1.1
  have w3 : gI σ2 (t + 5) 3 = nI (ns + 1) := by rw [hσ2, gI_pA_ne (by omega), gI_pI_eq, upd_eq]
  have p1 : FX9_put (t + 5) (nI ns) (nI 0) (nI kk) σ2 = some (pI σ2 (t + 5 + 1) (ns * 4 + 0) (nI kk)) := put_in k7 w0 w3 e28 (by omega) (by omega) (by omega) (by omega) (by omega) (by omega)
  have p2 : FX9_put (t + 5) (nI ns) (nI 1) (nI uu) (pI σ2 (t + 5 + 1) (ns * 4 + 0) (nI kk)) = some (pI (pI σ2 (t + 5 + 1) (ns * 4 + 0) (nI kk)) (t + 5 + 1) (ns * 4 + 1) (nI uu)) := put_in k7 (by rw [gI_pI_ne (by omega)]; exact w0) (by rw [gI_pI_ne (by omega)]; exact w3) e28 (by omega) (by omega) (by omega) (by omega) (by omega) (by omega)
  have w8 : gI (pI (pI σ2 (t + 5 + 1) (ns * 4 + 0) (nI kk)) (t + 5 + 1) (ns * 4 + 1) (nI uu)) t 8 = gI σx t 8 := by rw [hσ2]; simp (disch := omega) only [gI_pI_ne, gI_pA_ne]
  have p3 : FX9_put (t + 5) (nI ns) (nI 2) (gI σx t 8) (pI (pI σ2 (t + 5 + 1) (ns * 4 + 0) (nI kk)) (t + 5 + 1) (ns * 4 + 1) (nI uu)) = some (pI (pI (pI σ2 (t + 5 + 1) (ns * 4 + 0) (nI kk)) (t + 5 + 1) (ns * 4 + 1) (nI uu)) (t + 5 + 1) (ns * 4 + 2) (gI σx t 8)) := put_in k7 (by rw [gI_pI_ne (by omega), gI_pI_ne (by omega)]; exact w0) (by rw [gI_pI_ne (by omega), gI_pI_ne (by omega)]; exact w3) e28 (by omega) (by omega) (by omega) (by omega) (by omega) (by omega)
  refine ⟨pI (pI (pI σ2 (t + 5 + 1) (ns * 4 + 0) (nI kk)) (t + 5 + 1) (ns * 4 + 1) (nI uu)) (t + 5 + 1) (ns * 4 + 2) (gI σx t 8), ?_, ?_, ?_, ?_, ?_, ?_, ?_, ?_, ?_⟩
  · unfold FX4_fileSuit
    rw [il_3 ht, bd2_of o1, nm_eq, bd_of p1, bd_of p2, w8, bd_of p3]
  · rw [hσ2]
    exact (Eq0.pI (Or.inl rfl)).tr ((Eq0.pA (Or.inr rfl)).tr ((Eq0.pI (Or.inr rfl)).tr ((Eq0.pI (Or.inr rfl)).tr (Eq0.pI (Or.inr rfl)))))
  · refine hT.keep (fun d hd => ?_)
    rw [hσ2]
    rcases hd with rfl | rfl | rfl | rfl | rfl | rfl <;> constructor <;> simp (disch := omega) only [gI_pI_ne, gI_pA_ne, gI_pI_eq, upd_ne]
  · rw [hσ2]; simp (disch := omega) only [gI_pI_ne, gI_pA_ne, gI_pI_eq, upd_eq]
  · intro k hk
    rw [hσ2]; simp (disch := omega) only [gI_pI_ne, gI_pA_eq, gI_pI_eq, upd_ne]
    rw [if_neg (by omega)]
  · simp (disch := omega) only [gI_pI_ne, gI_pA_eq, gI_pI_eq, upd_ne, upd_eq]
  · simp (disch := omega) only [gI_pI_ne, gI_pA_eq, gI_pI_eq, upd_ne, upd_eq]
  · simp (disch := omega) only [gI_pI_ne, gI_pA_eq, gI_pI_eq, upd_ne, upd_eq]
  · rw [hσ2]; simp (disch := omega) only [gI_pI_ne, gI_pA_eq, gI_pI_eq, upd_ne]
    rw [if_pos (by omega)]
theorem file_m {σ : SS} {kk uu : Nat} (ha : ln aa = 378) (h45 : gI σ aa 45 = nI ns) (hs5 : ns < 5) : FX12_files aa (nI kk) (nI uu) σ = some (pI (pI (pI (pI (pI σ aa (46 + 4 * ns) (nI kk)) aa (47 + 4 * ns) (nI uu)) aa (48 + 4 * ns) (gI σ aa 66)) aa (49 + 4 * ns) (nI 0)) aa 45 (nI (ns + 1))) := by
  unfold FX12_files
  simp only [nm_eq, ha]
  rw [ix_n (n := 45) (by omega), ix_n (n := 66) (by omega), h45, nI_muln, nI_addn 46, nI_addn _ 1, nI_addn _ 2, nI_addn _ 3, gd_n (by omega) (by omega), gd_n (by omega) (by omega), gd_n (by omega) (by omega), gd_n (by omega) (by omega), gd_n (by omega) (by omega), gd_n (by omega) (by omega), gd_n (by omega) (by omega), gd_n (by omega) (by omega), ix_n (by omega), ix_n (by omega), ix_n (by omega), ix_n (by omega)]
  rw [show 46 + 4 * ns + 1 = 47 + 4 * ns by omega, show 46 + 4 * ns + 2 = 48 + 4 * ns by omega, show 46 + 4 * ns + 3 = 49 + 4 * ns by omega]
  have e66 : gI (pI (pI σ aa (46 + 4 * ns) (nI kk)) aa (47 + 4 * ns) (nI uu)) aa 66 = gI σ aa 66 := by
    simp (disch := omega) only [gI_pI_eq, upd_ne]
  rw [e66]
  have e45 : gI (pI (pI (pI (pI σ aa (46 + 4 * ns) (nI kk)) aa (47 + 4 * ns) (nI uu)) aa (48 + 4 * ns) (gI σ aa 66)) aa (49 + 4 * ns) (nI 0)) aa 45 = nI ns := by
    simp (disch := omega) only [gI_pI_eq, upd_ne]
    exact h45
  rw [e45, nI_addn]
theorem file_both {kk uu : Nat} (ht : kd t = 4) (ha : ln aa = 378) (hT : TCw t σx) (hI : IR t σx (gI σm aa) nu ns nr nn nk np hr) (hs5 : ns < 5) (hk : kk ≤ 5) (hu : uu < nu) :
    ∃ σx' σm', FX4_fileSuit t (nI kk) (nI uu) σx = some (nI ns, σx') ∧ FX12_files aa (nI kk) (nI uu) σm = some σm' ∧ Eq0 (fun c => c = t + 5 ∨ c = t + 6) σx σx' ∧ Eq0 (fun c => c = aa) σm σm' ∧ TCw t σx' ∧ gI σm' aa 45 = nI (ns + 1) ∧ IR t σx' (gI σm' aa) nu (ns + 1) nr nn nk np hr ∧ (Bd (gI σm aa) nu ns np hr → Bd (gI σm' aa) nu (ns + 1) np hr) := by
  obtain ⟨h1, h2, ⟨s1z, s2z, s3z, s4z, s5z⟩, h4, h5, h6, h7, h8⟩ := hI.parts
  obtain ⟨σx', e1, e2, e3, e4, e6, e7, e8, e9, e10⟩ := file_x (kk := kk) (uu := uu) ht hT s3z hs5
  refine ⟨σx', _, e1, file_m ha s2z hs5, e2, ?_, e3, ?_, ?_, fun hb => ⟨fun uu hu => ?_, fun vv hv => ?_, fun jj hj => ?_, nb_cong hb.2.2.2 (fun k k1 k2 => by simp (disch := omega) only [gI_pI_eq, upd_ne])⟩⟩
  · exact Eq0.tr eo_pI (Eq0.tr eo_pI (Eq0.tr eo_pI (Eq0.tr eo_pI eo_pI)))
  · rw [gI_pI_eq, upd_eq]
  rotate_left
  · have hu7 := h2.1
    simp (disch := omega) only [gI_pI_eq, upd_ne]
    exact hb.1 uu hu
  · by_cases hq : vv = ns
    · subst hq
      simp (disch := omega) only [gI_pI_eq, upd_ne, upd_eq]
      exact ⟨hr, h7.1, h7.2.1⟩
    · simp (disch := omega) only [gI_pI_eq, upd_ne]
      exact hb.2.1 vv (by omega)
  · obtain ⟨hh, g1, g2, g3⟩ := hb.2.2.1 jj hj
    refine ⟨hh, g1, ?_, fun uu hu => ?_⟩
    · simp (disch := omega) only [gI_pI_eq, upd_ne]; exact g2
    · simp (disch := omega) only [gI_pI_eq, upd_ne]; exact g3 uu hu
  have ex : ∀ c, c ≠ t + 5 → c ≠ t + 6 → gI σx' c = gI σx c := fun c g1 g2 => e2.1 c (fun hq => by rcases hq with hq | hq <;> omega)
  refine ir_of (h1.cong (ex _ (by omega) (by omega)) (ex _ (by omega) (by omega)) (fun k g1 => ?_)) (h2.cong (by rw [ex _ (by omega) (by omega)]) (ex _ (by omega) (by omega)) (fun k g1 g2 => ?_)) ⟨by omega, ?_, e4, fun vv c2 hv hc2 => ?_, fun vv hv => ?_⟩ (h4.cong (by rw [ex _ (by omega) (by omega)]) (ex _ (by omega) (by omega)) (fun k g1 g2 => ?_)) (h5.cong (by rw [ex _ (by omega) (by omega)]) (ex _ (by omega) (by omega)) (fun k g1 g2 => ?_)) (h6.cong (by rw [ex _ (by omega) (by omega)]) (ex _ (by omega) (by omega)) (fun k g1 g2 => ?_)) (h7.cong (by rw [ex _ (by omega) (by omega)]) (by rw [ex _ (by omega) (by omega)]) (fun k g1 g2 => ?_)) (h8.cong2 h2.1 (by omega) (by omega) (by rw [ex _ (by omega) (by omega)]) (ex _ (by omega) (by omega)) (fun k g1 g2 => ?_) (fun vv ww g1 g2 => ?_))
  · simp (disch := omega) only [gI_pI_eq, upd_ne]
  · simp (disch := omega) only [gI_pI_eq, upd_ne]
  · rw [gI_pI_eq, upd_eq]
  · by_cases hq : vv = ns
    · subst hq
      have hz : c2 = 0 ∨ c2 = 1 ∨ c2 = 2 ∨ c2 = 3 := by omega
      rcases hz with rfl | rfl | rfl | rfl
      · rw [e7, show 46 + 4 * vv + 0 = 46 + 4 * vv from rfl]; simp (disch := omega) only [gI_pI_eq, upd_ne, upd_eq]
      · rw [e8, show 46 + 4 * vv + 1 = 47 + 4 * vv by omega]; simp (disch := omega) only [gI_pI_eq, upd_ne, upd_eq]
      · rw [e9, h7.2.2.1, show 46 + 4 * vv + 2 = 48 + 4 * vv by omega]; simp (disch := omega) only [gI_pI_eq, upd_ne, upd_eq]; exact h7.2.1.symm
      · rw [e10, show 46 + 4 * vv + 3 = 49 + 4 * vv by omega]; simp (disch := omega) only [gI_pI_eq, upd_ne, upd_eq]
    · rw [e6 _ (by omega), s4z vv c2 (by omega) hc2]
      simp (disch := omega) only [gI_pI_eq, upd_ne]
  · by_cases hq : vv = ns
    · subst hq
      simp (disch := omega) only [gI_pI_eq, upd_ne, upd_eq]
      exact ⟨⟨kk, hk, rfl⟩, uu, hu, rfl⟩
    · simp (disch := omega) only [gI_pI_eq, upd_ne]
      exact s5z vv (by omega)
  · simp (disch := omega) only [gI_pI_eq, upd_ne]
  · simp (disch := omega) only [gI_pI_eq, upd_ne]
  · simp (disch := omega) only [gI_pI_eq, upd_ne]
  · simp (disch := omega) only [gI_pI_eq, upd_ne]
  · simp (disch := omega) only [gI_pI_eq, upd_ne]
  · simp (disch := omega) only [gI_pI_eq, upd_ne]
end C7
