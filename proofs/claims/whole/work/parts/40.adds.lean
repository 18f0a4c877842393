/-! ===== readings, notes, marks ===== -/
section D3
variable {σx σm : SS}
theorem add8_x {σ : SS} {n0 : Nat} (v0 v1 v2 : Int32) (h0 : gI σ 8 0 = nI 3) (h1 : gI σ 8 1 = nI 4) (h3 : gI σ 8 3 = nI n0) (hn : n0 < 4) : ∃ σ', FX4_addReading 1 v0 v1 v2 σ = some (nI (n0 + 1), σ') ∧ Eq0 (fun c => c = 8 ∨ c = 9) σ σ' ∧ (gI σ' 8 0 = nI 3 ∧ gI σ' 8 1 = nI 4 ∧ gI σ' 8 3 = nI (n0 + 1)) ∧ (∀ k, k < n0 * 3 → gI σ' 9 k = gI σ 9 k) ∧ gI σ' 9 (n0 * 3 + 0) = v0 ∧ gI σ' 9 (n0 * 3 + 1) = v1 ∧ gI σ' 9 (n0 * 3 + 2) = v2 := by
  obtain ⟨s2, hs2⟩ : ∃ s, s = pA (pI σ 8 3 (nI (n0 + 1))) 9 (fun k => if n0 * 3 ≤ k ∧ k < n0 * 3 + 3 then nI 0 else gI σ 9 k) := ⟨_, rfl⟩
  have o1 : FX9_open 8 σ = some (nI n0, s2) := by rw [hs2]; exact open_in kd_8 h0 h1 h3 ln_9 hn (by omega) (by omega) (by omega) (by omega)
  have w0 : gI s2 8 0 = nI 3 := by rw [hs2, gI_pA_ne (by omega), gI_pI_eq, upd_ne (by omega)]; exact h0
  have w1z : gI s2 8 1 = nI 4 := by rw [hs2, gI_pA_ne (by omega), gI_pI_eq, upd_ne (by omega)]; exact h1
  have w3z : gI s2 8 3 = nI (n0 + 1) := by rw [hs2, gI_pA_ne (by omega), gI_pI_eq, upd_eq]
  have p0z : FX9_put 8 (nI n0) (nI 0) v0 s2 = some (pI s2 9 (n0 * 3 + 0) v0) := put_in kd_8 w0 w3z ln_9 (by omega) (by omega) (by omega) (by omega) (by omega) (by omega)
  have p1z : FX9_put 8 (nI n0) (nI 1) v1 (pI s2 9 (n0 * 3 + 0) v0) = some (pI (pI s2 9 (n0 * 3 + 0) v0) 9 (n0 * 3 + 1) v1) := put_in kd_8 (by rw [gI_pI_ne (by omega)]; exact w0) (by rw [gI_pI_ne (by omega)]; exact w3z) ln_9 (by omega) (by omega) (by omega) (by omega) (by omega) (by omega)
  have p2z : FX9_put 8 (nI n0) (nI 2) v2 (pI (pI s2 9 (n0 * 3 + 0) v0) 9 (n0 * 3 + 1) v1) = some (pI (pI (pI s2 9 (n0 * 3 + 0) v0) 9 (n0 * 3 + 1) v1) 9 (n0 * 3 + 2) v2) := put_in kd_8 (by rw [gI_pI_ne (by omega), gI_pI_ne (by omega)]; exact w0) (by rw [gI_pI_ne (by omega), gI_pI_ne (by omega)]; exact w3z) ln_9 (by omega) (by omega) (by omega) (by omega) (by omega) (by omega)
  refine ⟨(pI (pI (pI s2 9 (n0 * 3 + 0) v0) 9 (n0 * 3 + 1) v1) 9 (n0 * 3 + 2) v2), ?_, ?_, ⟨?_, ?_, ?_⟩, fun k hk => ?_, ?_, ?_, ?_⟩
  · unfold FX4_addReading
    rw [lk_1_4, bd2_of o1, nm_eq, bd_of p0z, bd_of p1z, bd_of p2z, gI_pI_ne (by omega), gI_pI_ne (by omega), gI_pI_ne (by omega), w3z]
  · rw [hs2]; exact (Eq0.pI (Or.inl rfl)).tr ((Eq0.pA (Or.inr rfl)).tr ((Eq0.pI (Or.inr rfl)).tr ((Eq0.pI (Or.inr rfl)).tr (Eq0.pI (Or.inr rfl)))))
  · rw [gI_pI_ne (by omega), gI_pI_ne (by omega), gI_pI_ne (by omega)]; exact w0
  · rw [gI_pI_ne (by omega), gI_pI_ne (by omega), gI_pI_ne (by omega)]; exact w1z
  · rw [gI_pI_ne (by omega), gI_pI_ne (by omega), gI_pI_ne (by omega)]; exact w3z
  · rw [hs2]; simp (disch := omega) only [gI_pI_eq, gI_pA_eq, upd_ne]; rw [if_neg (by omega)]
  · simp (disch := omega) only [gI_pI_eq, upd_ne, upd_eq]
  · simp (disch := omega) only [gI_pI_eq, upd_ne, upd_eq]
  · simp (disch := omega) only [gI_pI_eq, upd_ne, upd_eq]
theorem q_reading (R : Rel σx σm) (a b c : Int32) : Cm (FX11_reading 0 a b c σx) (FX12_reading 78 a b c σm) := by
  obtain ⟨⟨nu, ns, nr, nn, nk, np, hr, hI, hbd⟩, hT, -⟩ := id R
  obtain ⟨j1, j2, j3, j4, j5, j6, j7, j8⟩ := hI.parts
  have hu7 := hI.1.1
  have hs5 := hI.1.2.1
  have hp8 := hI.1.2.2.2.2.2.1
  unfold FX11_reading FX12_reading
  rw [l_N0, l_7, l_11, l_20]
  simp only [lk_0_0, lk_1_4, lk_78_0, ln_79]
  refine cq_bdx (isHod_eq _ _) (cq_bdm (in_eq _ _ _ _) (cq_guard R (fun h1 => ?_)))
  refine cq_bdx (isCell_eq _ _) (cq_bdm (in_eq _ _ _ _) (cq_guard R (fun h2 => ?_)))
  refine cq_bdx (within_eq _ _ _ _) (cq_bdm (in_eq _ _ _ _) (cq_guard R (fun h3 => ?_)))
  obtain ⟨hh, -, hh7, rfl⟩ := wi_in (by omega) (by omega) h1
  obtain ⟨cc, -, hc11, rfl⟩ := wi_in (by omega) (by omega) h2
  have hb68 := hI.1.2.2.1
  have hR68 := hI.2.1.2.2.1
  refine cq_bdx (isFull_eq 8 σx hI.2.2.1.2.2.1 hT.1.1.2.2.1.2 (by omega) (by omega)) (cq_gm (inb_n (by omega) (by omega)) ?_)
  rw [ix_n (n := 68) (by omega), hR68]
  by_cases hf : nr < 4
  · rw [if_pos hf, if_pos rfl, if_neg (fun hq => by have := (nI_eqn (by omega) (by omega)).mp hq; omega)]
    obtain ⟨σx', e1, e2, ⟨e3, e4, e5⟩, e6, y0, y1, y2⟩ := add8_x (nI hh) (nI cc) c hT.1.1.2.2.1.1 hT.1.1.2.2.1.2 hI.2.2.1.2.2.1 hf
    refine cq_bd2x e1 ?_
    simp only [nm_eq]
    rw [nI_muln, nI_addn 69, nI_addn _ 1, nI_addn _ 2, gd_n (by omega) (by omega), gd_n (by omega) (by omega), gd_n (by omega) (by omega), gd_n (by omega) (by omega), gd_n (by omega) (by omega), gd_n (by omega) (by omega), gd_n (by omega) (by omega), ix_n (by omega), ix_n (by omega), ix_n (by omega)]
    have e68 : gI (pI (pI (pI σm 79 (69 + 3 * nr) (nI hh)) 79 (69 + 3 * nr + 1) (nI cc)) 79 (69 + 3 * nr + 2) c) 79 68 = nI nr := by
      simp (disch := omega) only [gI_pI_eq, upd_ne]
      exact hR68
    rw [e68, nI_addn, gI_pI_eq, upd_eq]
    have ex : ∀ c, c ≠ 8 → c ≠ 9 → gI σx' c = gI σx c := fun c g1 g2 => e2.1 c (fun hq => by rcases hq with hq | hq <;> omega)
    have em : ∀ k, k < 68 ∨ 81 ≤ k → gI (pI (pI (pI (pI σm 79 (69 + 3 * nr) (nI hh)) 79 (69 + 3 * nr + 1) (nI cc)) 79 (69 + 3 * nr + 2) c) 79 68 (nI (nr + 1))) 79 k = gI σm 79 k := fun k hk => by simp (disch := omega) only [gI_pI_eq, upd_ne]
    refine cq_some (rel_now R (e2.up (fun c hq => Or.inl (by rcases hq with hq | hq <;> omega))) ((Eq0.pI (Or.inl rfl)).tr ((Eq0.pI (Or.inl rfl)).tr ((Eq0.pI (Or.inl rfl)).tr (Eq0.pI (Or.inl rfl))))) (hT.1.1.keep (fun dd hd => ?_)) ⟨nu, ns, nr + 1, nn, nk, np, hr, ?_, ?_⟩)
    · rcases hd with rfl | rfl | rfl | rfl | rfl | rfl
      · rw [ex _ (by omega) (by omega)]; exact ⟨rfl, rfl⟩
      · rw [ex _ (by omega) (by omega)]; exact ⟨rfl, rfl⟩
      · exact ⟨e3.trans hT.1.1.2.2.1.1.symm, e4.trans hT.1.1.2.2.1.2.symm⟩
      · rw [ex _ (by omega) (by omega)]; exact ⟨rfl, rfl⟩
      · rw [ex _ (by omega) (by omega)]; exact ⟨rfl, rfl⟩
      · rw [ex _ (by omega) (by omega)]; exact ⟨rfl, rfl⟩
    · refine ir_of (j1.cong (ex _ (by omega) (by omega)) (ex _ (by omega) (by omega)) (fun k g1 => em k (by omega))) (j2.cong (by rw [ex _ (by omega) (by omega)]) (ex _ (by omega) (by omega)) (fun k g1 g2 => em k (by omega))) (j3.cong (by rw [ex _ (by omega) (by omega)]) (ex _ (by omega) (by omega)) (fun k g1 g2 => em k (by omega))) ⟨by omega, ?_, e5, fun uu cc hu hc => ?_, fun vv hv => ?_⟩ (j5.cong (by rw [ex _ (by omega) (by omega)]) (ex _ (by omega) (by omega)) (fun k g1 g2 => em k (by omega))) (j6.cong (by rw [ex _ (by omega) (by omega)]) (ex _ (by omega) (by omega)) (fun k g1 g2 => em k (by omega))) (j7.cong (by rw [ex _ (by omega) (by omega)]) (by rw [ex _ (by omega) (by omega)]) (fun k g1 g2 => em k (by omega))) (j8.cong hu7 hs5 (by rw [ex _ (by omega) (by omega)]) (ex _ (by omega) (by omega)) (fun k g1 g2 => em k (by omega)) (fun vv ww g1 g2 => em _ (by omega)))
      · rw [gI_pI_eq, upd_eq]
      · show gI σx' 9 _ = _
        by_cases hq : uu = nr
        · rw [hq]
          have hz : cc = 0 ∨ cc = 1 ∨ cc = 2 := by omega
          rcases hz with rfl | rfl | rfl
          · rw [y0, show 69 + 3 * nr + 0 = 69 + 3 * nr from rfl]; simp (disch := omega) only [gI_pI_eq, upd_ne, upd_eq]
          · rw [y1]; simp (disch := omega) only [gI_pI_eq, upd_ne, upd_eq]
          · rw [y2]; simp (disch := omega) only [gI_pI_eq, upd_ne, upd_eq]
        · rw [e6 _ (by omega)]; simp (disch := omega) only [gI_pI_eq, upd_ne]; exact j4.2.2.2.1 uu cc (by omega) hc
      · by_cases hq : vv = nr
        · rw [hq, show 70 + 3 * nr = 69 + 3 * nr + 1 by omega]
          refine ⟨⟨hh, hh7, ?_⟩, cc, hc11, ?_⟩
          · simp (disch := omega) only [gI_pI_eq, upd_ne, upd_eq]
          · simp (disch := omega) only [gI_pI_eq, upd_ne, upd_eq]
        · simp (disch := omega) only [gI_pI_eq, upd_ne]; exact j4.2.2.2.2 vv (by omega)
    · exact bd_cong hbd (fun uu hu => em _ (by omega)) (fun vv hv => em _ (by omega)) (fun jj z h8 h9 => em _ (by omega)) hu7 (fun k k1 k2 => em k (by omega))
  · have h9 : nr = 4 := by omega
    rw [if_neg hf, if_neg n1_0, h9, if_pos rfl]
    exact cq_full R
theorem add10_x {σ : SS} {n0 : Nat} (v0 v1 v2 v3 v4 : Int32) (h0 : gI σ 10 0 = nI 5) (h1 : gI σ 10 1 = nI 6) (h3 : gI σ 10 3 = nI n0) (hn : n0 < 6) : ∃ σ', FX4_addNote 1 v0 v1 v2 v3 v4 σ = some (nI (n0 + 1), σ') ∧ Eq0 (fun c => c = 10 ∨ c = 11) σ σ' ∧ (gI σ' 10 0 = nI 5 ∧ gI σ' 10 1 = nI 6 ∧ gI σ' 10 3 = nI (n0 + 1)) ∧ (∀ k, k < n0 * 5 → gI σ' 11 k = gI σ 11 k) ∧ gI σ' 11 (n0 * 5 + 0) = v0 ∧ gI σ' 11 (n0 * 5 + 1) = v1 ∧ gI σ' 11 (n0 * 5 + 2) = v2 ∧ gI σ' 11 (n0 * 5 + 3) = v3 ∧ gI σ' 11 (n0 * 5 + 4) = v4 := by
  obtain ⟨s2, hs2⟩ : ∃ s, s = pA (pI σ 10 3 (nI (n0 + 1))) 11 (fun k => if n0 * 5 ≤ k ∧ k < n0 * 5 + 5 then nI 0 else gI σ 11 k) := ⟨_, rfl⟩
  have o1 : FX9_open 10 σ = some (nI n0, s2) := by rw [hs2]; exact open_in kd_10 h0 h1 h3 ln_11 hn (by omega) (by omega) (by omega) (by omega)
  have w0 : gI s2 10 0 = nI 5 := by rw [hs2, gI_pA_ne (by omega), gI_pI_eq, upd_ne (by omega)]; exact h0
  have w1z : gI s2 10 1 = nI 6 := by rw [hs2, gI_pA_ne (by omega), gI_pI_eq, upd_ne (by omega)]; exact h1
  have w3z : gI s2 10 3 = nI (n0 + 1) := by rw [hs2, gI_pA_ne (by omega), gI_pI_eq, upd_eq]
  have p0z : FX9_put 10 (nI n0) (nI 0) v0 s2 = some (pI s2 11 (n0 * 5 + 0) v0) := put_in kd_10 w0 w3z ln_11 (by omega) (by omega) (by omega) (by omega) (by omega) (by omega)
  have p1z : FX9_put 10 (nI n0) (nI 1) v1 (pI s2 11 (n0 * 5 + 0) v0) = some (pI (pI s2 11 (n0 * 5 + 0) v0) 11 (n0 * 5 + 1) v1) := put_in kd_10 (by rw [gI_pI_ne (by omega)]; exact w0) (by rw [gI_pI_ne (by omega)]; exact w3z) ln_11 (by omega) (by omega) (by omega) (by omega) (by omega) (by omega)
  have p2z : FX9_put 10 (nI n0) (nI 2) v2 (pI (pI s2 11 (n0 * 5 + 0) v0) 11 (n0 * 5 + 1) v1) = some (pI (pI (pI s2 11 (n0 * 5 + 0) v0) 11 (n0 * 5 + 1) v1) 11 (n0 * 5 + 2) v2) := put_in kd_10 (by rw [gI_pI_ne (by omega), gI_pI_ne (by omega)]; exact w0) (by rw [gI_pI_ne (by omega), gI_pI_ne (by omega)]; exact w3z) ln_11 (by omega) (by omega) (by omega) (by omega) (by omega) (by omega)
  have p3z : FX9_put 10 (nI n0) (nI 3) v3 (pI (pI (pI s2 11 (n0 * 5 + 0) v0) 11 (n0 * 5 + 1) v1) 11 (n0 * 5 + 2) v2) = some (pI (pI (pI (pI s2 11 (n0 * 5 + 0) v0) 11 (n0 * 5 + 1) v1) 11 (n0 * 5 + 2) v2) 11 (n0 * 5 + 3) v3) := put_in kd_10 (by rw [gI_pI_ne (by omega), gI_pI_ne (by omega), gI_pI_ne (by omega)]; exact w0) (by rw [gI_pI_ne (by omega), gI_pI_ne (by omega), gI_pI_ne (by omega)]; exact w3z) ln_11 (by omega) (by omega) (by omega) (by omega) (by omega) (by omega)
  have p4z : FX9_put 10 (nI n0) (nI 4) v4 (pI (pI (pI (pI s2 11 (n0 * 5 + 0) v0) 11 (n0 * 5 + 1) v1) 11 (n0 * 5 + 2) v2) 11 (n0 * 5 + 3) v3) = some (pI (pI (pI (pI (pI s2 11 (n0 * 5 + 0) v0) 11 (n0 * 5 + 1) v1) 11 (n0 * 5 + 2) v2) 11 (n0 * 5 + 3) v3) 11 (n0 * 5 + 4) v4) := put_in kd_10 (by rw [gI_pI_ne (by omega), gI_pI_ne (by omega), gI_pI_ne (by omega), gI_pI_ne (by omega)]; exact w0) (by rw [gI_pI_ne (by omega), gI_pI_ne (by omega), gI_pI_ne (by omega), gI_pI_ne (by omega)]; exact w3z) ln_11 (by omega) (by omega) (by omega) (by omega) (by omega) (by omega)
  refine ⟨(pI (pI (pI (pI (pI s2 11 (n0 * 5 + 0) v0) 11 (n0 * 5 + 1) v1) 11 (n0 * 5 + 2) v2) 11 (n0 * 5 + 3) v3) 11 (n0 * 5 + 4) v4), ?_, ?_, ⟨?_, ?_, ?_⟩, fun k hk => ?_, ?_, ?_, ?_, ?_, ?_⟩
  · unfold FX4_addNote
    rw [lk_1_5, bd2_of o1, nm_eq, bd_of p0z, bd_of p1z, bd_of p2z, bd_of p3z, bd_of p4z, gI_pI_ne (by omega), gI_pI_ne (by omega), gI_pI_ne (by omega), gI_pI_ne (by omega), gI_pI_ne (by omega), w3z]
  · rw [hs2]; exact (Eq0.pI (Or.inl rfl)).tr ((Eq0.pA (Or.inr rfl)).tr ((Eq0.pI (Or.inr rfl)).tr ((Eq0.pI (Or.inr rfl)).tr ((Eq0.pI (Or.inr rfl)).tr ((Eq0.pI (Or.inr rfl)).tr (Eq0.pI (Or.inr rfl)))))))
  · rw [gI_pI_ne (by omega), gI_pI_ne (by omega), gI_pI_ne (by omega), gI_pI_ne (by omega), gI_pI_ne (by omega)]; exact w0
  · rw [gI_pI_ne (by omega), gI_pI_ne (by omega), gI_pI_ne (by omega), gI_pI_ne (by omega), gI_pI_ne (by omega)]; exact w1z
  · rw [gI_pI_ne (by omega), gI_pI_ne (by omega), gI_pI_ne (by omega), gI_pI_ne (by omega), gI_pI_ne (by omega)]; exact w3z
  · rw [hs2]; simp (disch := omega) only [gI_pI_eq, gI_pA_eq, upd_ne]; rw [if_neg (by omega)]
  · simp (disch := omega) only [gI_pI_eq, upd_ne, upd_eq]
  · simp (disch := omega) only [gI_pI_eq, upd_ne, upd_eq]
  · simp (disch := omega) only [gI_pI_eq, upd_ne, upd_eq]
  · simp (disch := omega) only [gI_pI_eq, upd_ne, upd_eq]
  · simp (disch := omega) only [gI_pI_eq, upd_ne, upd_eq]
theorem q_note (R : Rel σx σm) (a b c d g : Int32) : Cm (FX11_note 0 a b c d g σx) (FX12_note 78 a b c d g σm) := by
  obtain ⟨⟨nu, ns, nr, nn, nk, np, hr, hI, hbd⟩, hT, -⟩ := id R
  obtain ⟨j1, j2, j3, j4, j5, j6, j7, j8⟩ := hI.parts
  have hu7 := hI.1.1
  have hs5 := hI.1.2.1
  have hp8 := hI.1.2.2.2.2.2.1
  unfold FX11_note FX12_note
  rw [l_N0, l_N1, l_4, l_20, l_200]
  simp only [lk_0_0, lk_1_5, lk_78_0, ln_79]
  refine cq_bdx (isUser_x a σx) (cq_bdm (isUser_m a σm) ?_)
  rw [hI.2.2.1.1, hI.2.1.1]
  refine cq_guard R (fun h1 => ?_)
  refine cq_bdx (isHeight_eq _ _) (cq_bdm (in_eq _ _ _ _) (cq_guard R (fun h2 => ?_)))
  refine cq_bdx (within_eq _ _ _ _) (cq_bdm (in_eq _ _ _ _) (cq_guard R (fun h3 => ?_)))
  refine cq_bdx (within_eq _ _ _ _) (cq_bdm (in_eq _ _ _ _) (cq_guard R (fun h4 => ?_)))
  refine cq_bdx (within_eq _ _ _ _) (cq_bdm (in_eq _ _ _ _) (cq_guard R (fun h5 => ?_)))
  obtain ⟨hh, -, hh4, rfl⟩ := wi_in (by omega) (by omega) h2
  obtain ⟨sx, -, hs20, rfl⟩ := wi_in (by omega) (by omega) h3
  have hb81 := hI.1.2.2.2.1
  have hR81 := hI.2.1.2.2.2.1
  refine cq_bdx (isFull_eq 10 σx hI.2.2.1.2.2.2.1 hT.1.1.2.2.2.1.2 (by omega) (by omega)) (cq_gm (inb_n (by omega) (by omega)) ?_)
  rw [ix_n (n := 81) (by omega), hR81]
  by_cases hf : nn < 6
  · rw [if_pos hf, if_pos rfl, if_neg (fun hq => by have := (nI_eqn (by omega) (by omega)).mp hq; omega)]
    obtain ⟨σx', e1, e2, ⟨e3, e4, e5⟩, e6, y0, y1, y2, y3, y4⟩ := add10_x a (nI hh) (nI sx) d g hT.1.1.2.2.2.1.1 hT.1.1.2.2.2.1.2 hI.2.2.1.2.2.2.1 hf
    refine cq_bd2x e1 ?_
    simp only [nm_eq]
    rw [nI_muln, nI_addn 82, nI_addn _ 1, nI_addn _ 2, nI_addn _ 3, nI_addn _ 4, gd_n (by omega) (by omega), gd_n (by omega) (by omega), gd_n (by omega) (by omega), gd_n (by omega) (by omega), gd_n (by omega) (by omega), gd_n (by omega) (by omega), gd_n (by omega) (by omega), gd_n (by omega) (by omega), gd_n (by omega) (by omega), ix_n (by omega), ix_n (by omega), ix_n (by omega), ix_n (by omega), ix_n (by omega)]
    have e81 : gI (pI (pI (pI (pI (pI σm 79 (82 + 5 * nn) a) 79 (82 + 5 * nn + 1) (nI hh)) 79 (82 + 5 * nn + 2) (nI sx)) 79 (82 + 5 * nn + 3) d) 79 (82 + 5 * nn + 4) g) 79 81 = nI nn := by
      simp (disch := omega) only [gI_pI_eq, upd_ne]
      exact hR81
    rw [e81, nI_addn, gI_pI_eq, upd_eq]
    have ex : ∀ c, c ≠ 10 → c ≠ 11 → gI σx' c = gI σx c := fun c g1 g2 => e2.1 c (fun hq => by rcases hq with hq | hq <;> omega)
    have em : ∀ k, k < 81 ∨ 112 ≤ k → gI (pI (pI (pI (pI (pI (pI σm 79 (82 + 5 * nn) a) 79 (82 + 5 * nn + 1) (nI hh)) 79 (82 + 5 * nn + 2) (nI sx)) 79 (82 + 5 * nn + 3) d) 79 (82 + 5 * nn + 4) g) 79 81 (nI (nn + 1))) 79 k = gI σm 79 k := fun k hk => by simp (disch := omega) only [gI_pI_eq, upd_ne]
    refine cq_some (rel_now R (e2.up (fun c hq => Or.inl (by rcases hq with hq | hq <;> omega))) ((Eq0.pI (Or.inl rfl)).tr ((Eq0.pI (Or.inl rfl)).tr ((Eq0.pI (Or.inl rfl)).tr ((Eq0.pI (Or.inl rfl)).tr ((Eq0.pI (Or.inl rfl)).tr (Eq0.pI (Or.inl rfl))))))) (hT.1.1.keep (fun dd hd => ?_)) ⟨nu, ns, nr, nn + 1, nk, np, hr, ?_, ?_⟩)
    · rcases hd with rfl | rfl | rfl | rfl | rfl | rfl
      · rw [ex _ (by omega) (by omega)]; exact ⟨rfl, rfl⟩
      · rw [ex _ (by omega) (by omega)]; exact ⟨rfl, rfl⟩
      · rw [ex _ (by omega) (by omega)]; exact ⟨rfl, rfl⟩
      · exact ⟨e3.trans hT.1.1.2.2.2.1.1.symm, e4.trans hT.1.1.2.2.2.1.2.symm⟩
      · rw [ex _ (by omega) (by omega)]; exact ⟨rfl, rfl⟩
      · rw [ex _ (by omega) (by omega)]; exact ⟨rfl, rfl⟩
    · refine ir_of (j1.cong (ex _ (by omega) (by omega)) (ex _ (by omega) (by omega)) (fun k g1 => em k (by omega))) (j2.cong (by rw [ex _ (by omega) (by omega)]) (ex _ (by omega) (by omega)) (fun k g1 g2 => em k (by omega))) (j3.cong (by rw [ex _ (by omega) (by omega)]) (ex _ (by omega) (by omega)) (fun k g1 g2 => em k (by omega))) (j4.cong (by rw [ex _ (by omega) (by omega)]) (ex _ (by omega) (by omega)) (fun k g1 g2 => em k (by omega))) ⟨by omega, ?_, e5, fun uu cc hu hc => ?_⟩ (j6.cong (by rw [ex _ (by omega) (by omega)]) (ex _ (by omega) (by omega)) (fun k g1 g2 => em k (by omega))) (j7.cong (by rw [ex _ (by omega) (by omega)]) (by rw [ex _ (by omega) (by omega)]) (fun k g1 g2 => em k (by omega))) (j8.cong hu7 hs5 (by rw [ex _ (by omega) (by omega)]) (ex _ (by omega) (by omega)) (fun k g1 g2 => em k (by omega)) (fun vv ww g1 g2 => em _ (by omega)))
      · rw [gI_pI_eq, upd_eq]
      · show gI σx' 11 _ = _
        by_cases hq : uu = nn
        · rw [hq]
          have hz : cc = 0 ∨ cc = 1 ∨ cc = 2 ∨ cc = 3 ∨ cc = 4 := by omega
          rcases hz with rfl | rfl | rfl | rfl | rfl
          · rw [y0, show 82 + 5 * nn + 0 = 82 + 5 * nn from rfl]; simp (disch := omega) only [gI_pI_eq, upd_ne, upd_eq]
          · rw [y1]; simp (disch := omega) only [gI_pI_eq, upd_ne, upd_eq]
          · rw [y2]; simp (disch := omega) only [gI_pI_eq, upd_ne, upd_eq]
          · rw [y3]; simp (disch := omega) only [gI_pI_eq, upd_ne, upd_eq]
          · rw [y4]; simp (disch := omega) only [gI_pI_eq, upd_ne, upd_eq]
        · rw [e6 _ (by omega)]; simp (disch := omega) only [gI_pI_eq, upd_ne]; exact j5.2.2.2 uu cc (by omega) hc
    · obtain ⟨b1, b2z, b3z, n5, b4z, b5z, b6z⟩ := hbd
      have hne : n5 = nn := (nI_eqn (by omega) (by omega)).mp (b5z.symm.trans hR81)
      subst hne
      refine ⟨fun uu hu => by rw [em _ (by omega)]; exact b1 uu hu, fun vv hv => by rw [em _ (by omega)]; exact b2z vv hv, fun jj hj => ?_, n5 + 1, by omega, ?_, fun vv hv => ?_⟩
      · obtain ⟨h9, k1, k2, k3⟩ := b3z jj hj
        exact ⟨h9, k1, by rw [em _ (by omega)]; exact k2, fun uu hu => by rw [em _ (by omega)]; exact k3 uu hu⟩
      · rw [gI_pI_eq, upd_eq]
      · by_cases hq : vv = n5
        · rw [hq, show 83 + 5 * n5 = 82 + 5 * n5 + 1 by omega, show 84 + 5 * n5 = 82 + 5 * n5 + 2 by omega]
          refine ⟨⟨hh, hh4, ?_⟩, sx, hs20, ?_⟩
          · simp (disch := omega) only [gI_pI_eq, upd_ne, upd_eq]
          · simp (disch := omega) only [gI_pI_eq, upd_ne, upd_eq]
        · simp (disch := omega) only [gI_pI_eq, upd_ne]; exact b6z vv (by omega)
  · have h9 : nn = 6 := by omega
    rw [if_neg hf, if_neg n1_0, h9, if_pos rfl]
    exact cq_full R
theorem add12_x {σ : SS} {n0 : Nat} (v0 v1 v2 v3 : Int32) (h0 : gI σ 12 0 = nI 4) (h1 : gI σ 12 1 = nI 6) (h3 : gI σ 12 3 = nI n0) (hn : n0 < 6) : ∃ σ', FX4_addMark 1 v0 v1 v2 v3 σ = some (nI (n0 + 1), σ') ∧ Eq0 (fun c => c = 12 ∨ c = 13) σ σ' ∧ (gI σ' 12 0 = nI 4 ∧ gI σ' 12 1 = nI 6 ∧ gI σ' 12 3 = nI (n0 + 1)) ∧ (∀ k, k < n0 * 4 → gI σ' 13 k = gI σ 13 k) ∧ gI σ' 13 (n0 * 4 + 0) = v0 ∧ gI σ' 13 (n0 * 4 + 1) = v1 ∧ gI σ' 13 (n0 * 4 + 2) = v2 ∧ gI σ' 13 (n0 * 4 + 3) = v3 := by
  obtain ⟨s2, hs2⟩ : ∃ s, s = pA (pI σ 12 3 (nI (n0 + 1))) 13 (fun k => if n0 * 4 ≤ k ∧ k < n0 * 4 + 4 then nI 0 else gI σ 13 k) := ⟨_, rfl⟩
  have o1 : FX9_open 12 σ = some (nI n0, s2) := by rw [hs2]; exact open_in kd_12 h0 h1 h3 ln_13 hn (by omega) (by omega) (by omega) (by omega)
  have w0 : gI s2 12 0 = nI 4 := by rw [hs2, gI_pA_ne (by omega), gI_pI_eq, upd_ne (by omega)]; exact h0
  have w1z : gI s2 12 1 = nI 6 := by rw [hs2, gI_pA_ne (by omega), gI_pI_eq, upd_ne (by omega)]; exact h1
  have w3z : gI s2 12 3 = nI (n0 + 1) := by rw [hs2, gI_pA_ne (by omega), gI_pI_eq, upd_eq]
  have p0z : FX9_put 12 (nI n0) (nI 0) v0 s2 = some (pI s2 13 (n0 * 4 + 0) v0) := put_in kd_12 w0 w3z ln_13 (by omega) (by omega) (by omega) (by omega) (by omega) (by omega)
  have p1z : FX9_put 12 (nI n0) (nI 1) v1 (pI s2 13 (n0 * 4 + 0) v0) = some (pI (pI s2 13 (n0 * 4 + 0) v0) 13 (n0 * 4 + 1) v1) := put_in kd_12 (by rw [gI_pI_ne (by omega)]; exact w0) (by rw [gI_pI_ne (by omega)]; exact w3z) ln_13 (by omega) (by omega) (by omega) (by omega) (by omega) (by omega)
  have p2z : FX9_put 12 (nI n0) (nI 2) v2 (pI (pI s2 13 (n0 * 4 + 0) v0) 13 (n0 * 4 + 1) v1) = some (pI (pI (pI s2 13 (n0 * 4 + 0) v0) 13 (n0 * 4 + 1) v1) 13 (n0 * 4 + 2) v2) := put_in kd_12 (by rw [gI_pI_ne (by omega), gI_pI_ne (by omega)]; exact w0) (by rw [gI_pI_ne (by omega), gI_pI_ne (by omega)]; exact w3z) ln_13 (by omega) (by omega) (by omega) (by omega) (by omega) (by omega)
  have p3z : FX9_put 12 (nI n0) (nI 3) v3 (pI (pI (pI s2 13 (n0 * 4 + 0) v0) 13 (n0 * 4 + 1) v1) 13 (n0 * 4 + 2) v2) = some (pI (pI (pI (pI s2 13 (n0 * 4 + 0) v0) 13 (n0 * 4 + 1) v1) 13 (n0 * 4 + 2) v2) 13 (n0 * 4 + 3) v3) := put_in kd_12 (by rw [gI_pI_ne (by omega), gI_pI_ne (by omega), gI_pI_ne (by omega)]; exact w0) (by rw [gI_pI_ne (by omega), gI_pI_ne (by omega), gI_pI_ne (by omega)]; exact w3z) ln_13 (by omega) (by omega) (by omega) (by omega) (by omega) (by omega)
  refine ⟨(pI (pI (pI (pI s2 13 (n0 * 4 + 0) v0) 13 (n0 * 4 + 1) v1) 13 (n0 * 4 + 2) v2) 13 (n0 * 4 + 3) v3), ?_, ?_, ⟨?_, ?_, ?_⟩, fun k hk => ?_, ?_, ?_, ?_, ?_⟩
  · unfold FX4_addMark
    rw [lk_1_6, bd2_of o1, nm_eq, bd_of p0z, bd_of p1z, bd_of p2z, bd_of p3z, gI_pI_ne (by omega), gI_pI_ne (by omega), gI_pI_ne (by omega), gI_pI_ne (by omega), w3z]
  · rw [hs2]; exact (Eq0.pI (Or.inl rfl)).tr ((Eq0.pA (Or.inr rfl)).tr ((Eq0.pI (Or.inr rfl)).tr ((Eq0.pI (Or.inr rfl)).tr ((Eq0.pI (Or.inr rfl)).tr (Eq0.pI (Or.inr rfl))))))
  · rw [gI_pI_ne (by omega), gI_pI_ne (by omega), gI_pI_ne (by omega), gI_pI_ne (by omega)]; exact w0
  · rw [gI_pI_ne (by omega), gI_pI_ne (by omega), gI_pI_ne (by omega), gI_pI_ne (by omega)]; exact w1z
  · rw [gI_pI_ne (by omega), gI_pI_ne (by omega), gI_pI_ne (by omega), gI_pI_ne (by omega)]; exact w3z
  · rw [hs2]; simp (disch := omega) only [gI_pI_eq, gI_pA_eq, upd_ne]; rw [if_neg (by omega)]
  · simp (disch := omega) only [gI_pI_eq, upd_ne, upd_eq]
  · simp (disch := omega) only [gI_pI_eq, upd_ne, upd_eq]
  · simp (disch := omega) only [gI_pI_eq, upd_ne, upd_eq]
  · simp (disch := omega) only [gI_pI_eq, upd_ne, upd_eq]
theorem q_mark (R : Rel σx σm) (a b c d : Int32) : Cm (FX11_mark 0 a b c d σx) (FX12_mark 78 a b c d σm) := by
  obtain ⟨⟨nu, ns, nr, nn, nk, np, hr, hI, hbd⟩, hT, -⟩ := id R
  obtain ⟨j1, j2, j3, j4, j5, j6, j7, j8⟩ := hI.parts
  have hu7 := hI.1.1
  have hs5 := hI.1.2.1
  have hp8 := hI.1.2.2.2.2.2.1
  unfold FX11_mark FX12_mark
  rw [l_N0, l_99, l_200, l_999]
  simp only [lk_0_0, lk_1_6, lk_78_0, ln_79]
  refine cq_bdx (isSuit_x a σx) (cq_bdm (isSuit_m a σm) ?_)
  rw [hI.2.2.1.2.1, hI.2.1.2.1]
  refine cq_guard R (fun h1 => ?_)
  refine cq_bdx (within_eq _ _ _ _) (cq_bdm (in_eq _ _ _ _) (cq_guard R (fun h2 => ?_)))
  refine cq_bdx (within_eq _ _ _ _) (cq_bdm (in_eq _ _ _ _) (cq_guard R (fun h3 => ?_)))
  refine cq_bdx (within_eq _ _ _ _) (cq_bdm (in_eq _ _ _ _) (cq_guard R (fun h4 => ?_)))
  have hb112 := hI.1.2.2.2.2.1
  have hR112 := hI.2.1.2.2.2.2.1
  refine cq_bdx (isFull_eq 12 σx hI.2.2.1.2.2.2.2.1 hT.1.1.2.2.2.2.1.2 (by omega) (by omega)) (cq_gm (inb_n (by omega) (by omega)) ?_)
  rw [ix_n (n := 112) (by omega), hR112]
  by_cases hf : nk < 6
  · rw [if_pos hf, if_pos rfl, if_neg (fun hq => by have := (nI_eqn (by omega) (by omega)).mp hq; omega)]
    obtain ⟨σx', e1, e2, ⟨e3, e4, e5⟩, e6, y0, y1, y2, y3⟩ := add12_x a b c d hT.1.1.2.2.2.2.1.1 hT.1.1.2.2.2.2.1.2 hI.2.2.1.2.2.2.2.1 hf
    refine cq_bd2x e1 ?_
    simp only [nm_eq]
    rw [nI_muln, nI_addn 113, nI_addn _ 1, nI_addn _ 2, nI_addn _ 3, gd_n (by omega) (by omega), gd_n (by omega) (by omega), gd_n (by omega) (by omega), gd_n (by omega) (by omega), gd_n (by omega) (by omega), gd_n (by omega) (by omega), gd_n (by omega) (by omega), gd_n (by omega) (by omega), ix_n (by omega), ix_n (by omega), ix_n (by omega), ix_n (by omega)]
    have e112 : gI (pI (pI (pI (pI σm 79 (113 + 4 * nk) a) 79 (113 + 4 * nk + 1) b) 79 (113 + 4 * nk + 2) c) 79 (113 + 4 * nk + 3) d) 79 112 = nI nk := by
      simp (disch := omega) only [gI_pI_eq, upd_ne]
      exact hR112
    rw [e112, nI_addn, gI_pI_eq, upd_eq]
    have ex : ∀ c, c ≠ 12 → c ≠ 13 → gI σx' c = gI σx c := fun c g1 g2 => e2.1 c (fun hq => by rcases hq with hq | hq <;> omega)
    have em : ∀ k, k < 112 ∨ 137 ≤ k → gI (pI (pI (pI (pI (pI σm 79 (113 + 4 * nk) a) 79 (113 + 4 * nk + 1) b) 79 (113 + 4 * nk + 2) c) 79 (113 + 4 * nk + 3) d) 79 112 (nI (nk + 1))) 79 k = gI σm 79 k := fun k hk => by simp (disch := omega) only [gI_pI_eq, upd_ne]
    refine cq_some (rel_now R (e2.up (fun c hq => Or.inl (by rcases hq with hq | hq <;> omega))) ((Eq0.pI (Or.inl rfl)).tr ((Eq0.pI (Or.inl rfl)).tr ((Eq0.pI (Or.inl rfl)).tr ((Eq0.pI (Or.inl rfl)).tr (Eq0.pI (Or.inl rfl)))))) (hT.1.1.keep (fun dd hd => ?_)) ⟨nu, ns, nr, nn, nk + 1, np, hr, ?_, ?_⟩)
    · rcases hd with rfl | rfl | rfl | rfl | rfl | rfl
      · rw [ex _ (by omega) (by omega)]; exact ⟨rfl, rfl⟩
      · rw [ex _ (by omega) (by omega)]; exact ⟨rfl, rfl⟩
      · rw [ex _ (by omega) (by omega)]; exact ⟨rfl, rfl⟩
      · rw [ex _ (by omega) (by omega)]; exact ⟨rfl, rfl⟩
      · exact ⟨e3.trans hT.1.1.2.2.2.2.1.1.symm, e4.trans hT.1.1.2.2.2.2.1.2.symm⟩
      · rw [ex _ (by omega) (by omega)]; exact ⟨rfl, rfl⟩
    · refine ir_of (j1.cong (ex _ (by omega) (by omega)) (ex _ (by omega) (by omega)) (fun k g1 => em k (by omega))) (j2.cong (by rw [ex _ (by omega) (by omega)]) (ex _ (by omega) (by omega)) (fun k g1 g2 => em k (by omega))) (j3.cong (by rw [ex _ (by omega) (by omega)]) (ex _ (by omega) (by omega)) (fun k g1 g2 => em k (by omega))) (j4.cong (by rw [ex _ (by omega) (by omega)]) (ex _ (by omega) (by omega)) (fun k g1 g2 => em k (by omega))) (j5.cong (by rw [ex _ (by omega) (by omega)]) (ex _ (by omega) (by omega)) (fun k g1 g2 => em k (by omega))) ⟨by omega, ?_, e5, fun uu cc hu hc => ?_⟩ (j7.cong (by rw [ex _ (by omega) (by omega)]) (by rw [ex _ (by omega) (by omega)]) (fun k g1 g2 => em k (by omega))) (j8.cong hu7 hs5 (by rw [ex _ (by omega) (by omega)]) (ex _ (by omega) (by omega)) (fun k g1 g2 => em k (by omega)) (fun vv ww g1 g2 => em _ (by omega)))
      · rw [gI_pI_eq, upd_eq]
      · show gI σx' 13 _ = _
        by_cases hq : uu = nk
        · rw [hq]
          have hz : cc = 0 ∨ cc = 1 ∨ cc = 2 ∨ cc = 3 := by omega
          rcases hz with rfl | rfl | rfl | rfl
          · rw [y0, show 113 + 4 * nk + 0 = 113 + 4 * nk from rfl]; simp (disch := omega) only [gI_pI_eq, upd_ne, upd_eq]
          · rw [y1]; simp (disch := omega) only [gI_pI_eq, upd_ne, upd_eq]
          · rw [y2]; simp (disch := omega) only [gI_pI_eq, upd_ne, upd_eq]
          · rw [y3]; simp (disch := omega) only [gI_pI_eq, upd_ne, upd_eq]
        · rw [e6 _ (by omega)]; simp (disch := omega) only [gI_pI_eq, upd_ne]; exact j6.2.2.2 uu cc (by omega) hc
    · exact bd_cong hbd (fun uu hu => em _ (by omega)) (fun vv hv => em _ (by omega)) (fun jj z h8 h9 => em _ (by omega)) hu7 (fun k k1 k2 => em k (by omega))
  · have h9 : nk = 6 := by omega
    rw [if_neg hf, if_neg n1_0, h9, if_pos rfl]
    exact cq_full R
theorem q_forget (R : Rel σx σm) (a : Int32) : Cm (FX11_forget 0 a σx) (FX12_forget 78 a σm) := by
  obtain ⟨⟨nu, ns, nr, nn, nk, np, hr, hI, hbd⟩, hT, -⟩ := id R
  obtain ⟨j1, j2, j3, j4, j5, j6, j7, j8⟩ := hI.parts
  have hu7 := hI.1.1
  have hs5 := hI.1.2.1
  have hp8 := hI.1.2.2.2.2.2.1
  unfold FX11_forget FX12_forget
  rw [l_N0, l_2]
  simp only [lk_0_0, lk_1_4, lk_1_5, lk_1_6, lk_78_0, ln_79, nm_eq]
  refine cq_bdx (within_eq _ _ _ _) (cq_bdm (in_eq _ _ _ _) (cq_guard R (fun h1 => ?_)))
  have keep8 : ∀ dd0, dd0 = 7 ∨ dd0 = 9 ∨ dd0 = 11 → TCw 1 (pI σx (1 + dd0) 3 (nI 0)) := fun dd0 hq => hT.1.1.keep (fun dd hd => by
    by_cases hz : dd = dd0
    · rw [hz, gI_pI_eq, upd_ne (by omega), upd_ne (by omega)]; exact ⟨rfl, rfl⟩
    · rw [gI_pI_ne (by omega)]; exact ⟨rfl, rfl⟩)
  obtain ⟨kk, -, hk, rfl⟩ := wi_in (by omega) (by omega) h1
  have hz : kk = 0 ∨ kk = 1 ∨ kk = 2 := by omega
  rcases hz with rfl | rfl | rfl
  · rw [if_pos nI_0, if_pos nI_0, bd_s, gd_n (by omega) (by omega), gd_n (by omega) (by omega), ix_n (by omega), empty_eq, bd2_s]
    have c8 : gI σx 8 3 = nI nr := hI.2.2.1.2.2.1
    rw [c8, hI.2.1.2.2.1]
    refine cq_some (rel_now R (Eq0.pI (Or.inl (by omega))) (Eq0.pI (Or.inl rfl)) (keep8 7 (by omega)) ⟨nu, ns, 0, nn, nk, np, hr, ?_, ?_⟩)
    · exact ir_of (j1.cong (gI_pI_ne (by omega)) (gI_pI_ne (by omega)) (fun k g1 => by rw [gI_pI_eq, upd_ne (by omega)])) (j2.cong (by rw [gI_pI_ne (by omega)]) (gI_pI_ne (by omega)) (fun k g1 g2 => by rw [gI_pI_eq, upd_ne (by omega)])) (j3.cong (by rw [gI_pI_ne (by omega)]) (gI_pI_ne (by omega)) (fun k g1 g2 => by rw [gI_pI_eq, upd_ne (by omega)])) ⟨by omega, by rw [gI_pI_eq, upd_eq], by rw [gI_pI_eq, upd_eq], fun _ _ hq => absurd hq (Nat.not_lt_zero _), fun _ hq => absurd hq (Nat.not_lt_zero _)⟩ (j5.cong (by rw [gI_pI_ne (by omega)]) (gI_pI_ne (by omega)) (fun k g1 g2 => by rw [gI_pI_eq, upd_ne (by omega)])) (j6.cong (by rw [gI_pI_ne (by omega)]) (gI_pI_ne (by omega)) (fun k g1 g2 => by rw [gI_pI_eq, upd_ne (by omega)])) (j7.cong (by rw [gI_pI_ne (by omega)]) (by rw [gI_pI_ne (by omega)]) (fun k g1 g2 => by rw [gI_pI_eq, upd_ne (by omega)])) (j8.cong hu7 hs5 (by rw [gI_pI_ne (by omega)]) (gI_pI_ne (by omega)) (fun k g1 g2 => by rw [gI_pI_eq, upd_ne (by omega)]) (fun vv ww g1 g2 => by rw [gI_pI_eq, upd_ne (by omega)]))
    · exact bd_cong hbd (fun uu hu => by rw [gI_pI_eq, upd_ne (by omega)]) (fun vv hv => by rw [gI_pI_eq, upd_ne (by omega)]) (fun jj z h8 h9 => by rw [gI_pI_eq, upd_ne (by omega)]) hu7 (fun k k1 k2 => by rw [gI_pI_eq, upd_ne (by omega)])
  · rw [if_neg n1_0, if_neg n1_0, if_pos rfl, if_pos rfl, bd_s, gd_n (by omega) (by omega), gd_n (by omega) (by omega), ix_n (by omega), empty_eq, bd2_s]
    have c8 : gI σx 10 3 = nI nn := hI.2.2.1.2.2.2.1
    rw [c8, hI.2.1.2.2.2.1]
    refine cq_some (rel_now R (Eq0.pI (Or.inl (by omega))) (Eq0.pI (Or.inl rfl)) (keep8 9 (by omega)) ⟨nu, ns, nr, 0, nk, np, hr, ?_, ?_⟩)
    · exact ir_of (j1.cong (gI_pI_ne (by omega)) (gI_pI_ne (by omega)) (fun k g1 => by rw [gI_pI_eq, upd_ne (by omega)])) (j2.cong (by rw [gI_pI_ne (by omega)]) (gI_pI_ne (by omega)) (fun k g1 g2 => by rw [gI_pI_eq, upd_ne (by omega)])) (j3.cong (by rw [gI_pI_ne (by omega)]) (gI_pI_ne (by omega)) (fun k g1 g2 => by rw [gI_pI_eq, upd_ne (by omega)])) (j4.cong (by rw [gI_pI_ne (by omega)]) (gI_pI_ne (by omega)) (fun k g1 g2 => by rw [gI_pI_eq, upd_ne (by omega)])) ⟨by omega, by rw [gI_pI_eq, upd_eq], by rw [gI_pI_eq, upd_eq], fun _ _ hq => absurd hq (Nat.not_lt_zero _)⟩ (j6.cong (by rw [gI_pI_ne (by omega)]) (gI_pI_ne (by omega)) (fun k g1 g2 => by rw [gI_pI_eq, upd_ne (by omega)])) (j7.cong (by rw [gI_pI_ne (by omega)]) (by rw [gI_pI_ne (by omega)]) (fun k g1 g2 => by rw [gI_pI_eq, upd_ne (by omega)])) (j8.cong hu7 hs5 (by rw [gI_pI_ne (by omega)]) (gI_pI_ne (by omega)) (fun k g1 g2 => by rw [gI_pI_eq, upd_ne (by omega)]) (fun vv ww g1 g2 => by rw [gI_pI_eq, upd_ne (by omega)]))
    · obtain ⟨b1, b2z, b3z, -⟩ := hbd
      refine ⟨fun uu hu => by rw [gI_pI_eq, upd_ne (by omega)]; exact b1 uu hu, fun vv hv => by rw [gI_pI_eq, upd_ne (by omega)]; exact b2z vv hv, fun jj hj => ?_, 0, by omega, by rw [gI_pI_eq, upd_eq], fun _ hq => absurd hq (Nat.not_lt_zero _)⟩
      obtain ⟨h9, k1, k2, k3⟩ := b3z jj hj
      exact ⟨h9, k1, by rw [gI_pI_eq, upd_ne (by omega)]; exact k2, fun uu hu => by rw [gI_pI_eq, upd_ne (by omega)]; exact k3 uu hu⟩
  · have n20 : ¬ nI 2 = (0 : Int32) := by decide +kernel
    have n21 : ¬ nI 2 = nI 1 := by decide +kernel
    rw [if_neg n20, if_neg n20, if_neg n21, if_neg n21, bd_s, gd_n (by omega) (by omega), gd_n (by omega) (by omega), ix_n (by omega), empty_eq, bd2_s]
    have c8 : gI σx 12 3 = nI nk := hI.2.2.1.2.2.2.2.1
    rw [c8, hI.2.1.2.2.2.2.1]
    refine cq_some (rel_now R (Eq0.pI (Or.inl (by omega))) (Eq0.pI (Or.inl rfl)) (keep8 11 (by omega)) ⟨nu, ns, nr, nn, 0, np, hr, ?_, ?_⟩)
    · exact ir_of (j1.cong (gI_pI_ne (by omega)) (gI_pI_ne (by omega)) (fun k g1 => by rw [gI_pI_eq, upd_ne (by omega)])) (j2.cong (by rw [gI_pI_ne (by omega)]) (gI_pI_ne (by omega)) (fun k g1 g2 => by rw [gI_pI_eq, upd_ne (by omega)])) (j3.cong (by rw [gI_pI_ne (by omega)]) (gI_pI_ne (by omega)) (fun k g1 g2 => by rw [gI_pI_eq, upd_ne (by omega)])) (j4.cong (by rw [gI_pI_ne (by omega)]) (gI_pI_ne (by omega)) (fun k g1 g2 => by rw [gI_pI_eq, upd_ne (by omega)])) (j5.cong (by rw [gI_pI_ne (by omega)]) (gI_pI_ne (by omega)) (fun k g1 g2 => by rw [gI_pI_eq, upd_ne (by omega)])) ⟨by omega, by rw [gI_pI_eq, upd_eq], by rw [gI_pI_eq, upd_eq], fun _ _ hq => absurd hq (Nat.not_lt_zero _)⟩ (j7.cong (by rw [gI_pI_ne (by omega)]) (by rw [gI_pI_ne (by omega)]) (fun k g1 g2 => by rw [gI_pI_eq, upd_ne (by omega)])) (j8.cong hu7 hs5 (by rw [gI_pI_ne (by omega)]) (gI_pI_ne (by omega)) (fun k g1 g2 => by rw [gI_pI_eq, upd_ne (by omega)]) (fun vv ww g1 g2 => by rw [gI_pI_eq, upd_ne (by omega)]))
    · exact bd_cong hbd (fun uu hu => by rw [gI_pI_eq, upd_ne (by omega)]) (fun vv hv => by rw [gI_pI_eq, upd_ne (by omega)]) (fun jj z h8 h9 => by rw [gI_pI_eq, upd_ne (by omega)]) hu7 (fun k k1 k2 => by rw [gI_pI_eq, upd_ne (by omega)])
end D3
