/-! ===== anew, and images ===== -/
theorem bd_0 {ρ : Nat → Int32} {h0 : Nat} (h81 : ρ 81 = nI 0) : Bd ρ 0 0 0 h0 := ⟨fun _ hq => absurd hq (Nat.not_lt_zero _), fun _ hq => absurd hq (Nat.not_lt_zero _), fun _ hq => absurd hq (Nat.not_lt_zero _), 0, by omega, h81, fun _ hq => absurd hq (Nat.not_lt_zero _)⟩
theorem bd_all {ρ ρ' : Nat → Int32} {nu ns np hr : Nat} (h : Bd ρ nu ns np hr) (hu7 : nu ≤ 7) (hs5 : ns ≤ 5) (hp8 : np ≤ 8) (hm : ∀ k, k < 378 → ρ' k = ρ k) : Bd ρ' nu ns np hr := bd_cong h (fun uu _ => hm _ (by omega)) (fun vv _ => hm _ (by omega)) (fun jj z _ _ => hm _ (by omega)) hu7 (fun k _ _ => hm k (by omega))
section D2
variable {σx σm : SS} {t aa nu ns nr nn nk np hr : Nat}
theorem empty_m {σ : SS} (hl : ln aa = 378) : Ok (FX12_empty aa σ) (fun s => Eq0 (fun c => c = aa) σ s ∧ ∀ k, k < 378 → gI s aa k = nI 0) := by
  unfold FX12_empty
  simp only [hl, nm_eq]
  refine ok_bd (ok_lp (fun jj xx => ∃ s, xx = (nI jj, s) ∧ Eq0 (fun c => c = aa) σ s ∧ ∀ k, k < jj → gI s aa k = nI 0) 378 (by omega) (Q := fun s => Eq0 (fun c => c = aa) σ s ∧ ∀ k, k < 378 → gI s aa k = nI 0) ⟨σ, rfl, Eq0.rf, fun _ hq => absurd hq (Nat.not_lt_zero _)⟩ ?_) (fun s hq => ok_some hq)
  rintro jj xx hj ⟨s, rfl, g1, g2⟩
  rw [u2_s]
  refine ok_ite (fun hc => ok_some ?_) (fun hc => ?_)
  · have hjj : jj = 378 := by have := le_of_nI hc (by omega) (by omega); omega
    subst hjj
    exact ⟨g1, g2⟩
  have hj2 := lt_of_nle hc (by omega) (by omega)
  rw [ix_n (by omega), nI_addn]
  refine ok_gn (by omega) (by omega) (ok_some ⟨hj2, _, rfl, g1.tr eo_pI, fun k hk => ?_⟩)
  rw [gI_pI_eq, upd_ap]
  by_cases hq : k = jj
  · rw [if_pos hq]
  · rw [if_neg hq]; exact g2 k (by omega)
def Pn (t c : Nat) : Prop := t ≤ c ∧ c ≤ t + 14
theorem reset_x {σ : SS} (ht : kd t = 4) (hT : TCw t σ) : Ok (FX4_reset t σ) (fun s => Eq0 (Pn t) σ s ∧ TCw t s ∧ (∀ hh, hh < 8 → gI s (t + 1) hh = nI 0 ∧ gI s (t + 2) hh = nI 0) ∧ (gI s (t + 3) 3 = nI 0 ∧ gI s (t + 5) 3 = nI 0 ∧ gI s (t + 7) 3 = nI 0 ∧ gI s (t + 9) 3 = nI 0 ∧ gI s (t + 11) 3 = nI 0 ∧ gI s (t + 13) 3 = nI 0) ∧ gI s t 8 = nI 0 ∧ gI s t 9 = nI 0) := by
  unfold FX4_reset
  simp only [il_0 ht, il_1 ht, il_2 ht, il_3 ht, il_4 ht, il_5 ht, il_6 ht, il_7 ht, iln_1 ht, iln_2 ht, nm_eq]
  refine ok_bd (ok_lp (fun jj xx => ∃ s, xx = (nI jj, s) ∧ Eq0 (fun c => c = t + 1 ∨ c = t + 2) σ s ∧ ∀ hh, hh < jj → gI s (t + 1) hh = nI 0 ∧ gI s (t + 2) hh = nI 0) 8 (by omega) (Q := fun s => Eq0 (fun c => c = t + 1 ∨ c = t + 2) σ s ∧ ∀ hh, hh < 8 → gI s (t + 1) hh = nI 0 ∧ gI s (t + 2) hh = nI 0) ⟨σ, rfl, Eq0.rf, fun _ hq => absurd hq (Nat.not_lt_zero _)⟩ ?_) ?_
  · rintro jj xx hj ⟨s, rfl, g1, g2⟩
    rw [u2_s]
    refine ok_ite (fun hc => ok_some ?_) (fun hc => ?_)
    · have hjj : jj = 8 := by have := le_of_nI hc (by omega) (by omega); omega
      subst hjj
      exact ⟨g1, g2⟩
    have hj2 := lt_of_nle hc (by omega) (by omega)
    rw [ix_n (by omega), nI_addn]
    refine ok_gn (by omega) (by omega) (ok_gn (by omega) (by omega) (ok_some ⟨hj2, _, rfl, g1.tr ((Eq0.pI (Or.inl rfl)).tr (Eq0.pI (Or.inr rfl))), fun k hk => ?_⟩))
    rw [gI_pI_ne (show t + 1 ≠ t + 2 by omega), gI_pI_eq, gI_pI_eq, gI_pI_ne (show t + 2 ≠ t + 1 by omega), upd_ap, upd_ap]
    by_cases hq : k = jj
    · rw [if_pos hq, if_pos hq]; exact ⟨rfl, rfl⟩
    · rw [if_neg hq, if_neg hq]; exact g2 k (by omega)
  · rintro s7 ⟨g1, g2⟩
    rw [empty_eq, bd2_s, empty_eq, bd2_s, empty_eq, bd2_s, empty_eq, bd2_s, empty_eq, bd2_s, empty_eq, bd2_s]
    have gx : ∀ d, d ≠ 1 → d ≠ 2 → gI s7 (t + d) = gI σ (t + d) := fun d h1 h2 => g1.1 _ (fun hq => by rcases hq with hq | hq <;> omega)
    refine ok_some ⟨(g1.up (fun c hq => ?_)).tr ((Eq0.pI ?_).tr ((Eq0.pI ?_).tr ((Eq0.pI ?_).tr ((Eq0.pI ?_).tr ((Eq0.pI ?_).tr ((Eq0.pI ?_).tr ((Eq0.pI ?_).tr (Eq0.pI ?_)))))))), hT.keep (fun d hd => ?_), fun hh hl => ?_, ⟨?_, ?_, ?_, ?_, ?_, ?_⟩, ?_, ?_⟩
    · rcases hq with hq | hq
      · exact ⟨by omega, by omega⟩
      · exact ⟨by omega, by omega⟩
    · exact ⟨by omega, by omega⟩
    · exact ⟨by omega, by omega⟩
    · exact ⟨by omega, by omega⟩
    · exact ⟨by omega, by omega⟩
    · exact ⟨by omega, by omega⟩
    · exact ⟨by omega, by omega⟩
    · exact ⟨by omega, by omega⟩
    · exact ⟨by omega, by omega⟩
    · rw [← gx d (by omega) (by omega)]
      rcases hd with rfl | rfl | rfl | rfl | rfl | rfl <;> constructor <;> simp (disch := omega) only [gI_pI_ne, gI_pI_eq, upd_ne]
    · simp (disch := omega) only [gI_pI_ne]
      exact g2 hh hl
    · simp (disch := omega) only [gI_pI_ne, gI_pI_eq, upd_eq]
    · simp (disch := omega) only [gI_pI_ne, gI_pI_eq, upd_eq]
    · simp (disch := omega) only [gI_pI_ne, gI_pI_eq, upd_eq]
    · simp (disch := omega) only [gI_pI_ne, gI_pI_eq, upd_eq]
    · simp (disch := omega) only [gI_pI_ne, gI_pI_eq, upd_eq]
    · simp (disch := omega) only [gI_pI_ne, gI_pI_eq, upd_eq]
    · simp (disch := omega) only [gI_pI_eq, upd_ne, upd_eq]
    · simp (disch := omega) only [gI_pI_eq, upd_eq]
theorem ir_zero {σ : SS} {ρ : Nat → Int32} (hρ : ∀ k, k < 378 → ρ k = nI 0) (h1 : ∀ hh, hh < 8 → gI σ (t + 1) hh = nI 0 ∧ gI σ (t + 2) hh = nI 0) (h3 : gI σ (t + 3) 3 = nI 0 ∧ gI σ (t + 5) 3 = nI 0 ∧ gI σ (t + 7) 3 = nI 0 ∧ gI σ (t + 9) 3 = nI 0 ∧ gI σ (t + 11) 3 = nI 0 ∧ gI σ (t + 13) 3 = nI 0) (h8 : gI σ t 8 = nI 0) (h9 : gI σ t 9 = nI 0) : IR t σ ρ 0 0 0 0 0 0 0 := by
  obtain ⟨a1, a2, a3, a4, a5, a6⟩ := h3
  refine ir_of (fun hh hl => ⟨⟨?_, ?_⟩, ⟨0, by omega, hρ _ (by omega)⟩, 0, by omega, hρ _ (by omega)⟩) ⟨by omega, hρ _ (by omega), a1, fun _ _ hq => absurd hq (Nat.not_lt_zero _), fun _ => 0, fun _ => 0, fun _ => 0, ⟨by omega, fun _ hq => absurd hq (Nat.not_lt_zero _)⟩, fun _ hq => absurd hq (Nat.not_lt_zero _)⟩ ⟨by omega, hρ _ (by omega), a2, fun _ _ hq => absurd hq (Nat.not_lt_zero _), fun _ hq => absurd hq (Nat.not_lt_zero _)⟩ ⟨by omega, hρ _ (by omega), a3, fun _ _ hq => absurd hq (Nat.not_lt_zero _), fun _ hq => absurd hq (Nat.not_lt_zero _)⟩ ⟨by omega, hρ _ (by omega), a4, fun _ _ hq => absurd hq (Nat.not_lt_zero _)⟩ ⟨by omega, hρ _ (by omega), a5, fun _ _ hq => absurd hq (Nat.not_lt_zero _)⟩ ⟨by omega, hρ _ (by omega), h8, h9.trans (hρ _ (by omega)).symm⟩ (jp_0 (hρ _ (by omega)) a6)
  · rw [(h1 hh hl).1, hρ _ (by omega)]
  · rw [(h1 hh hl).2, hρ _ (by omega)]
theorem q_island (R : Rel σx σm) : Cm (FX11_island 0 σx) (FX12_island 78 σm) := by
  obtain ⟨⟨nu, ns, nr, nn, nk, np, hr, hI, hbd⟩, hT, -⟩ := id R
  unfold FX11_island FX12_island
  simp only [lk_0_0, lk_1_2, lk_78_0, ln_79]
  rw [hI.2.2.1.1, ix_n (by omega), hI.2.1.1]
  refine cq_nmx (cq_gm (inb_n (by omega) (by omega)) (cq_nmm (cq_okx (reset_x kd_1 hT.1.1) (fun s1 hq1 => cq_okm (empty_m ln_79) (fun s2 hq2 => cq_some ?_)))))
  obtain ⟨e1, e2, e3, e4, e5, e6⟩ := hq1
  exact rel_now R (e1.up (fun c hq => Or.inl hq)) (hq2.1.up (fun c hq => Or.inl hq)) e2 ⟨0, 0, 0, 0, 0, 0, 0, ir_zero hq2.2 e3 e4 e5 e6, bd_0 (hq2.2 81 (by omega))⟩
/-! copies -/
def CP (t aa : Nat) (σ s : SS) (jj : Nat) : Prop := Eq0 (Pn t) σ s ∧ TCw t s ∧ (∀ hh, hh < 8 → gI s (t + 1) hh = gI σ (aa + 1) hh ∧ gI s (t + 2) hh = gI σ (aa + 2) hh) ∧ ∀ d, d < jj → d = 3 ∨ d = 5 ∨ d = 7 ∨ d = 9 ∨ d = 11 ∨ d = 13 → gI s (t + d) 3 = gI σ (aa + d) 3 ∧ ∀ k, k < ln (t + d + 1) → gI s (t + d + 1) k = gI σ (aa + d + 1) k
theorem cp_step {σ s : SS} {d : Nat} (ht : kd t = 4) (ha : kd aa = 4) (hne : t ≠ aa) (hd : d = 3 ∨ d = 5 ∨ d = 7 ∨ d = 9 ∨ d = 11 ∨ d = 13) (h : CP t aa σ s d) (k1 : kd (t + d) = 7) (k2 : kd (aa + d) = 7) (l1 : ln (t + d + 1) < 1000) (l2 : ln (aa + d + 1) = ln (t + d + 1)) : Ok (FX9_copyFrom (t + d) (aa + d) s) (fun s' => CP t aa σ s' (d + 2)) := by
  have ht4 := isl4 ht
  have ha4 := isl4 ha
  obtain ⟨h1, h2, h3, h4⟩ := h
  have es : ∀ c, aa ≤ c → c ≤ aa + 14 → gI s c = gI σ c := fun c c1 c2 => h1.1 c (fun hq => by have h5 : t ≤ c ∧ c ≤ t + 14 := hq; omega)
  rw [tcopy_eq k1 k2 rfl l2 l1 (by omega)]
  refine ok_some ⟨h1.tr ((Eq0.pA ⟨by omega, by omega⟩).tr (Eq0.pI ⟨by omega, by omega⟩)), h2.keep (fun e he => ?_), fun hh hl => ?_, fun e he1 he2 => ?_⟩
  · by_cases hq : e = d
    · subst hq
      rw [gI_pI_eq, upd_ne (by omega), upd_ne (by omega), gI_pA_ne (by omega)]; exact ⟨rfl, rfl⟩
    · rw [gI_pI_ne (by omega), gI_pA_ne (by omega)]; exact ⟨rfl, rfl⟩
  · rw [gI_pI_ne (by omega), gI_pA_ne (by omega), gI_pI_ne (by omega), gI_pA_ne (by omega)]; exact h3 hh hl
  · by_cases hq : e = d
    · subst hq
      rw [gI_pI_eq, upd_eq, es _ (by omega) (by omega)]
      refine ⟨rfl, fun k hk => ?_⟩
      rw [gI_pI_ne (by omega), gI_pA_eq, if_pos hk, es _ (by omega) (by omega)]
    · rw [gI_pI_ne (by omega), gI_pA_ne (by omega), gI_pI_ne (by omega), gI_pA_ne (by omega)]
      exact h4 e (by omega) he2
theorem copy_x {σ : SS} (ht : kd t = 4) (ha : kd aa = 4) (hne : t ≠ aa) (hT : TCw t σ) : Ok (FX4_copyFrom t aa σ) (fun s => CP t aa σ s 15 ∧ gI s t 8 = gI σ aa 8 ∧ gI s t 9 = gI σ aa 9) := by
  have ht4 := isl4 ht
  have ha4 := isl4 ha
  unfold FX4_copyFrom
  simp only [il_0 ht, il_1 ht, il_2 ht, il_3 ht, il_4 ht, il_5 ht, il_6 ht, il_7 ht, il_0 ha, il_1 ha, il_2 ha, il_3 ha, il_4 ha, il_5 ha, il_6 ha, il_7 ha, iln_1 ht, iln_2 ht, iln_1 ha, iln_2 ha, nm_eq]
  refine ok_gd (cpok_n (by omega) (by omega) (by omega) (by omega)) (ok_gd (cpok_n (by omega) (by omega) (by omega) (by omega)) ?_)
  rw [ix_n (by omega), ix_n (by omega), cpy_0, gI_pA_ne (show aa + 2 ≠ t + 1 by omega), gI_pA_ne (show t + 2 ≠ t + 1 by omega), cpy_0]
  have h0 : CP t aa σ (pA (pA σ (t + 1) (fun k => if k < 8 then gI σ (aa + 1) k else gI σ (t + 1) k)) (t + 2) (fun k => if k < 8 then gI σ (aa + 2) k else gI σ (t + 2) k)) 3 := by
    refine ⟨(Eq0.pA ⟨by omega, by omega⟩).tr (Eq0.pA ⟨by omega, by omega⟩), hT.keep (fun d hd => ?_), fun hh hl => ?_, fun d hd1 hd2 => by omega⟩
    · rw [gI_pA_ne (by omega), gI_pA_ne (by omega)]; exact ⟨rfl, rfl⟩
    · rw [gI_pA_ne (show t + 1 ≠ t + 2 by omega), gI_pA_eq, gI_pA_eq, if_pos hl, if_pos hl]; exact ⟨rfl, rfl⟩
  have ez : ∀ s' : SS, CP t aa σ s' 15 → gI s' aa = gI σ aa := fun s' hq => hq.1.1 aa (fun hz => by have h5 : t ≤ aa ∧ aa ≤ t + 14 := hz; omega)
  refine ok_bd (cp_step ht ha hne (d := 3) (by omega) h0 (ikd_3 ht) (ikd_3 ha) (by rw [show t + 3 + 1 = t + 4 from rfl, iln_4 ht]; omega) (by rw [show t + 3 + 1 = t + 4 from rfl, show aa + 3 + 1 = aa + 4 from rfl, iln_4 ht, iln_4 ha])) (fun s3 g3 => ?_)
  refine ok_bd (cp_step ht ha hne (d := 5) (by omega) g3 (ikd_5 ht) (ikd_5 ha) (by rw [show t + 5 + 1 = t + 6 from rfl, iln_6 ht]; omega) (by rw [show t + 5 + 1 = t + 6 from rfl, show aa + 5 + 1 = aa + 6 from rfl, iln_6 ht, iln_6 ha])) (fun s4 g4 => ?_)
  refine ok_bd (cp_step ht ha hne (d := 7) (by omega) g4 (ikd_7 ht) (ikd_7 ha) (by rw [show t + 7 + 1 = t + 8 from rfl, iln_8 ht]; omega) (by rw [show t + 7 + 1 = t + 8 from rfl, show aa + 7 + 1 = aa + 8 from rfl, iln_8 ht, iln_8 ha])) (fun s5 g5 => ?_)
  refine ok_bd (cp_step ht ha hne (d := 9) (by omega) g5 (ikd_9 ht) (ikd_9 ha) (by rw [show t + 9 + 1 = t + 10 from rfl, iln_10 ht]; omega) (by rw [show t + 9 + 1 = t + 10 from rfl, show aa + 9 + 1 = aa + 10 from rfl, iln_10 ht, iln_10 ha])) (fun s6 g6 => ?_)
  refine ok_bd (cp_step ht ha hne (d := 11) (by omega) g6 (ikd_11 ht) (ikd_11 ha) (by rw [show t + 11 + 1 = t + 12 from rfl, iln_12 ht]; omega) (by rw [show t + 11 + 1 = t + 12 from rfl, show aa + 11 + 1 = aa + 12 from rfl, iln_12 ht, iln_12 ha])) (fun s7 g7 => ?_)
  refine ok_bd (cp_step ht ha hne (d := 13) (by omega) g7 (ikd_13 ht) (ikd_13 ha) (by rw [show t + 13 + 1 = t + 14 from rfl, iln_14 ht]; omega) (by rw [show t + 13 + 1 = t + 14 from rfl, show aa + 13 + 1 = aa + 14 from rfl, iln_14 ht, iln_14 ha])) (fun s8 g8 => ok_some ?_)
  have e8 := ez s8 g8
  rw [gI_pI_ne (show aa ≠ t by omega), e8]
  obtain ⟨h1, h2, h3, h4⟩ := g8
  refine ⟨⟨h1.tr ((Eq0.pI ⟨by omega, by omega⟩).tr (Eq0.pI ⟨by omega, by omega⟩)), h2.keep (fun d hd => ?_), fun hh hl => ?_, fun d hd1 hd2 => ?_⟩, ?_, ?_⟩
  · rw [gI_pI_ne (by omega), gI_pI_ne (by omega)]; exact ⟨rfl, rfl⟩
  · rw [gI_pI_ne (by omega), gI_pI_ne (by omega), gI_pI_ne (by omega), gI_pI_ne (by omega)]; exact h3 hh hl
  · rw [gI_pI_ne (by omega), gI_pI_ne (by omega), gI_pI_ne (by omega), gI_pI_ne (by omega)]; exact h4 d hd1 hd2
  · rw [gI_pI_eq, upd_ne (by omega), gI_pI_eq, upd_eq]
  · rw [gI_pI_eq, upd_eq]
/-- an island moved, and its row -/
theorem ir_move {σ s : SS} {ρ ρ' : Nat → Int32} (ht : kd t = 4) (hI : IR aa σ ρ nu ns nr nn nk np hr) (h : CP t aa σ s 15) (e8 : gI s t 8 = gI σ aa 8) (e9 : gI s t 9 = gI σ aa 9) (hm : ∀ k, k < 378 → ρ' k = ρ k) : IR t s ρ' nu ns nr nn nk np hr := by
  suffices hh : IR t s ρ nu ns nr nn nk np hr from hh.cong (fun _ _ _ => rfl) hm
  obtain ⟨h1, h2, h3, h4⟩ := h
  obtain ⟨p1z, ⟨u1, u2z, u3z, u4z, u5z⟩, ⟨s1z, s2z, s3z, s4z, s5z⟩, ⟨r1, r2z, r3z, r4z, r5z⟩, ⟨n1z, n2z, n3z, n4z⟩, ⟨m1z, m2z, m3z, m4z⟩, ⟨i1, i2, i3, i4⟩, o1, o2z, o3z, kk, o4, o5⟩ := hI.parts
  have f3 := h4 3 (by omega) (by omega)
  have f5 := h4 5 (by omega) (by omega)
  have f7 := h4 7 (by omega) (by omega)
  have f9 := h4 9 (by omega) (by omega)
  have f11 := h4 11 (by omega) (by omega)
  have f13 := h4 13 (by omega) (by omega)
  rw [show t + 3 + 1 = t + 4 from rfl, iln_4 ht] at f3
  rw [show t + 5 + 1 = t + 6 from rfl, iln_6 ht] at f5
  rw [show t + 7 + 1 = t + 8 from rfl, iln_8 ht] at f7
  rw [show t + 9 + 1 = t + 10 from rfl, iln_10 ht] at f9
  rw [show t + 11 + 1 = t + 12 from rfl, iln_12 ht] at f11
  rw [show t + 13 + 1 = t + 14 from rfl, iln_14 ht] at f13
  refine ir_of (fun hh hl => ⟨⟨(h3 hh hl).1.trans (p1z hh hl).1.1, (h3 hh hl).2.trans (p1z hh hl).1.2⟩, (p1z hh hl).2⟩) ⟨u1, u2z, f3.1.trans u3z, fun uu cc hu hc => (f3.2 _ (by omega)).trans (u4z uu cc hu hc), u5z⟩ ⟨s1z, s2z, f5.1.trans s3z, fun uu cc hu hc => (f5.2 _ (by omega)).trans (s4z uu cc hu hc), s5z⟩ ⟨r1, r2z, f7.1.trans r3z, fun uu cc hu hc => (f7.2 _ (by omega)).trans (r4z uu cc hu hc), r5z⟩ ⟨n1z, n2z, f9.1.trans n3z, fun uu cc hu hc => (f9.2 _ (by omega)).trans (n4z uu cc hu hc)⟩ ⟨m1z, m2z, f11.1.trans m3z, fun uu cc hu hc => (f11.2 _ (by omega)).trans (m4z uu cc hu hc)⟩ ⟨i1, i2, e8.trans i3, e9.trans i4⟩ ⟨o1, o2z, f13.1.trans o3z, kk, o4, fun jj hj => ?_⟩
  obtain ⟨q0, q1, q2, q3, q4, q5, q6⟩ := o5 jj hj
  refine ⟨q0, ⟨(f13.2 _ (by omega)).trans q1.1, q1.2⟩, (f13.2 _ (by omega)).trans q2, ⟨(f13.2 _ (by omega)).trans q3.1, q3.2⟩, fun uu hu => (f13.2 _ (by omega)).trans (q4 uu hu), fun vv hv => (f13.2 _ (by omega)).trans (q5 vv hv), q6⟩
/-- the loop that copies a row -/
theorem imgs_m {σ : SS} {a1 : Nat} (h1 : a1 ≤ 1) : Ok (FX12_image 78 (nI a1) σ) (fun yy => yy.1 = nI 1 ∧ Eq0 (fun c => c = 81 ∨ c = 82) σ yy.2 ∧ (∀ k, k < 378 → gI yy.2 81 (378 * a1 + k) = gI σ 79 k) ∧ (∀ k, k < 378 * a1 ∨ 378 * a1 + 378 ≤ k → gI yy.2 81 k = gI σ 81 k) ∧ gI yy.2 82 a1 = nI 1 ∧ ∀ k, k ≠ a1 → gI yy.2 82 k = gI σ 82 k) := by
  have hwi : wi (nI a1) (nI 0) (nI 1) = nI 1 := by rw [wi_n (by omega) (by omega) (by omega), if_pos ⟨Nat.zero_le _, by omega⟩]
  unfold FX12_image
  rw [l_N0, l_N1, in_eq, bd_s, hwi, if_neg n1_0]
  simp only [lk_78_0, lk_78_2, lk_78_3, ln_79, ln_81, ln_82, nm_eq]
  rw [nI_muln]
  refine ok_bd (ok_lp (fun jj xx => ∃ s, xx = (nI jj, s) ∧ Eq0 (fun c => c = 81) σ s ∧ (∀ k, k < jj → gI s 81 (378 * a1 + k) = gI σ 79 k) ∧ ∀ k, k < 378 * a1 ∨ 378 * a1 + 378 ≤ k → gI s 81 k = gI σ 81 k) 378 (by omega) (Q := fun s => Eq0 (fun c => c = 81) σ s ∧ (∀ k, k < 378 → gI s 81 (378 * a1 + k) = gI σ 79 k) ∧ ∀ k, k < 378 * a1 ∨ 378 * a1 + 378 ≤ k → gI s 81 k = gI σ 81 k) ⟨σ, rfl, Eq0.rf, fun _ hq => absurd hq (Nat.not_lt_zero _), fun _ _ => rfl⟩ ?_) ?_
  · rintro jj xx hj ⟨s, rfl, g1, g2, g3⟩
    rw [u2_s]
    refine ok_ite (fun hc => ok_some ?_) (fun hc => ?_)
    · have hjj : jj = 378 := by have := le_of_nI hc (by omega) (by omega); omega
      subst hjj
      exact ⟨g1, g2, g3⟩
    have hj2 := lt_of_nle hc (by omega) (by omega)
    rw [nI_addn (378 * a1), nI_addn, ix_n (by omega), ix_n (by omega)]
    refine ok_gn (by omega) (by omega) (ok_gn (by omega) (by omega) (ok_some ⟨hj2, _, rfl, g1.tr eo_pI, fun k hk => ?_, fun k hk => ?_⟩))
    · rw [gI_pI_eq, upd_ap, g1.1 79 (by omega)]
      by_cases hq : k = jj
      · rw [if_pos (by omega), hq]
      · rw [if_neg (by omega)]; exact g2 k (by omega)
    · rw [gI_pI_eq, upd_ne (by omega)]; exact g3 k hk
  · rintro s ⟨g1, g2, g3⟩
    rw [ix_n (by omega)]
    refine ok_gn (by omega) (by omega) (ok_some ⟨rfl, (g1.up (fun c hq => Or.inl hq)).tr (Eq0.pI (Or.inr rfl)), fun k hk => ?_, fun k hk => ?_, ?_, fun k hk => ?_⟩)
    · dsimp only; rw [gI_pI_ne (by omega)]; exact g2 k hk
    · dsimp only; rw [gI_pI_ne (by omega)]; exact g3 k hk
    · dsimp only; rw [gI_pI_eq, upd_eq]
    · dsimp only; rw [gI_pI_eq, upd_ne hk, g1.1 82 (by omega)]
theorem im_keep {t fs kk off : Nat} {σx σm σx' σm' : SS} (h : Im t σx σm fs kk off) (h0 : gI σx' 0 fs = gI σx 0 fs) (h1 : gI σm' 82 kk = gI σm 82 kk) (hx : ∀ c, t ≤ c → c ≤ t + 14 → gI σx' c = gI σx c) (hm : ∀ k, k < 378 → gI σm' 81 (off + k) = gI σm 81 (off + k)) : Im t σx' σm' fs kk off := by
  unfold Im at h ⊢
  rw [h0, h1]
  exact h.imp id (fun hz => ⟨hz.1, hz.2.1, hz.2.2.cong hx hm⟩)
theorem q_image (R : Rel σx σm) (a : Int32) : Cm (FX11_image 0 a σx) (FX12_image 78 a σm) := by
  obtain ⟨⟨nu, ns, nr, nn, nk, np, hr, hI, hbd⟩, ⟨⟨T1, T2z, T3z, T4z⟩, T5, T6⟩, hm1, hm2, ⟨nl, t1, t2, t3, t4⟩, h6, h7⟩ := id R
  by_cases hw : wi a (nI 0) (nI 1) = 0
  · unfold FX11_image FX12_image
    rw [l_N0, l_N1]
    refine cq_bdx (within_eq _ _ _ _) (cq_bdm (in_eq _ _ _ _) (cq_guard R (fun h1 => absurd hw h1)))
  obtain ⟨a1, -, ha1, rfl⟩ := wi_in (by omega) (by omega) hw
  obtain ⟨⟨y1, y2⟩, e1, e2, e3, e4, e5, e6, e7⟩ := imgs_m (σ := σm) ha1
  dsimp only at e2 e3 e4 e5 e6 e7
  subst e2
  have em : ∀ c, c ≠ 81 → c ≠ 82 → gI y2 c = gI σm c := fun c c1 c2 => e3.1 c (fun hq => by rcases hq with hq | hq <;> omega)
  have lm : gL y2 78 = gL σm 78 := e3.2 78 (fun hq => by rcases hq with hq | hq <;> omega)
  have hz : a1 = 0 ∨ a1 = 1 := by omega
  rw [e1]
  unfold FX11_image
  rw [within_eq, bd_s, if_neg hw]
  simp only [lk_0_0, lk_0_1, lk_0_2]
  rcases hz with rfl | rfl
  · rw [if_pos nI_0]
    obtain ⟨s1, k1, k2, k3, k4⟩ := copy_x (σ := σx) kd_16 kd_1 (by omega) T2z
    rw [bd_of k1, nm_eq, bd_s]
    have ex : ∀ c, c ≠ 0 → ¬ (16 ≤ c ∧ c ≤ 30) → gI (pI s1 0 3 (nI 1)) c = gI σx c := fun c c1 c2 => by rw [gI_pI_ne c1]; exact k2.1.1 c (fun hq => c2 hq)
    have ex0 : ∀ k, k ≠ 3 → gI (pI s1 0 3 (nI 1)) 0 k = gI σx 0 k := fun k hk => by rw [gI_pI_eq, upd_ne hk, k2.1.1 0 (fun hq => by have h5 : 16 ≤ 0 ∧ 0 ≤ 16 + 14 := hq; omega)]
    refine cq_some ⟨⟨nu, ns, nr, nn, nk, np, hr, hI.cong (fun c c1 c2 => ex c (by omega) (by omega)) (fun k _ => by rw [em 79 (by omega) (by omega)]), by rw [em 79 (by omega) (by omega)]; exact hbd⟩, ⟨⟨T1.cong (fun c c1 c2 => ex c (by omega) (by omega)), k2.2.1.cong (fun c c1 c2 => gI_pI_ne (by omega)), T3z.cong (fun c c1 c2 => ex c (by omega) (by omega)), T4z.cong (fun c c1 c2 => ex c (by omega) (by omega))⟩, by rw [ex 69 (by omega) (by omega)]; exact T5, by rw [ex 69 (by omega) (by omega)]; exact T6⟩, Or.inr ⟨?_, e6, nu, ns, nr, nn, nk, np, hr, ?_, bd_all hbd hI.1.1 hI.1.2.1 hI.1.2.2.2.2.2.1 (fun k hk => by show gI y2 81 (0 + k) = _; rw [show 0 + k = 378 * 0 + k by omega]; exact e4 k hk)⟩, im_keep hm2 (ex0 4 (by omega)) (e7 1 (by omega)) (fun c c1 c2 => ex c (by omega) (by omega)) (fun k hk => e5 _ (by omega)), ⟨nl, t1, ?_, ?_, ?_⟩, ?_, ?_⟩
    · rw [gI_pI_eq, upd_eq]
    · exact (ir_move (ρ' := fun k => gI y2 81 (0 + k)) kd_16 hI k2 k3 k4 (fun k hk => by rw [show 0 + k = 378 * 0 + k by omega]; exact e4 k hk)).cong (fun c c1 c2 => gI_pI_ne (by omega)) (fun _ _ => rfl)
    · rw [ex 46 (by omega) (by omega)]; exact t2
    · rw [em 78 (by omega) (by omega)]; exact t3
    · rw [ex 47 (by omega) (by omega), em 87 (by omega) (by omega)]; exact t4
    · unfold Fr at h6 ⊢
      rw [lm, gL_pI, k2.1.2 77 (fun hq => by have h5 : 16 ≤ 77 ∧ 77 ≤ 16 + 14 := hq; omega)]; exact h6
    · unfold Rf at h7 ⊢
      rw [ex0 12 (by omega), ex0 13 (by omega), ex0 14 (by omega), em 83 (by omega) (by omega), ex 74 (by omega) (by omega), em 89 (by omega) (by omega)]; exact h7
  · rw [if_neg n1_0]
    obtain ⟨s1, k1, k2, k3, k4⟩ := copy_x (σ := σx) kd_31 kd_1 (by omega) T3z
    rw [bd_of k1, nm_eq, bd_s]
    have ex : ∀ c, c ≠ 0 → ¬ (31 ≤ c ∧ c ≤ 45) → gI (pI s1 0 4 (nI 1)) c = gI σx c := fun c c1 c2 => by rw [gI_pI_ne c1]; exact k2.1.1 c (fun hq => c2 hq)
    have ex0 : ∀ k, k ≠ 4 → gI (pI s1 0 4 (nI 1)) 0 k = gI σx 0 k := fun k hk => by rw [gI_pI_eq, upd_ne hk, k2.1.1 0 (fun hq => by have h5 : 31 ≤ 0 ∧ 0 ≤ 31 + 14 := hq; omega)]
    refine cq_some ⟨⟨nu, ns, nr, nn, nk, np, hr, hI.cong (fun c c1 c2 => ex c (by omega) (by omega)) (fun k _ => by rw [em 79 (by omega) (by omega)]), by rw [em 79 (by omega) (by omega)]; exact hbd⟩, ⟨⟨T1.cong (fun c c1 c2 => ex c (by omega) (by omega)), T2z.cong (fun c c1 c2 => ex c (by omega) (by omega)), k2.2.1.cong (fun c c1 c2 => gI_pI_ne (by omega)), T4z.cong (fun c c1 c2 => ex c (by omega) (by omega))⟩, by rw [ex 69 (by omega) (by omega)]; exact T5, by rw [ex 69 (by omega) (by omega)]; exact T6⟩, im_keep hm1 (ex0 3 (by omega)) (e7 0 (by omega)) (fun c c1 c2 => ex c (by omega) (by omega)) (fun k hk => e5 _ (by omega)), Or.inr ⟨?_, e6, nu, ns, nr, nn, nk, np, hr, ?_, bd_all hbd hI.1.1 hI.1.2.1 hI.1.2.2.2.2.2.1 (fun k hk => by show gI y2 81 (378 + k) = _; rw [show 378 + k = 378 * 1 + k by omega]; exact e4 k hk)⟩, ⟨nl, t1, ?_, ?_, ?_⟩, ?_, ?_⟩
    · rw [gI_pI_eq, upd_eq]
    · exact (ir_move (ρ' := fun k => gI y2 81 (378 + k)) kd_31 hI k2 k3 k4 (fun k hk => by rw [show 378 + k = 378 * 1 + k by omega]; exact e4 k hk)).cong (fun c c1 c2 => gI_pI_ne (by omega)) (fun _ _ => rfl)
    · rw [ex 46 (by omega) (by omega)]; exact t2
    · rw [em 78 (by omega) (by omega)]; exact t3
    · rw [ex 47 (by omega) (by omega), em 87 (by omega) (by omega)]; exact t4
    · unfold Fr at h6 ⊢
      rw [lm, gL_pI, k2.1.2 77 (fun hq => by have h5 : 31 ≤ 77 ∧ 77 ≤ 31 + 14 := hq; omega)]; exact h6
    · unfold Rf at h7 ⊢
      rw [ex0 12 (by omega), ex0 13 (by omega), ex0 14 (by omega), em 83 (by omega) (by omega), ex 74 (by omega) (by omega), em 89 (by omega) (by omega)]; exact h7
/-- the model takes an image back -/
theorem from_m {σ : SS} {a1 : Nat} (h1 : a1 ≤ 1) (hk : ¬ gI σ 82 a1 = 0) : Ok (FX12_from 78 (nI a1) σ) (fun yy => yy.1 = nI 1 ∧ Eq0 P79 σ yy.2 ∧ ∀ k, k < 378 → gI yy.2 79 k = gI σ 81 (378 * a1 + k)) := by
  have hwi : wi (nI a1) (nI 0) (nI 1) = nI 1 := by rw [wi_n (by omega) (by omega) (by omega), if_pos ⟨Nat.zero_le _, by omega⟩]
  unfold FX12_from
  rw [l_N0, l_N1, in_eq, bd_s, hwi, if_neg n1_0]
  simp only [lk_78_0, lk_78_2, lk_78_3, ln_79, ln_81, ln_82, nm_eq]
  rw [nI_muln, ix_n (n := a1) (by omega)]
  refine ok_gn (by omega) (by omega) (ok_if hk (ok_bd (ok_lp (fun jj xx => ∃ s, xx = (nI jj, s) ∧ Eq0 P79 σ s ∧ ∀ k, k < jj → gI s 79 k = gI σ 81 (378 * a1 + k)) 378 (by omega) (Q := fun s => Eq0 P79 σ s ∧ ∀ k, k < 378 → gI s 79 k = gI σ 81 (378 * a1 + k)) ⟨σ, rfl, Eq0.rf, fun _ hq => absurd hq (Nat.not_lt_zero _)⟩ ?_) (fun s hq => ok_some ⟨rfl, hq⟩)))
  rintro jj xx hj ⟨s, rfl, g1, g2⟩
  rw [u2_s]
  refine ok_ite (fun hc => ok_some ?_) (fun hc => ?_)
  · have hjj : jj = 378 := by have := le_of_nI hc (by omega) (by omega); omega
    subst hjj
    exact ⟨g1, g2⟩
  have hj2 := lt_of_nle hc (by omega) (by omega)
  rw [nI_addn (378 * a1), nI_addn, ix_n (by omega), ix_n (by omega)]
  refine ok_gn (by omega) (by omega) (ok_gn (by omega) (by omega) (ok_some ⟨hj2, _, rfl, g1.tr (Eq0.pI rfl), fun k hk2 => ?_⟩))
  rw [gI_pI_eq, upd_ap, g1.1 81 (fun hq => by have : 81 = 79 := hq; omega)]
  by_cases hq : k = jj
  · rw [if_pos hq, hq]
  · rw [if_neg hq]; exact g2 k (by omega)
theorem q_from (R : Rel σx σm) (a : Int32) : Cm (FX11_from 0 a σx) (FX12_from 78 a σm) := by
  obtain ⟨-, ⟨⟨T1, T2z, T3z, T4z⟩, T5, T6⟩, hm1, hm2, -⟩ := id R
  by_cases hw : wi a (nI 0) (nI 1) = 0
  · unfold FX11_from FX12_from
    rw [l_N0, l_N1]
    refine cq_bdx (within_eq _ _ _ _) (cq_bdm (in_eq _ _ _ _) (cq_guard R (fun h1 => absurd hw h1)))
  obtain ⟨a1, -, ha1, rfl⟩ := wi_in (by omega) (by omega) hw
  have key : ∀ (t0 fs off : Nat), kd t0 = 4 → t0 ≠ 1 → Im t0 σx σm fs a1 off → off = 378 * a1 → FX11_from 0 (nI a1) σx = (if gI σx 0 fs = 0 then bd2 (FX11_refuse 0 (-3 : Int32) σx) (fun (r6 : Int32) (s7 : SS) => some ((r6, s7))) else bd (FX4_copyFrom 1 t0 σx) (fun (s8 : SS) => some (((nI 1), s8)))) → Cm (FX11_from 0 (nI a1) σx) (FX12_from 78 (nI a1) σm) := by
    intro t0 fs off ht0 hn1 him hoff hfx
    rw [hfx]
    rcases him with ⟨i1, i2⟩ | ⟨i1, i2, nu, ns, nr, nn, nk, np, hr, hI, hbd⟩
    · rw [i1, if_pos nI_0]
      unfold FX12_from
      rw [l_N0, l_N1, in_eq, bd_s, if_neg hw]
      simp only [lk_78_3, ln_82]
      refine cq_gm (inb_n (by omega) (by omega)) ?_
      rw [ix_n (by omega), i2]
      exact cq_itm nI_0 (cq_no R)
    · rw [i1, if_neg n1_0]
      obtain ⟨⟨y1, y2⟩, e1, e2, e3, e4⟩ := from_m (σ := σm) ha1 (by rw [i2]; exact n1_0)
      dsimp only at e2 e3 e4
      subst e2
      rw [e1]
      refine cq_okx (copy_x kd_1 ht0 (fun hq => hn1 hq.symm) T1) (fun s1 hq1 => cq_some ?_)
      obtain ⟨k2, k3, k4⟩ := hq1
      exact rel_now R (k2.1.up (fun c hq => Or.inl hq)) (e3.up (fun c hq => Or.inl hq)) k2.2.1 ⟨nu, ns, nr, nn, nk, np, hr, ir_move kd_1 hI k2 k3 k4 (fun k hk => by rw [e4 k hk, hoff]), bd_all hbd hI.1.1 hI.1.2.1 hI.1.2.2.2.2.2.1 (fun k hk => by rw [e4 k hk, hoff])⟩
  have hz : a1 = 0 ∨ a1 = 1 := by omega
  rcases hz with rfl | rfl
  · refine key 16 3 0 kd_16 (by omega) hm1 rfl ?_
    unfold FX11_from
    rw [within_eq, bd_s, if_neg hw, if_pos nI_0, bd_s, nm_eq, if_pos nI_0]
    simp only [lk_0_0, lk_0_1]
  · refine key 31 4 378 kd_31 (by omega) hm2 rfl ?_
    unfold FX11_from
    rw [within_eq, bd_s, if_neg hw, if_neg n1_0, bd_s, nm_eq, if_neg n1_0]
    simp only [lk_0_0, lk_0_2]
end D2
