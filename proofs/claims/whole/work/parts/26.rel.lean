/-! ===== the class's island at t, and a row of the model's ===== -/
def TCw (t : Nat) (σ : SS) : Prop := (gI σ (t + 3) 0 = nI 4 ∧ gI σ (t + 3) 1 = nI 7) ∧ (gI σ (t + 5) 0 = nI 4 ∧ gI σ (t + 5) 1 = nI 5) ∧ (gI σ (t + 7) 0 = nI 3 ∧ gI σ (t + 7) 1 = nI 4) ∧ (gI σ (t + 9) 0 = nI 5 ∧ gI σ (t + 9) 1 = nI 6) ∧ (gI σ (t + 11) 0 = nI 4 ∧ gI σ (t + 11) 1 = nI 6) ∧ (gI σ (t + 13) 0 = nI 15 ∧ gI σ (t + 13) 1 = nI 8)
/-- counts of users, suits, readings, notes, marks, past, and the hour -/
abbrev CN : Type := Nat × Nat × Nat × Nat × Nat × Nat × Nat
def cN (nu ns nr nn nk np hr : Nat) : CN := (nu, ns, nr, nn, nk, np, hr)
def VR (ρ : Nat → Int32) (nu ns nr : Nat) : Prop :=
  (∀ hh, hh < 8 → (∃ sx, sx ≤ 20 ∧ ρ (2 * hh) = nI sx) ∧ ∃ sd, sd ≤ 1 ∧ ρ (2 * hh + 1) = nI sd) ∧
  (∃ K C H : Nat → Nat, UR nu K C H ∧ ∀ uu, uu < nu → ρ (17 + 4 * uu) = nI (K uu) ∧ ρ (18 + 4 * uu) = nI (C uu) ∧ ρ (19 + 4 * uu) = nI (H uu)) ∧
  (∀ vv, vv < ns → (∃ kk, kk ≤ 5 ∧ ρ (46 + 4 * vv) = nI kk) ∧ ∃ uu, uu < nu ∧ ρ (47 + 4 * vv) = nI uu) ∧
  ∀ vv, vv < nr → (∃ hh, hh ≤ 7 ∧ ρ (69 + 3 * vv) = nI hh) ∧ ∃ cc, cc ≤ 11 ∧ ρ (70 + 3 * vv) = nI cc
/-- what may be undone -/
def PR (cl ρ : Nat → Int32) (nu ns np : Nat) : Prop := ∃ kk : Nat → Nat, (∀ ii jj, ii ≤ jj → jj < np → kk ii ≤ kk jj) ∧ ∀ jj, jj < np → kk jj ≤ ns ∧
  (cl (jj * 15 + 0) = ρ (138 + 30 * jj + 28) ∧ ∃ hh, hh ≤ 9999 ∧ ρ (138 + 30 * jj + 28) = nI hh) ∧ cl (jj * 15 + 1) = ρ (138 + 30 * jj + 29) ∧ (cl (jj * 15 + 2) = nI (kk jj) ∧ ρ (138 + 30 * jj + 7) = nI (kk jj)) ∧
  (∀ uu, uu < nu → cl (jj * 15 + (3 + uu)) = ρ (138 + 30 * jj + uu)) ∧ (∀ vv, vv < kk jj → cl (jj * 15 + (10 + vv)) = ρ (138 + 30 * jj + 8 + 4 * vv + 3)) ∧
  ∀ vv, vv < kk jj → ∀ ww, ww < 3 → ρ (138 + 30 * jj + 8 + 4 * vv + ww) = ρ (46 + 4 * vv + ww)
def IR (t : Nat) (σ : SS) (ρ : Nat → Int32) (nu ns nr nn nk np hr : Nat) : Prop :=
  (nu ≤ 7 ∧ ns ≤ 5 ∧ nr ≤ 4 ∧ nn ≤ 6 ∧ nk ≤ 6 ∧ np ≤ 8 ∧ hr ≤ 9999) ∧
  (ρ 16 = nI nu ∧ ρ 45 = nI ns ∧ ρ 68 = nI nr ∧ ρ 81 = nI nn ∧ ρ 112 = nI nk ∧ ρ 137 = nI np ∧ ρ 66 = nI hr) ∧
  (gI σ (t + 3) 3 = nI nu ∧ gI σ (t + 5) 3 = nI ns ∧ gI σ (t + 7) 3 = nI nr ∧ gI σ (t + 9) 3 = nI nn ∧ gI σ (t + 11) 3 = nI nk ∧ gI σ (t + 13) 3 = nI np ∧ gI σ t 8 = nI hr ∧ gI σ t 9 = ρ 67) ∧
  ((∀ hh, hh < 8 → gI σ (t + 1) hh = ρ (2 * hh) ∧ gI σ (t + 2) hh = ρ (2 * hh + 1)) ∧ (∀ uu cc, uu < nu → cc < 4 → gI σ (t + 4) (uu * 4 + cc) = ρ (17 + 4 * uu + cc)) ∧
   (∀ uu cc, uu < ns → cc < 4 → gI σ (t + 6) (uu * 4 + cc) = ρ (46 + 4 * uu + cc)) ∧ (∀ uu cc, uu < nr → cc < 3 → gI σ (t + 8) (uu * 3 + cc) = ρ (69 + 3 * uu + cc)) ∧
   (∀ uu cc, uu < nn → cc < 5 → gI σ (t + 10) (uu * 5 + cc) = ρ (82 + 5 * uu + cc)) ∧ ∀ uu cc, uu < nk → cc < 4 → gI σ (t + 12) (uu * 4 + cc) = ρ (113 + 4 * uu + cc)) ∧
  VR ρ nu ns nr ∧ PR (gI σ (t + 14)) ρ nu ns np
theorem IR.cong {t : Nat} {σ σ' : SS} {ρ ρ' : Nat → Int32} {nu ns nr nn nk np hr : Nat} (h : IR t σ ρ nu ns nr nn nk np hr) (hx : ∀ c, t ≤ c → c ≤ t + 14 → gI σ' c = gI σ c) (hm : ∀ k, k < 378 → ρ' k = ρ k) : IR t σ' ρ' nu ns nr nn nk np hr := by
  obtain ⟨⟨a1, a2, a3, a4, a5, a6, a7⟩, ⟨b1, b2, b3, b4, b5, b6, b7⟩, ⟨c1, c2, c3, c4, c5, c6, c7, c8⟩, ⟨d1, d2, d3, d4, d5, d6⟩, ⟨v1, ⟨K, C, H, v2, v3⟩, v4, v5⟩, kk, p1, p2⟩ := h
  refine ⟨⟨a1, a2, a3, a4, a5, a6, a7⟩, ⟨?_, ?_, ?_, ?_, ?_, ?_, ?_⟩, ⟨?_, ?_, ?_, ?_, ?_, ?_, ?_, ?_⟩, ⟨?_, ?_, ?_, ?_, ?_, ?_⟩, ⟨?_, ⟨K, C, H, v2, ?_⟩, ?_, ?_⟩, kk, p1, ?_⟩
  · rw [hm 16 (by omega)]; exact b1
  · rw [hm 45 (by omega)]; exact b2
  · rw [hm 68 (by omega)]; exact b3
  · rw [hm 81 (by omega)]; exact b4
  · rw [hm 112 (by omega)]; exact b5
  · rw [hm 137 (by omega)]; exact b6
  · rw [hm 66 (by omega)]; exact b7
  · rw [hx (t + 3) (by omega) (by omega)]; exact c1
  · rw [hx (t + 5) (by omega) (by omega)]; exact c2
  · rw [hx (t + 7) (by omega) (by omega)]; exact c3
  · rw [hx (t + 9) (by omega) (by omega)]; exact c4
  · rw [hx (t + 11) (by omega) (by omega)]; exact c5
  · rw [hx (t + 13) (by omega) (by omega)]; exact c6
  · rw [hx t (by omega) (by omega)]; exact c7
  · rw [hx t (by omega) (by omega), hm 67 (by omega)]; exact c8
  · intro hh hl
    rw [hx (t + 1) (by omega) (by omega), hx (t + 2) (by omega) (by omega), hm (2 * hh) (by omega), hm (2 * hh + 1) (by omega)]; exact d1 hh hl
  · intro uu cc hu hc
    rw [hx (t + 4) (by omega) (by omega), hm _ (by omega)]; exact d2 uu cc hu hc
  · intro uu cc hu hc
    rw [hx (t + 6) (by omega) (by omega), hm _ (by omega)]; exact d3 uu cc hu hc
  · intro uu cc hu hc
    rw [hx (t + 8) (by omega) (by omega), hm _ (by omega)]; exact d4 uu cc hu hc
  · intro uu cc hu hc
    rw [hx (t + 10) (by omega) (by omega), hm _ (by omega)]; exact d5 uu cc hu hc
  · intro uu cc hu hc
    rw [hx (t + 12) (by omega) (by omega), hm _ (by omega)]; exact d6 uu cc hu hc
  · intro hh hl
    rw [hm (2 * hh) (by omega), hm (2 * hh + 1) (by omega)]; exact v1 hh hl
  · intro uu hu
    rw [hm (17 + 4 * uu) (by omega), hm (18 + 4 * uu) (by omega), hm (19 + 4 * uu) (by omega)]; exact v3 uu hu
  · intro vv hv
    rw [hm (46 + 4 * vv) (by omega), hm (47 + 4 * vv) (by omega)]; exact v4 vv hv
  · intro vv hv
    rw [hm (69 + 3 * vv) (by omega), hm (70 + 3 * vv) (by omega)]; exact v5 vv hv
  · intro jj hj
    obtain ⟨q0, q1, q2, q3, q4, q5, q6⟩ := p2 jj hj
    refine ⟨q0, ?_, ?_, ?_, fun uu hu => ?_, fun vv hv => ?_, fun vv hv ww hw => ?_⟩
    · rw [hx (t + 14) (by omega) (by omega), hm _ (by omega)]; exact q1
    · rw [hx (t + 14) (by omega) (by omega), hm _ (by omega)]; exact q2
    · rw [hx (t + 14) (by omega) (by omega), hm _ (by omega)]; exact q3
    · rw [hx (t + 14) (by omega) (by omega), hm _ (by omega)]; exact q4 uu hu
    · rw [hx (t + 14) (by omega) (by omega), hm _ (by omega)]; exact q5 vv hv
    · rw [hm _ (by omega), hm _ (by omega)]; exact q6 vv hv ww hw
/-- notes are of heights and winds that there are -/
def NB (ρ : Nat → Int32) : Prop := ∃ nn, nn ≤ 6 ∧ ρ 81 = nI nn ∧ ∀ vv, vv < nn → (∃ hh, hh ≤ 4 ∧ ρ (83 + 5 * vv) = nI hh) ∧ ∃ sx, sx ≤ 20 ∧ ρ (84 + 5 * vv) = nI sx
theorem nb_cong {ρ ρ' : Nat → Int32} (h : NB ρ) (hm : ∀ k, 81 ≤ k → k < 112 → ρ' k = ρ k) : NB ρ' := by
  obtain ⟨nn, h1, h2, h3⟩ := h
  refine ⟨nn, h1, by rw [hm 81 (by omega) (by omega)]; exact h2, fun vv hv => ?_⟩
  rw [hm _ (by omega) (by omega), hm _ (by omega) (by omega)]
  exact h3 vv hv
/-- dues stay small -/
def Bd (ρ : Nat → Int32) (nu ns np hr : Nat) : Prop := (∀ uu, uu < nu → ∃ dd, dd ≤ 120 * hr ∧ ρ (20 + 4 * uu) = nI dd) ∧ (∀ vv, vv < ns → ∃ hh, hh ≤ 9999 ∧ ρ (48 + 4 * vv) = nI hh) ∧ (∀ jj, jj < np → ∃ hh, hh ≤ 9999 ∧ ρ (138 + 30 * jj + 28) = nI hh ∧ ∀ uu, uu < nu → ∃ dd, dd ≤ 120 * hh ∧ ρ (138 + 30 * jj + uu) = nI dd) ∧ NB ρ
theorem bd_cong {ρ ρ' : Nat → Int32} {nu ns np hr : Nat} (h : Bd ρ nu ns np hr) (hu : ∀ uu, uu < nu → ρ' (20 + 4 * uu) = ρ (20 + 4 * uu)) (hs : ∀ vv, vv < ns → ρ' (48 + 4 * vv) = ρ (48 + 4 * vv)) (hp : ∀ jj z, jj < np → z < 30 → ρ' (138 + 30 * jj + z) = ρ (138 + 30 * jj + z)) (hu7 : nu ≤ 7) (hn : ∀ k, 81 ≤ k → k < 112 → ρ' k = ρ k) : Bd ρ' nu ns np hr := by
  obtain ⟨h1, h2, h3, h4⟩ := h
  refine ⟨fun uu g1 => ?_, fun vv g1 => ?_, fun jj g1 => ?_, nb_cong h4 hn⟩
  · rw [hu uu g1]; exact h1 uu g1
  · rw [hs vv g1]; exact h2 vv g1
  · obtain ⟨hh, k1, k2, k3⟩ := h3 jj g1
    refine ⟨hh, k1, ?_, fun uu g2 => ?_⟩
    · rw [hp jj 28 g1 (by omega)]; exact k2
    · rw [hp jj uu g1 (by omega)]; exact k3 uu g2
theorem bd_np0 {ρ ρ' : Nat → Int32} {nu ns np hr : Nat} (h : Bd ρ nu ns np hr) (hu : ∀ uu, uu < nu → ρ' (20 + 4 * uu) = ρ (20 + 4 * uu)) (hs : ∀ vv, vv < ns → ρ' (48 + 4 * vv) = ρ (48 + 4 * vv)) (hn : ∀ k, 81 ≤ k → k < 112 → ρ' k = ρ k) : Bd ρ' nu ns 0 hr := by
  obtain ⟨h1, h2, -, h4⟩ := h
  refine ⟨fun uu g1 => ?_, fun vv g1 => ?_, fun _ hq => absurd hq (Nat.not_lt_zero _), nb_cong h4 hn⟩
  · rw [hu uu g1]; exact h1 uu g1
  · rw [hs vv g1]; exact h2 vv g1
def IRx (t : Nat) (σ : SS) (ρ : Nat → Int32) : Prop := ∃ nu ns nr nn nk np hr, IR t σ ρ nu ns nr nn nk np hr ∧ Bd ρ nu ns np hr
theorem IRx.cong {t : Nat} {σ σ' : SS} {ρ ρ' : Nat → Int32} (h : IRx t σ ρ) (hx : ∀ c, t ≤ c → c ≤ t + 14 → gI σ' c = gI σ c) (hm : ∀ k, k < 378 → ρ' k = ρ k) : IRx t σ' ρ' := by
  obtain ⟨nu, ns, nr, nn, nk, np, hr, hh, hb⟩ := h
  have h7 := hh.1.1
  have h5 := hh.1.2.1
  have h8 := hh.1.2.2.2.2.2.1
  exact ⟨nu, ns, nr, nn, nk, np, hr, hh.cong hx hm, bd_cong hb (fun uu _ => hm _ (by omega)) (fun vv _ => hm _ (by omega)) (fun jj z _ _ => hm _ (by omega)) h7 (fun k _ _ => hm k (by omega))⟩
def Im (t : Nat) (σx σm : SS) (fs kk off : Nat) : Prop := (gI σx 0 fs = nI 0 ∧ gI σm 82 kk = nI 0) ∨ (gI σx 0 fs = nI 1 ∧ gI σm 82 kk = nI 1 ∧ IRx t σx (fun k => gI σm 81 (off + k)))
def Tx (σx σm : SS) : Prop := ∃ nl, nl ≤ 150 ∧ gI σx 46 1 = nI nl ∧ gI σm 78 11 = nI nl ∧ ∀ k, k < nl → gI σx 47 k = gI σm 87 k ∧ ∃ by0, by0 ≤ 127 ∧ gI σm 87 k = nI by0
/-- all islands' tables are of their widths -/
def TCa (σx : SS) : Prop := (TCw 1 σx ∧ TCw 16 σx ∧ TCw 31 σx ∧ TCw 53 σx) ∧ gI σx 69 0 = nI 4 ∧ gI σx 69 1 = nI 7
def Fr (σx σm : SS) : Prop := gL σx 77 0 = gL σm 78 4 ∧ gL σx 77 1 = gL σm 78 5
/-- what was refused; and the best order found last, which is answered again where no order wins more than nothing -/
def Rf (σx σm : SS) : Prop := gI σx 0 12 = gI σm 83 0 ∧ gI σx 0 13 = gI σm 83 1 ∧ gI σx 0 14 = gI σm 83 2 ∧ ∀ k, k < 5 → gI σx 74 k = gI σm 89 k
def Rel (σx σm : SS) : Prop := IRx 1 σx (gI σm 79) ∧ TCa σx ∧ Im 16 σx σm 3 0 0 ∧ Im 31 σx σm 4 1 378 ∧ Tx σx σm ∧ Fr σx σm ∧ Rf σx σm
theorem TCw.cong {t : Nat} {σ σ' : SS} (h : TCw t σ) (hx : ∀ c, t ≤ c → c ≤ t + 14 → gI σ' c = gI σ c) : TCw t σ' := by
  unfold TCw at h ⊢
  rw [hx (t + 3) (by omega) (by omega), hx (t + 5) (by omega) (by omega), hx (t + 7) (by omega) (by omega), hx (t + 9) (by omega) (by omega), hx (t + 11) (by omega) (by omega), hx (t + 13) (by omega) (by omega)]
  exact h
/-- what the class and the model use by the way doesn't matter -/
theorem Rel.congB {σx σm σx' σm' : SS} (h : Rel σx σm) (hx : ∀ c, c ≤ 47 → gI σx' c = gI σx c) (hl : gL σx' 77 = gL σx 77) (hc : TCa σx') (hm : ∀ c, c = 78 ∨ c = 79 ∨ c = 81 ∨ c = 82 ∨ c = 83 ∨ c = 87 → gI σm' c = gI σm c) (hml : gL σm' 78 = gL σm 78) (hB : ∀ k, k < 5 → gI σx' 74 k = gI σm' 89 k) : Rel σx' σm' := by
  obtain ⟨h1, h2, h3, h4, ⟨nl, t1, t2, t3, t4⟩, h6, h7⟩ := h
  refine ⟨h1.cong (fun c _ _ => hx c (by omega)) (fun k _ => by rw [hm 79 (by omega)]), hc, ?_, ?_, ⟨nl, t1, ?_, ?_, ?_⟩, ?_, ?_⟩
  · unfold Im at h3 ⊢
    rw [hx 0 (by omega), hm 82 (by omega), hm 81 (by omega)]
    exact h3.imp id (fun hz => ⟨hz.1, hz.2.1, hz.2.2.cong (fun c _ _ => hx c (by omega)) (fun k _ => rfl)⟩)
  · unfold Im at h4 ⊢
    rw [hx 0 (by omega), hm 82 (by omega), hm 81 (by omega)]
    exact h4.imp id (fun hz => ⟨hz.1, hz.2.1, hz.2.2.cong (fun c _ _ => hx c (by omega)) (fun k _ => rfl)⟩)
  · rw [hx 46 (by omega)]; exact t2
  · rw [hm 78 (by omega)]; exact t3
  · rw [hx 47 (by omega), hm 87 (by omega)]; exact t4
  · unfold Fr at h6 ⊢; rw [hl, hml]; exact h6
  · unfold Rf at h7 ⊢; rw [hx 0 (by omega), hm 83 (by omega)]; exact ⟨h7.1, h7.2.1, h7.2.2.1, hB⟩
theorem Rel.cong {σx σm σx' σm' : SS} (h : Rel σx σm) (hx : ∀ c, c ≤ 47 ∨ c = 74 → gI σx' c = gI σx c) (hl : gL σx' 77 = gL σx 77) (hc : TCa σx') (hm : ∀ c, c = 78 ∨ c = 79 ∨ c = 81 ∨ c = 82 ∨ c = 83 ∨ c = 87 ∨ c = 89 → gI σm' c = gI σm c) (hml : gL σm' 78 = gL σm 78) : Rel σx' σm' :=
  h.congB (fun c g => hx c (Or.inl g)) hl hc (fun c g => hm c (by omega)) hml (fun k hk => by rw [hx 74 (Or.inr rfl), hm 89 (by omega)]; exact h.2.2.2.2.2.2.2.2.2 k hk)
theorem TCa.cong {σ σ' : SS} (h : TCa σ) (hx : ∀ c, (1 ≤ c ∧ c ≤ 47) ∨ (53 ≤ c ∧ c ≤ 67) → gI σ' c = gI σ c) (h9 : gI σ' 69 = gI σ 69) : TCa σ' := by
  obtain ⟨⟨h1, h2, h3, h4⟩, h5, h6⟩ := h
  refine ⟨⟨h1.cong (fun c hc1 hc2 => hx c (by omega)), h2.cong (fun c hc1 hc2 => hx c (by omega)), h3.cong (fun c hc1 hc2 => hx c (by omega)), h4.cong (fun c hc1 hc2 => hx c (by omega))⟩, by rw [h9]; exact h5, by rw [h9]; exact h6⟩
theorem TCa.cong2 {σ σ' : SS} (h : TCa σ) (hx : ∀ c, (1 ≤ c ∧ c ≤ 45) ∨ (53 ≤ c ∧ c ≤ 67) → gI σ' c = gI σ c) (h9 : gI σ' 69 = gI σ 69) : TCa σ' := by
  obtain ⟨⟨h1, h2, h3, h4⟩, h5, h6⟩ := h
  refine ⟨⟨h1.cong (fun c hc1 hc2 => hx c (by omega)), h2.cong (fun c hc1 hc2 => hx c (by omega)), h3.cong (fun c hc1 hc2 => hx c (by omega)), h4.cong (fun c hc1 hc2 => hx c (by omega))⟩, by rw [h9]; exact h5, by rw [h9]; exact h6⟩
