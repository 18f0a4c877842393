/-! ===== both answer alike ===== -/
def Cm {α : Type} (fx fm : Option (α × SS)) : Prop := ∃ rr σx' σm', fx = some (rr, σx') ∧ fm = some (rr, σm') ∧ Rel σx' σm'
section CMS
variable {α β γ δ : Type}
theorem cq_some {rr : α} {σx σm : SS} (h : Rel σx σm) : Cm (some (rr, σx)) (some (rr, σm)) := ⟨rr, σx, σm, rfl, rfl, h⟩
theorem cq_nmx {e : β} {k : β → Option (α × SS)} {fm : Option (α × SS)} (h : Cm (k e) fm) : Cm (nm e k) fm := h
theorem cq_nmm {e : β} {k : β → Option (α × SS)} {fx : Option (α × SS)} (h : Cm fx (k e)) : Cm fx (nm e k) := h
theorem cq_bdx {x : Option β} {bb : β} {k : β → Option (α × SS)} {fm : Option (α × SS)} (hx : x = some bb) (h : Cm (k bb) fm) : Cm (bd x k) fm := by subst hx; exact h
theorem cq_bdm {x : Option β} {bb : β} {k : β → Option (α × SS)} {fx : Option (α × SS)} (hx : x = some bb) (h : Cm fx (k bb)) : Cm fx (bd x k) := by subst hx; exact h
theorem cq_bd2x {x : Option (β × γ)} {bb : β} {cc : γ} {k : β → γ → Option (α × SS)} {fm : Option (α × SS)} (hx : x = some (bb, cc)) (h : Cm (k bb cc) fm) : Cm (bd2 x k) fm := by subst hx; exact h
theorem cq_bd2m {x : Option (β × γ)} {bb : β} {cc : γ} {k : β → γ → Option (α × SS)} {fx : Option (α × SS)} (hx : x = some (bb, cc)) (h : Cm fx (k bb cc)) : Cm fx (bd2 x k) := by subst hx; exact h
theorem cq_okx {x : Option β} {Q : β → Prop} {k : β → Option (α × SS)} {fm : Option (α × SS)} (hx : Ok x Q) (h : ∀ bb, Q bb → Cm (k bb) fm) : Cm (bd x k) fm := by
  obtain ⟨bb, h1, h2⟩ := hx
  subst h1
  exact h bb h2
theorem cq_okm {x : Option β} {Q : β → Prop} {k : β → Option (α × SS)} {fx : Option (α × SS)} (hx : Ok x Q) (h : ∀ bb, Q bb → Cm fx (k bb)) : Cm fx (bd x k) := by
  obtain ⟨bb, h1, h2⟩ := hx
  subst h1
  exact h bb h2
theorem cq_ok2x {x : Option (β × γ)} {Q : β × γ → Prop} {k : β → γ → Option (α × SS)} {fm : Option (α × SS)} (hx : Ok x Q) (h : ∀ bb cc, Q (bb, cc) → Cm (k bb cc) fm) : Cm (bd2 x k) fm := by
  obtain ⟨⟨bb, cc⟩, h1, h2⟩ := hx
  subst h1
  exact h bb cc h2
theorem cq_ok2m {x : Option (β × γ)} {Q : β × γ → Prop} {k : β → γ → Option (α × SS)} {fx : Option (α × SS)} (hx : Ok x Q) (h : ∀ bb cc, Q (bb, cc) → Cm fx (k bb cc)) : Cm fx (bd2 x k) := by
  obtain ⟨⟨bb, cc⟩, h1, h2⟩ := hx
  subst h1
  exact h bb cc h2
theorem cq_gx {b : Bool} {ff fm : Option (α × SS)} (hb : b = true) (h : Cm ff fm) : Cm (gd b ff) fm := by subst hb; exact h
theorem cq_gm {b : Bool} {ff fx : Option (α × SS)} (hb : b = true) (h : Cm fx ff) : Cm fx (gd b ff) := by subst hb; exact h
theorem cq_itx {c : Prop} [Decidable c] {ff gg fm : Option (α × SS)} (hc : c) (h : Cm ff fm) : Cm (if c then ff else gg) fm := by rw [if_pos hc]; exact h
theorem cq_ifx {c : Prop} [Decidable c] {ff gg fm : Option (α × SS)} (hc : ¬ c) (h : Cm gg fm) : Cm (if c then ff else gg) fm := by rw [if_neg hc]; exact h
theorem cq_itm {c : Prop} [Decidable c] {ff gg fx : Option (α × SS)} (hc : c) (h : Cm fx ff) : Cm fx (if c then ff else gg) := by rw [if_pos hc]; exact h
theorem cq_ifm {c : Prop} [Decidable c] {ff gg fx : Option (α × SS)} (hc : ¬ c) (h : Cm fx gg) : Cm fx (if c then ff else gg) := by rw [if_neg hc]; exact h
/-- both ask the same -/
theorem cq_both {c : Prop} [Decidable c] {f1 g1 f2 g2 : Option (α × SS)} (h1 : c → Cm f1 f2) (h2 : ¬ c → Cm g1 g2) : Cm (if c then f1 else g1) (if c then f2 else g2) := by
  by_cases hc : c
  · rw [if_pos hc, if_pos hc]; exact h1 hc
  · rw [if_neg hc, if_neg hc]; exact h2 hc
end CMS
theorem refuse_bad (σ : SS) : FX11_refuse 0 (-2 : Int32) σ = some ((-2 : Int32), pI σ 0 12 (gI σ 0 12 + nI 1)) := rfl
theorem refuse_no (σ : SS) : FX11_refuse 0 (-3 : Int32) σ = some ((-3 : Int32), pI σ 0 13 (gI σ 0 13 + nI 1)) := rfl
theorem refuse_full (σ : SS) : FX11_refuse 0 (-4 : Int32) σ = some ((-4 : Int32), pI σ 0 14 (gI σ 0 14 + nI 1)) := rfl
theorem bad_eq (σ : SS) : FX12_bad 78 σ = some ((-2 : Int32), pI σ 83 0 (gI σ 83 0 + nI 1)) := by
  unfold FX12_bad
  simp only [lk_78_6, ln_83]
  rw [gd_n (by omega) (by omega), gd_n (by omega) (by omega), nm_eq, ix_n (by omega)]
theorem no_eq (σ : SS) : FX12_no 78 σ = some ((-3 : Int32), pI σ 83 1 (gI σ 83 1 + nI 1)) := by
  unfold FX12_no
  simp only [lk_78_6, ln_83]
  rw [gd_n (by omega) (by omega), gd_n (by omega) (by omega), nm_eq, ix_n (by omega)]
theorem full_eq (σ : SS) : FX12_full 78 σ = some ((-4 : Int32), pI σ 83 2 (gI σ 83 2 + nI 1)) := by
  unfold FX12_full
  simp only [lk_78_6, ln_83]
  rw [gd_n (by omega) (by omega), gd_n (by omega) (by omega), nm_eq, ix_n (by omega)]
theorem rel_ref {σx σm : SS} (R : Rel σx σm) {jj : Nat} (hj : jj < 3) : Rel (pI σx 0 (12 + jj) (gI σx 0 (12 + jj) + nI 1)) (pI σm 83 jj (gI σm 83 jj + nI 1)) := by
  obtain ⟨h1, h2, h3, h4, ⟨nl, t1, t2, t3, t4⟩, h6, h7⟩ := R
  refine ⟨h1.cong (fun c hc1 _ => gI_pI_ne (by omega)) (fun k _ => by rw [gI_pI_ne (by omega)]), h2.cong (fun c hc1 => gI_pI_ne (by omega)) (gI_pI_ne (by omega)), ?_, ?_, ⟨nl, t1, ?_, ?_, ?_⟩, h6, ?_⟩
  · unfold Im at h3 ⊢
    rw [gI_pI_eq, upd_ap, if_neg (by omega), gI_pI_ne (show 82 ≠ 83 by omega), gI_pI_ne (show 81 ≠ 83 by omega)]
    exact h3.imp id (fun hz => ⟨hz.1, hz.2.1, hz.2.2.cong (fun c hc1 _ => gI_pI_ne (by omega)) (fun k _ => rfl)⟩)
  · unfold Im at h4 ⊢
    rw [gI_pI_eq, upd_ap, if_neg (by omega), gI_pI_ne (show 82 ≠ 83 by omega), gI_pI_ne (show 81 ≠ 83 by omega)]
    exact h4.imp id (fun hz => ⟨hz.1, hz.2.1, hz.2.2.cong (fun c hc1 _ => gI_pI_ne (by omega)) (fun k _ => rfl)⟩)
  · rw [gI_pI_ne (by omega)]; exact t2
  · rw [gI_pI_ne (by omega)]; exact t3
  · rw [gI_pI_ne (by omega), gI_pI_ne (by omega)]; exact t4
  · obtain ⟨r1, r2, r3, r4⟩ := h7
    unfold Rf
    rw [gI_pI_eq, gI_pI_eq, gI_pI_ne (show 74 ≠ 0 by omega), gI_pI_ne (show 89 ≠ 83 by omega)]
    have hz : jj = 0 ∨ jj = 1 ∨ jj = 2 := by omega
    rcases hz with rfl | rfl | rfl
    · exact ⟨by rw [upd_ap, upd_ap, if_pos rfl, if_pos rfl, r1], by rw [upd_ap, upd_ap, if_neg (by omega), if_neg (by omega), r2], by rw [upd_ap, upd_ap, if_neg (by omega), if_neg (by omega), r3], r4⟩
    · exact ⟨by rw [upd_ap, upd_ap, if_neg (by omega), if_neg (by omega), r1], by rw [upd_ap, upd_ap, if_pos rfl, if_pos rfl, r2], by rw [upd_ap, upd_ap, if_neg (by omega), if_neg (by omega), r3], r4⟩
    · exact ⟨by rw [upd_ap, upd_ap, if_neg (by omega), if_neg (by omega), r1], by rw [upd_ap, upd_ap, if_neg (by omega), if_neg (by omega), r2], by rw [upd_ap, upd_ap, if_pos rfl, if_pos rfl, r3], r4⟩
theorem cq_bad {σx σm : SS} (R : Rel σx σm) : Cm (bd2 (FX11_refuse 0 (-2 : Int32) σx) (fun (r2 : Int32) (s3 : SS) => some (r2, s3))) (bd2 (FX12_bad 78 σm) (fun (r2 : Int32) (s3 : SS) => some (r2, s3))) :=
  cq_bd2x (refuse_bad σx) (cq_bd2m (bad_eq σm) (cq_some (rel_ref R (jj := 0) (by omega))))
theorem cq_no {σx σm : SS} (R : Rel σx σm) : Cm (bd2 (FX11_refuse 0 (-3 : Int32) σx) (fun (r2 : Int32) (s3 : SS) => some (r2, s3))) (bd2 (FX12_no 78 σm) (fun (r2 : Int32) (s3 : SS) => some (r2, s3))) :=
  cq_bd2x (refuse_no σx) (cq_bd2m (no_eq σm) (cq_some (rel_ref R (jj := 1) (by omega))))
theorem cq_full {σx σm : SS} (R : Rel σx σm) : Cm (bd2 (FX11_refuse 0 (-4 : Int32) σx) (fun (r2 : Int32) (s3 : SS) => some (r2, s3))) (bd2 (FX12_full 78 σm) (fun (r2 : Int32) (s3 : SS) => some (r2, s3))) :=
  cq_bd2x (refuse_full σx) (cq_bd2m (full_eq σm) (cq_some (rel_ref R (jj := 2) (by omega))))
theorem cq_guard {σx σm : SS} {ww : Int32} {k1 k2 : Option (Int32 × SS)} (R : Rel σx σm) (hk : ¬ ww = 0 → Cm k1 k2) : Cm (if ww = 0 then bd2 (FX11_refuse 0 (-2 : Int32) σx) (fun (r2 : Int32) (s3 : SS) => some (r2, s3)) else k1) (if ww = 0 then bd2 (FX12_bad 78 σm) (fun (r2 : Int32) (s3 : SS) => some (r2, s3)) else k2) :=
  cq_both (fun _ => cq_bad R) hk
theorem isKind_eq (a : Int32) (s : SS) : FX11_isKind a s = some (wi a (nI 0) (nI 5)) := by unfold FX11_isKind; rw [within_eq, bd_s, gd_of (wi_zb _ _ _)]
theorem isCell_eq (a : Int32) (s : SS) : FX11_isCell a s = some (wi a (nI 0) (nI 11)) := by unfold FX11_isCell; rw [within_eq, bd_s, gd_of (wi_zb _ _ _)]
theorem isHeight_eq (a : Int32) (s : SS) : FX11_isHeight a s = some (wi a (nI 1) (nI 4)) := by unfold FX11_isHeight; rw [within_eq, bd_s, gd_of (wi_zb _ _ _)]
theorem isHod_eq (a : Int32) (s : SS) : FX11_isHourOfDay a s = some (wi a (nI 0) (nI 7)) := by unfold FX11_isHourOfDay; rw [within_eq, bd_s, gd_of (wi_zb _ _ _)]
theorem isUser_x (a : Int32) (s : SS) : FX11_isUser 0 a s = some (wi a (nI 0) (gI s 4 3 - nI 1)) := by unfold FX11_isUser; simp only [lk_0_0, lk_1_2]; rw [within_eq, bd_s, gd_of (wi_zb _ _ _)]
theorem isSuit_x (a : Int32) (s : SS) : FX11_isSuit 0 a s = some (wi a (nI 0) (gI s 6 3 - nI 1)) := by unfold FX11_isSuit; simp only [lk_0_0, lk_1_3]; rw [within_eq, bd_s, gd_of (wi_zb _ _ _)]
theorem isUser_m (a : Int32) (s : SS) : FX12_isUser 78 a s = some (wi a (nI 0) (gI s 79 16 - nI 1)) := by unfold FX12_isUser; simp only [lk_78_0, ln_79]; rw [gd_n (by omega) (by omega), ix_n (by omega), l_N0, in_eq, bd_s, gd_of (wi_zb _ _ _)]
theorem isSuit_m (a : Int32) (s : SS) : FX12_isSuit 78 a s = some (wi a (nI 0) (gI s 79 45 - nI 1)) := by unfold FX12_isSuit; simp only [lk_78_0, ln_79]; rw [gd_n (by omega) (by omega), ix_n (by omega), l_N0, in_eq, bd_s, gd_of (wi_zb _ _ _)]
theorem wi_cnt {a : Int32} {nc : Nat} (hn : nc < 1000) (h : ¬ wi a (nI 0) (nI nc - nI 1) = 0) : ∃ jj, jj < nc ∧ a = nI jj := by
  rcases Nat.eq_zero_or_pos nc with hz | hz
  · subst hz
    exfalso
    apply h
    unfold wi
    by_cases h1 : a < nI 0
    · rw [if_pos h1, nI_0]
    · rw [if_neg h1]
      have h2 : nI 0 - nI 1 < nI 0 := by decide +kernel
      rw [if_pos (Int32.lt_of_lt_of_le h2 (Int32.not_lt.mp h1)), nI_0]
  · rw [nI_subn (by omega)] at h
    obtain ⟨jj, -, h2, h3⟩ := wi_in (by omega) (by omega) h
    exact ⟨jj, by omega, h3⟩
/-! what an island's tables answer -/
theorem ir_user {t : Nat} {σ : SS} {ρ : Nat → Int32} {nu ns nr nn nk np hr : Nat} (ht : kd t = 4) (hT : TCw t σ) (hI : IR t σ ρ nu ns nr nn nk np hr) {uu cc : Nat} (hu : uu < nu) (hc : cc < 4) : FX9_at (t + 3) (nI uu) (nI cc) σ = some (ρ (17 + 4 * uu + cc)) := by
  have h7 := hI.1.1
  rw [at_in (ikd_3 ht) hT.1.1 hI.2.2.1.1 (iln_4 ht) hu hc (by omega) (by omega) (by omega) (by omega)]
  exact congrArg some (hI.2.2.2.1.2.1 uu cc hu hc)
theorem ir_suit {t : Nat} {σ : SS} {ρ : Nat → Int32} {nu ns nr nn nk np hr : Nat} (ht : kd t = 4) (hT : TCw t σ) (hI : IR t σ ρ nu ns nr nn nk np hr) {uu cc : Nat} (hu : uu < ns) (hc : cc < 4) : FX9_at (t + 5) (nI uu) (nI cc) σ = some (ρ (46 + 4 * uu + cc)) := by
  have h7 := hI.1.2.1
  rw [at_in (ikd_5 ht) hT.2.1.1 hI.2.2.1.2.1 (iln_6 ht) hu hc (by omega) (by omega) (by omega) (by omega)]
  exact congrArg some (hI.2.2.2.1.2.2.1 uu cc hu hc)
theorem suitOf_eq {aa uu ww : Nat} (hl : ln aa = 378) (h1 : uu < 50) (h2 : ww < 50) (σ : SS) : FX12_suitOf aa (nI uu) (nI ww) σ = some (gI σ aa (46 + 4 * uu + ww)) := by
  unfold FX12_suitOf
  rw [nI_muln, nI_addn, nI_addn, hl, gd_n (by omega) (by omega), ix_n (by omega)]
