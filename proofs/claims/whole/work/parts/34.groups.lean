/-! ===== an island by its parts ===== -/
theorem upd_ne {f : Nat → Int32} {k jj : Nat} {v : Int32} (h : jj ≠ k) : upd f k v jj = f jj := by rw [upd_ap, if_neg h]
theorem upd_eq {f : Nat → Int32} {k : Nat} {v : Int32} : upd f k v k = v := by rw [upd_ap, if_pos rfl]
def Jw (t : Nat) (σ : SS) (ρ : Nat → Int32) : Prop := ∀ hh, hh < 8 → (gI σ (t + 1) hh = ρ (2 * hh) ∧ gI σ (t + 2) hh = ρ (2 * hh + 1)) ∧ (∃ sx, sx ≤ 20 ∧ ρ (2 * hh) = nI sx) ∧ ∃ sd, sd ≤ 1 ∧ ρ (2 * hh + 1) = nI sd
def Ju (t : Nat) (σ : SS) (ρ : Nat → Int32) (nu : Nat) : Prop := nu ≤ 7 ∧ ρ 16 = nI nu ∧ gI σ (t + 3) 3 = nI nu ∧ (∀ uu cc, uu < nu → cc < 4 → gI σ (t + 4) (uu * 4 + cc) = ρ (17 + 4 * uu + cc)) ∧ ∃ K C H : Nat → Nat, UR nu K C H ∧ ∀ uu, uu < nu → ρ (17 + 4 * uu) = nI (K uu) ∧ ρ (18 + 4 * uu) = nI (C uu) ∧ ρ (19 + 4 * uu) = nI (H uu)
def Js (t : Nat) (σ : SS) (ρ : Nat → Int32) (nu ns : Nat) : Prop := ns ≤ 5 ∧ ρ 45 = nI ns ∧ gI σ (t + 5) 3 = nI ns ∧ (∀ uu cc, uu < ns → cc < 4 → gI σ (t + 6) (uu * 4 + cc) = ρ (46 + 4 * uu + cc)) ∧ ∀ vv, vv < ns → (∃ kk, kk ≤ 5 ∧ ρ (46 + 4 * vv) = nI kk) ∧ ∃ uu, uu < nu ∧ ρ (47 + 4 * vv) = nI uu
def Jr (t : Nat) (σ : SS) (ρ : Nat → Int32) (nr : Nat) : Prop := nr ≤ 4 ∧ ρ 68 = nI nr ∧ gI σ (t + 7) 3 = nI nr ∧ (∀ uu cc, uu < nr → cc < 3 → gI σ (t + 8) (uu * 3 + cc) = ρ (69 + 3 * uu + cc)) ∧ ∀ vv, vv < nr → (∃ hh, hh ≤ 7 ∧ ρ (69 + 3 * vv) = nI hh) ∧ ∃ cc, cc ≤ 11 ∧ ρ (70 + 3 * vv) = nI cc
def Jn (t : Nat) (σ : SS) (ρ : Nat → Int32) (nn : Nat) : Prop := nn ≤ 6 ∧ ρ 81 = nI nn ∧ gI σ (t + 9) 3 = nI nn ∧ ∀ uu cc, uu < nn → cc < 5 → gI σ (t + 10) (uu * 5 + cc) = ρ (82 + 5 * uu + cc)
def Jk (t : Nat) (σ : SS) (ρ : Nat → Int32) (nk : Nat) : Prop := nk ≤ 6 ∧ ρ 112 = nI nk ∧ gI σ (t + 11) 3 = nI nk ∧ ∀ uu cc, uu < nk → cc < 4 → gI σ (t + 12) (uu * 4 + cc) = ρ (113 + 4 * uu + cc)
def Jh (t : Nat) (σ : SS) (ρ : Nat → Int32) (hr : Nat) : Prop := hr ≤ 9999 ∧ ρ 66 = nI hr ∧ gI σ t 8 = nI hr ∧ gI σ t 9 = ρ 67
def Jp (t : Nat) (σ : SS) (ρ : Nat → Int32) (nu ns np : Nat) : Prop := np ≤ 8 ∧ ρ 137 = nI np ∧ gI σ (t + 13) 3 = nI np ∧ PR (gI σ (t + 14)) ρ nu ns np
theorem IR.parts {t : Nat} {σ : SS} {ρ : Nat → Int32} {nu ns nr nn nk np hr : Nat} (h : IR t σ ρ nu ns nr nn nk np hr) : Jw t σ ρ ∧ Ju t σ ρ nu ∧ Js t σ ρ nu ns ∧ Jr t σ ρ nr ∧ Jn t σ ρ nn ∧ Jk t σ ρ nk ∧ Jh t σ ρ hr ∧ Jp t σ ρ nu ns np := by
  obtain ⟨⟨a1, a2, a3, a4, a5, a6, a7⟩, ⟨b1, b2, b3, b4, b5, b6, b7⟩, ⟨c1, c2, c3, c4, c5, c6, c7, c8⟩, ⟨d1, d2, d3, d4, d5, d6⟩, ⟨v1, v2, v4, v5⟩, hp⟩ := h
  exact ⟨fun hh hl => ⟨d1 hh hl, v1 hh hl⟩, ⟨a1, b1, c1, d2, v2⟩, ⟨a2, b2, c2, d3, v4⟩, ⟨a3, b3, c3, d4, v5⟩, ⟨a4, b4, c4, d5⟩, ⟨a5, b5, c5, d6⟩, ⟨a7, b7, c7, c8⟩, ⟨a6, b6, c6, hp⟩⟩
theorem ir_of {t : Nat} {σ : SS} {ρ : Nat → Int32} {nu ns nr nn nk np hr : Nat} (h1 : Jw t σ ρ) (h2 : Ju t σ ρ nu) (h3 : Js t σ ρ nu ns) (h4 : Jr t σ ρ nr) (h5 : Jn t σ ρ nn) (h6 : Jk t σ ρ nk) (h7 : Jh t σ ρ hr) (h8 : Jp t σ ρ nu ns np) : IR t σ ρ nu ns nr nn nk np hr := by
  obtain ⟨a1, b1, c1, d2, v2⟩ := h2
  obtain ⟨a2, b2, c2, d3, v4⟩ := h3
  obtain ⟨a3, b3, c3, d4, v5⟩ := h4
  obtain ⟨a4, b4, c4, d5⟩ := h5
  obtain ⟨a5, b5, c5, d6⟩ := h6
  obtain ⟨a7, b7, c7, c8⟩ := h7
  obtain ⟨a6, b6, c6, hp⟩ := h8
  exact ⟨⟨a1, a2, a3, a4, a5, a6, a7⟩, ⟨b1, b2, b3, b4, b5, b6, b7⟩, ⟨c1, c2, c3, c4, c5, c6, c7, c8⟩, ⟨fun hh hl => (h1 hh hl).1, d2, d3, d4, d5, d6⟩, ⟨fun hh hl => (h1 hh hl).2, v2, v4, v5⟩, hp⟩
section JC
variable {t : Nat} {σ σ' : SS} {ρ ρ' : Nat → Int32}
theorem Jw.cong (h : Jw t σ ρ) (e1 : gI σ' (t + 1) = gI σ (t + 1)) (e2 : gI σ' (t + 2) = gI σ (t + 2)) (hm : ∀ k, k < 16 → ρ' k = ρ k) : Jw t σ' ρ' := by
  intro hh hl
  rw [e1, e2, hm (2 * hh) (by omega), hm (2 * hh + 1) (by omega)]
  exact h hh hl
theorem Ju.cong {nu : Nat} (h : Ju t σ ρ nu) (e1 : gI σ' (t + 3) 3 = gI σ (t + 3) 3) (e2 : gI σ' (t + 4) = gI σ (t + 4)) (hm : ∀ k, 16 ≤ k → k < 45 → ρ' k = ρ k) : Ju t σ' ρ' nu := by
  obtain ⟨g1, g2, g3, g4, K, C, H, g5, g6⟩ := h
  refine ⟨g1, by rw [hm 16 (by omega) (by omega)]; exact g2, by rw [e1]; exact g3, fun uu cc hu hc => ?_, K, C, H, g5, fun uu hu => ?_⟩
  · rw [e2, hm _ (by omega) (by omega)]; exact g4 uu cc hu hc
  · rw [hm (17 + 4 * uu) (by omega) (by omega), hm (18 + 4 * uu) (by omega) (by omega), hm (19 + 4 * uu) (by omega) (by omega)]; exact g6 uu hu
theorem Js.cong {nu ns : Nat} (h : Js t σ ρ nu ns) (e1 : gI σ' (t + 5) 3 = gI σ (t + 5) 3) (e2 : gI σ' (t + 6) = gI σ (t + 6)) (hm : ∀ k, 45 ≤ k → k < 66 → ρ' k = ρ k) : Js t σ' ρ' nu ns := by
  obtain ⟨g1, g2, g3, g4, g5⟩ := h
  refine ⟨g1, by rw [hm 45 (by omega) (by omega)]; exact g2, by rw [e1]; exact g3, fun uu cc hu hc => ?_, fun vv hv => ?_⟩
  · rw [e2, hm _ (by omega) (by omega)]; exact g4 uu cc hu hc
  · rw [hm (46 + 4 * vv) (by omega) (by omega), hm (47 + 4 * vv) (by omega) (by omega)]; exact g5 vv hv
theorem Jr.cong {nr : Nat} (h : Jr t σ ρ nr) (e1 : gI σ' (t + 7) 3 = gI σ (t + 7) 3) (e2 : gI σ' (t + 8) = gI σ (t + 8)) (hm : ∀ k, 68 ≤ k → k < 81 → ρ' k = ρ k) : Jr t σ' ρ' nr := by
  obtain ⟨g1, g2, g3, g4, g5⟩ := h
  refine ⟨g1, by rw [hm 68 (by omega) (by omega)]; exact g2, by rw [e1]; exact g3, fun uu cc hu hc => ?_, fun vv hv => ?_⟩
  · rw [e2, hm _ (by omega) (by omega)]; exact g4 uu cc hu hc
  · rw [hm (69 + 3 * vv) (by omega) (by omega), hm (70 + 3 * vv) (by omega) (by omega)]; exact g5 vv hv
theorem Jn.cong {nn : Nat} (h : Jn t σ ρ nn) (e1 : gI σ' (t + 9) 3 = gI σ (t + 9) 3) (e2 : gI σ' (t + 10) = gI σ (t + 10)) (hm : ∀ k, 81 ≤ k → k < 112 → ρ' k = ρ k) : Jn t σ' ρ' nn := by
  obtain ⟨g1, g2, g3, g4⟩ := h
  refine ⟨g1, by rw [hm 81 (by omega) (by omega)]; exact g2, by rw [e1]; exact g3, fun uu cc hu hc => ?_⟩
  rw [e2, hm _ (by omega) (by omega)]; exact g4 uu cc hu hc
theorem Jk.cong {nk : Nat} (h : Jk t σ ρ nk) (e1 : gI σ' (t + 11) 3 = gI σ (t + 11) 3) (e2 : gI σ' (t + 12) = gI σ (t + 12)) (hm : ∀ k, 112 ≤ k → k < 137 → ρ' k = ρ k) : Jk t σ' ρ' nk := by
  obtain ⟨g1, g2, g3, g4⟩ := h
  refine ⟨g1, by rw [hm 112 (by omega) (by omega)]; exact g2, by rw [e1]; exact g3, fun uu cc hu hc => ?_⟩
  rw [e2, hm _ (by omega) (by omega)]; exact g4 uu cc hu hc
theorem Jh.cong {hr : Nat} (h : Jh t σ ρ hr) (e1 : gI σ' t 8 = gI σ t 8) (e2 : gI σ' t 9 = gI σ t 9) (hm : ∀ k, 66 ≤ k → k < 68 → ρ' k = ρ k) : Jh t σ' ρ' hr := by
  obtain ⟨g1, g2, g3, g4⟩ := h
  exact ⟨g1, by rw [hm 66 (by omega) (by omega)]; exact g2, by rw [e1]; exact g3, by rw [e2, hm 67 (by omega) (by omega)]; exact g4⟩
theorem Jp.cong {nu ns np : Nat} (h : Jp t σ ρ nu ns np) (hu7 : nu ≤ 7) (hs5 : ns ≤ 5) (e1 : gI σ' (t + 13) 3 = gI σ (t + 13) 3) (e2 : gI σ' (t + 14) = gI σ (t + 14)) (hm : ∀ k, 137 ≤ k → k < 378 → ρ' k = ρ k) (hk : ∀ vv ww, vv < 5 → ww < 3 → ρ' (46 + 4 * vv + ww) = ρ (46 + 4 * vv + ww)) : Jp t σ' ρ' nu ns np := by
  obtain ⟨g1, g2, g3, kk, p1, p2⟩ := h
  refine ⟨g1, by rw [hm 137 (by omega) (by omega)]; exact g2, by rw [e1]; exact g3, kk, p1, fun jj hj => ?_⟩
  obtain ⟨q0, q1, q2, q3, q4, q5, q6⟩ := p2 jj hj
  refine ⟨q0, ?_, ?_, ?_, fun uu hu => ?_, fun vv hv => ?_, fun vv hv ww hw => ?_⟩
  · rw [e2, hm _ (by omega) (by omega)]; exact q1
  · rw [e2, hm _ (by omega) (by omega)]; exact q2
  · rw [e2, hm _ (by omega) (by omega)]; exact q3
  · rw [e2, hm _ (by omega) (by omega)]; exact q4 uu hu
  · rw [e2, hm _ (by omega) (by omega)]; exact q5 vv hv
  · rw [hm _ (by omega) (by omega), hk _ _ (by omega) hw]; exact q6 vv hv ww hw
/-- nothing to undo -/
theorem jp_0 {nu ns : Nat} (h1 : ρ 137 = nI 0) (h2 : gI σ (t + 13) 3 = nI 0) : Jp t σ ρ nu ns 0 := ⟨by omega, h1, h2, fun _ => 0, fun _ _ _ hq => absurd hq (Nat.not_lt_zero _), fun _ hq => absurd hq (Nat.not_lt_zero _)⟩
end JC
section JD
variable {t : Nat} {σ : SS} {ρ : Nat → Int32} {nu ns nr nn nk np hr : Nat}
theorem ir_dues (hI : IR t σ ρ nu ns nr nn nk np hr) {uu : Nat} (hu : uu < nu) (v : Int32) : IR t (pI σ (t + 4) (uu * 4 + 3) v) (upd ρ (20 + 4 * uu) v) nu ns nr nn nk np hr := by
  obtain ⟨h1, ⟨u1, u2z, u3z, u4z, K, C, H, u5z, u6z⟩, h3, h4, h5, h6, h7, h8⟩ := hI.parts
  refine ir_of (h1.cong (gI_pI_ne (by omega)) (gI_pI_ne (by omega)) (fun k g1 => upd_ne (by omega))) ⟨u1, ?_, ?_, fun u1z cc g1 g2 => ?_, K, C, H, u5z, fun u1z g1 => ?_⟩ (h3.cong (by rw [gI_pI_ne (by omega)]) (gI_pI_ne (by omega)) (fun k g1 g2 => upd_ne (by omega))) (h4.cong (by rw [gI_pI_ne (by omega)]) (gI_pI_ne (by omega)) (fun k g1 g2 => upd_ne (by omega))) (h5.cong (by rw [gI_pI_ne (by omega)]) (gI_pI_ne (by omega)) (fun k g1 g2 => upd_ne (by omega))) (h6.cong (by rw [gI_pI_ne (by omega)]) (gI_pI_ne (by omega)) (fun k g1 g2 => upd_ne (by omega))) (h7.cong (by rw [gI_pI_ne (by omega)]) (by rw [gI_pI_ne (by omega)]) (fun k g1 g2 => upd_ne (by omega))) (h8.cong u1 h3.1 (by rw [gI_pI_ne (by omega)]) (gI_pI_ne (by omega)) (fun k g1 g2 => upd_ne (by omega)) (fun vv ww g1 g2 => upd_ne (by omega)))
  · rw [upd_ne (by omega)]; exact u2z
  · rw [gI_pI_ne (by omega)]; exact u3z
  · rw [gI_pI_eq, upd_ap, upd_ap]
    by_cases hq : u1z * 4 + cc = uu * 4 + 3
    · rw [if_pos hq, if_pos (by omega)]
    · rw [if_neg hq, if_neg (by omega)]; exact u4z u1z cc g1 g2
  · rw [upd_ne (by omega), upd_ne (by omega), upd_ne (by omega)]; exact u6z u1z g1
theorem ir_heard (hI : IR t σ ρ nu ns nr nn nk np hr) {vv : Nat} (hv : vv < ns) (v : Int32) : IR t (pI σ (t + 6) (vv * 4 + 3) v) (upd ρ (49 + 4 * vv) v) nu ns nr nn nk np hr := by
  obtain ⟨h1, h2, ⟨s1, s2z, s3z, s4z, s5z⟩, h4, h5, h6, h7, h8⟩ := hI.parts
  refine ir_of (h1.cong (gI_pI_ne (by omega)) (gI_pI_ne (by omega)) (fun k g1 => upd_ne (by omega))) (h2.cong (by rw [gI_pI_ne (by omega)]) (gI_pI_ne (by omega)) (fun k g1 g2 => upd_ne (by omega))) ⟨s1, ?_, ?_, fun u1z cc g1 g2 => ?_, fun u1z g1 => ?_⟩ (h4.cong (by rw [gI_pI_ne (by omega)]) (gI_pI_ne (by omega)) (fun k g1 g2 => upd_ne (by omega))) (h5.cong (by rw [gI_pI_ne (by omega)]) (gI_pI_ne (by omega)) (fun k g1 g2 => upd_ne (by omega))) (h6.cong (by rw [gI_pI_ne (by omega)]) (gI_pI_ne (by omega)) (fun k g1 g2 => upd_ne (by omega))) (h7.cong (by rw [gI_pI_ne (by omega)]) (by rw [gI_pI_ne (by omega)]) (fun k g1 g2 => upd_ne (by omega))) (h8.cong h2.1 s1 (by rw [gI_pI_ne (by omega)]) (gI_pI_ne (by omega)) (fun k g1 g2 => upd_ne (by omega)) (fun v1z ww g1 g2 => upd_ne (by omega)))
  · rw [upd_ne (by omega)]; exact s2z
  · rw [gI_pI_ne (by omega)]; exact s3z
  · rw [gI_pI_eq, upd_ap, upd_ap]
    by_cases hq : u1z * 4 + cc = vv * 4 + 3
    · rw [if_pos hq, if_pos (by omega)]
    · rw [if_neg hq, if_neg (by omega)]; exact s4z u1z cc g1 g2
  · rw [upd_ne (by omega), upd_ne (by omega)]; exact s5z u1z g1
theorem ir_time (hI : IR t σ ρ nu ns nr nn nk np hr) {h2z : Nat} (hq9 : h2z ≤ 9999) : IR t (pI σ t 8 (nI h2z)) (upd ρ 66 (nI h2z)) nu ns nr nn nk np h2z := by
  obtain ⟨h1, h2, h3, h4, h5, h6, ⟨i1, i2, i3, i4⟩, h8⟩ := hI.parts
  refine ir_of (h1.cong (gI_pI_ne (by omega)) (gI_pI_ne (by omega)) (fun k g1 => upd_ne (by omega))) (h2.cong (by rw [gI_pI_ne (by omega)]) (gI_pI_ne (by omega)) (fun k g1 g2 => upd_ne (by omega))) (h3.cong (by rw [gI_pI_ne (by omega)]) (gI_pI_ne (by omega)) (fun k g1 g2 => upd_ne (by omega))) (h4.cong (by rw [gI_pI_ne (by omega)]) (gI_pI_ne (by omega)) (fun k g1 g2 => upd_ne (by omega))) (h5.cong (by rw [gI_pI_ne (by omega)]) (gI_pI_ne (by omega)) (fun k g1 g2 => upd_ne (by omega))) (h6.cong (by rw [gI_pI_ne (by omega)]) (gI_pI_ne (by omega)) (fun k g1 g2 => upd_ne (by omega))) ⟨hq9, upd_eq, ?_, ?_⟩ (h8.cong h2.1 h3.1 (by rw [gI_pI_ne (by omega)]) (gI_pI_ne (by omega)) (fun k g1 g2 => upd_ne (by omega)) (fun v1z ww g1 g2 => upd_ne (by omega)))
  · rw [gI_pI_eq, upd_eq]
  · rw [gI_pI_eq, upd_ne (by omega), upd_ne (by omega)]; exact i4
theorem ir_won (hI : IR t σ ρ nu ns nr nn nk np hr) (v : Int32) : IR t (pI σ t 9 v) (upd ρ 67 v) nu ns nr nn nk np hr := by
  obtain ⟨h1, h2, h3, h4, h5, h6, ⟨i1, i2, i3, i4⟩, h8⟩ := hI.parts
  refine ir_of (h1.cong (gI_pI_ne (by omega)) (gI_pI_ne (by omega)) (fun k g1 => upd_ne (by omega))) (h2.cong (by rw [gI_pI_ne (by omega)]) (gI_pI_ne (by omega)) (fun k g1 g2 => upd_ne (by omega))) (h3.cong (by rw [gI_pI_ne (by omega)]) (gI_pI_ne (by omega)) (fun k g1 g2 => upd_ne (by omega))) (h4.cong (by rw [gI_pI_ne (by omega)]) (gI_pI_ne (by omega)) (fun k g1 g2 => upd_ne (by omega))) (h5.cong (by rw [gI_pI_ne (by omega)]) (gI_pI_ne (by omega)) (fun k g1 g2 => upd_ne (by omega))) (h6.cong (by rw [gI_pI_ne (by omega)]) (gI_pI_ne (by omega)) (fun k g1 g2 => upd_ne (by omega))) ⟨i1, ?_, ?_, ?_⟩ (h8.cong h2.1 h3.1 (by rw [gI_pI_ne (by omega)]) (gI_pI_ne (by omega)) (fun k g1 g2 => upd_ne (by omega)) (fun v1z ww g1 g2 => upd_ne (by omega)))
  · rw [upd_ne (by omega)]; exact i2
  · rw [gI_pI_eq, upd_ne (by omega)]; exact i3
  · rw [gI_pI_eq, upd_eq, upd_eq]
theorem ir_past0 (hI : IR t σ ρ nu ns nr nn nk np hr) : IR t (pI σ (t + 13) 3 (nI 0)) (upd ρ 137 (nI 0)) nu ns nr nn nk 0 hr := by
  obtain ⟨h1, h2, h3, h4, h5, h6, h7, h8⟩ := hI.parts
  exact ir_of (h1.cong (gI_pI_ne (by omega)) (gI_pI_ne (by omega)) (fun k g1 => upd_ne (by omega))) (h2.cong (by rw [gI_pI_ne (by omega)]) (gI_pI_ne (by omega)) (fun k g1 g2 => upd_ne (by omega))) (h3.cong (by rw [gI_pI_ne (by omega)]) (gI_pI_ne (by omega)) (fun k g1 g2 => upd_ne (by omega))) (h4.cong (by rw [gI_pI_ne (by omega)]) (gI_pI_ne (by omega)) (fun k g1 g2 => upd_ne (by omega))) (h5.cong (by rw [gI_pI_ne (by omega)]) (gI_pI_ne (by omega)) (fun k g1 g2 => upd_ne (by omega))) (h6.cong (by rw [gI_pI_ne (by omega)]) (gI_pI_ne (by omega)) (fun k g1 g2 => upd_ne (by omega))) (h7.cong (by rw [gI_pI_ne (by omega)]) (by rw [gI_pI_ne (by omega)]) (fun k g1 g2 => upd_ne (by omega))) (jp_0 upd_eq (by rw [gI_pI_eq, upd_eq]))
theorem ir_gust (hI : IR t σ ρ nu ns nr nn nk np hr) {hh sx sd : Nat} (hl : hh < 8) (hs : sx ≤ 20) (hd : sd ≤ 1) : IR t (pI (pI σ (t + 1) hh (nI sx)) (t + 2) hh (nI sd)) (upd (upd ρ (2 * hh) (nI sx)) (2 * hh + 1) (nI sd)) nu ns nr nn nk np hr := by
  obtain ⟨h1, h2, h3, h4, h5, h6, h7, h8⟩ := hI.parts
  have hy : ∀ c, c ≠ t + 1 → c ≠ t + 2 → gI (pI (pI σ (t + 1) hh (nI sx)) (t + 2) hh (nI sd)) c = gI σ c := fun c g1 g2 => by rw [gI_pI_ne g2, gI_pI_ne g1]
  have hz : ∀ k, 16 ≤ k → upd (upd ρ (2 * hh) (nI sx)) (2 * hh + 1) (nI sd) k = ρ k := fun k g1 => by rw [upd_ne (by omega), upd_ne (by omega)]
  refine ir_of (fun h2z g1 => ⟨⟨?_, ?_⟩, ?_, ?_⟩) (h2.cong (by rw [hy _ (by omega) (by omega)]) (hy _ (by omega) (by omega)) (fun k g1 g2 => hz k (by omega))) (h3.cong (by rw [hy _ (by omega) (by omega)]) (hy _ (by omega) (by omega)) (fun k g1 g2 => hz k (by omega))) (h4.cong (by rw [hy _ (by omega) (by omega)]) (hy _ (by omega) (by omega)) (fun k g1 g2 => hz k (by omega))) (h5.cong (by rw [hy _ (by omega) (by omega)]) (hy _ (by omega) (by omega)) (fun k g1 g2 => hz k (by omega))) (h6.cong (by rw [hy _ (by omega) (by omega)]) (hy _ (by omega) (by omega)) (fun k g1 g2 => hz k (by omega))) (h7.cong (by rw [hy _ (by omega) (by omega)]) (by rw [hy _ (by omega) (by omega)]) (fun k g1 g2 => hz k (by omega))) (h8.cong h2.1 h3.1 (by rw [hy _ (by omega) (by omega)]) (hy _ (by omega) (by omega)) (fun k g1 g2 => hz k (by omega)) (fun v1z ww g1 g2 => hz _ (by omega)))
  · rw [gI_pI_ne (by omega), gI_pI_eq, upd_ap, upd_ne (by omega), upd_ap]
    by_cases hq : h2z = hh
    · rw [if_pos hq, if_pos (by omega)]
    · rw [if_neg hq, if_neg (by omega)]; exact (h1 h2z g1).1.1
  · rw [gI_pI_eq, upd_ap, gI_pI_ne (by omega), upd_ap]
    by_cases hq : h2z = hh
    · rw [if_pos hq, if_pos (by omega)]
    · rw [if_neg hq, if_neg (by omega), upd_ne (by omega)]; exact (h1 h2z g1).1.2
  · rw [upd_ne (by omega), upd_ap]
    by_cases hq : 2 * h2z = 2 * hh
    · rw [if_pos hq]; exact ⟨sx, hs, rfl⟩
    · rw [if_neg hq]; exact (h1 h2z g1).2.1
  · rw [upd_ap]
    by_cases hq : 2 * h2z + 1 = 2 * hh + 1
    · rw [if_pos hq]; exact ⟨sd, hd, rfl⟩
    · rw [if_neg hq, upd_ne (by omega)]; exact (h1 h2z g1).2.2
end JD
/-- what a change of the island now touches -/
def Pt (t c : Nat) : Prop := (t ≤ c ∧ c ≤ t + 14) ∨ Q3 c
def Pm (aa c : Nat) : Prop := c = aa ∨ P3 c
theorem rel_now {σx σm σx' σm' : SS} (R : Rel σx σm) (hx : Eq0 (Pt 1) σx σx') (hm : Eq0 (Pm 79) σm σm') (hT : TCw 1 σx') (hI : IRx 1 σx' (gI σm' 79)) : Rel σx' σm' := by
  obtain ⟨-, h2, h3, h4, ⟨nl, t1, t2, t3, t4⟩, h6, h7⟩ := R
  have ex : ∀ c, c = 0 ∨ (16 ≤ c ∧ c ≤ 47) ∨ (52 ≤ c ∧ c ≤ 77) → gI σx' c = gI σx c := fun c hc => hx.1 c (fun hq => by rcases hq with hq | hq | hq | hq <;> omega)
  have em : ∀ c, c = 78 ∨ c = 81 ∨ c = 82 ∨ c = 83 ∨ c = 87 ∨ c = 89 → gI σm' c = gI σm c := fun c hc => hm.1 c (fun hq => by rcases hq with hq | hq | hq | hq <;> omega)
  have lx : gL σx' 77 = gL σx 77 := hx.2 77 (fun hq => by rcases hq with hq | hq | hq | hq <;> omega)
  have lm : gL σm' 78 = gL σm 78 := hm.2 78 (fun hq => by rcases hq with hq | hq | hq | hq <;> omega)
  obtain ⟨⟨-, k2, k3, k4⟩, k5, k6⟩ := h2
  refine ⟨hI, ⟨⟨hT, k2.cong (fun c g1 g2 => ex c (by omega)), k3.cong (fun c g1 g2 => ex c (by omega)), k4.cong (fun c g1 g2 => ex c (by omega))⟩, by rw [ex 69 (by omega)]; exact k5, by rw [ex 69 (by omega)]; exact k6⟩, ?_, ?_, ⟨nl, t1, ?_, ?_, ?_⟩, ?_, ?_⟩
  · unfold Im at h3 ⊢
    rw [ex 0 (by omega), em 82 (by omega), em 81 (by omega)]
    exact h3.imp id (fun hz => ⟨hz.1, hz.2.1, hz.2.2.cong (fun c _ _ => ex c (by omega)) (fun k _ => rfl)⟩)
  · unfold Im at h4 ⊢
    rw [ex 0 (by omega), em 82 (by omega), em 81 (by omega)]
    exact h4.imp id (fun hz => ⟨hz.1, hz.2.1, hz.2.2.cong (fun c _ _ => ex c (by omega)) (fun k _ => rfl)⟩)
  · rw [ex 46 (by omega)]; exact t2
  · rw [em 78 (by omega)]; exact t3
  · rw [ex 47 (by omega), em 87 (by omega)]; exact t4
  · unfold Fr at h6 ⊢; rw [lx, lm]; exact h6
  · unfold Rf at h7 ⊢; rw [ex 0 (by omega), em 83 (by omega), ex 74 (by omega), em 89 (by omega)]; exact h7
/-! wind -/
section C6
variable {σx σm : SS}
theorem tell_x {t : Nat} {σ : SS} {hh sx sd : Nat} (ht : kd t = 4) (hl : hh < 8) : FX4_tellWind t (nI hh) (nI sx) (nI sd) σ = some (pI (pI (pI σ (t + 1) hh (nI sx)) (t + 2) hh (nI sd)) (t + 13) 3 (nI 0)) := by
  have hwi : wi (nI hh) (nI 0) (nI 7) = nI 1 := by rw [wi_n (by omega) (by omega) (by omega), if_pos ⟨Nat.zero_le _, by omega⟩]
  unfold FX4_tellWind
  rw [isHod_eq, bd_s, hwi, if_neg n1_0, il_0 ht, il_1 ht, il_7 ht, iln_1 ht, iln_2 ht, gd_n hl (by omega), nm_eq, gd_n hl (by omega), nm_eq, bd_s, ix_n (by omega), empty_eq, bd2_s]
theorem q_wind (R : Rel σx σm) (a b c : Int32) : Cm (FX11_wind 0 a b c σx) (FX12_wind 78 a b c σm) := by
  obtain ⟨⟨nu, ns, nr, nn, nk, np, hr, hI, hbd⟩, hT, -⟩ := id R
  unfold FX11_wind FX12_wind
  rw [l_N0, l_N1, l_7, l_20]
  simp only [lk_0_0, lk_1_0, lk_1_1, lk_78_0, ln_2, ln_3, ln_79]
  refine cq_bdx (isHod_eq _ _) (cq_bdm (in_eq _ _ _ _) (cq_guard R (fun h1 => cq_bdx (within_eq _ _ _ _) (cq_bdm (in_eq _ _ _ _) (cq_guard R (fun h2 => cq_bdx (within_eq _ _ _ _) (cq_bdm (in_eq _ _ _ _) (cq_guard R (fun h3 => ?_)))))))))
  obtain ⟨hh, -, hh7, rfl⟩ := wi_in (by omega) (by omega) h1
  obtain ⟨sx, -, hsx, rfl⟩ := wi_in (by omega) (by omega) h2
  obtain ⟨sd, -, hsd, rfl⟩ := wi_in (by omega) (by omega) h3
  have hd := hI.2.2.2.1.1 hh (by omega)
  rw [nI_muln, nI_addn, ix_n (by omega), ix_n (by omega), ix_n (by omega), ix_n (by omega), hd.1, hd.2]
  refine cq_gx (inb_n (by omega) (by omega)) (cq_gx (inb_n (by omega) (by omega)) (cq_nmx (cq_bdx (tell_x kd_1 (by omega)) (cq_gm (inb_n (by omega) (by omega)) (cq_gm (inb_n (by omega) (by omega)) (cq_nmm (cq_gm (inb_n (by omega) (by omega)) (cq_nmm (cq_gm (inb_n (by omega) (by omega)) (cq_nmm (cq_gm (inb_n (by omega) (by omega)) (cq_nmm (cq_some ?_)))))))))))))
  have hI2 := ir_past0 (ir_gust hI (hh := hh) (by omega) hsx hsd)
  refine rel_now R ((Eq0.pI (Or.inl (by omega))).tr ((Eq0.pI (Or.inl (by omega))).tr (Eq0.pI (Or.inl (by omega))))) ((Eq0.pI (Or.inl rfl)).tr ((Eq0.pI (Or.inl rfl)).tr (Eq0.pI (Or.inl rfl)))) ?_ ⟨nu, ns, nr, nn, nk, 0, hr, ?_, ?_⟩
  · obtain ⟨⟨k1, -⟩, -⟩ := hT
    obtain ⟨⟨e1, e2⟩, ⟨e3, e4⟩, ⟨e5, e6⟩, ⟨e7, e8⟩, ⟨e9, e10⟩, e11, e12⟩ := k1
    refine ⟨⟨?_, ?_⟩, ⟨?_, ?_⟩, ⟨?_, ?_⟩, ⟨?_, ?_⟩, ⟨?_, ?_⟩, ?_, ?_⟩
    all_goals first | (rw [gI_pI_ne (by omega), gI_pI_ne (by omega), gI_pI_ne (by omega)]; assumption) | (rw [gI_pI_eq, upd_ne (by omega), gI_pI_ne (by omega), gI_pI_ne (by omega)]; assumption)
  · rw [gI_pI_eq, gI_pI_eq, gI_pI_eq]
    exact hI2
  · rw [gI_pI_eq, gI_pI_eq, gI_pI_eq]
    exact bd_np0 hbd (fun uu hu => by rw [upd_ne (by omega), upd_ne (by omega), upd_ne (by omega)]) (fun vv hv => by rw [upd_ne (by omega), upd_ne (by omega), upd_ne (by omega)]) (fun k k1 k2 => by rw [upd_ne (by omega), upd_ne (by omega), upd_ne (by omega)])
end C6
