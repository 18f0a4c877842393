/-! ===== winds ===== -/
theorem if_same {α : Type} {c d : Prop} [Decidable c] [Decidable d] {X Z : α} (h : c ∨ ¬ d) : (if c then X else if d then Z else X) = X := by
  by_cases hc : c
  · rw [if_pos hc]
  · rw [if_neg hc, if_neg (h.resolve_left hc)]
section TB3
variable {α β γ δ : Type} {P : α → β → Prop}
theorem tw_bdeL {P1 : γ → δ → Prop} {x1 : Option (γ ⊕ α)} {x2 : Option δ} {k1 : γ → Option α} {k2 : δ → Option β} (h1 : Two x1 x2 (fun y d => (∃ c, y = .inl c ∧ P1 c d) ∨ ∃ a, y = .inr a ∧ Two (some a) (k2 d) P)) (h2 : ∀ cc dd, P1 cc dd → Two (k1 cc) (k2 dd) P) : Two (bde x1 k1) (bd x2 k2) P := by
  obtain ⟨y, d, e1, e2, hp⟩ := h1
  subst e1; subst e2
  rcases hp with ⟨c, rfl, hp⟩ | ⟨a, rfl, hp⟩
  · exact h2 c d hp
  · obtain ⟨aa, bb, g1, g2, g3⟩ := hp
    exact ⟨aa, bb, g1, g2, g3⟩
end TB3
section DM
variable {σx σm s1 s2 : SS} {T : Nat → Nat} {nl : Nat}
theorem gust_i {hh sx sd nu ns hr : Nat} (hW : WV σx σm T nl s1 s2) (hI : IV s1 s2 nu ns hr) (hl : hh < 8) (hs : sx ≤ 20) (hd : sd ≤ 1) : Eq0 (fun c => 53 ≤ c ∧ c ≤ 67 ∨ Q3 c) s1 (pI (pI (pI s1 54 hh (nI sx)) 55 hh (nI sd)) 66 3 (nI 0)) ∧ Eq0 (Pm 80) s2 (pI (pI s2 80 (2 * hh) (nI sx)) 80 (2 * hh + 1) (nI sd)) ∧ WV σx σm T nl (pI (pI (pI s1 54 hh (nI sx)) 55 hh (nI sd)) 66 3 (nI 0)) (pI (pI s2 80 (2 * hh) (nI sx)) 80 (2 * hh + 1) (nI sd)) ∧ IV (pI (pI (pI s1 54 hh (nI sx)) 55 hh (nI sd)) 66 3 (nI 0)) (pI (pI s2 80 (2 * hh) (nI sx)) 80 (2 * hh + 1) (nI sd)) nu ns hr := by
  have g1 : Eq0 (fun c => 53 ≤ c ∧ c ≤ 67 ∨ Q3 c) s1 (pI (pI (pI s1 54 hh (nI sx)) 55 hh (nI sd)) 66 3 (nI 0)) := (Eq0.pI (Or.inl (by omega))).tr ((Eq0.pI (Or.inl (by omega))).tr (Eq0.pI (Or.inl (by omega))))
  have g2 : Eq0 (Pm 80) s2 (pI (pI s2 80 (2 * hh) (nI sx)) 80 (2 * hh + 1) (nI sd)) := (Eq0.pI (Or.inl rfl)).tr (Eq0.pI (Or.inl rfl))
  have g3 : TCw 53 (pI (pI (pI s1 54 hh (nI sx)) 55 hh (nI sd)) 66 3 (nI 0)) := by
    refine hW.2.1.keep (fun d hd => ?_)
    rcases hd with rfl | rfl | rfl | rfl | rfl | rfl <;> constructor <;> simp (disch := omega) only [gI_pI_ne, gI_pI_eq, upd_ne]
  refine ⟨g1, g2, (hW.isl g1 g3).row g2, ?_, ?_⟩
  · have h9 := ir_past0 (ir_gust hI.1 (hh := hh) hl hs hd)
    have hup : upd (upd (upd (gI s2 80) (2 * hh) (nI sx)) (2 * hh + 1) (nI sd)) 137 (nI 0) = upd (upd (gI s2 80) (2 * hh) (nI sx)) (2 * hh + 1) (nI sd) := upd_self (by rw [upd_ne (by omega), upd_ne (by omega)]; exact hI.1.2.1.2.2.2.2.2.1)
    rw [hup] at h9
    rw [gI_pI_eq, gI_pI_eq]
    exact h9
  · rw [gI_pI_eq, gI_pI_eq]
    exact bd_np0 hI.2 (fun uu hu => by have := hI.1.1.1; rw [upd_ne (by omega), upd_ne (by omega)]) (fun vv hv => by rw [upd_ne (by omega), upd_ne (by omega)]) (fun k k1 k2 => by rw [upd_ne (by omega), upd_ne (by omega)])
/-- the winds' end on both sides -/
def WE (σx σm : SS) (T : Nat → Nat) (nl pp : Nat) (y : SS ⊕ (Int32 × SS)) (z2 : SS) : Prop := ∃ r s, y = .inr (r, s) ∧ WV σx σm T nl s z2 ∧ ((r = nI 0 ∧ ∃ st, st ≤ 150 ∧ gI z2 78 13 = nI st ∧ gI s 52 3 = nI st) ∨ (r = nI 1 ∧ IVx s z2 ∧ ∃ st nt, pp ≤ nt ∧ TK nl s z2 (nI 200) st nt))
theorem we_bad {pp st nt : Nat} {tok : Int32} (hW : WV σx σm T nl s1 s2) (hK : TK nl s1 s2 tok st nt) : WE σx σm T nl pp (.inr (nI 0, s1)) (pI s2 78 13 (nI st)) :=
  ⟨_, _, rfl, hW.f, Or.inl ⟨rfl, st, by have := hK.1; have := hW.1.1; omega, by rw [gI_pI_eq, upd_eq], hK.2.1⟩⟩
set_option maxHeartbeats 2000000 in
theorem winds_i {tok : Int32} {st nt : Nat} (hW : WV σx σm T nl s1 s2) (hK : TK nl s1 s2 tok st nt) (ht : ¬ tok = (-1 : Int32)) (hI : IVx s1 s2) : Two (FX7_readWinds 52 s1) (FX12_readWinds 78 s2) (fun y1 s2' => EN σx σm T nl nt y1 s2') := by
  have hnl := hW.1.1
  unfold FX7_readWinds FX12_readWinds
  simp only [nm_eq, lk_52_2, lk_78_1, ln_80]
  obtain ⟨m1, e1, hN1, hL1⟩ := next_la hW hK ht
  have hW1 := hW.m hN1
  have hI1 : IVx s1 m1 := by obtain ⟨nu, ns, hr, h⟩ := hI; exact ⟨nu, ns, hr, h.m hN1⟩
  rw [bd_of e1]
  refine tw_bdeL (P1 := fun _ _ => False) (tw_mono (P1 := WE σx σm T nl nt) (tw_lpx (fun ii x1 x2 => ∃ s3 s6 pp fl, x1 = (nI ii, s3) ∧ x2 = (nI ii, fl, s6) ∧ nt ≤ pp ∧ LA T nl pp s3 s6 ∧ WV σx σm T nl s3 s6 ∧ IVx s3 s6 ∧ ((ii = 0 ∧ fl = nI 1) ∨ (0 < ii ∧ fl = if gI s6 78 14 = nI 200 then nI 0 else nI 1))) 8 (by omega) ⟨s1, m1, nt, nI 1, rfl, rfl, Nat.le_refl _, hL1, hW1, hI1, Or.inl ⟨rfl, rfl⟩⟩ ?_) ?_) (fun _ _ hq => hq.elim)
  · rintro ii x1 x2 hi ⟨s3, s6, pp, fl, rfl, rfl, hpp, hL, hW2, hI2, hfl⟩
    rw [u2_s, u3_s, if_neg (fun hq => by have := (nI_ltn (by omega) (by omega)).mp hq; omega)]
    obtain ⟨s4, tk, st4, nt4, f4, g4, hK4, p4⟩ := hL.2.2.2.2 s3 hL.2.1 hL.2.2.1
    have hW4 := hW2.x g4
    have hI4 : IVx s4 s6 := by obtain ⟨nu, ns, hr, h⟩ := hI2; exact ⟨nu, ns, hr, h.x g4⟩
    have h14 : gI s6 78 14 = tk := hK4.2.2.2.2.1
    have hLK := hK4.2.2.2.2.2.2.2.1
    rw [h14] at hfl
    refine tw_bdx f4 ?_
    by_cases hstop : 0 < ii ∧ tk = nI 200
    · obtain ⟨h0, h200⟩ := hstop
      rcases hfl with hfl | hfl
      · omega
      · rw [hfl.2, if_pos h200, if_neg (fun hq => by rw [zI] at hq; have := le_of_nI hq (by omega) (by omega); omega), if_pos (hLK.2.1.mpr h200), if_pos nI_0]
        subst h200
        exact tw_some (s3_r ⟨_, _, rfl, hW4, Or.inr ⟨rfl, hI4, st4, nt4, by have := la_tk (m1_n (by omega)) hK4 p4; omega, hK4⟩⟩)
    have hfl1 : fl = nI 1 := by
      rcases hfl with hfl | hfl
      · exact hfl.2
      · rw [hfl.2, if_neg (fun hq => hstop ⟨hfl.1, hq⟩)]
    rw [hfl1, if_neg n1_0, if_same (show nI ii ≤ (0 : Int32) ∨ ¬ gI s4 52 5 = nI 3 by
      by_cases h0 : ii = 0
      · exact Or.inl (by rw [h0, zI]; exact Int32.le_refl _)
      · exact Or.inr (fun hq => hstop ⟨by omega, hLK.2.1.mp hq⟩))]
    by_cases h8 : ii = 8
    · -- a ninth pair
      subst h8
      have hF := flt_f hnl hK4
      rw [if_pos rfl, if_pos (Int32.le_refl _), bd_s, bd_of (must_0 hK4.2.2.2.2.2.2.2.2 hK4.2.2.1), num_f hF, bd2_s, num_f hF, bd2_s, if_neg hF, bd_s, u2_s, if_neg hF, bd_s]
      refine tw_some (s3_x ?_ (we_bad hW4 hK4))
      rw [u3_s, if_pos nI_0]
    have hi8 : ii < 8 := by omega
    rw [if_neg (fun hq => h8 ((nI_eqn (by omega) (by omega)).mp hq)), if_neg (fun hq => h8 (by have := le_of_nI hq (by omega) (by omega); omega)), bd_s, must_1, bd_s]
    obtain ⟨hnu, hva⟩ := hLK.2.2.2 0 (nI 20) (by omega) (le_99 (by omega))
    refine tw_bdx hnu ?_
    by_cases hw1 : wi tk (nI 0) (nI 20) = 0
    · have hF := flt_f hnl hK4
      rw [hw1, if_pos rfl, bd2_of (num_bad hnl hK4 hw1), num_f hF, bd2_s, if_neg hF, bd_s, u2_s, if_neg hF, bd_s]
      refine tw_some (s3_x ?_ (we_bad hW4 hK4))
      rw [u3_s, if_pos nI_0]
    have n1z : ¬ tk = (-1 : Int32) := fun hz => hw1 (by rw [hz]; exact wi_neg (by omega))
    have v1 := hva hw1
    obtain ⟨sx, -, hsx, hsxe⟩ := wi_in (by omega) (by omega) hw1
    obtain ⟨m2, e2, hN2, hL2⟩ := num_ok hW4 hK4 n1z hw1
    have hW5 := hW4.m hN2
    have hI5 : IVx s4 m2 := by obtain ⟨nu, ns, hr, h⟩ := hI4; exact ⟨nu, ns, hr, h.m hN2⟩
    rw [wi_1 hw1, if_neg n1_0, v1, bd2_of e2]
    obtain ⟨c8, tk2, st8, nt8, f8, g8, hK8, p8, q8⟩ := goes_x hL2 (lo := 0) (hi := nI 1) (by omega) (le_99 (by omega))
    have hW8 := hW5.x g8
    have hI8 : IVx c8 m2 := by obtain ⟨nu, ns, hr, h⟩ := hI5; exact ⟨nu, ns, hr, h.x g8⟩
    refine tw_bd2x f8 ?_
    by_cases hw2 : wi tk2 (nI 0) (nI 1) = 0
    · have hF := flt_f hnl hK8
      rw [hw2, if_pos rfl, bd2_of (num_bad hnl hK8 hw2), if_neg hF, bd_s, u2_s, if_neg hF, bd_s]
      refine tw_some (s3_x ?_ (we_bad hW8 hK8))
      rw [u3_s, if_pos nI_0]
    obtain ⟨v2, n2z⟩ := q8 hw2
    obtain ⟨sd, -, hsd, hsde⟩ := wi_in (by omega) (by omega) hw2
    obtain ⟨m3, e3, hN3, hL3⟩ := num_ok hW8 hK8 n2z hw2
    have hW9 := hW8.m hN3
    obtain ⟨nu, ns, hr, hI8'⟩ := hI8
    have hI9 := hI8'.m hN3
    obtain ⟨j1, j2, j3, j4⟩ := gust_i (hh := ii) (sx := sx) (sd := sd) hW9 hI9 hi8 hsx hsd
    rw [wi_1 hw2, if_neg n1_0, v2, bd2_of e3, if_pos hL3.2.2.2.1, hsxe, hsde, nI_muln, nI_addn (2 * ii) 1, gd_n (by omega) (by omega), gd_n (by omega) (by omega), ix_n (by omega), ix_n (by omega), bd_s, u2_s, nI_addn]
    have hLz := (hL3.isl j1).row j2
    rw [if_pos hLz.2.2.2.1]
    have hflag : (if gI (pI (pI m3 80 (2 * ii) (nI sx)) 80 (2 * ii + 1) (nI sd)) 78 14 = nI 200 then some (nI 0) else some (nI 1)) = some (if gI (pI (pI m3 80 (2 * ii) (nI sx)) 80 (2 * ii + 1) (nI sd)) 78 14 = nI 200 then nI 0 else nI 1) := by split <;> rfl
    rw [hflag, bd_s]
    have l1 := la_tk n1z hK4 p4
    have l2 := la_tk n2z hK8 p8
    refine tw_bdx (tell_x kd_53 hi8) (tw_some (s3_l ⟨hi8, _, _, nt8, _, rfl, rfl, by omega, hLz, j3, ⟨nu, ns, hr, j4⟩, Or.inr ⟨by omega, rfl⟩⟩))
  · rintro y z2 ⟨r, s, rfl, hWz, hc⟩
    refine Or.inr ⟨_, rfl, ?_⟩
    rcases hc with ⟨rfl, stz, q1, q2, q3⟩ | ⟨rfl, hIz, stz, ntz, q1, hKz⟩
    · rw [bd_of (end_f (by rw [q2]; exact m1_n (by omega)))]
      exact tw_some ⟨hWz, Or.inl ⟨rfl, stz, q1, q2, q3⟩⟩
    · obtain ⟨m9, e9, hN9, hL9⟩ := end_ok hWz hKz rfl
      rw [bd_of e9]
      refine tw_some ⟨hWz.m hN9, Or.inr ⟨rfl, ?_, ntz, q1, hL9⟩⟩
      obtain ⟨nu, ns, hr, h⟩ := hIz
      exact ⟨nu, ns, hr, h.m hN9⟩
end DM
