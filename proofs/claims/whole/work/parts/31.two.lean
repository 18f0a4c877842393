/-! ===== two functions side by side ===== -/
def Two {α β : Type} (fx : Option α) (fm : Option β) (P : α → β → Prop) : Prop := ∃ aa bb, fx = some aa ∧ fm = some bb ∧ P aa bb
def S2 {S1 S2 E1 E2 : Type} (A : S1 → S2 → Prop) (B : E1 → E2 → Prop) : S1 ⊕ E1 → S2 ⊕ E2 → Prop := fun y1 y2 => (∃ v1 v2, y1 = .inl v1 ∧ y2 = .inl v2 ∧ A v1 v2) ∨ ∃ e1 e2, y1 = .inr e1 ∧ y2 = .inr e2 ∧ B e1 e2
section TW
variable {α β γ δ ε ζ : Type} {P : α → β → Prop}
theorem cq_tw {α : Type} {fx fm : Option (α × SS)} (h : Two fx fm (fun aa bb => aa.1 = bb.1 ∧ Rel aa.2 bb.2)) : Cm fx fm := by
  obtain ⟨⟨r1, s1⟩, ⟨r2, s2⟩, h1, h2, h3, h4⟩ := h
  dsimp only at h3 h4
  subst h3
  exact ⟨_, s1, s2, h1, h2, h4⟩
theorem tw_some {aa : α} {bb : β} (h : P aa bb) : Two (some aa) (some bb) P := ⟨aa, bb, rfl, rfl, h⟩
theorem tw_mono {P1 : α → β → Prop} {fx : Option α} {fm : Option β} (h : Two fx fm P1) (hp : ∀ aa bb, P1 aa bb → P aa bb) : Two fx fm P := by
  obtain ⟨aa, bb, h1, h2, h3⟩ := h
  exact ⟨aa, bb, h1, h2, hp aa bb h3⟩
theorem tw_okb {fx : Option α} {fm : Option β} {Q1 : α → Prop} {Q2 : β → Prop} (h1 : Ok fx Q1) (h2 : Ok fm Q2) (h : ∀ aa bb, Q1 aa → Q2 bb → P aa bb) : Two fx fm P := by
  obtain ⟨aa, e1, q1⟩ := h1
  obtain ⟨bb, e2, q2⟩ := h2
  exact ⟨aa, bb, e1, e2, h aa bb q1 q2⟩
theorem tw_nmx {e : γ} {k : γ → Option α} {fm : Option β} (h : Two (k e) fm P) : Two (nm e k) fm P := h
theorem tw_nmm {e : γ} {k : γ → Option β} {fx : Option α} (h : Two fx (k e) P) : Two fx (nm e k) P := h
theorem tw_bdx {x : Option γ} {cc : γ} {k : γ → Option α} {fm : Option β} (hx : x = some cc) (h : Two (k cc) fm P) : Two (bd x k) fm P := by subst hx; exact h
theorem tw_bdm {x : Option γ} {cc : γ} {k : γ → Option β} {fx : Option α} (hx : x = some cc) (h : Two fx (k cc) P) : Two fx (bd x k) P := by subst hx; exact h
theorem tw_bd2x {x : Option (γ × δ)} {cc : γ} {dd : δ} {k : γ → δ → Option α} {fm : Option β} (hx : x = some (cc, dd)) (h : Two (k cc dd) fm P) : Two (bd2 x k) fm P := by subst hx; exact h
theorem tw_bd2m {x : Option (γ × δ)} {cc : γ} {dd : δ} {k : γ → δ → Option β} {fx : Option α} (hx : x = some (cc, dd)) (h : Two fx (k cc dd) P) : Two fx (bd2 x k) P := by subst hx; exact h
theorem tw_okx {x : Option γ} {Q : γ → Prop} {k : γ → Option α} {fm : Option β} (hx : Ok x Q) (h : ∀ cc, Q cc → Two (k cc) fm P) : Two (bd x k) fm P := by
  obtain ⟨cc, h1, h2⟩ := hx
  subst h1
  exact h cc h2
theorem tw_okm {x : Option γ} {Q : γ → Prop} {k : γ → Option β} {fx : Option α} (hx : Ok x Q) (h : ∀ cc, Q cc → Two fx (k cc) P) : Two fx (bd x k) P := by
  obtain ⟨cc, h1, h2⟩ := hx
  subst h1
  exact h cc h2
theorem tw_gx {b : Bool} {ff : Option α} {fm : Option β} (hb : b = true) (h : Two ff fm P) : Two (gd b ff) fm P := by subst hb; exact h
theorem tw_gm {b : Bool} {ff : Option β} {fx : Option α} (hb : b = true) (h : Two fx ff P) : Two fx (gd b ff) P := by subst hb; exact h
theorem tw_itx {c : Prop} [Decidable c] {ff gg : Option α} {fm : Option β} (hc : c) (h : Two ff fm P) : Two (if c then ff else gg) fm P := by rw [if_pos hc]; exact h
theorem tw_ifx {c : Prop} [Decidable c] {ff gg : Option α} {fm : Option β} (hc : ¬ c) (h : Two gg fm P) : Two (if c then ff else gg) fm P := by rw [if_neg hc]; exact h
theorem tw_itm {c : Prop} [Decidable c] {ff gg : Option β} {fx : Option α} (hc : c) (h : Two fx ff P) : Two fx (if c then ff else gg) P := by rw [if_pos hc]; exact h
theorem tw_ifm {c : Prop} [Decidable c] {ff gg : Option β} {fx : Option α} (hc : ¬ c) (h : Two fx gg P) : Two fx (if c then ff else gg) P := by rw [if_neg hc]; exact h
theorem tw_ite {c d : Prop} [Decidable c] [Decidable d] {f1 g1 : Option α} {f2 g2 : Option β} (hcd : c ↔ d) (h1 : c → Two f1 f2 P) (h2 : ¬ c → Two g1 g2 P) : Two (if c then f1 else g1) (if d then f2 else g2) P := by
  by_cases hc : c
  · rw [if_pos hc, if_pos (hcd.mp hc)]; exact h1 hc
  · rw [if_neg hc, if_neg (fun hd => hc (hcd.mpr hd))]; exact h2 hc
theorem tw_bd {P1 : γ → δ → Prop} {x1 : Option γ} {x2 : Option δ} {k1 : γ → Option α} {k2 : δ → Option β} (h1 : Two x1 x2 P1) (h2 : ∀ cc dd, P1 cc dd → Two (k1 cc) (k2 dd) P) : Two (bd x1 k1) (bd x2 k2) P := by
  obtain ⟨cc, dd, e1, e2, hp⟩ := h1
  subst e1; subst e2
  exact h2 cc dd hp
theorem tw_bde {P1 : γ → δ → Prop} {x1 : Option (γ ⊕ α)} {x2 : Option (δ ⊕ β)} {k1 : γ → Option α} {k2 : δ → Option β} (h1 : Two x1 x2 (S2 P1 P)) (h2 : ∀ cc dd, P1 cc dd → Two (k1 cc) (k2 dd) P) : Two (bde x1 k1) (bde x2 k2) P := by
  obtain ⟨cc, dd, e1, e2, hp⟩ := h1
  subst e1; subst e2
  rcases hp with ⟨v1, v2, rfl, rfl, hp⟩ | ⟨v1, v2, rfl, rfl, hp⟩
  · exact h2 v1 v2 hp
  · exact ⟨v1, v2, rfl, rfl, hp⟩
theorem tw_lp {T1 T2 : Type} {b1 : T1 → Option (T1 ⊕ α)} {b2 : T2 → Option (T2 ⊕ β)} (I : Nat → T1 → T2 → Prop) (N : Nat) (hN : N ≤ 99999) {s1 : T1} {s2 : T2} (h0 : I 0 s1 s2)
    (step : ∀ i t1 t2, i ≤ N → I i t1 t2 → Two (b1 t1) (b2 t2) (S2 (fun v1 v2 => i < N ∧ I (i + 1) v1 v2) P)) : Two (lp FUEL b1 s1) (lp FUEL b2 s2) P := by
  have key : ∀ (n i : Nat) (t1 : T1) (t2 : T2), i ≤ N → N < n + i → I i t1 t2 → Two (lp n b1 t1) (lp n b2 t2) P := by
    intro n
    induction n with
    | zero => intro i t1 t2 hi hn; omega
    | succ n ih =>
      intro i t1 t2 hi hn hI
      obtain ⟨y1, y2, g1, g2, g3⟩ := step i t1 t2 hi hI
      rcases g3 with ⟨v1, v2, rfl, rfl, g3, g4⟩ | ⟨e1, e2, rfl, rfl, g3⟩
      · obtain ⟨e1, e2, k1, k2, k3⟩ := ih (i + 1) v1 v2 (by omega) (by omega) g4
        exact ⟨e1, e2, by simp only [lp, g1]; exact k1, by simp only [lp, g2]; exact k2, k3⟩
      · exact ⟨e1, e2, by simp only [lp, g1], by simp only [lp, g2], g3⟩
  exact key FUEL 0 s1 s2 (Nat.zero_le _) (by have := fuel_of hN; omega) h0
theorem s2_l {T1 T2 : Type} {A : T1 → T2 → Prop} {v1 : T1} {v2 : T2} (h : A v1 v2) : S2 A P (.inl v1) (.inl v2) := Or.inl ⟨v1, v2, rfl, rfl, h⟩
theorem s2_r {T1 T2 : Type} {A : T1 → T2 → Prop} {v1 : α} {v2 : β} (h : P v1 v2) : S2 A P (.inr v1) (.inr v2) := Or.inr ⟨v1, v2, rfl, rfl, h⟩
end TW
section C3
variable {σx σm : SS}
theorem nI_gt {ii nn : Nat} (h1 : ii < 100000) (h2 : nn < 100000) : nI nn < nI ii ↔ nn < ii := nI_ltn (by omega) (by omega)
theorem q_calm (R : Rel σx σm) (a : Int32) : Cm (FX11_calm 0 a σx) (FX12_calm 78 a σm) := by
  obtain ⟨⟨nu, ns, nr, nn, nk, np, hr, hI, hbd⟩, hT, -⟩ := id R
  have hu7 := hI.1.1
  have hh9 := hI.1.2.2.2.2.2.2
  unfold FX11_calm FX12_calm
  simp only [lk_0_0, lk_0_8, lk_78_0, lk_78_7, ln_84, ln_79]
  refine cq_bdx (isUser_x a σx) (cq_bdm (isUser_m a σm) ?_)
  rw [hI.2.2.1.1, hI.2.1.1]
  refine cq_guard R (fun h1 => ?_)
  obtain ⟨uu, hu, rfl⟩ := wi_cnt (by omega) h1
  unfold FX2_firstCalm
  simp only [lk_68_0]
  have key : Two (bde (lp FUEL (u2 (fun (n2 : Int32) (s3 : SS) => if (nI 23) < n2 then some (Sum.inr (Sum.inl s3)) else (bd (FX0_goInHour 48 1 ((gI s3 1 8) + n2) (nI 127) s3) (fun (s4 : SS) => bd (FX0_takenBy 48 (nI uu) s4) (fun (r5 : Int32) => if r5 = 0 then some (Sum.inr (Sum.inr ((n2, s4)))) else (nm (n2 + (nI 1)) (fun (i6 : Int32) => some (Sum.inl (i6, s4))))))))) (nI 0, σx)) (fun (s7 : SS) => some (((-1 : Int32), s7))))
    (bde (lp FUEL (u2 (fun (n5 : Int32) (s6 : SS) => if (nI 24) ≤ n5 then some (Sum.inr (Sum.inl s6)) else (gd (inb (nI 66) 378) (bd (FX12_everyone 79 s6) (fun (r7 : Int32) => bd (FX12_blowOf 78 79 ((gI s6 79 (Int32.toNatClampNeg (nI 66))) + n5) r7 s6) (fun (s8 : SS) => gd (inb (nI uu) 7) (if (gI s8 84 (Int32.toNatClampNeg (nI uu))) = 0 then some (Sum.inr (Sum.inr ((n5, s8)))) else (nm (n5 + (nI 1)) (fun (i9 : Int32) => some (Sum.inl (i9, s8))))))))))) (nI 0, σm)) (fun (s10 : SS) => some (((-1 : Int32), s10))))
    (fun aa bb => aa.1 = bb.1 ∧ Rel aa.2 bb.2) := by
    refine tw_bde (P1 := fun s1 s2 => Rel s1 s2) (tw_lp (fun ii x1 x2 => ∃ s1 s2, x1 = (nI ii, s1) ∧ x2 = (nI ii, s2) ∧ Eq0 Q3 σx s1 ∧ Eq0 P3 σm s2) 24 (by omega) ⟨σx, σm, rfl, rfl, Eq0.rf, Eq0.rf⟩ ?_) (fun s1 s2 hq => tw_some ⟨rfl, hq⟩)
    rintro ii x1 x2 hi ⟨s1, s2, rfl, rfl, hE1, hE2⟩
    rw [u2_s, u2_s]
    refine tw_ite ?_ (fun hc => tw_some (s2_r (s2_l (rel_q R hE1 hE2)))) (fun hc => ?_)
    · rw [nI_gt (by omega) (by omega), nI_le_iff (by omega) (by omega)]; omega
    have hi2 : ii < 24 := by
      rcases Nat.lt_or_ge ii 24 with hq | hq
      · exact hq
      · exact absurd ((nI_gt (by omega) (by omega)).mpr (by omega)) hc
    obtain ⟨tkn, ahd, bhd, hB⟩ := hb_ex hI.2.2.2.2.1 (hr + ii)
    have hI1 := ir_q kd_1 hI hE1
    have hm79 : gI s2 79 = gI σm 79 := hE2.1 79 (fun hq => by rcases hq with hq | hq | hq <;> omega)
    rw [ix_n (by omega), ix_n (by omega), hI1.2.2.1.2.2.2.2.2.2.1, hm79, hI.2.1.2.2.2.2.2.2, nI_addn hr ii]
    refine tw_okx (hb_x kd_1 (tc_q kd_1 hT.1.1 hE1) hI1 hB (by omega)) (fun s3 hq3 => tw_bdx (takenBy_eq (by omega)) (tw_gm (inb_n (by omega) (by omega)) (tw_bdm (everyone_eq ln_79 (by rw [hm79]; exact hI.2.1.1) hu7) (tw_okm (hb_m (Or.inl rfl) (by rw [hm79]; exact hI.2.1.1) (by rw [hm79]; exact hB) (by omega)) (fun s4 hq4 => tw_gm (inb_n (by omega) (by omega)) ?_)))))
    rw [hq3.2.1 uu hu, hq4.2.1 uu hu]
    refine tw_ite Iff.rfl (fun hc2 => tw_some (s2_r (s2_r ⟨rfl, rel_q R (hE1.tr hq3.1) (hE2.tr hq4.1)⟩))) (fun hc2 => tw_nmx (tw_nmm (tw_some (s2_l ⟨hi2, s3, s4, by rw [nI_addn], by rw [nI_addn], hE1.tr hq3.1, hE2.tr hq4.1⟩))))
  obtain ⟨⟨r1, s1⟩, ⟨r2, s2⟩, k1, k2, k3, k4⟩ := key
  dsimp only at k3 k4
  subst k3
  exact cq_bd2x (show _ = some (r1, s1) from k1) ⟨r1, s1, s2, rfl, k2, k4⟩
end C3
