/-! ===== read ===== -/
theorem tw_b2i {α β γ : Type} {x : Option (α × β)} {y : Option γ} {P : α × β → γ → Prop} (h : Two x y P) : Two (bd2 x (fun r s => some (r, s))) (bd y (fun s => some s)) P := by
  obtain ⟨a, b, e1, e2, hp⟩ := h
  exact ⟨a, b, by rw [e1]; rfl, by rw [e2]; rfl, hp⟩
theorem tw_bdR {α β γ : Type} {P : α → β → Prop} {x1 : Option (γ ⊕ α)} {k1 : γ → Option α} {x2 : Option β} (h : Two x1 x2 (fun y z => ∃ y1, y = .inr y1 ∧ P y1 z)) : Two (bde x1 k1) x2 P := by
  obtain ⟨y, z, e1, e2, y1, hy, hp⟩ := h
  subst e1; subst e2; subst hy
  exact ⟨y1, z, rfl, rfl, hp⟩
theorem tw_bd2' {α β γ δ ε : Type} {P : α → β → Prop} {P1 : γ × δ → ε → Prop} {x1 : Option (γ × δ)} {x2 : Option ε} {k1 : γ → δ → Option α} {k2 : ε → Option β} (h1 : Two x1 x2 P1) (h2 : ∀ a b, P1 a b → Two (k1 a.1 a.2) (k2 b) P) : Two (bd2 x1 k1) (bd x2 k2) P := by
  obtain ⟨a, b, e1, e2, hp⟩ := h1
  subst e1; subst e2
  exact h2 a b hp
theorem lp_now {S E : Type} {b : S → Option (S ⊕ E)} {s : S} {e : E} (h : b s = some (.inr e)) : lp FUEL b s = some e := lp_F (fun _ => s) 0 (fuel_of (by omega)) rfl (fun _ hj => absurd hj (Nat.not_lt_zero _)) h
theorem neg_10 : ∀ st, st < 151 → ((-10 : Int32) - nI st) < 0 := by decide +kernel
/-- what the class's reading ends with, and the model's -/
def PO (σx σm : SS) (T : Nat → Nat) (nl : Nat) (y1 : Int32 × SS) (z : Int32 × SS) : Prop := WV σx σm T nl y1.2 z.2 ∧ ((gI z.2 78 13 = (-1 : Int32) ∧ ∃ it, it ≤ 1000 ∧ y1.1 = nI it ∧ z.1 = nI it ∧ IVx y1.2 z.2) ∨ ∃ st, st ≤ 150 ∧ gI z.2 78 13 = nI st ∧ y1.1 = (-10 : Int32) - nI st)
section DN
variable {σx σm s1 s2 : SS} {T : Nat → Nat} {nl : Nat}
theorem po_bad {st nt : Nat} {tok it : Int32} (hW : WV σx σm T nl s1 s2) (hK : TK nl s1 s2 tok st nt) : PO σx σm T nl ((-10 : Int32) - nI st, s1) (it, pI s2 78 13 (nI st)) :=
  ⟨hW.f, Or.inr ⟨st, by have := hK.1; have := hW.1.1; omega, by rw [gI_pI_eq, upd_eq], rfl⟩⟩
theorem item_i {tok : Int32} {st nt : Nat} (hW : WV σx σm T nl s1 s2) (hK : TK nl s1 s2 tok st nt) (ht : ¬ tok = (-1 : Int32)) (hI : IVx s1 s2) :
    Two (if (if tok = nI (100 + 1) then nI 1 else nI 0) = 0 then bd (FX7_isWord 52 (100 + 2) s1) (fun (r15 : Int32) => if r15 = 0 then bd (FX7_isWord 52 (100 + 3) s1) (fun (r16 : Int32) => if r16 = 0 then bd (FX7_isWord 52 (100 + 4) s1) (fun (r17 : Int32) => if r17 = 0 then some ((nI 0, s1)) else (bd2 (FX7_readHours 52 s1) (fun (r18 : Int32) (s19 : SS) => some ((r18, s19))))) else (bd2 (FX7_readSuit 52 s1) (fun (r21 : Int32) (s22 : SS) => some ((r21, s22))))) else (bd2 (FX7_readUser 52 s1) (fun (r24 : Int32) (s25 : SS) => some ((r24, s25))))) else (bd2 (FX7_readWinds 52 s1) (fun (r27 : Int32) (s28 : SS) => some ((r27, s28)))))
      (if tok = (nI 101) then bd (FX12_readWinds 78 s2) (fun (s13 : SS) => some (s13)) else (if tok = (nI 102) then bd (FX12_readUser 78 s2) (fun (s15 : SS) => some (s15)) else (if tok = (nI 103) then bd (FX12_readSuit 78 s2) (fun (s17 : SS) => some (s17)) else (if tok = (nI 104) then bd (FX12_readHours 78 s2) (fun (s19 : SS) => some (s19)) else (bd (FX12_must 78 (nI 0) s2) (fun (s20 : SS) => some (s20))))))) (fun y1 s2' => EN σx σm T nl nt y1 s2') := by
  have hw := hK.2.2.2.2.2.2.2.1.1
  by_cases h1 : tok = nI 101
  · rw [if_pos (show tok = nI (100 + 1) from h1), if_neg n1_0, if_pos h1]
    exact tw_b2i (winds_i hW hK ht hI)
  rw [if_neg (show ¬ tok = nI (100 + 1) from h1), if_pos nI_0, if_neg h1]
  refine tw_bdx (hw 2 (by omega)) ?_
  by_cases h2 : tok = nI 102
  · rw [if_pos (show tok = nI (100 + 2) from h2), if_neg n1_0, if_pos h2]
    exact tw_b2i (user_i hW hK ht hI)
  rw [if_neg (show ¬ tok = nI (100 + 2) from h2), if_pos nI_0, if_neg h2]
  refine tw_bdx (hw 3 (by omega)) ?_
  by_cases h3 : tok = nI 103
  · rw [if_pos (show tok = nI (100 + 3) from h3), if_neg n1_0, if_pos h3]
    exact tw_b2i (suit_i hW hK ht hI)
  rw [if_neg (show ¬ tok = nI (100 + 3) from h3), if_pos nI_0, if_neg h3]
  refine tw_bdx (hw 4 (by omega)) ?_
  by_cases h4 : tok = nI 104
  · rw [if_pos (show tok = nI (100 + 4) from h4), if_neg n1_0, if_pos h4]
    exact tw_b2i (hours_i hW hK ht hI)
  rw [if_neg (show ¬ tok = nI (100 + 4) from h4), if_pos nI_0, if_neg h4, bd_of (must_0 hK.2.2.2.2.2.2.2.2 hK.2.2.1)]
  exact tw_some (en_bad hW hK)
theorem copy_79 {s : SS} : Ok (lp FUEL (u2 (fun (n26 : Int32) (s27 : SS) => if (nI 378) ≤ n26 then some (Sum.inr s27) else (gd (inb n26 378) (gd (inb n26 378) (some (Sum.inl (n26 + (nI 1), pI s27 79 (Int32.toNatClampNeg n26) (gI s27 80 (Int32.toNatClampNeg n26))))))))) (nI 0, s)) (fun s' => Eq0 P79 s s' ∧ ∀ k, k < 378 → gI s' 79 k = gI s 80 k) := by
  refine ok_lp (fun ii tt => ∃ s1, tt = (nI ii, s1) ∧ Eq0 P79 s s1 ∧ ∀ k, k < ii → gI s1 79 k = gI s 80 k) 378 (by omega) ⟨s, rfl, Eq0.rf, fun _ hq => absurd hq (Nat.not_lt_zero _)⟩ ?_
  rintro ii tt hi ⟨s1, rfl, hE, hk⟩
  rw [u2_s]
  refine ok_ite (fun hc => ok_some ?_) (fun hc => ?_)
  · have hii : ii = 378 := by have := le_of_nI hc (by omega) (by omega); omega
    subst hii
    exact ⟨hE, hk⟩
  have hi2 := lt_of_nle hc (by omega) (by omega)
  refine ok_gn (by omega) (by omega) (ok_gn (by omega) (by omega) (ok_some ⟨hi2, _, by rw [nI_addn], hE.tr (Eq0.pI rfl), fun k hk2 => ?_⟩))
  rw [ix_n (by omega), gI_pI_eq, upd_ap, hE.1 80 (fun hz => by have : 80 = 79 := hz; omega)]
  by_cases hq : k = ii
  · rw [if_pos hq, hq]
  · rw [if_neg hq]; exact hk k (by omega)
theorem rel_wv (R : Rel σx σm) (h : WV σx σm T nl s1 s2) : Rel s1 s2 := by
  obtain ⟨⟨x1, x2, x3, x4⟩, hT, hX, hM, hL⟩ := h
  obtain ⟨h1, ⟨⟨k1, k2, k3, k4⟩, k5, k6⟩, h3, h4, -, h6, h7⟩ := R
  have ex : ∀ c, c ≤ 47 ∨ (68 ≤ c ∧ c ≤ 77) → gI s1 c = gI σx c := fun c hc => hX.1 c (fun hq => by rcases hq with hq | hq | hq | hq | hq <;> omega)
  have em : ∀ c, c = 79 ∨ c = 81 ∨ c = 82 ∨ c = 83 ∨ c = 87 ∨ c = 89 → gI s2 c = gI σm c := fun c hc => hM.1 c (fun hq => by rcases hq with hq | hq | hq | hq | hq <;> omega)
  have lx : gL s1 77 = gL σx 77 := hX.2 77 (fun hq => by rcases hq with hq | hq | hq | hq | hq <;> omega)
  refine ⟨h1.cong (fun c _ _ => ex c (by omega)) (fun k _ => by rw [em 79 (by omega)]), ⟨⟨k1.cong (fun c _ _ => ex c (by omega)), k2.cong (fun c _ _ => ex c (by omega)), k3.cong (fun c _ _ => ex c (by omega)), hT⟩, by rw [ex 69 (by omega)]; exact k5, by rw [ex 69 (by omega)]; exact k6⟩, ?_, ?_, ⟨nl, x1, x2, x3, fun k hk => ?_⟩, ?_, ?_⟩
  · unfold Im at h3 ⊢
    rw [ex 0 (by omega), em 82 (by omega), em 81 (by omega)]
    exact h3.imp id (fun hz => ⟨hz.1, hz.2.1, hz.2.2.cong (fun c _ _ => ex c (by omega)) (fun k _ => rfl)⟩)
  · unfold Im at h4 ⊢
    rw [ex 0 (by omega), em 82 (by omega), em 81 (by omega)]
    exact h4.imp id (fun hz => ⟨hz.1, hz.2.1, hz.2.2.cong (fun c _ _ => ex c (by omega)) (fun k _ => rfl)⟩)
  · obtain ⟨g1, g2, g3⟩ := x4 k hk
    rw [g1, g2]
    exact ⟨rfl, T k, g3, rfl⟩
  · unfold Fr at h6 ⊢; rw [lx, hL]; exact h6
  · unfold Rf at h7 ⊢; rw [ex 0 (by omega), em 83 (by omega), ex 74 (by omega), em 89 (by omega)]; exact h7
set_option maxHeartbeats 2000000 in
theorem items_lp {pp : Nat} (hL : LA T nl pp s1 s2) (hp : 2 ≤ pp) (hW : WV σx σm T nl s1 s2) (hI : IVx s1 s2) :
    Two (bde (lp FUEL (u3 (fun (n9 : Int32) (n10 : Int32) (s11 : SS) => if (nI 150) ≤ n10 then some (Sum.inr (Sum.inl (n9, s11))) else (bd (FX7_goOn 52 s11) (fun (s12 : SS) => if (gI s12 52 5) = 0 then some (Sum.inr (Sum.inr ((n9, s12)))) else (bd (FX7_isWord 52 (100 + 1) s12) (fun (r14 : Int32) => bd (if r14 = 0 then bd (FX7_isWord 52 (100 + 2) s12) (fun (r15 : Int32) => if r15 = 0 then bd (FX7_isWord 52 (100 + 3) s12) (fun (r16 : Int32) => if r16 = 0 then bd (FX7_isWord 52 (100 + 4) s12) (fun (r17 : Int32) => if r17 = 0 then some ((nI 0, s12)) else (bd2 (FX7_readHours 52 s12) (fun (r18 : Int32) (s19 : SS) => some ((r18, s19))))) else (bd2 (FX7_readSuit 52 s12) (fun (r21 : Int32) (s22 : SS) => some ((r21, s22))))) else (bd2 (FX7_readUser 52 s12) (fun (r24 : Int32) (s25 : SS) => some ((r24, s25))))) else (bd2 (FX7_readWinds 52 s12) (fun (r27 : Int32) (s28 : SS) => some ((r27, s28))))) (u2 (fun (j30 : Int32) (s31 : SS) => if j30 = 0 then some (Sum.inr (Sum.inr ((((-10 : Int32) - (gI s31 52 3)), s31)))) else (some (Sum.inl (n9 + (nI 1), n10 + (nI 1), s31)))))))))) ) (nI 1, nI 0, s1)) (u2 (fun (e34 : Int32) (s35 : SS) => some ((e34, s35)))))
      (lp FUEL (u2 (fun (n10 : Int32) (s11 : SS) => if (gI s11 78 13) = (-1 : Int32) then if (gI s11 78 14) = (-1 : Int32) then some (Sum.inr (n10, s11)) else (bd (if (gI s11 78 14) = (nI 101) then bd (FX12_readWinds 78 s11) (fun (s13 : SS) => some (s13)) else (if (gI s11 78 14) = (nI 102) then bd (FX12_readUser 78 s11) (fun (s15 : SS) => some (s15)) else (if (gI s11 78 14) = (nI 103) then bd (FX12_readSuit 78 s11) (fun (s17 : SS) => some (s17)) else (if (gI s11 78 14) = (nI 104) then bd (FX12_readHours 78 s11) (fun (s19 : SS) => some (s19)) else (bd (FX12_must 78 (nI 0) s11) (fun (s20 : SS) => some (s20))))))) (fun (s21 : SS) => some (Sum.inl (n10 + (nI 1), s21)))) else (some (Sum.inr (n10, s11))))) (nI 1, s2))
      (fun y z => PO σx σm T nl y z) := by
  have hnl := hW.1.1
  refine tw_bdR (tw_lpx (fun ii x1 x2 => ∃ s11 m pp, x1 = (nI (ii + 1), nI ii, s11) ∧ x2 = (nI (ii + 1), m) ∧ ii + 2 ≤ pp ∧ LA T nl pp s11 m ∧ WV σx σm T nl s11 m ∧ IVx s11 m) 149 (by omega) ⟨s1, s2, pp, rfl, rfl, hp, hL, hW, hI⟩ ?_)
  rintro ii x1 x2 hi ⟨s11, m, pp2, rfl, rfl, hpp, hL2, hW2, hI2⟩
  have hpl := hL2.1
  rw [u3_s, u2_s, if_neg (fun hq => by have := le_of_nI hq (by omega) (by omega); omega), if_pos hL2.2.2.2.1]
  obtain ⟨s12, tk, st4, nt4, f4, g4, hK4, p4⟩ := hL2.2.2.2.2 s11 hL2.2.1 hL2.2.2.1
  have hW4 := hW2.x g4
  have hI4 : IVx s12 m := by obtain ⟨nu, ns, hr, h⟩ := hI2; exact ⟨nu, ns, hr, h.x g4⟩
  have h14 : gI m 78 14 = tk := hK4.2.2.2.2.1
  have hLK := hK4.2.2.2.2.2.2.2.1
  refine tw_bdx f4 ?_
  rw [h14]
  by_cases hend : tk = (-1 : Int32)
  · rw [if_pos (hLK.2.2.1.mpr hend), if_pos hend]
    exact tw_some (s3_r ⟨_, rfl, hW4, Or.inl ⟨hL2.2.2.2.1, ii + 1, by omega, rfl, rfl, hI4⟩⟩)
  rw [if_neg (fun hq => hend (hLK.2.2.1.mp hq)), if_neg hend]
  refine tw_bdx (hLK.1 1 (by omega)) (tw_bd (item_i hW4 hK4 hend hI4) ?_)
  rintro ⟨j30, s31⟩ s21 ⟨hW5, hc⟩
  dsimp only at hW5 hc
  rw [u2_s]
  have l4 := la_tk hend hK4 p4
  have l5 := (hK4.2.2.2.2.2.2.1 hend).1
  rcases hc with ⟨rfl, stz, q1, q2, q3⟩ | ⟨rfl, hI5, qq, q1, hL5⟩
  · rw [if_pos nI_0, q3]
    refine tw_some (s3_x (e2 := (nI (ii + 1) + nI 1, s21)) ?_ ⟨_, rfl, hW5, Or.inr ⟨stz, q1, q2, rfl⟩⟩)
    rw [u2_s, if_neg (by rw [q2]; exact m1_n (by omega))]
  · rw [if_neg n1_0]
    exact tw_some (s3_l ⟨by have := hL5.1; omega, s31, s21, qq, by rw [nI_addn, nI_addn], by rw [nI_addn], by omega, hL5, hW5, hI5⟩)
set_option maxHeartbeats 2000000 in
theorem q_read (R : Rel σx σm) : Cm (FX11_read 0 σx) (FX12_read 78 σm) := by
  obtain ⟨-, ⟨⟨-, -, -, hT53⟩, -, -⟩, -, -, ⟨nl, t1, t2, t3, t4⟩, -, -⟩ := id R
  obtain ⟨T, hT⟩ : ∃ T : Nat → Nat, T = fun k => nat1 (gI σm 87 k) := ⟨_, rfl⟩
  have hX0 : TX σx σm T nl := ⟨t1, t2, t3, fun k hk => by
    obtain ⟨g1, by0, g2, g3⟩ := t4 k hk
    rw [hT]
    dsimp only [nat1]
    rw [g1, g3, ix_n (by omega)]
    exact ⟨rfl, rfl, g2⟩⟩
  obtain ⟨s1, e1, g1, g2, g3, g4, g5, g6⟩ := reset_x kd_53 hT53
  obtain ⟨m1, e2, g7, g8⟩ := empty_m (σ := σm) ln_80
  obtain ⟨c2, hc2⟩ : ∃ s, s = pI s1 52 4 (nI 0) := ⟨_, rfl⟩
  obtain ⟨m3, hm3⟩ : ∃ s, s = pI (pI m1 78 12 (nI 0)) 78 13 (-1 : Int32) := ⟨_, rfl⟩
  have c2e : ∀ c, c ≠ 52 → gI c2 c = gI s1 c := fun c hc => by rw [hc2, gI_pI_ne hc]
  have m3e : ∀ c, c ≠ 78 → gI m3 c = gI m1 c := fun c hc => by rw [hm3, gI_pI_ne hc, gI_pI_ne hc]
  have hEx : Eq0 PX σx c2 := by
    rw [hc2]
    exact (g1.up (fun c hq => Or.inr (Or.inl ⟨hq.1, by have := hq.2; omega⟩))).tr (Eq0.pI (Or.inl rfl))
  have hEm : Eq0 PM σm m3 := by
    rw [hm3]
    exact (g7.up (fun c hq => Or.inr (Or.inl hq))).tr ((Eq0.pI (Or.inl rfl)).tr (Eq0.pI (Or.inl rfl)))
  have hWV : WV σx σm T nl c2 m3 := by
    refine ⟨(hX0.x (hEx.1 46 (fun hq => by rcases hq with hq | hq | hq | hq | hq <;> omega)) (hEx.1 47 (fun hq => by rcases hq with hq | hq | hq | hq | hq <;> omega))).m ?_ (hEm.1 87 (fun hq => by rcases hq with hq | hq | hq | hq | hq <;> omega)), g2.cong (fun c c1 _ => c2e c (by omega)), hEx, hEm, ?_⟩
    · rw [hm3, gI_pI_eq, upd_ne (by omega), gI_pI_eq, upd_ne (by omega), g7.1 78 (by omega)]
    · rw [hm3]
      show gL m1 78 = _
      exact g7.2 78 (by omega)
  have hIV : IVx c2 m3 := by
    have hz : ∀ k, k < 378 → gI m3 80 k = nI 0 := fun k hk => by rw [m3e 80 (by omega)]; exact g8 k hk
    refine ⟨0, 0, 0, ir_zero hz ?_ ?_ ?_ ?_, bd_0 (hz 81 (by omega))⟩
    · intro hh hl
      rw [c2e _ (by omega), c2e _ (by omega)]; exact g3 hh hl
    · rw [c2e _ (by omega), c2e _ (by omega), c2e _ (by omega), c2e _ (by omega), c2e _ (by omega), c2e _ (by omega)]; exact g4
    · rw [c2e _ (by omega)]; exact g5
    · rw [c2e _ (by omega)]; exact g6
  have h13 : gI m3 78 13 = (-1 : Int32) := by rw [hm3, gI_pI_eq, upd_eq]
  obtain ⟨c3, m4, st, nt, tok, e3, e4, f1, f2, f3, f4, f5, f6, f7, f8, f9, f10, f11⟩ := lex hWV.1 (pp := 0) (by omega) (by rw [hc2, gI_pI_eq, upd_eq]) (by rw [hm3, gI_pI_eq, upd_ne (by omega), gI_pI_eq, upd_eq])
  have hK : TK nl c3 m4 tok st nt := ⟨f4, f5, f6, f7, f8, f9, f10, f11, by rw [f2.2.2 13 (by omega) (by omega) (by omega)]; exact h13⟩
  have hW3 := (hWV.x f1).m f2
  have hI3 : IVx c3 m4 := by obtain ⟨nu, ns, hr, h⟩ := hIV; exact ⟨nu, ns, hr, (h.x f1).m f2⟩
  have hnl : nl ≤ 150 := t1
  unfold FX11_read FX12_read FX7_parse
  simp only [nm_eq, lk_0_0, lk_0_7, lk_52_2, lk_78_0, lk_78_1, ln_79, ln_80]
  rw [bd_of e1, bd_of e2, ← hc2, ← hm3, bd_of e3, bd_of e4, f8, bd_of (f11.1 0 (by omega))]
  have fin : ∀ (y1 z : Int32 × SS), PO σx σm T nl y1 z → Two (bd (if y1.1 < 0 then some y1.2 else (bd (FX4_copyFrom 1 53 y1.2) (fun (s4 : SS) => some s4))) (fun (s5 : SS) => some (y1.1, s5)))
      (u2 (fun (e23 : Int32) (s24 : SS) => if (gI s24 78 13) = (-1 : Int32) then (bd (lp FUEL (u2 (fun (n26 : Int32) (s27 : SS) => if (nI 378) ≤ n26 then some (Sum.inr s27) else (gd (inb n26 378) (gd (inb n26 378) (some (Sum.inl (n26 + (nI 1), pI s27 79 (Int32.toNatClampNeg n26) (gI s27 80 (Int32.toNatClampNeg n26))))))))) (nI 0, s24)) (fun (s30 : SS) => some (e23, s30))) else some ((-10 : Int32) - (gI s24 78 13), s24)) z) (fun aa bb => aa.1 = bb.1 ∧ Rel aa.2 bb.2) := by
    rintro ⟨y1, y2⟩ ⟨z1, z2⟩ ⟨hWf, hcf⟩
    dsimp only at hWf hcf
    have R2 := rel_wv R hWf
    rw [u2_s]
    dsimp only
    rcases hcf with ⟨q1, it, q2, rfl, rfl, nu, ns, hr, hq⟩ | ⟨stf, q1, q2, rfl⟩
    · obtain ⟨s9, k1, k2, k3, k4⟩ := copy_x kd_1 kd_53 (by omega) R2.2.1.1.1
      obtain ⟨m9, k5, k6, k7⟩ := copy_79 (s := z2)
      rw [if_neg (nI_pos (by omega)), bd_of k1, bd_s, if_pos q1, bd_of k5]
      refine tw_some ⟨rfl, rel_now R2 (k2.1.up (fun c hq => Or.inl hq)) (k6.up (fun c hq => Or.inl hq)) k2.2.1 ⟨nu, ns, 0, 0, 0, 0, hr, ir_move kd_1 hq.1 k2 k3 k4 (fun k hk => k7 k hk), bd_all hq.2 hq.1.1.1 hq.1.1.2.1 (by omega) (fun k hk => k7 k hk)⟩⟩
    · rw [if_pos (neg_10 stf (by omega)), bd_s, q2, if_neg (m1_n (by omega))]
      exact tw_some ⟨rfl, R2⟩
  refine cq_tw ?_
  by_cases h100 : tok = nI 100
  rotate_left
  · rw [if_neg (show ¬ tok = nI (100 + 0) from h100), if_pos nI_0, if_neg h100, bd_s, bd_of (must_0 hK.2.2.2.2.2.2.2.2 hK.2.2.1), bd_of (go_f (flt_f hnl hK)), bd_of (end_f (flt_f hnl hK)), f5]
    refine tw_bd2x rfl (tw_bdm (lp_now (e := (nI 1, pI m4 78 13 (nI st))) ?_) (fin ((-10 : Int32) - nI st, c3) (nI 1, pI m4 78 13 (nI st)) (po_bad hW3 hK)))
    rw [u2_s, if_neg (flt_f hnl hK)]
  rw [if_pos (show tok = nI (100 + 0) from h100), if_neg n1_0, if_pos h100, bd_s, must_1, bd_s]
  obtain ⟨m5, e5, hN5, hL5⟩ := go_la hW3 hK (by rw [h100]; exact m1_n (by omega))
  have hW5 := hW3.m hN5
  obtain ⟨c6, tk2, st2, nt2, e6, g9, hK2, p2⟩ := stops_x hL5
  have hW6 := hW5.x g9
  rw [bd_of e5, bd2_of e6]
  by_cases h200 : tk2 = nI 200
  rotate_left
  · rw [if_neg h200, if_pos nI_0, bd_of (end_bad hnl hK2 h200), hK2.2.1]
    refine tw_bd2x rfl (tw_bdm (lp_now (e := (nI 1, pI m5 78 13 (nI st2))) ?_) (fin ((-10 : Int32) - nI st2, c6) (nI 1, pI m5 78 13 (nI st2)) (po_bad hW6 hK2)))
    rw [u2_s, if_neg (flt_f hnl hK2)]
  obtain ⟨m7, e7, hN7, hL7⟩ := end_ok hW6 hK2 h200
  have hI7 : IVx c6 m7 := by obtain ⟨nu, ns, hr, h⟩ := hI3; exact ⟨nu, ns, hr, ((h.m hN5).x g9).m hN7⟩
  have l1 := la_tk (by rw [h200]; exact m1_n (by omega)) hK2 p2
  have l2 := (hK2.2.2.2.2.2.2.1 (by rw [h200]; exact m1_n (by omega))).1
  have l3 := (hK.2.2.2.2.2.2.1 (by rw [h100]; exact m1_n (by omega))).1
  rw [if_pos h200, if_neg n1_0, bd_of e7]
  exact tw_bd2' (items_lp hL7 (by omega) (hW6.m hN7) hI7) fin
end DN
