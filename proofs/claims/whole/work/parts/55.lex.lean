/-! ===== tokens of the text, on both sides ===== -/
/-- the first place from pp on, of dd at most, whose byte is not from lo to hi -/
def rE (T : Nat → Nat) (lo hi : Nat) : Nat → Nat → Nat
  | 0, pp => pp
  | dd + 1, pp => if lo ≤ T pp ∧ T pp ≤ hi then rE T lo hi dd (pp + 1) else pp
theorem rE_le {T : Nat → Nat} {lo hi : Nat} : ∀ dd pp, pp ≤ rE T lo hi dd pp ∧ rE T lo hi dd pp ≤ pp + dd
  | 0, pp => ⟨Nat.le_refl _, Nat.le_refl _⟩
  | dd + 1, pp => by
    have h := rE_le (T := T) (lo := lo) (hi := hi) dd (pp + 1)
    simp only [rE]
    split
    · omega
    · omega
theorem rE_in {T : Nat → Nat} {lo hi : Nat} : ∀ dd pp k, pp ≤ k → k < rE T lo hi dd pp → lo ≤ T k ∧ T k ≤ hi
  | 0, pp, k, h1, h2 => by simp only [rE] at h2; omega
  | dd + 1, pp, k, h1, h2 => by
    simp only [rE] at h2
    by_cases hc : lo ≤ T pp ∧ T pp ≤ hi
    · rw [if_pos hc] at h2
      by_cases hk : k = pp
      · rw [hk]; exact hc
      · exact rE_in dd (pp + 1) k (by omega) h2
    · rw [if_neg hc] at h2; omega
theorem rE_end {T : Nat → Nat} {lo hi : Nat} : ∀ dd pp, rE T lo hi dd pp < pp + dd → ¬ (lo ≤ T (rE T lo hi dd pp) ∧ T (rE T lo hi dd pp) ≤ hi)
  | 0, pp, h => by simp only [rE] at h; omega
  | dd + 1, pp, h => by
    simp only [rE] at h ⊢
    by_cases hc : lo ≤ T pp ∧ T pp ≤ hi
    · rw [if_pos hc] at h ⊢
      exact rE_end dd (pp + 1) (by omega)
    · rw [if_neg hc]; exact hc
/-- the text: nl bytes -/
def TX (s1 s2 : SS) (T : Nat → Nat) (nl : Nat) : Prop := nl ≤ 150 ∧ gI s1 46 1 = nI nl ∧ gI s2 78 11 = nI nl ∧ ∀ k, k < nl → gI s1 47 k = nI (T k) ∧ gI s2 87 k = nI (T k) ∧ T k ≤ 127
section DH
variable {s1 s2 : SS} {T : Nat → Nat} {nl : Nat}
theorem tat_in (h : TX s1 s2 T nl) {k : Nat} (hk : k < nl) : FX10_at 46 (nI k) s1 = some (nI (T k)) := by
  obtain ⟨h1, h2, h3, h4⟩ := h
  unfold FX10_at
  simp only [lk_46_0, ln_47]
  rw [if_neg (nI_pos (by omega)), h2, if_neg (fun hq => by have := le_of_nI hq (by omega) (by omega); omega), if_neg (fun hq => by have := le_of_nI hq (by omega) (by omega); omega), gd_n (by omega) (by omega), ix_n (by omega), (h4 k hk).1]
theorem tat_out (h : TX s1 s2 T nl) {k : Nat} (hk : nl ≤ k) (hk2 : k < 1000) : FX10_at 46 (nI k) s1 = some (-1 : Int32) := by
  obtain ⟨h1, h2, h3, h4⟩ := h
  unfold FX10_at
  rw [if_neg (nI_pos (by omega)), h2, if_pos ((nI_le_iff (by omega) (by omega)).mpr hk)]
theorem wi_yes {b lo hi : Nat} (hb : b < 1000) (hl : lo < 1000) (hh : hi < 1000) (h : lo ≤ b ∧ b ≤ hi) : wi (nI b) (nI lo) (nI hi) = nI 1 := by rw [wi_n (by omega) (by omega) (by omega), if_pos h]
theorem wi_no {b lo hi : Nat} (hb : b < 1000) (hl : lo < 1000) (hh : hi < 1000) (h : ¬ (lo ≤ b ∧ b ≤ hi)) : wi (nI b) (nI lo) (nI hi) = 0 := by rw [wi_n (by omega) (by omega) (by omega), if_neg h]
theorem wi_m1 {lo hi : Nat} (hl : lo < 1000) : wi (-1 : Int32) (nI lo) (nI hi) = 0 := by
  unfold wi
  rw [if_pos (Int32.lt_iff_toInt_lt.mpr (by rw [nI_toInt (by omega), (by decide +kernel : (-1 : Int32).toInt = -1)]; omega)), nI_0]
theorem run_x (h : TX s1 s2 T nl) {aa lo hi : Nat} (ha : aa ≤ nl) (hl : lo < 1000) (hh : hi < 1000) : FX7_runEnd 52 (nI aa) (nI lo) (nI hi) s1 = some (nI (rE T lo hi (nl - aa) aa)) := by
  have h1 := h.1
  have h2 := h.2.1
  unfold FX7_runEnd
  simp only [nm_eq, lk_52_0]
  rw [h2]
  suffices hok : Ok (lp FUEL (fun (n2 : Int32) => if nI nl ≤ n2 then some (Sum.inr n2) else (bd (FX10_at 46 n2 s1) (fun (r3 : Int32) => bd (FX11_within r3 (nI lo) (nI hi) s1) (fun (r4 : Int32) => if r4 = 0 then some (Sum.inr n2) else (some (Sum.inl (n2 + (nI 1)))))))) (nI aa)) (fun e => e = nI (rE T lo hi (nl - aa) aa)) by
    obtain ⟨e, he, rfl⟩ := hok
    exact bd_of he _
  refine ok_lp (fun ii ss => ∃ pp, pp = aa + ii ∧ pp ≤ nl ∧ ss = nI pp ∧ rE T lo hi (nl - aa) aa = rE T lo hi (nl - pp) pp) (nl - aa) (by omega) ⟨aa, rfl, ha, rfl, rfl⟩ ?_
  rintro ii ss hi2 ⟨pp, hpp, hle, rfl, he⟩
  refine ok_ite (fun hc => ok_some ?_) (fun hc => ?_)
  · have := le_of_nI hc (by omega) (by omega)
    show nI pp = _
    rw [he, show nl - pp = 0 by omega]; rfl
  have hlt := lt_of_nle hc (by omega) (by omega)
  have hT := (h.2.2.2 pp hlt).2.2
  rw [show nl - pp = (nl - (pp + 1)) + 1 by omega] at he
  simp only [rE] at he
  refine ok_bdr (tat_in h hlt) (ok_bdr (within_eq _ _ _ _) ?_)
  by_cases hw : lo ≤ T pp ∧ T pp ≤ hi
  · rw [wi_yes (by omega) hl hh hw, if_neg n1_0]
    rw [if_pos hw] at he
    exact ok_some ⟨by omega, pp + 1, by omega, by omega, by rw [nI_addn], he⟩
  · rw [wi_no (by omega) hl hh hw, if_pos rfl]
    rw [if_neg hw] at he
    exact ok_some (by show nI pp = _; rw [he])
/-! words as numbers -/
def enc (ff : Nat → Nat) : Nat → Nat
  | 0 => 0
  | nn + 1 => 32 * enc ff nn + ff nn
theorem enc_inj : ∀ (nn mm : Nat) {ff gg : Nat → Nat}, (∀ k, k < nn → 1 ≤ ff k ∧ ff k ≤ 31) → (∀ k, k < mm → 1 ≤ gg k ∧ gg k ≤ 31) → enc ff nn = enc gg mm → nn = mm ∧ ∀ k, k < nn → ff k = gg k := by
  intro nn
  induction nn with
  | zero =>
    intro mm ff gg h1 h2 he
    cases mm with
    | zero => exact ⟨rfl, fun _ hq => absurd hq (Nat.not_lt_zero _)⟩
    | succ mm =>
      have := (h2 mm (by omega)).1
      simp only [enc] at he
      omega
  | succ nn ih =>
    intro mm ff gg h1 h2 he
    cases mm with
    | zero =>
      have := (h1 nn (by omega)).1
      simp only [enc] at he
      omega
    | succ mm =>
      have g1 := h1 nn (by omega)
      have g2 := h2 mm (by omega)
      simp only [enc] at he
      obtain ⟨e1, e2⟩ := ih mm (fun k hk => h1 k (by omega)) (fun k hk => h2 k (by omega)) (show enc ff nn = enc gg mm by omega)
      refine ⟨by omega, fun k hk => ?_⟩
      by_cases hq : k = nn
      · rw [hq]
        have : ff nn = gg mm := by omega
        rw [this, e1]
      · exact e2 k (by omega)
theorem enc_cong {ff gg : Nat → Nat} : ∀ {nn : Nat}, (∀ k, k < nn → ff k = gg k) → enc ff nn = enc gg nn
  | 0, _ => rfl
  | nn + 1, hh => by
    show 32 * enc ff nn + ff nn = 32 * enc gg nn + gg nn
    rw [enc_cong (nn := nn) (fun k hk => hh k (by omega)), hh nn (by omega)]
theorem enc_lt {ff : Nat → Nat} : ∀ {nn : Nat}, (∀ k, k < nn → ff k ≤ 31) → enc ff nn < 32 ^ nn
  | 0, _ => by show 0 < 32 ^ 0; decide
  | nn + 1, hh => by
    have h1 := enc_lt (ff := ff) (nn := nn) (fun k hk => hh k (by omega))
    have h2 := hh nn (by omega)
    show 32 * enc ff nn + ff nn < 32 ^ (nn + 1)
    rw [Nat.pow_succ]
    omega
/-- the words' letters -/
def wle (kk k : Nat) : Nat := (([[9, 19, 12, 1, 14, 4], [23, 9, 14, 4, 19], [21, 19, 5, 18], [19, 21, 9, 20], [8, 15, 21, 18, 19]] : List (List Nat)).getD kk []).getD k 0
def wln (kk : Nat) : Nat := ([6, 5, 4, 4, 5] : List Nat).getD kk 0
def wcd (kk : Nat) : Nat := ([322307524, 24426643, 707762, 644404, 8902227] : List Nat).getD kk 0
theorem wd_dec : ∀ kk, kk < 5 → enc (wle kk) (wln kk) = wcd kk ∧ wl (100 + kk) = wln kk ∧ wln kk ≤ 6 ∧ (∀ k, k < wln kk → (1 ≤ wle kk k ∧ wle kk k ≤ 26) ∧ wch (100 + kk) k = nI (wle kk k + 96)) := by decide +kernel
theorem wcd_ne : ∀ kk, kk < 5 → ∀ jj, jj < 5 → wcd kk = wcd jj → kk = jj := by decide +kernel
/-- the word from st to nt is the kk-th -/
def isW (T : Nat → Nat) (st nt kk : Nat) : Bool := decide (nt - st = wln kk ∧ ∀ k, k < wln kk → T (st + k) = wle kk k + 96)
theorem isW_enc {st nt kk : Nat} (hk : kk < 5) (h6 : nt - st ≤ 6) (hT : ∀ k, st ≤ k → k < nt → 97 ≤ T k ∧ T k ≤ 122) (hle : st ≤ nt) : isW T st nt kk = true ↔ enc (fun k => T (st + k) - 96) (nt - st) = wcd kk := by
  obtain ⟨d1, d2, d3, d4⟩ := wd_dec kk hk
  unfold isW
  rw [decide_eq_true_iff]
  constructor
  · rintro ⟨g1, g2⟩
    rw [g1, ← d1]
    exact enc_cong (fun k hk2 => by rw [g2 k hk2]; omega)
  · intro he
    rw [← d1] at he
    obtain ⟨e1, e2⟩ := enc_inj _ _ (fun k hk2 => by have := hT (st + k) (by omega) (by omega); omega) (fun k hk2 => by have := (d4 k hk2).1; omega) he
    refine ⟨e1, fun k hk2 => ?_⟩
    have g1 := e2 k (by omega)
    have g2 := hT (st + k) (by omega) (by omega)
    have g3 := (d4 k hk2).1
    omega
theorem isW_not {st nt kk : Nat} (hk : kk < 5) (h6 : 6 < nt - st) : isW T st nt kk = false := by
  obtain ⟨d1, d2, d3, d4⟩ := wd_dec kk hk
  unfold isW
  exact decide_eq_false (fun hq => by omega)
def wT (T : Nat → Nat) (st nt : Nat) : Int32 := if isW T st nt 3 = true then nI 103 else if isW T st nt 2 = true then nI 102 else if isW T st nt 4 = true then nI 104 else if isW T st nt 1 = true then nI 101 else if isW T st nt 0 = true then nI 100 else nI 300
theorem isW_one {st nt kk jj : Nat} (hk : kk < 5) (hj : jj < 5) (h1 : isW T st nt kk = true) (h2 : isW T st nt jj = true) (hT : ∀ k, st ≤ k → k < nt → 97 ≤ T k ∧ T k ≤ 122) (hle : st ≤ nt) : kk = jj := by
  have h6 : nt - st ≤ 6 := by
    rcases Nat.lt_or_ge 6 (nt - st) with hq | hq
    · rw [isW_not hk hq] at h1; cases h1
    · exact hq
  exact wcd_ne kk hk jj hj (((isW_enc hk h6 hT hle).mp h1).symm.trans ((isW_enc hj h6 hT hle).mp h2))
theorem wT_iff {st nt kk : Nat} (hk : kk < 5) (hT : ∀ k, st ≤ k → k < nt → 97 ≤ T k ∧ T k ≤ 122) (hle : st ≤ nt) : wT T st nt = nI (100 + kk) ↔ isW T st nt kk = true := by
  have hne : ∀ {a b : Nat}, a < 1000 → b < 1000 → nI a = nI b → a = b := fun ha hb hq => (nI_eqn (by omega) (by omega)).mp hq
  unfold wT
  by_cases h3 : isW T st nt 3 = true
  · rw [if_pos h3]
    exact ⟨fun hq => by have : kk = 3 := by (have := hne (by omega) (by omega) hq); omega
                        rw [this]; exact h3, fun hq => by rw [isW_one hk (by omega) hq h3 hT hle]⟩
  rw [if_neg h3]
  by_cases h2 : isW T st nt 2 = true
  · rw [if_pos h2]
    exact ⟨fun hq => by have : kk = 2 := by (have := hne (by omega) (by omega) hq); omega
                        rw [this]; exact h2, fun hq => by rw [isW_one hk (by omega) hq h2 hT hle]⟩
  rw [if_neg h2]
  by_cases h4 : isW T st nt 4 = true
  · rw [if_pos h4]
    exact ⟨fun hq => by have : kk = 4 := by (have := hne (by omega) (by omega) hq); omega
                        rw [this]; exact h4, fun hq => by rw [isW_one hk (by omega) hq h4 hT hle]⟩
  rw [if_neg h4]
  by_cases h1 : isW T st nt 1 = true
  · rw [if_pos h1]
    exact ⟨fun hq => by have : kk = 1 := by (have := hne (by omega) (by omega) hq); omega
                        rw [this]; exact h1, fun hq => by rw [isW_one hk (by omega) hq h1 hT hle]⟩
  rw [if_neg h1]
  by_cases h0 : isW T st nt 0 = true
  · rw [if_pos h0]
    exact ⟨fun hq => by have : kk = 0 := by (have := hne (by omega) (by omega) hq); omega
                        rw [this]; exact h0, fun hq => by rw [isW_one hk (by omega) hq h0 hT hle]⟩
  rw [if_neg h0]
  refine ⟨fun hq => by have := hne (by omega) (by omega) hq; omega, fun hq => ?_⟩
  have hz : kk = 0 ∨ kk = 1 ∨ kk = 2 ∨ kk = 3 ∨ kk = 4 := by omega
  rcases hz with rfl | rfl | rfl | rfl | rfl
  · exact absurd hq h0
  · exact absurd hq h1
  · exact absurd hq h2
  · exact absurd hq h3
  · exact absurd hq h4
theorem wT_rng {st nt : Nat} : ∃ vv, 100 ≤ vv ∧ vv ≤ 300 ∧ vv ≠ 200 ∧ wT T st nt = nI vv := by
  unfold wT
  repeat' split
  · exact ⟨103, by omega, by omega, by omega, rfl⟩
  · exact ⟨102, by omega, by omega, by omega, rfl⟩
  · exact ⟨104, by omega, by omega, by omega, rfl⟩
  · exact ⟨101, by omega, by omega, by omega, rfl⟩
  · exact ⟨100, by omega, by omega, by omega, rfl⟩
  · exact ⟨300, by omega, by omega, by omega, rfl⟩
theorem word_m (h : TX s1 s2 T nl) {st nt : Nat} (h15 : gI s2 78 15 = nI st) (h1 : st ≤ nt) (h2 : nt ≤ nl) (hT : ∀ k, st ≤ k → k < nt → 97 ≤ T k ∧ T k ≤ 122) : FX12_wordBy 78 (nI nt) s2 = some (wT T st nt) := by
  have hn := h.1
  unfold FX12_wordBy
  simp only [nm_eq, lk_78_10, ln_87]
  rw [h15, nI_addn st 6]
  have L1 : lp FUEL (u2 (fun (n3 : Int32) (n4 : Int32) => if nI nt ≤ n4 then some (Sum.inr n3) else (if nI (st + 6) ≤ n4 then some (Sum.inr n3) else (gd (inb n4 150) (some (Sum.inl ((((nI 32) * n3) + (gI s2 87 (Int32.toNatClampNeg n4))) - (nI 96), n4 + (nI 1)))))))) (nI 0, nI st) = some (nI (enc (fun k => T (st + k) - 96) (min (nt - st) 6))) := by
    refine lp_F (fun jj => (nI (enc (fun k => T (st + k) - 96) jj), nI (st + jj))) (min (nt - st) 6) (fuel_of (by omega)) rfl (fun jj hj => ?_) ?_
    · have g := hT (st + jj) (by omega) (by omega)
      rw [u2_s, if_neg (fun hq => by have := le_of_nI hq (by omega) (by omega); omega), if_neg (fun hq => by have := le_of_nI hq (by omega) (by omega); omega), gd_n (by omega) (by omega), ix_n (by omega), (h.2.2.2 (st + jj) (by omega)).2.1, nI_muln, nI_addn, nI_addn, nI_subn (by omega)]
      show some (Sum.inl (nI (32 * enc (fun k => T (st + k) - 96) jj + T (st + jj) - 96), nI (st + jj + 1))) = some (Sum.inl (nI (32 * enc (fun k => T (st + k) - 96) jj + (T (st + jj) - 96)), nI (st + (jj + 1))))
      rw [Nat.add_sub_assoc (by omega), Nat.add_assoc st jj 1]
    · rw [u2_s]
      by_cases hq : nt - st ≤ 6
      · rw [if_pos ((nI_le_iff (by omega) (by omega)).mpr (by omega))]
      · rw [if_neg (fun hq2 => by have := le_of_nI hq2 (by omega) (by omega); omega), if_pos ((nI_le_iff (by omega) (by omega)).mpr (by omega))]
  rw [bd_of L1, nI_subn h1]
  by_cases hq : nt - st ≤ 6
  · rw [if_pos ((nI_le_iff (by omega) (by omega)).mpr hq), Nat.min_eq_left hq]
    have hlt : enc (fun k => T (st + k) - 96) (nt - st) < 32 ^ (nt - st) := enc_lt (fun k hk => by have := hT (st + k) (by omega) (by omega); omega)
    have hlt2 : enc (fun k => T (st + k) - 96) (nt - st) < 2147483648 := Nat.lt_of_lt_of_le hlt (Nat.le_trans (Nat.pow_le_pow_right (by omega) hq) (by decide))
    have key : ∀ kk, kk < 5 → ∀ cc, wcd kk = cc → (nI (enc (fun k => T (st + k) - 96) (nt - st)) = nI cc ↔ isW T st nt kk = true) := fun kk hk cc hcc => by
      have hcl : cc < 2147483648 := by
        rw [← hcc]
        have hz : kk = 0 ∨ kk = 1 ∨ kk = 2 ∨ kk = 3 ∨ kk = 4 := by omega
        rcases hz with rfl | rfl | rfl | rfl | rfl <;> decide
      rw [nI_eqn hlt2 hcl, isW_enc hk hq hT h1, hcc]
    unfold wT
    simp only [key 3 (by omega) 644404 rfl, key 2 (by omega) 707762 rfl, key 4 (by omega) 8902227 rfl, key 1 (by omega) 24426643 rfl, key 0 (by omega) 322307524 rfl]
    repeat' split
    all_goals rfl
  · rw [if_neg (fun hq2 => hq (le_of_nI hq2 (by omega) (by omega)))]
    unfold wT
    rw [isW_not (by omega) (by omega), isW_not (by omega) (by omega), isW_not (by omega) (by omega), isW_not (by omega) (by omega), isW_not (by omega) (by omega)]
    rfl
theorem isWord_x (h : TX s1 s2 T nl) {st nt kk : Nat} (hk : kk < 5) (h5 : gI s1 52 5 = nI 1) (h4 : gI s1 52 4 = nI nt) (h3 : gI s1 52 3 = nI st) (h1 : st ≤ nt) (h2 : nt ≤ nl) : FX7_isWord 52 (100 + kk) s1 = some (if isW T st nt kk = true then nI 1 else nI 0) := by
  have hn := h.1
  obtain ⟨d1, d2, d3, d4⟩ := wd_dec kk hk
  unfold FX7_isWord
  simp only [nm_eq, lk_52_0]
  rw [h5, if_pos rfl, h4, h3, nI_subn h1, d2]
  by_cases hq : nt - st = wln kk
  rotate_left
  · rw [if_neg (fun hz => hq ((nI_eqn (by omega) (by omega)).mp hz))]
    have : isW T st nt kk = false := decide_eq_false (fun hz => hq hz.1)
    rw [this]
    rfl
  rw [hq, if_pos rfl]
  suffices hok : Ok (bde (lp FUEL (fun (n2 : Int32) => if nI (wln kk) ≤ n2 then some (Sum.inr (Sum.inl ())) else (bd (FX10_at 46 ((nI st) + n2) s1) (fun (r3 : Int32) => gd (inb n2 (wln kk)) (if r3 = (wch (100 + kk) (Int32.toNatClampNeg n2)) then some (Sum.inl (n2 + (nI 1))) else (some (Sum.inr (Sum.inr ((nI 0))))))))) (nI 0)) (fun (_ : Unit) => some ((nI 1)))) (fun r => r = if isW T st nt kk = true then nI 1 else nI 0) by
    obtain ⟨r, hr, rfl⟩ := hok
    exact hr
  refine ok_bde (Q1 := fun _ => isW T st nt kk = true) (ok_lp (fun ii ss => ss = nI ii ∧ ∀ k, k < ii → T (st + k) = wle kk k + 96) (wln kk) (by omega) ⟨rfl, fun _ hz => absurd hz (Nat.not_lt_zero _)⟩ ?_) (fun _ hw => ok_some (by rw [if_pos hw]))
  rintro ii ss hi ⟨rfl, hs⟩
  refine ok_ite (fun hc => ok_some ?_) (fun hc => ?_)
  · have hii : ii = wln kk := by have := le_of_nI hc (by omega) (by omega); omega
    subst hii
    exact decide_eq_true ⟨hq, hs⟩
  have hlt := lt_of_nle hc (by omega) (by omega)
  have hT := (h.2.2.2 (st + ii) (by omega)).2.2
  rw [nI_addn]
  refine ok_bdr (tat_in h (by omega)) (ok_gn hlt (by omega) ?_)
  rw [ix_n (by omega), (d4 ii hlt).2]
  refine ok_ite (fun hc2 => ok_some ⟨hlt, by rw [nI_addn], fun k hk2 => ?_⟩) (fun hc2 => ok_some ?_)
  · by_cases hz : k = ii
    · rw [hz]
      have := (d4 ii hlt).1
      exact (nI_eqn (by omega) (by omega)).mp hc2
    · exact hs k (by omega)
  · show nI 0 = _
    rw [if_neg]
    intro hw
    exact hc2 (by rw [(of_decide_eq_true hw).2 ii hlt])
end DH
