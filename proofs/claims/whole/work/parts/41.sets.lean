/-! ===== sets of kinds ===== -/
def Bz (b0 b1 b2 b3 b4 b5 : Bool) : Nat := (if b0 then 1 else 0) + (if b1 then 2 else 0) + (if b2 then 4 else 0) + (if b3 then 8 else 0) + (if b4 then 16 else 0) + (if b5 then 32 else 0)
def Bs (gg : Nat → Bool) : Nat := Bz (gg 0) (gg 1) (gg 2) (gg 3) (gg 4) (gg 5)
theorem bs_cong {gg hh : Nat → Bool} (h : ∀ jj, jj < 6 → gg jj = hh jj) : Bs gg = Bs hh := by
  unfold Bs
  rw [h 0 (by omega), h 1 (by omega), h 2 (by omega), h 3 (by omega), h 4 (by omega), h 5 (by omega)]
theorem bz_or : ∀ b0 b1 b2 b3 b4 b5 : Bool, (b0 = false → Bz b0 b1 b2 b3 b4 b5 ||| 1 = Bz true b1 b2 b3 b4 b5) ∧ (b1 = false → Bz b0 b1 b2 b3 b4 b5 ||| 2 = Bz b0 true b2 b3 b4 b5) ∧ (b2 = false → Bz b0 b1 b2 b3 b4 b5 ||| 4 = Bz b0 b1 true b3 b4 b5) ∧ (b3 = false → Bz b0 b1 b2 b3 b4 b5 ||| 8 = Bz b0 b1 b2 true b4 b5) ∧ (b4 = false → Bz b0 b1 b2 b3 b4 b5 ||| 16 = Bz b0 b1 b2 b3 true b5) ∧ (b5 = false → Bz b0 b1 b2 b3 b4 b5 ||| 32 = Bz b0 b1 b2 b3 b4 true) := by decide +kernel
theorem bz_an : ∀ b0 b1 b2 b3 b4 b5 : Bool, nI (Bz b0 b1 b2 b3 b4 b5) &&& nI 63 = nI (Bz b0 b1 b2 b3 b4 b5) ∧ nI (Bz b0 b1 b2 b3 b4 b5) &&& ((nI 1 <<< (nI 0 &&& 31)) ^^^ (-1 : Int32)) = nI (Bz false b1 b2 b3 b4 b5) ∧ nI (Bz b0 b1 b2 b3 b4 b5) &&& ((nI 1 <<< (nI 1 &&& 31)) ^^^ (-1 : Int32)) = nI (Bz b0 false b2 b3 b4 b5) ∧ nI (Bz b0 b1 b2 b3 b4 b5) &&& ((nI 1 <<< (nI 2 &&& 31)) ^^^ (-1 : Int32)) = nI (Bz b0 b1 false b3 b4 b5) ∧ nI (Bz b0 b1 b2 b3 b4 b5) &&& ((nI 1 <<< (nI 3 &&& 31)) ^^^ (-1 : Int32)) = nI (Bz b0 b1 b2 false b4 b5) ∧ nI (Bz b0 b1 b2 b3 b4 b5) &&& ((nI 1 <<< (nI 4 &&& 31)) ^^^ (-1 : Int32)) = nI (Bz b0 b1 b2 b3 false b5) ∧ nI (Bz b0 b1 b2 b3 b4 b5) &&& ((nI 1 <<< (nI 5 &&& 31)) ^^^ (-1 : Int32)) = nI (Bz b0 b1 b2 b3 b4 false) := by decide +kernel
theorem bs_or {gg hh : Nat → Bool} {kk : Nat} (hk : kk < 6) (h0 : gg kk = false) (h1 : hh kk = true) (ho : ∀ jj, jj < 6 → jj ≠ kk → hh jj = gg jj) : Bs gg ||| 2 ^ kk = Bs hh := by
  have hz : kk = 0 ∨ kk = 1 ∨ kk = 2 ∨ kk = 3 ∨ kk = 4 ∨ kk = 5 := by omega
  obtain ⟨a0, a1, a2, a3, a4, a5⟩ := bz_or (gg 0) (gg 1) (gg 2) (gg 3) (gg 4) (gg 5)
  unfold Bs
  rcases hz with rfl | rfl | rfl | rfl | rfl | rfl
  · rw [h1, ho 1 (by omega) (by omega), ho 2 (by omega) (by omega), ho 3 (by omega) (by omega), ho 4 (by omega) (by omega), ho 5 (by omega) (by omega)]; exact a0 h0
  · rw [h1, ho 0 (by omega) (by omega), ho 2 (by omega) (by omega), ho 3 (by omega) (by omega), ho 4 (by omega) (by omega), ho 5 (by omega) (by omega)]; exact a1 h0
  · rw [h1, ho 0 (by omega) (by omega), ho 1 (by omega) (by omega), ho 3 (by omega) (by omega), ho 4 (by omega) (by omega), ho 5 (by omega) (by omega)]; exact a2 h0
  · rw [h1, ho 0 (by omega) (by omega), ho 1 (by omega) (by omega), ho 2 (by omega) (by omega), ho 4 (by omega) (by omega), ho 5 (by omega) (by omega)]; exact a3 h0
  · rw [h1, ho 0 (by omega) (by omega), ho 1 (by omega) (by omega), ho 2 (by omega) (by omega), ho 3 (by omega) (by omega), ho 5 (by omega) (by omega)]; exact a4 h0
  · rw [h1, ho 0 (by omega) (by omega), ho 1 (by omega) (by omega), ho 2 (by omega) (by omega), ho 3 (by omega) (by omega), ho 4 (by omega) (by omega)]; exact a5 h0
theorem bs_63 (gg : Nat → Bool) : nI (Bs gg) &&& nI 63 = nI (Bs gg) := (bz_an _ _ _ _ _ _).1
theorem bs_an {gg hh : Nat → Bool} {kk : Nat} (hk : kk < 6) (h1 : hh kk = false) (ho : ∀ jj, jj < 6 → jj ≠ kk → hh jj = gg jj) : nI (Bs gg) &&& ((nI 1 <<< (nI kk &&& 31)) ^^^ (-1 : Int32)) = nI (Bs hh) := by
  have hz : kk = 0 ∨ kk = 1 ∨ kk = 2 ∨ kk = 3 ∨ kk = 4 ∨ kk = 5 := by omega
  obtain ⟨-, a0, a1, a2, a3, a4, a5⟩ := bz_an (gg 0) (gg 1) (gg 2) (gg 3) (gg 4) (gg 5)
  unfold Bs
  rcases hz with rfl | rfl | rfl | rfl | rfl | rfl
  · rw [h1, ho 1 (by omega) (by omega), ho 2 (by omega) (by omega), ho 3 (by omega) (by omega), ho 4 (by omega) (by omega), ho 5 (by omega) (by omega)]; exact a0
  · rw [h1, ho 0 (by omega) (by omega), ho 2 (by omega) (by omega), ho 3 (by omega) (by omega), ho 4 (by omega) (by omega), ho 5 (by omega) (by omega)]; exact a1
  · rw [h1, ho 0 (by omega) (by omega), ho 1 (by omega) (by omega), ho 3 (by omega) (by omega), ho 4 (by omega) (by omega), ho 5 (by omega) (by omega)]; exact a2
  · rw [h1, ho 0 (by omega) (by omega), ho 1 (by omega) (by omega), ho 2 (by omega) (by omega), ho 4 (by omega) (by omega), ho 5 (by omega) (by omega)]; exact a3
  · rw [h1, ho 0 (by omega) (by omega), ho 1 (by omega) (by omega), ho 2 (by omega) (by omega), ho 3 (by omega) (by omega), ho 5 (by omega) (by omega)]; exact a4
  · rw [h1, ho 0 (by omega) (by omega), ho 1 (by omega) (by omega), ho 2 (by omega) (by omega), ho 3 (by omega) (by omega), ho 4 (by omega) (by omega)]; exact a5
/-- all rows before the m-th fit -/
def gq (F : Nat → Nat → Bool) (kk : Nat) : Nat → Bool
  | 0 => true
  | mm + 1 => gq F kk mm && F kk mm
theorem gq_no {F : Nat → Nat → Bool} {kk vv : Nat} (hF : F kk vv = false) : ∀ mm, vv < mm → gq F kk mm = false
  | 0, hq => absurd hq (Nat.not_lt_zero _)
  | mm + 1, hq => by
    simp only [gq]
    by_cases hz : vv = mm
    · rw [← hz, hF, Bool.and_false]
    · rw [gq_no hF mm (by omega), Bool.false_and]
/-- the kinds that fit, as the class sets them -/
theorem uset_x {a : Int32} {σ : SS} {ff : Nat → Bool} (hf : ∀ kk, kk < 6 → FX1_fitsNotes 10 a (nI kk) σ = some (if ff kk = true then nI 1 else nI 0)) : FX1_userKinds 75 1 a σ = some (nI (Bs ff)) := by
  unfold FX1_userKinds
  simp only [nm_eq, lk_1_5]
  have key := lp_F (b := (u2 (fun (n3 : Int32) (n4 : Int32) => if (nI 6) ≤ n4 then (some (Sum.inr n3) : Option ((Int32 × Int32) ⊕ Int32)) else (bd (FX1_fitsNotes 10 a n4 σ) (fun (r5 : Int32) => bd (if r5 = 0 then some (n3) else (some (n3 ||| ((nI 1) <<< (n4 &&& 31))))) (fun (j7 : Int32) => some (Sum.inl (j7, n4 + (nI 1)))))))) ) (fun jj => (nI (Bs (fun zz => decide (zz < jj) && ff zz)), nI jj)) 6 (fuel_of (by omega)) (s := (nI 0, nI 0)) (e := nI (Bs ff)) (by rfl) (fun jj hj => ?_) ?_
  · rw [bd_of key]
  · rw [u2_s, if_neg (fun hq => by have := le_of_nI hq (by omega) (by omega); omega), bd_of (hf jj hj)]
    by_cases hq : ff jj = true
    · rw [if_pos hq, if_neg n1_0, bd_s, nI_addn, shl_n (by omega), or_n]
      rw [bs_or (hh := fun zz => decide (zz < jj + 1) && ff zz) hj (by simp) (by simp [hq]) (fun zz h1 h2 => by
        by_cases h3 : zz < jj
        · rw [decide_eq_true h3, decide_eq_true (show zz < jj + 1 by omega)]
        · rw [decide_eq_false h3, decide_eq_false (show ¬ zz < jj + 1 by omega)])]
    · rw [if_neg hq, if_pos nI_0, bd_s, nI_addn]
      rw [bs_cong (gg := fun zz => decide (zz < jj) && ff zz) (hh := fun zz => decide (zz < jj + 1) && ff zz) (fun zz h1 => by
        by_cases h2 : zz = jj
        · rw [h2]; simp only [Bool.not_eq_true] at hq; rw [hq, Bool.and_false, Bool.and_false]
        · by_cases h3 : zz < jj
          · rw [decide_eq_true h3, decide_eq_true (show zz < jj + 1 by omega)]
          · rw [decide_eq_false h3, decide_eq_false (show ¬ zz < jj + 1 by omega)])]
  · rw [u2_s, if_pos ((nI_le_iff (by omega) (by omega)).mpr (Nat.le_refl _))]
    rw [bs_cong (gg := fun zz => decide (zz < 6) && ff zz) (hh := ff) (fun zz h1 => by rw [decide_eq_true h1, Bool.true_and])]
theorem sset_x {a : Int32} {σ : SS} {ff : Nat → Bool} (hf : ∀ kk, kk < 6 → FX1_fitsMarks 12 a (nI kk) σ = some (if ff kk = true then nI 1 else nI 0)) : FX1_suitKinds 75 1 a σ = some (nI (Bs ff)) := by
  unfold FX1_suitKinds
  simp only [nm_eq, lk_1_6]
  have key := lp_F (b := (u2 (fun (n3 : Int32) (n4 : Int32) => if (nI 6) ≤ n4 then (some (Sum.inr n3) : Option ((Int32 × Int32) ⊕ Int32)) else (bd (FX1_fitsMarks 12 a n4 σ) (fun (r5 : Int32) => bd (if r5 = 0 then some (n3) else (some (n3 ||| ((nI 1) <<< (n4 &&& 31))))) (fun (j7 : Int32) => some (Sum.inl (j7, n4 + (nI 1)))))))) ) (fun jj => (nI (Bs (fun zz => decide (zz < jj) && ff zz)), nI jj)) 6 (fuel_of (by omega)) (s := (nI 0, nI 0)) (e := nI (Bs ff)) (by rfl) (fun jj hj => ?_) ?_
  · rw [bd_of key]
  · rw [u2_s, if_neg (fun hq => by have := le_of_nI hq (by omega) (by omega); omega), bd_of (hf jj hj)]
    by_cases hq : ff jj = true
    · rw [if_pos hq, if_neg n1_0, bd_s, nI_addn, shl_n (by omega), or_n]
      rw [bs_or (hh := fun zz => decide (zz < jj + 1) && ff zz) hj (by simp) (by simp [hq]) (fun zz h1 h2 => by
        by_cases h3 : zz < jj
        · rw [decide_eq_true h3, decide_eq_true (show zz < jj + 1 by omega)]
        · rw [decide_eq_false h3, decide_eq_false (show ¬ zz < jj + 1 by omega)])]
    · rw [if_neg hq, if_pos nI_0, bd_s, nI_addn]
      rw [bs_cong (gg := fun zz => decide (zz < jj) && ff zz) (hh := fun zz => decide (zz < jj + 1) && ff zz) (fun zz h1 => by
        by_cases h2 : zz = jj
        · rw [h2]; simp only [Bool.not_eq_true] at hq; rw [hq, Bool.and_false, Bool.and_false]
        · by_cases h3 : zz < jj
          · rw [decide_eq_true h3, decide_eq_true (show zz < jj + 1 by omega)]
          · rw [decide_eq_false h3, decide_eq_false (show ¬ zz < jj + 1 by omega)])]
  · rw [u2_s, if_pos ((nI_le_iff (by omega) (by omega)).mpr (Nat.le_refl _))]
    rw [bs_cong (gg := fun zz => decide (zz < 6) && ff zz) (hh := ff) (fun zz h1 => by rw [decide_eq_true h1, Bool.true_and])]
/-- what a note says of a kind -/
def fN (ρ : Nat → Int32) (a : Int32) (kk vv : Nat) : Bool := decide (ρ (82 + 5 * vv) = a → (FX12_taken (nI kk) (ρ (83 + 5 * vv)) (ρ (84 + 5 * vv)) ss0 = some (ρ (85 + 5 * vv)) ∧ FX12_rentOf (nI kk) (ρ (85 + 5 * vv)) ss0 = some (ρ (86 + 5 * vv))))
def fM (ρ : Nat → Int32) (a : Int32) (kk vv : Nat) : Bool := decide (ρ (113 + 4 * vv) = a → aw kk (ρ (114 + 4 * vv)) (ρ (115 + 4 * vv)) = ρ (116 + 4 * vv))
section D4
variable {σx σm : SS} {nu ns nr nn nk np hr : Nat}
theorem ir_note (hT : TCw 1 σx) (hI : IR 1 σx (gI σm 79) nu ns nr nn nk np hr) {vv cc : Nat} (hv : vv < nn) (hc : cc < 5) : FX9_at 10 (nI vv) (nI cc) σx = some (gI σm 79 (82 + 5 * vv + cc)) := by
  have h6 := hI.1.2.2.2.1
  have h0 : gI σx 10 0 = nI 5 := hT.2.2.2.1.1
  have h3 : gI σx 10 3 = nI nn := hI.2.2.1.2.2.2.1
  rw [at_in kd_10 h0 h3 ln_11 hv hc (by omega) (by omega) (by omega) (by omega)]
  exact congrArg some (hI.2.2.2.1.2.2.2.2.1 vv cc hv hc)
theorem ir_mark (hT : TCw 1 σx) (hI : IR 1 σx (gI σm 79) nu ns nr nn nk np hr) {vv cc : Nat} (hv : vv < nk) (hc : cc < 4) : FX9_at 12 (nI vv) (nI cc) σx = some (gI σm 79 (113 + 4 * vv + cc)) := by
  have h6 := hI.1.2.2.2.2.1
  have h0 : gI σx 12 0 = nI 4 := hT.2.2.2.2.1.1
  have h3 : gI σx 12 3 = nI nk := hI.2.2.1.2.2.2.2.1
  rw [at_in kd_12 h0 h3 ln_13 hv hc (by omega) (by omega) (by omega) (by omega)]
  exact congrArg some (hI.2.2.2.1.2.2.2.2.2 vv cc hv hc)
theorem nb_at (hI : IR 1 σx (gI σm 79) nu ns nr nn nk np hr) (hb : Bd (gI σm 79) nu ns np hr) {vv : Nat} (hv : vv < nn) : ∃ hh sx, hh ≤ 4 ∧ sx ≤ 20 ∧ gI σm 79 (83 + 5 * vv) = nI hh ∧ gI σm 79 (84 + 5 * vv) = nI sx := by
  obtain ⟨-, -, -, n5, b4z, b5z, b6z⟩ := hb
  have h6 := hI.1.2.2.2.1
  have hne : n5 = nn := (nI_eqn (by omega) (by omega)).mp (b5z.symm.trans hI.2.1.2.2.2.1)
  subst hne
  obtain ⟨⟨hh, k1, k2⟩, sx, k3, k4⟩ := b6z vv hv
  exact ⟨hh, sx, k1, k3, k2, k4⟩
theorem fitsN_x (hT : TCw 1 σx) (hI : IR 1 σx (gI σm 79) nu ns nr nn nk np hr) (hb : Bd (gI σm 79) nu ns np hr) (a : Int32) {kk : Nat} (hk : kk < 6) : FX1_fitsNotes 10 a (nI kk) σx = some (if gq (fN (gI σm 79) a) kk nn = true then nI 1 else nI 0) := by
  have h6 := hI.1.2.2.2.1
  have h3 : gI σx 10 3 = nI nn := hI.2.2.1.2.2.2.1
  suffices hh : Ok (FX1_fitsNotes 10 a (nI kk) σx) (fun rr => rr = if gq (fN (gI σm 79) a) kk nn = true then nI 1 else nI 0) by
    obtain ⟨rr, h1, h2⟩ := hh
    rw [h1, h2]
  unfold FX1_fitsNotes
  simp only [nm_eq]
  rw [h3]
  refine ok_bde (Q1 := fun _ => gq (fN (gI σm 79) a) kk nn = true) (ok_lp (fun mm xx => xx = nI mm ∧ gq (fN (gI σm 79) a) kk mm = true) nn (by omega) ⟨rfl, rfl⟩ ?_) (fun _ hq => ok_some (by rw [if_pos hq]))
  rintro mm xx hm ⟨rfl, hg⟩
  refine ok_ite (fun hc => ok_some ?_) (fun hc => ?_)
  · have := le_of_nI hc (by omega) (by omega)
    have hmm : mm = nn := by omega
    subst hmm
    exact hg
  have hm2 := lt_of_nle hc (by omega) (by omega)
  obtain ⟨hh, sx, g1, g2, g3, g4⟩ := nb_at hI hb hm2
  refine ok_bdr (ir_note hT hI hm2 (by omega)) ?_
  rw [show 82 + 5 * mm + 0 = 82 + 5 * mm from rfl]
  have hno : ∀ {pp : Prop}, (¬ pp) → (pp ↔ fN (gI σm 79) a kk mm = true) → (nI 0 = if gq (fN (gI σm 79) a) kk nn = true then nI 1 else nI 0) := fun h1 h2 => by
    rw [gq_no (vv := mm) (by simpa using fun hq => h1 (h2.mpr hq)) nn hm2, if_neg (by decide)]
  refine ok_ite (fun hu => ?_) (fun hu => ok_some ⟨hm2, by rw [nI_addn], ?_⟩)
  · have e1 : gI σm 79 (82 + 5 * mm + 1) = nI hh := by rw [show 82 + 5 * mm + 1 = 83 + 5 * mm by omega]; exact g3
    have e2 : gI σm 79 (82 + 5 * mm + 2) = nI sx := by rw [show 82 + 5 * mm + 2 = 84 + 5 * mm by omega]; exact g4
    have e3 : gI σm 79 (82 + 5 * mm + 3) = gI σm 79 (85 + 5 * mm) := by rw [show 82 + 5 * mm + 3 = 85 + 5 * mm by omega]
    have e4 : gI σm 79 (82 + 5 * mm + 4) = gI σm 79 (86 + 5 * mm) := by rw [show 82 + 5 * mm + 4 = 86 + 5 * mm by omega]
    refine ok_bdr (ir_note hT hI hm2 (by omega)) (ok_bdr (ir_note hT hI hm2 (by omega)) ?_)
    rw [e1, e2]
    refine ok_bdr (tk_x (by omega) g1 g2 σx) (ok_bdr (ir_note hT hI hm2 (by omega)) ?_)
    rw [e3]
    have hfn : fN (gI σm 79) a kk mm = true ↔ (nI (tk kk hh sx) = gI σm 79 (85 + 5 * mm) ∧ nI (rn kk (tk kk hh sx)) = gI σm 79 (86 + 5 * mm)) := by
      have h20 : tk kk hh sx ≤ 20 := by have := tk_le (kk := kk) (by omega) g1 g2; omega
      unfold fN
      rw [decide_eq_true_iff, g3, g4, tk_m (by omega) g1 g2 ss0]
      constructor
      · intro hq
        obtain ⟨q1, q2⟩ := hq hu
        have q3 := Option.some.inj q1
        rw [← q3, rn_m (by omega) h20 ss0] at q2
        exact ⟨q3, Option.some.inj q2⟩
      · rintro ⟨q1, q2⟩ -
        rw [← q1, rn_m (by omega) h20 ss0, q2]
        exact ⟨rfl, rfl⟩
    refine ok_ite (fun ht => ?_) (fun ht => ok_some (hno (fun hq => ht hq.1) hfn.symm))
    refine ok_bdr (rn_x (by omega) (by have := tk_le (kk := kk) (by omega) g1 g2; omega) σx) (ok_bdr (ir_note hT hI hm2 (by omega)) ?_)
    rw [e4]
    refine ok_ite (fun hr => ok_some ⟨hm2, by rw [nI_addn], ?_⟩) (fun hr => ok_some (hno (fun hq => hr hq.2) hfn.symm))
    simp only [gq]
    rw [hg, hfn.mpr ⟨ht, hr⟩]
    rfl
  · simp only [gq]
    have : fN (gI σm 79) a kk mm = true := by unfold fN; rw [decide_eq_true_iff]; exact fun hq => absurd hq hu
    rw [hg, this]
    rfl
theorem fitsM_x (hT : TCw 1 σx) (hI : IR 1 σx (gI σm 79) nu ns nr nn nk np hr) (a : Int32) {kk : Nat} (hk : kk < 6) : FX1_fitsMarks 12 a (nI kk) σx = some (if gq (fM (gI σm 79) a) kk nk = true then nI 1 else nI 0) := by
  have h6 := hI.1.2.2.2.2.1
  have h3 : gI σx 12 3 = nI nk := hI.2.2.1.2.2.2.2.1
  suffices hh : Ok (FX1_fitsMarks 12 a (nI kk) σx) (fun rr => rr = if gq (fM (gI σm 79) a) kk nk = true then nI 1 else nI 0) by
    obtain ⟨rr, h1, h2⟩ := hh
    rw [h1, h2]
  unfold FX1_fitsMarks
  simp only [nm_eq]
  rw [h3]
  refine ok_bde (Q1 := fun _ => gq (fM (gI σm 79) a) kk nk = true) (ok_lp (fun mm xx => xx = nI mm ∧ gq (fM (gI σm 79) a) kk mm = true) nk (by omega) ⟨rfl, rfl⟩ ?_) (fun _ hq => ok_some (by rw [if_pos hq]))
  rintro mm xx hm ⟨rfl, hg⟩
  refine ok_ite (fun hc => ok_some ?_) (fun hc => ?_)
  · have := le_of_nI hc (by omega) (by omega)
    have hmm : mm = nk := by omega
    subst hmm
    exact hg
  have hm2 := lt_of_nle hc (by omega) (by omega)
  refine ok_bdr (ir_mark hT hI hm2 (by omega)) ?_
  rw [show 113 + 4 * mm + 0 = 113 + 4 * mm from rfl]
  refine ok_ite (fun hu => ?_) (fun hu => ok_some ⟨hm2, by rw [nI_addn], ?_⟩)
  · refine ok_bdr (ir_mark hT hI hm2 (by omega)) (ok_bdr (ir_mark hT hI hm2 (by omega)) (ok_bdr (aw_x (by omega) _ _ σx) (ok_bdr (ir_mark hT hI hm2 (by omega)) ?_)))
    rw [show 113 + 4 * mm + 1 = 114 + 4 * mm by omega, show 113 + 4 * mm + 2 = 115 + 4 * mm by omega, show 113 + 4 * mm + 3 = 116 + 4 * mm by omega]
    refine ok_ite (fun ht => ok_some ⟨hm2, by rw [nI_addn], ?_⟩) (fun ht => ok_some ?_)
    · simp only [gq]
      have : fM (gI σm 79) a kk mm = true := by unfold fM; rw [decide_eq_true_iff]; exact fun _ => ht
      rw [hg, this]
      rfl
    · have : fM (gI σm 79) a kk mm = false := by unfold fM; rw [decide_eq_false_iff_not]; exact fun hq => ht (hq hu)
      show nI 0 = _
      rw [gq_no this nk hm2, if_neg (by decide)]
  · simp only [gq]
    have : fM (gI σm 79) a kk mm = true := by unfold fM; rw [decide_eq_true_iff]; exact fun hq => absurd hq hu
    rw [hg, this]
    rfl
/-- the model's set, some way through -/
def hS (F : Nat → Nat → Bool) (nn kk mm zz : Nat) : Bool := if zz < kk then gq F zz nn else if zz = kk then gq F kk mm else true
theorem hs_step {F : Nat → Nat → Bool} {nn kk mm : Nat} (hk : kk < 6) : nI (Bs (hS F nn kk mm)) &&& (if F kk mm = true then nI 63 else ((nI 1 <<< (nI kk &&& 31)) ^^^ (-1 : Int32))) = nI (Bs (hS F nn kk (mm + 1))) := by
  by_cases hF : F kk mm = true
  · rw [if_pos hF, bs_63, bs_cong (gg := hS F nn kk mm) (hh := hS F nn kk (mm + 1))]
    intro zz hz
    unfold hS
    simp only [gq, hF, Bool.and_true]
  · rw [if_neg hF]
    refine bs_an hk ?_ (fun zz h1 h2 => ?_)
    · unfold hS
      rw [if_neg (by omega), if_pos rfl]
      simp only [gq]
      rw [Bool.eq_false_iff.mpr hF, Bool.and_false]
    · unfold hS
      rw [if_neg h2, if_neg h2]
theorem hs_next {F : Nat → Nat → Bool} {nn kk : Nat} : Bs (hS F nn kk nn) = Bs (hS F nn (kk + 1) 0) := by
  refine bs_cong (fun zz hz => ?_)
  unfold hS
  by_cases h1 : zz < kk
  · rw [if_pos h1, if_pos (by omega)]
  · rw [if_neg h1]
    by_cases h2 : zz = kk
    · rw [if_pos h2, if_pos (by omega), h2]
    · rw [if_neg h2, if_neg (by omega)]
      split <;> rfl
theorem hs_0 {F : Nat → Nat → Bool} {nn : Nat} : Bs (hS F nn 0 0) = 63 := by
  rw [bs_cong (hh := fun _ => true) (fun zz hz => ?_)]
  · rfl
  · unfold hS
    rw [if_neg (by omega)]
    split <;> rfl
theorem hs_6 {F : Nat → Nat → Bool} {nn : Nat} : Bs (hS F nn 6 0) = Bs (fun kk => gq F kk nn) := bs_cong (fun zz hz => by unfold hS; rw [if_pos hz])
theorem uset_m (hI : IR 1 σx (gI σm 79) nu ns nr nn nk np hr) (hb : Bd (gI σm 79) nu ns np hr) (a : Int32) : FX12_kindsBy 78 a σm = some (nI (Bs (fun kk => gq (fN (gI σm 79) a) kk nn))) := by
  have h6 := hI.1.2.2.2.1
  have h81 : gI σm 79 81 = nI nn := hI.2.1.2.2.2.1
  suffices hh : Ok (FX12_kindsBy 78 a σm) (fun rr => rr = nI (Bs (fun kk => gq (fN (gI σm 79) a) kk nn))) by
    obtain ⟨rr, h1, h2⟩ := hh
    rw [h1, h2]
  unfold FX12_kindsBy
  simp only [nm_eq, lk_78_0, ln_79]
  refine ok_bd (ok_lp (fun kk xx => xx = (nI (Bs (hS (fN (gI σm 79) a) nn kk 0)), nI kk)) 6 (by omega) (Q := fun rr => rr = nI (Bs (fun kk => gq (fN (gI σm 79) a) kk nn))) (by rw [hs_0]) ?_) (fun rr hq => ok_some hq)
  rintro kk xx hk rfl
  rw [u2_s]
  refine ok_ite (fun hc => ok_some ?_) (fun hc => ?_)
  · have := le_of_nI hc (by omega) (by omega)
    have hkk : kk = 6 := by omega
    subst hkk
    show nI _ = nI _
    rw [hs_6]
  have hk2 := lt_of_nle hc (by omega) (by omega)
  refine ok_bd (ok_lp (fun mm xx => xx = (nI (Bs (hS (fN (gI σm 79) a) nn kk mm)), nI mm)) nn (by omega) (Q := fun rr => rr = nI (Bs (hS (fN (gI σm 79) a) nn kk nn))) rfl ?_) (fun rr hq => ok_some ⟨hk2, by rw [hq, hs_next, nI_addn]⟩)
  rintro mm xx hm rfl
  rw [u2_s, ix_n (n := 81) (by omega), h81]
  refine ok_gn (by omega) (by omega) (ok_ite (fun hc2 => ok_some ?_) (fun hc2 => ?_))
  · have := le_of_nI hc2 (by omega) (by omega)
    have hmm : mm = nn := by omega
    subst hmm
    rfl
  have hm2 := lt_of_nle hc2 (by omega) (by omega)
  obtain ⟨hh, sx, g1, g2, g3, g4⟩ := nb_at hI hb hm2
  have h20 : tk kk hh sx ≤ 20 := by have := tk_le (kk := kk) (by omega) g1 g2; omega
  rw [nI_muln, nI_addn 82, nI_addn _ 1, nI_addn _ 2, nI_addn _ 3, nI_addn _ 4, ix_n (by omega), ix_n (by omega), ix_n (by omega), ix_n (by omega), ix_n (by omega), show 82 + 5 * mm + 1 = 83 + 5 * mm by omega, show 82 + 5 * mm + 2 = 84 + 5 * mm by omega, show 82 + 5 * mm + 3 = 85 + 5 * mm by omega, show 82 + 5 * mm + 4 = 86 + 5 * mm by omega, g3, g4]
  refine ok_gn (by omega) (by omega) (ok_gn (by omega) (by omega) (ok_bdr (tk_m (by omega) g1 g2 σm) (ok_gn (by omega) (by omega) ?_)))
  have hj : Ok (if nI (tk kk hh sx) = gI σm 79 (85 + 5 * mm) then gd (inb (nI (85 + 5 * mm)) 378) (bd (FX12_rentOf (nI kk) (gI σm 79 (85 + 5 * mm)) σm) (fun (r10 : Int32) => gd (inb (nI (86 + 5 * mm)) 378) (if r10 = gI σm 79 (86 + 5 * mm) then some (nI 1) else some (nI 0)))) else some (nI 0)) (fun jv => jv = if nI (tk kk hh sx) = gI σm 79 (85 + 5 * mm) ∧ nI (rn kk (tk kk hh sx)) = gI σm 79 (86 + 5 * mm) then nI 1 else nI 0) := by
    refine ok_ite (fun ht => ?_) (fun ht => ok_some (by rw [if_neg (fun hq => ht hq.1)]))
    rw [← ht]
    refine ok_gn (by omega) (by omega) (ok_bdr (rn_m (by omega) h20 σm) (ok_gn (by omega) (by omega) (ok_ite (fun hr2 => ok_some (by rw [if_pos ⟨rfl, hr2⟩])) (fun hr2 => ok_some (by rw [if_neg (fun hq => hr2 hq.2)])))))
  refine ok_bd hj (fun jv hjv => ok_gn (by omega) (by omega) ?_)
  subst hjv
  have hfn : fN (gI σm 79) a kk mm = true ↔ (gI σm 79 (82 + 5 * mm) = a → (nI (tk kk hh sx) = gI σm 79 (85 + 5 * mm) ∧ nI (rn kk (tk kk hh sx)) = gI σm 79 (86 + 5 * mm))) := by
    unfold fN
    rw [decide_eq_true_iff, g3, g4, tk_m (by omega) g1 g2 ss0]
    constructor
    · intro hq hu
      obtain ⟨q1, q2⟩ := hq hu
      have q3 := Option.some.inj q1
      rw [← q3, rn_m (by omega) h20 ss0] at q2
      exact ⟨q3, Option.some.inj q2⟩
    · intro hq hu
      obtain ⟨q1, q2⟩ := hq hu
      rw [← q1, rn_m (by omega) h20 ss0, q2]
      exact ⟨rfl, rfl⟩
  have hj2 : (if gI σm 79 (82 + 5 * mm) = a then if (if nI (tk kk hh sx) = gI σm 79 (85 + 5 * mm) ∧ nI (rn kk (tk kk hh sx)) = gI σm 79 (86 + 5 * mm) then nI 1 else nI 0) = 0 then some ((nI 1 <<< (nI kk &&& 31)) ^^^ (-1 : Int32)) else some (nI 63) else some (nI 63)) = some (if fN (gI σm 79) a kk mm = true then nI 63 else ((nI 1 <<< (nI kk &&& 31)) ^^^ (-1 : Int32))) := by
    by_cases hu : gI σm 79 (82 + 5 * mm) = a
    · rw [if_pos hu]
      by_cases hq : nI (tk kk hh sx) = gI σm 79 (85 + 5 * mm) ∧ nI (rn kk (tk kk hh sx)) = gI σm 79 (86 + 5 * mm)
      · rw [if_pos hq, if_neg n1_0, if_pos (hfn.mpr (fun _ => hq))]
      · rw [if_neg hq, if_pos nI_0, if_neg (fun hz => hq (hfn.mp hz hu))]
    · rw [if_neg hu, if_pos (hfn.mpr (fun hz => absurd hz hu))]
  refine ok_bdr hj2 (ok_some ⟨hm2, ?_⟩)
  rw [hs_step hk2, nI_addn]
theorem sset_m (hI : IR 1 σx (gI σm 79) nu ns nr nn nk np hr) (a : Int32) : FX12_suitsBy 78 a σm = some (nI (Bs (fun kk => gq (fM (gI σm 79) a) kk nk))) := by
  have h6 := hI.1.2.2.2.2.1
  have h112 : gI σm 79 112 = nI nk := hI.2.1.2.2.2.2.1
  suffices hh : Ok (FX12_suitsBy 78 a σm) (fun rr => rr = nI (Bs (fun kk => gq (fM (gI σm 79) a) kk nk))) by
    obtain ⟨rr, h1, h2⟩ := hh
    rw [h1, h2]
  unfold FX12_suitsBy
  simp only [nm_eq, lk_78_0, ln_79]
  refine ok_bd (ok_lp (fun kk xx => xx = (nI (Bs (hS (fM (gI σm 79) a) nk kk 0)), nI kk)) 6 (by omega) (Q := fun rr => rr = nI (Bs (fun kk => gq (fM (gI σm 79) a) kk nk))) (by rw [hs_0]) ?_) (fun rr hq => ok_some hq)
  rintro kk xx hk rfl
  rw [u2_s]
  refine ok_ite (fun hc => ok_some ?_) (fun hc => ?_)
  · have := le_of_nI hc (by omega) (by omega)
    have hkk : kk = 6 := by omega
    subst hkk
    show nI _ = nI _
    rw [hs_6]
  have hk2 := lt_of_nle hc (by omega) (by omega)
  refine ok_bd (ok_lp (fun mm xx => xx = (nI (Bs (hS (fM (gI σm 79) a) nk kk mm)), nI mm)) nk (by omega) (Q := fun rr => rr = nI (Bs (hS (fM (gI σm 79) a) nk kk nk))) rfl ?_) (fun rr hq => ok_some ⟨hk2, by rw [hq, hs_next, nI_addn]⟩)
  rintro mm xx hm rfl
  rw [u2_s, ix_n (n := 112) (by omega), h112]
  refine ok_gn (by omega) (by omega) (ok_ite (fun hc2 => ok_some ?_) (fun hc2 => ?_))
  · have := le_of_nI hc2 (by omega) (by omega)
    have hmm : mm = nk := by omega
    subst hmm
    rfl
  have hm2 := lt_of_nle hc2 (by omega) (by omega)
  rw [nI_muln, nI_addn 113, nI_addn _ 1, nI_addn _ 2, nI_addn _ 3, ix_n (by omega), ix_n (by omega), ix_n (by omega), ix_n (by omega), show 113 + 4 * mm + 1 = 114 + 4 * mm by omega, show 113 + 4 * mm + 2 = 115 + 4 * mm by omega, show 113 + 4 * mm + 3 = 116 + 4 * mm by omega]
  refine ok_gn (by omega) (by omega) (ok_gn (by omega) (by omega) (ok_bdr (aw_m (by omega) _ _ σm) (ok_gn (by omega) (by omega) ?_)))
  have hfm : fM (gI σm 79) a kk mm = true ↔ (gI σm 79 (113 + 4 * mm) = a → aw kk (gI σm 79 (114 + 4 * mm)) (gI σm 79 (115 + 4 * mm)) = gI σm 79 (116 + 4 * mm)) := by
    unfold fM
    rw [decide_eq_true_iff]
  have hj : (if aw kk (gI σm 79 (114 + 4 * mm)) (gI σm 79 (115 + 4 * mm)) = gI σm 79 (116 + 4 * mm) then some (nI 1) else some (nI 0)) = some (if aw kk (gI σm 79 (114 + 4 * mm)) (gI σm 79 (115 + 4 * mm)) = gI σm 79 (116 + 4 * mm) then nI 1 else nI 0) := by split <;> rfl
  refine ok_bdr hj (ok_gn (by omega) (by omega) ?_)
  have hj2 : (if gI σm 79 (113 + 4 * mm) = a then if (if aw kk (gI σm 79 (114 + 4 * mm)) (gI σm 79 (115 + 4 * mm)) = gI σm 79 (116 + 4 * mm) then nI 1 else nI 0) = 0 then some ((nI 1 <<< (nI kk &&& 31)) ^^^ (-1 : Int32)) else some (nI 63) else some (nI 63)) = some (if fM (gI σm 79) a kk mm = true then nI 63 else ((nI 1 <<< (nI kk &&& 31)) ^^^ (-1 : Int32))) := by
    by_cases hu : gI σm 79 (113 + 4 * mm) = a
    · rw [if_pos hu]
      by_cases hq : aw kk (gI σm 79 (114 + 4 * mm)) (gI σm 79 (115 + 4 * mm)) = gI σm 79 (116 + 4 * mm)
      · rw [if_pos hq, if_neg n1_0, if_pos (hfm.mpr (fun _ => hq))]
      · rw [if_neg hq, if_pos nI_0, if_neg (fun hz => hq (hfm.mp hz hu))]
    · rw [if_neg hu, if_pos (hfm.mpr (fun hz => absurd hz hu))]
  refine ok_bdr hj2 (ok_some ⟨hm2, ?_⟩)
  rw [hs_step hk2, nI_addn]
theorem q_is (R : Rel σx σm) (a : Int32) : Cm (FX11_is 0 a σx) (FX12_is 78 a σm) := by
  obtain ⟨⟨nu, ns, nr, nn, nk, np, hr, hI, hbd⟩, hT, -⟩ := id R
  unfold FX11_is FX12_is
  simp only [lk_0_0, lk_0_10]
  refine cq_bdx (isUser_x a σx) (cq_bdm (isUser_m a σm) ?_)
  rw [hI.2.2.1.1, hI.2.1.1]
  refine cq_guard R (fun h1 => cq_bdx (uset_x (fun kk hk => fitsN_x hT.1.1 hI hbd a hk)) (cq_bdm (uset_m hI hbd a) (cq_some R)))
theorem q_kinds (R : Rel σx σm) (a : Int32) : Cm (FX11_kinds 0 a σx) (FX12_kinds 78 a σm) := by
  obtain ⟨⟨nu, ns, nr, nn, nk, np, hr, hI, hbd⟩, hT, -⟩ := id R
  unfold FX11_kinds FX12_kinds
  simp only [lk_0_0, lk_0_10]
  refine cq_bdx (isSuit_x a σx) (cq_bdm (isSuit_m a σm) ?_)
  rw [hI.2.2.1.2.1, hI.2.1.2.1]
  refine cq_guard R (fun h1 => cq_bdx (sset_x (fun kk hk => fitsM_x hT.1.1 hI a hk)) (cq_bdm (sset_m hI a) (cq_some R)))
end D4
