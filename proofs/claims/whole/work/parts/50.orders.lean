/-! ===== orders of suits, one after another ===== -/
def gx (xs : List Nat) (k : Nat) : Nat := xs.getD k 0
def lf (xs : List Nat) : Nat → Nat
  | 0 => 0
  | nn + 1 => if gx xs nn ≤ gx xs (nn + 1) then nn + 1 else lf xs nn
def rt (xs : List Nat) (vv : Nat) : Nat → Nat
  | 0 => 0
  | nn + 1 => if vv ≤ gx xs (nn + 1) then nn + 1 else rt xs vv nn
def sw (xs : List Nat) (ii jj : Nat) : List Nat := (xs.set ii (gx xs jj)).set jj (gx xs ii)
def rvs : Nat → List Nat → Nat → Nat → List Nat
  | 0, xs, _, _ => xs
  | ff + 1, xs, ii, jj => if jj ≤ ii then xs else rvs ff (sw xs ii jj) (ii + 1) (jj - 1)
def nx (xs : List Nat) : Option (List Nat) :=
  if lf xs (xs.length - 1) = 0 then none else some (rvs 6 (sw xs (lf xs (xs.length - 1) - 1) (rt xs (gx xs (lf xs (xs.length - 1) - 1)) (xs.length - 1))) (lf xs (xs.length - 1)) (xs.length - 1))
def run : Nat → List Nat → Bool
  | 0, _ => false
  | nn + 1, xs => match nx xs with
    | none => true
    | some ys => run nn ys
def ul (hf : Nat → Bool) : Nat → List Nat
  | 0 => []
  | nn + 1 => if hf nn = true then ul hf nn else ul hf nn ++ [nn]
def b5 (b0 b1 b2 b3 b4 : Bool) (vv : Nat) : Bool := if vv = 0 then b0 else if vv = 1 then b1 else if vv = 2 then b2 else if vv = 3 then b3 else b4
set_option maxRecDepth 100000 in
theorem run_dec : ∀ b0 b1 b2 b3 b4 : Bool, ∀ nn, nn < 6 → run 120 (ul (b5 b0 b1 b2 b3 b4) nn) = true := by decide +kernel
theorem ul_cong {hf hg : Nat → Bool} : ∀ {nn : Nat}, (∀ k, k < nn → hf k = hg k) → ul hf nn = ul hg nn
  | 0, _ => rfl
  | nn + 1, hh => by
    show (if hf nn = true then ul hf nn else ul hf nn ++ [nn]) = (if hg nn = true then ul hg nn else ul hg nn ++ [nn])
    rw [ul_cong (nn := nn) (fun k hk => hh k (by omega)), hh nn (by omega)]
theorem run_ul (hf : Nat → Bool) {nn : Nat} (h : nn ≤ 5) : run 120 (ul hf nn) = true := by
  rw [ul_cong (hg := b5 (hf 0) (hf 1) (hf 2) (hf 3) (hf 4)) (fun k hk => by
    have hz : k = 0 ∨ k = 1 ∨ k = 2 ∨ k = 3 ∨ k = 4 := by omega
    rcases hz with rfl | rfl | rfl | rfl | rfl <;> rfl)]
  exact run_dec _ _ _ _ _ nn (by omega)
theorem ul_len (hf : Nat → Bool) : ∀ nn, (ul hf nn).length ≤ nn
  | 0 => Nat.le_refl _
  | nn + 1 => by
    have h := ul_len hf nn
    simp only [ul]
    split
    · omega
    · rw [List.length_append]; simp only [List.length_cons, List.length_nil]; omega
theorem gx_set {xs : List Nat} {ii k vv : Nat} (hk : k < xs.length) : gx (xs.set ii vv) k = if ii = k then vv else gx xs k := by
  unfold gx
  rw [List.getD_eq_getElem?_getD, List.getD_eq_getElem?_getD, List.getElem?_set]
  by_cases h : ii = k
  · subst h
    rw [if_pos rfl, if_pos rfl, if_pos hk]
    rfl
  · rw [if_neg h, if_neg h]
theorem sw_len (xs : List Nat) (ii jj : Nat) : (sw xs ii jj).length = xs.length := by unfold sw; rw [List.length_set, List.length_set]
theorem gx_sw {xs : List Nat} {ii jj k : Nat} (hk : k < xs.length) : gx (sw xs ii jj) k = if jj = k then gx xs ii else if ii = k then gx xs jj else gx xs k := by
  unfold sw
  rw [gx_set (by rw [List.length_set]; exact hk), gx_set hk]
theorem gx_app {xs : List Nat} {vv k : Nat} : gx (xs ++ [vv]) k = if k = xs.length then vv else gx xs k := by
  unfold gx
  rw [List.getD_eq_getElem?_getD, List.getD_eq_getElem?_getD]
  by_cases h : k < xs.length
  · rw [List.getElem?_append_left h, if_neg (by omega)]
  · rw [List.getElem?_append_right (by omega)]
    by_cases h2 : k = xs.length
    · rw [if_pos h2, h2, Nat.sub_self]; rfl
    · rw [if_neg h2, List.getElem?_eq_none (by simp only [List.length_cons, List.length_nil]; omega), List.getElem?_eq_none (by omega)]
/-- a row of the heap holds the order, of numbers below bb -/
def RW (gg : Nat → Int32) (xs : List Nat) (bb : Nat) : Prop := xs.length ≤ 5 ∧ ∀ k, k < xs.length → gg k = nI (gx xs k) ∧ gx xs k < bb
theorem rw_sw {gg : Nat → Int32} {xs : List Nat} {bb ii jj : Nat} (h : RW gg xs bb) (hi : ii < xs.length) (hj : jj < xs.length) : RW (upd (upd gg ii (gg jj)) jj (gg ii)) (sw xs ii jj) bb := by
  refine ⟨by rw [sw_len]; exact h.1, fun k hk => ?_⟩
  rw [sw_len] at hk
  rw [gx_sw hk]
  by_cases h1 : jj = k
  · rw [if_pos h1, h1, upd_eq]; exact h.2 ii hi
  · rw [if_neg h1, upd_ne (fun q => h1 q.symm)]
    by_cases h2 : ii = k
    · rw [if_pos h2, h2, upd_eq]; exact h.2 jj hj
    · rw [if_neg h2, upd_ne (fun q => h2 q.symm)]; exact h.2 k hk
theorem lf_lt {xs : List Nat} : ∀ nn, lf xs nn ≤ nn
  | 0 => Nat.le_refl _
  | nn + 1 => by
    simp only [lf]
    split
    · omega
    · have := lf_lt (xs := xs) nn; omega
theorem nI_dec {mm : Nat} : nI (mm + 1) + (-1 : Int32) = nI mm := by
  have h1 : nI (mm + 1) - nI 1 = nI mm := by rw [nI_subn (by omega), Nat.add_sub_cancel]
  rw [← h1, Int32.sub_eq_add_neg, ← oI]
theorem nI_m1 : nI 0 + (-1 : Int32) = (-1 : Int32) := by decide +kernel
theorem left_lp {gg : Nat → Int32} {xs : List Nat} {bb : Nat} (h : RW gg xs bb) (hb : bb ≤ 5) :
    ∃ e, lp FUEL (fun (n2 : Int32) => if n2 < 0 then some (Sum.inr n2) else (gd (inb n2 5) (gd (inb (n2 + (nI 1)) 5) (if (gg (Int32.toNatClampNeg n2)) ≤ (gg (Int32.toNatClampNeg (n2 + (nI 1)))) then some (Sum.inr n2) else (some (Sum.inl (n2 + (-1 : Int32)))))))) (nI xs.length - nI 2) = some e ∧ ((lf xs (xs.length - 1) = 0 ∧ ¬ 0 ≤ e) ∨ ∃ ll, lf xs (xs.length - 1) = ll + 1 ∧ ll + 1 < xs.length ∧ e = nI ll ∧ gx xs ll ≤ gx xs (ll + 1)) := by
  obtain ⟨h5, hk⟩ := h
  have hm : (-1 : Int32) < 0 := by decide
  have hm2 : ¬ (0 : Int32) ≤ -1 := by decide
  rcases Nat.lt_or_ge xs.length 2 with hq | hq
  · have hz : xs.length = 0 ∨ xs.length = 1 := by omega
    rcases hz with hz | hz
    · rw [hz]
      refine ⟨nI 0 - nI 2, lp_F (fun _ => nI 0 - nI 2) 0 (fuel_of (by omega)) rfl (fun jj hj => absurd hj (Nat.not_lt_zero _)) ?_, Or.inl ⟨rfl, by decide +kernel⟩⟩
      rw [if_pos (by decide +kernel)]
    · rw [hz]
      refine ⟨nI 1 - nI 2, lp_F (fun _ => nI 1 - nI 2) 0 (fuel_of (by omega)) rfl (fun jj hj => absurd hj (Nat.not_lt_zero _)) ?_, Or.inl ⟨rfl, by decide +kernel⟩⟩
      rw [if_pos (by decide +kernel)]
  · refine ok_lp (Q := fun e => (lf xs (xs.length - 1) = 0 ∧ ¬ 0 ≤ e) ∨ ∃ ll, lf xs (xs.length - 1) = ll + 1 ∧ ll + 1 < xs.length ∧ e = nI ll ∧ gx xs ll ≤ gx xs (ll + 1)) (fun ii ss => ii ≤ xs.length - 1 ∧ lf xs (xs.length - 1) = lf xs (xs.length - 1 - ii) ∧ ((xs.length - 1 - ii = 0 ∧ ss = (-1 : Int32)) ∨ ∃ mm, xs.length - 1 - ii = mm + 1 ∧ ss = nI mm)) (xs.length - 1) (by omega) ⟨by omega, rfl, Or.inr ⟨xs.length - 2, by omega, nI_subn hq⟩⟩ ?_
    rintro ii ss hi ⟨-, h1, hc⟩
    rcases hc with ⟨h2, rfl⟩ | ⟨mm, h2, rfl⟩
    · refine ok_it hm (ok_some (Or.inl ⟨?_, hm2⟩))
      rw [h1, h2]; rfl
    · refine ok_if (nI_pos (by omega)) ?_
      rw [nI_addn]
      refine ok_gn (by omega) (by omega) (ok_gn (by omega) (by omega) ?_)
      rw [ix_n (by omega), ix_n (by omega), (hk mm (by omega)).1, (hk (mm + 1) (by omega)).1]
      have b1 := (hk mm (by omega)).2
      have b2 := (hk (mm + 1) (by omega)).2
      rw [h2] at h1
      simp only [lf] at h1
      refine ok_ite (fun hle => ok_some (Or.inr ⟨mm, ?_, by omega, rfl, (nI_le_iff (by omega) (by omega)).mp hle⟩)) (fun hle => ok_some ⟨by omega, by omega, ?_, ?_⟩)
      · rw [h1, if_pos ((nI_le_iff (by omega) (by omega)).mp hle)]
      · rw [h1, if_neg (fun hq2 => hle ((nI_le_iff (by omega) (by omega)).mpr hq2)), show xs.length - 1 - (ii + 1) = mm by omega]
      · cases mm with
        | zero => exact Or.inl ⟨by omega, nI_m1⟩
        | succ mm => exact Or.inr ⟨mm, by omega, nI_dec⟩
theorem rt_in {xs : List Nat} {ll : Nat} (h : gx xs ll ≤ gx xs (ll + 1)) : ∀ nn, ll + 1 ≤ nn → ll + 1 ≤ rt xs (gx xs ll) nn ∧ rt xs (gx xs ll) nn ≤ nn := by
  intro nn
  induction nn with
  | zero => intro hq; omega
  | succ nn ih =>
    intro hq
    simp only [rt]
    by_cases hc : gx xs ll ≤ gx xs (nn + 1)
    · rw [if_pos hc]; omega
    · rw [if_neg hc]
      have : nn ≠ ll := fun hz => hc (hz ▸ h)
      have := ih (by omega)
      omega
theorem right_x {gg : Nat → Int32} {xs : List Nat} {bb ll : Nat} (h : RW gg xs bb) (hb : bb ≤ 5) (hl : ll + 1 < xs.length) (hle : gx xs ll ≤ gx xs (ll + 1)) :
    lp FUEL (fun (n6 : Int32) => if n6 ≤ nI ll then some (Sum.inr n6) else (gd (inb n6 5) (gd (inb (nI ll) 5) (if (gg (Int32.toNatClampNeg (nI ll))) ≤ (gg (Int32.toNatClampNeg n6)) then some (Sum.inr n6) else (some (Sum.inl (n6 + (-1 : Int32)))))))) (nI xs.length - nI 1) = some (nI (rt xs (gx xs ll) (xs.length - 1))) := by
  obtain ⟨h5, hk⟩ := h
  obtain ⟨e, he, hp⟩ : Ok (lp FUEL (fun (n6 : Int32) => if n6 ≤ nI ll then some (Sum.inr n6) else (gd (inb n6 5) (gd (inb (nI ll) 5) (if (gg (Int32.toNatClampNeg (nI ll))) ≤ (gg (Int32.toNatClampNeg n6)) then some (Sum.inr n6) else (some (Sum.inl (n6 + (-1 : Int32)))))))) (nI xs.length - nI 1)) (fun e => e = nI (rt xs (gx xs ll) (xs.length - 1))) := by
    refine ok_lp (fun ii ss => ∃ nn, nn + ii = xs.length - 1 ∧ ll + 1 ≤ nn ∧ rt xs (gx xs ll) (xs.length - 1) = rt xs (gx xs ll) nn ∧ ss = nI nn) (xs.length - 1) (by omega) ⟨xs.length - 1, by omega, by omega, rfl, nI_subn (by omega)⟩ ?_
    rintro ii ss hi ⟨nn, h1, h2, h3, rfl⟩
    refine ok_if (fun hq => by have := le_of_nI hq (by omega) (by omega); omega) (ok_gn (by omega) (by omega) (ok_gn (by omega) (by omega) ?_))
    rw [ix_n (by omega), ix_n (by omega), (hk ll (by omega)).1, (hk nn (by omega)).1]
    have b1 := (hk ll (by omega)).2
    have b2 := (hk nn (by omega)).2
    cases nn with
    | zero => omega
    | succ nn =>
      simp only [rt] at h3
      refine ok_ite (fun hc => ok_some ?_) (fun hc => ok_some ⟨by omega, nn, by omega, ?_, ?_, nI_dec⟩)
      · show nI (nn + 1) = _
        rw [h3, if_pos ((nI_le_iff (by omega) (by omega)).mp hc)]
      · have : nn ≠ ll := fun hz => hc ((nI_le_iff (by omega) (by omega)).mpr (hz ▸ hle))
        omega
      · rw [h3, if_neg (fun hq => hc ((nI_le_iff (by omega) (by omega)).mpr hq))]
  rw [he, hp]
theorem right_m {gg : Nat → Int32} {xs : List Nat} {bb ll : Nat} (h : RW gg xs bb) (hb : bb ≤ 5) (hl : ll + 1 < xs.length) (hle : gx xs ll ≤ gx xs (ll + 1)) :
    lp FUEL (fun (n6 : Int32) => (gd (inb n6 5) (gd (inb (nI ll) 5) (if (gg (Int32.toNatClampNeg (nI ll))) ≤ (gg (Int32.toNatClampNeg n6)) then some (Sum.inr n6) else (some (Sum.inl (n6 + (-1 : Int32)))))))) (nI xs.length - nI 1) = some (nI (rt xs (gx xs ll) (xs.length - 1))) := by
  obtain ⟨h5, hk⟩ := h
  obtain ⟨e, he, hp⟩ : Ok (lp FUEL (fun (n6 : Int32) => (gd (inb n6 5) (gd (inb (nI ll) 5) (if (gg (Int32.toNatClampNeg (nI ll))) ≤ (gg (Int32.toNatClampNeg n6)) then some (Sum.inr n6) else (some (Sum.inl (n6 + (-1 : Int32)))))))) (nI xs.length - nI 1)) (fun e => e = nI (rt xs (gx xs ll) (xs.length - 1))) := by
    refine ok_lp (fun ii ss => ∃ nn, nn + ii = xs.length - 1 ∧ ll + 1 ≤ nn ∧ rt xs (gx xs ll) (xs.length - 1) = rt xs (gx xs ll) nn ∧ ss = nI nn) (xs.length - 1) (by omega) ⟨xs.length - 1, by omega, by omega, rfl, nI_subn (by omega)⟩ ?_
    rintro ii ss hi ⟨nn, h1, h2, h3, rfl⟩
    refine ok_gn (by omega) (by omega) (ok_gn (by omega) (by omega) ?_)
    rw [ix_n (by omega), ix_n (by omega), (hk ll (by omega)).1, (hk nn (by omega)).1]
    have b1 := (hk ll (by omega)).2
    have b2 := (hk nn (by omega)).2
    cases nn with
    | zero => omega
    | succ nn =>
      simp only [rt] at h3
      refine ok_ite (fun hc => ok_some ?_) (fun hc => ok_some ⟨by omega, nn, by omega, ?_, ?_, nI_dec⟩)
      · show nI (nn + 1) = _
        rw [h3, if_pos ((nI_le_iff (by omega) (by omega)).mp hc)]
      · have : nn ≠ ll := fun hz => hc ((nI_le_iff (by omega) (by omega)).mpr (hz ▸ hle))
        omega
      · rw [h3, if_neg (fun hq => hc ((nI_le_iff (by omega) (by omega)).mpr hq))]
  rw [he, hp]
