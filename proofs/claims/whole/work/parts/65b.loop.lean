/-! ===== the loop ===== -/
theorem law_gap {i L : Nat} (hL : L ≤ 3072) (hi : i ≤ L) (h : ¬ nI L - nI 6 < nI i) : i + 6 ≤ L := by
  rcases Nat.lt_or_ge L (i + 6) with q | q
  · exfalso
    apply h
    rw [Int32.lt_iff_toInt_lt]
    have e1 : (nI i).toInt = i := Int32.toInt_ofNat_of_lt (by omega)
    have e2 : (nI L).toInt = L := Int32.toInt_ofNat_of_lt (by omega)
    have e3 : (nI 6).toInt = 6 := by decide +kernel
    rw [Int32.toInt_sub, e1, e2, e3, Int.bmod_def]
    split <;> omega
  · exact q
theorem law_loop {o : Ow} (C : Cw o) : ∀ (n i : Nat) (σx σm : SS), i ≤ o.2.2.2.2.1 → o.2.2.2.2.1 + 1 ≤ i + n → Rel σx σm → Lx o 18 (LC i) [] σx σm := by
  have hL : o.2.2.2.2.1 ≤ 3072 := C.2.2.2.2.2.2.2.2.2.2.2.2.2
  intro n
  induction n with
  | zero => intro i σx σm h1 h2; exact absurd h2 (by omega)
  | succ n ih =>
    intro i σx σm h1 h2 R
    refine l_iload C dL_law_18 rfl rfl ?_
    refine l_aload C dL_law_19 rfl rfl ?_
    refine l_len C dL_law_20 ?_
    refine l_bipush (v := nI 6) C dL_law_21 (by decide +kernel) ?_
    refine l_isub C dL_law_23 ?_
    refine l_gt (tgt := 1326) C dL_law_24 (by decide) (fun _ => ?_) (fun hg => ?_)
    · refine l_iconst (v := 1) C dL_law_1326 (by decide +kernel) ?_
      exact l_true C dL_law_1327
    · have hi : i + 6 ≤ o.2.2.2.2.1 := law_gap hL h1 hg
      have kk : ∀ sx sm, Rel sx sm → Lx o 1320 (LC i) [] sx sm := fun sx sm R2 => by
        refine l_iinc (y := nI (i + 6)) (L2 := LC (i + 6)) C dL_law_1320 rfl (nI_addn i 6) (by decide) rfl ?_
        refine l_goto (tgt := 18) C dL_law_1323 (by decide) ?_
        exact ih (i + 6) sx sm hi (by omega) R2
      refine l_aload C dL_law_27 rfl rfl ?_
      refine l_iload C dL_law_28 rfl rfl ?_
      refine l_sld C (by omega) dL_law_29 ?_
      refine l_bipush (v := nI 63) C dL_law_30 (by decide +kernel) ?_
      refine l_iand C dL_law_32 ?_
      exact l_sw C (kk _ _ R) (l_cases C R hi kk)
