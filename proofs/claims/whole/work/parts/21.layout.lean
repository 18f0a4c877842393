/-! ===== where things lie ===== -/
theorem il_0 {t : Nat} (h : kd t = 4) : lk t 0 = t + 1 := kd_all (P := fun t => kd t = 4 → lk t 0 = t + 1) (by decide +kernel) (fun c h9 h => absurd (h9.symm.trans h) (by decide)) t h
theorem il_1 {t : Nat} (h : kd t = 4) : lk t 1 = t + 2 := kd_all (P := fun t => kd t = 4 → lk t 1 = t + 2) (by decide +kernel) (fun c h9 h => absurd (h9.symm.trans h) (by decide)) t h
theorem il_2 {t : Nat} (h : kd t = 4) : lk t 2 = t + 3 := kd_all (P := fun t => kd t = 4 → lk t 2 = t + 3) (by decide +kernel) (fun c h9 h => absurd (h9.symm.trans h) (by decide)) t h
theorem il_3 {t : Nat} (h : kd t = 4) : lk t 3 = t + 5 := kd_all (P := fun t => kd t = 4 → lk t 3 = t + 5) (by decide +kernel) (fun c h9 h => absurd (h9.symm.trans h) (by decide)) t h
theorem il_4 {t : Nat} (h : kd t = 4) : lk t 4 = t + 7 := kd_all (P := fun t => kd t = 4 → lk t 4 = t + 7) (by decide +kernel) (fun c h9 h => absurd (h9.symm.trans h) (by decide)) t h
theorem il_5 {t : Nat} (h : kd t = 4) : lk t 5 = t + 9 := kd_all (P := fun t => kd t = 4 → lk t 5 = t + 9) (by decide +kernel) (fun c h9 h => absurd (h9.symm.trans h) (by decide)) t h
theorem il_6 {t : Nat} (h : kd t = 4) : lk t 6 = t + 11 := kd_all (P := fun t => kd t = 4 → lk t 6 = t + 11) (by decide +kernel) (fun c h9 h => absurd (h9.symm.trans h) (by decide)) t h
theorem il_7 {t : Nat} (h : kd t = 4) : lk t 7 = t + 13 := kd_all (P := fun t => kd t = 4 → lk t 7 = t + 13) (by decide +kernel) (fun c h9 h => absurd (h9.symm.trans h) (by decide)) t h
theorem iln_1 {t : Nat} (h : kd t = 4) : ln (t + 1) = 8 := kd_all (P := fun t => kd t = 4 → ln (t + 1) = 8) (by decide +kernel) (fun c h9 h => absurd (h9.symm.trans h) (by decide)) t h
theorem iln_2 {t : Nat} (h : kd t = 4) : ln (t + 2) = 8 := kd_all (P := fun t => kd t = 4 → ln (t + 2) = 8) (by decide +kernel) (fun c h9 h => absurd (h9.symm.trans h) (by decide)) t h
theorem iln_4 {t : Nat} (h : kd t = 4) : ln (t + 4) = 28 := kd_all (P := fun t => kd t = 4 → ln (t + 4) = 28) (by decide +kernel) (fun c h9 h => absurd (h9.symm.trans h) (by decide)) t h
theorem iln_6 {t : Nat} (h : kd t = 4) : ln (t + 6) = 20 := kd_all (P := fun t => kd t = 4 → ln (t + 6) = 20) (by decide +kernel) (fun c h9 h => absurd (h9.symm.trans h) (by decide)) t h
theorem iln_8 {t : Nat} (h : kd t = 4) : ln (t + 8) = 12 := kd_all (P := fun t => kd t = 4 → ln (t + 8) = 12) (by decide +kernel) (fun c h9 h => absurd (h9.symm.trans h) (by decide)) t h
theorem iln_10 {t : Nat} (h : kd t = 4) : ln (t + 10) = 30 := kd_all (P := fun t => kd t = 4 → ln (t + 10) = 30) (by decide +kernel) (fun c h9 h => absurd (h9.symm.trans h) (by decide)) t h
theorem iln_12 {t : Nat} (h : kd t = 4) : ln (t + 12) = 24 := kd_all (P := fun t => kd t = 4 → ln (t + 12) = 24) (by decide +kernel) (fun c h9 h => absurd (h9.symm.trans h) (by decide)) t h
theorem iln_14 {t : Nat} (h : kd t = 4) : ln (t + 14) = 120 := kd_all (P := fun t => kd t = 4 → ln (t + 14) = 120) (by decide +kernel) (fun c h9 h => absurd (h9.symm.trans h) (by decide)) t h
theorem ikd_1 {t : Nat} (h : kd t = 4) : kd (t + 1) = 20 := kd_all (P := fun t => kd t = 4 → kd (t + 1) = 20) (by decide +kernel) (fun c h9 h => absurd (h9.symm.trans h) (by decide)) t h
theorem ikd_2 {t : Nat} (h : kd t = 4) : kd (t + 2) = 20 := kd_all (P := fun t => kd t = 4 → kd (t + 2) = 20) (by decide +kernel) (fun c h9 h => absurd (h9.symm.trans h) (by decide)) t h
theorem ikd_3 {t : Nat} (h : kd t = 4) : kd (t + 3) = 7 := kd_all (P := fun t => kd t = 4 → kd (t + 3) = 7) (by decide +kernel) (fun c h9 h => absurd (h9.symm.trans h) (by decide)) t h
theorem ikd_4 {t : Nat} (h : kd t = 4) : kd (t + 4) = 20 := kd_all (P := fun t => kd t = 4 → kd (t + 4) = 20) (by decide +kernel) (fun c h9 h => absurd (h9.symm.trans h) (by decide)) t h
theorem ikd_5 {t : Nat} (h : kd t = 4) : kd (t + 5) = 7 := kd_all (P := fun t => kd t = 4 → kd (t + 5) = 7) (by decide +kernel) (fun c h9 h => absurd (h9.symm.trans h) (by decide)) t h
theorem ikd_6 {t : Nat} (h : kd t = 4) : kd (t + 6) = 20 := kd_all (P := fun t => kd t = 4 → kd (t + 6) = 20) (by decide +kernel) (fun c h9 h => absurd (h9.symm.trans h) (by decide)) t h
theorem ikd_7 {t : Nat} (h : kd t = 4) : kd (t + 7) = 7 := kd_all (P := fun t => kd t = 4 → kd (t + 7) = 7) (by decide +kernel) (fun c h9 h => absurd (h9.symm.trans h) (by decide)) t h
theorem ikd_8 {t : Nat} (h : kd t = 4) : kd (t + 8) = 20 := kd_all (P := fun t => kd t = 4 → kd (t + 8) = 20) (by decide +kernel) (fun c h9 h => absurd (h9.symm.trans h) (by decide)) t h
theorem ikd_9 {t : Nat} (h : kd t = 4) : kd (t + 9) = 7 := kd_all (P := fun t => kd t = 4 → kd (t + 9) = 7) (by decide +kernel) (fun c h9 h => absurd (h9.symm.trans h) (by decide)) t h
theorem ikd_10 {t : Nat} (h : kd t = 4) : kd (t + 10) = 20 := kd_all (P := fun t => kd t = 4 → kd (t + 10) = 20) (by decide +kernel) (fun c h9 h => absurd (h9.symm.trans h) (by decide)) t h
theorem ikd_11 {t : Nat} (h : kd t = 4) : kd (t + 11) = 7 := kd_all (P := fun t => kd t = 4 → kd (t + 11) = 7) (by decide +kernel) (fun c h9 h => absurd (h9.symm.trans h) (by decide)) t h
theorem ikd_12 {t : Nat} (h : kd t = 4) : kd (t + 12) = 20 := kd_all (P := fun t => kd t = 4 → kd (t + 12) = 20) (by decide +kernel) (fun c h9 h => absurd (h9.symm.trans h) (by decide)) t h
theorem ikd_13 {t : Nat} (h : kd t = 4) : kd (t + 13) = 7 := kd_all (P := fun t => kd t = 4 → kd (t + 13) = 7) (by decide +kernel) (fun c h9 h => absurd (h9.symm.trans h) (by decide)) t h
theorem ikd_14 {t : Nat} (h : kd t = 4) : kd (t + 14) = 20 := kd_all (P := fun t => kd t = 4 → kd (t + 14) = 20) (by decide +kernel) (fun c h9 h => absurd (h9.symm.trans h) (by decide)) t h
theorem tl_2 {t : Nat} (h : kd t = 7) : lk t 2 = t + 1 := kd_all (P := fun t => kd t = 7 → lk t 2 = t + 1) (by decide +kernel) (fun c h9 h => absurd (h9.symm.trans h) (by decide)) t h
theorem lk_0_0 : lk 0 0 = 1 := by decide +kernel
theorem lk_0_1 : lk 0 1 = 16 := by decide +kernel
theorem lk_0_2 : lk 0 2 = 31 := by decide +kernel
theorem lk_0_5 : lk 0 5 = 46 := by decide +kernel
theorem lk_0_6 : lk 0 6 = 48 := by decide +kernel
theorem lk_0_7 : lk 0 7 = 52 := by decide +kernel
theorem lk_0_8 : lk 0 8 = 68 := by decide +kernel
theorem lk_0_9 : lk 0 9 = 72 := by decide +kernel
theorem lk_0_10 : lk 0 10 = 75 := by decide +kernel
theorem lk_0_11 : lk 0 11 = 77 := by decide +kernel
theorem lk_46_0 : lk 46 0 = 47 := by decide +kernel
theorem lk_48_0 : lk 48 0 = 49 := by decide +kernel
theorem lk_48_1 : lk 48 1 = 50 := by decide +kernel
theorem lk_48_2 : lk 48 2 = 51 := by decide +kernel
theorem lk_52_2 : lk 52 2 = 53 := by decide +kernel
theorem lk_52_0 : lk 52 0 = 46 := by decide +kernel
theorem lk_52_1 : lk 52 1 = 48 := by decide +kernel
theorem lk_68_1 : lk 68 1 = 69 := by decide +kernel
theorem lk_68_2 : lk 68 2 = 71 := by decide +kernel
theorem lk_68_0 : lk 68 0 = 48 := by decide +kernel
theorem lk_69_2 : lk 69 2 = 70 := by decide +kernel
theorem lk_72_0 : lk 72 0 = 73 := by decide +kernel
theorem lk_72_1 : lk 72 1 = 74 := by decide +kernel
theorem lk_75_1 : lk 75 1 = 76 := by decide +kernel
theorem lk_75_0 : lk 75 0 = 48 := by decide +kernel
theorem lk_78_0 : lk 78 0 = 79 := by decide +kernel
theorem lk_78_1 : lk 78 1 = 80 := by decide +kernel
theorem lk_78_2 : lk 78 2 = 81 := by decide +kernel
theorem lk_78_3 : lk 78 3 = 82 := by decide +kernel
theorem lk_78_6 : lk 78 6 = 83 := by decide +kernel
theorem lk_78_7 : lk 78 7 = 84 := by decide +kernel
theorem lk_78_8 : lk 78 8 = 85 := by decide +kernel
theorem lk_78_9 : lk 78 9 = 86 := by decide +kernel
theorem lk_78_10 : lk 78 10 = 87 := by decide +kernel
theorem lk_78_16 : lk 78 16 = 88 := by decide +kernel
theorem lk_78_17 : lk 78 17 = 89 := by decide +kernel
theorem lk_78_18 : lk 78 18 = 90 := by decide +kernel
theorem lk_1_0 : lk 1 0 = 2 := by decide +kernel
theorem lk_1_1 : lk 1 1 = 3 := by decide +kernel
theorem lk_1_2 : lk 1 2 = 4 := by decide +kernel
theorem lk_1_3 : lk 1 3 = 6 := by decide +kernel
theorem lk_1_4 : lk 1 4 = 8 := by decide +kernel
theorem lk_1_5 : lk 1 5 = 10 := by decide +kernel
theorem lk_1_6 : lk 1 6 = 12 := by decide +kernel
theorem lk_1_7 : lk 1 7 = 14 := by decide +kernel
theorem lk_16_0 : lk 16 0 = 17 := by decide +kernel
theorem lk_16_1 : lk 16 1 = 18 := by decide +kernel
theorem lk_16_2 : lk 16 2 = 19 := by decide +kernel
theorem lk_16_3 : lk 16 3 = 21 := by decide +kernel
theorem lk_16_4 : lk 16 4 = 23 := by decide +kernel
theorem lk_16_5 : lk 16 5 = 25 := by decide +kernel
theorem lk_16_6 : lk 16 6 = 27 := by decide +kernel
theorem lk_16_7 : lk 16 7 = 29 := by decide +kernel
theorem lk_31_0 : lk 31 0 = 32 := by decide +kernel
theorem lk_31_1 : lk 31 1 = 33 := by decide +kernel
theorem lk_31_2 : lk 31 2 = 34 := by decide +kernel
theorem lk_31_3 : lk 31 3 = 36 := by decide +kernel
theorem lk_31_4 : lk 31 4 = 38 := by decide +kernel
theorem lk_31_5 : lk 31 5 = 40 := by decide +kernel
theorem lk_31_6 : lk 31 6 = 42 := by decide +kernel
theorem lk_31_7 : lk 31 7 = 44 := by decide +kernel
theorem lk_53_0 : lk 53 0 = 54 := by decide +kernel
theorem lk_53_1 : lk 53 1 = 55 := by decide +kernel
theorem lk_53_2 : lk 53 2 = 56 := by decide +kernel
theorem lk_53_3 : lk 53 3 = 58 := by decide +kernel
theorem lk_53_4 : lk 53 4 = 60 := by decide +kernel
theorem lk_53_5 : lk 53 5 = 62 := by decide +kernel
theorem lk_53_6 : lk 53 6 = 64 := by decide +kernel
theorem lk_53_7 : lk 53 7 = 66 := by decide +kernel
theorem ln_47 : ln 47 = 150 := by decide +kernel
theorem ln_49 : ln 49 = 12 := by decide +kernel
theorem ln_50 : ln 50 = 12 := by decide +kernel
theorem ln_51 : ln 51 = 7 := by decide +kernel
theorem ln_70 : ln 70 = 28 := by decide +kernel
theorem ln_71 : ln 71 = 128 := by decide +kernel
theorem ln_73 : ln 73 = 5 := by decide +kernel
theorem ln_74 : ln 74 = 5 := by decide +kernel
theorem ln_76 : ln 76 = 6 := by decide +kernel
theorem ln_2 : ln 2 = 8 := by decide +kernel
theorem ln_3 : ln 3 = 8 := by decide +kernel
theorem ln_5 : ln 5 = 28 := by decide +kernel
theorem ln_7 : ln 7 = 20 := by decide +kernel
theorem ln_9 : ln 9 = 12 := by decide +kernel
theorem ln_11 : ln 11 = 30 := by decide +kernel
theorem ln_13 : ln 13 = 24 := by decide +kernel
theorem ln_15 : ln 15 = 120 := by decide +kernel
theorem ln_79 : ln 79 = 378 := by decide +kernel
theorem ln_80 : ln 80 = 378 := by decide +kernel
theorem ln_81 : ln 81 = 756 := by decide +kernel
theorem ln_82 : ln 82 = 2 := by decide +kernel
theorem ln_83 : ln 83 = 3 := by decide +kernel
theorem ln_84 : ln 84 = 7 := by decide +kernel
theorem ln_85 : ln 85 = 12 := by decide +kernel
theorem ln_86 : ln 86 = 12 := by decide +kernel
theorem ln_87 : ln 87 = 150 := by decide +kernel
theorem ln_88 : ln 88 = 5 := by decide +kernel
theorem ln_89 : ln 89 = 5 := by decide +kernel
theorem ln_90 : ln 90 = 7 := by decide +kernel
theorem kd_1 : kd 1 = 4 := by decide +kernel
theorem kd_16 : kd 16 = 4 := by decide +kernel
theorem kd_31 : kd 31 = 4 := by decide +kernel
theorem kd_53 : kd 53 = 4 := by decide +kernel
theorem kd_69 : kd 69 = 7 := by decide +kernel
theorem kd_4 : kd 4 = 7 := by decide +kernel
theorem kd_6 : kd 6 = 7 := by decide +kernel
theorem kd_8 : kd 8 = 7 := by decide +kernel
theorem kd_10 : kd 10 = 7 := by decide +kernel
theorem kd_12 : kd 12 = 7 := by decide +kernel
theorem kd_14 : kd 14 = 7 := by decide +kernel
/-! memory -/
theorem gI_pI (σ : SS) (c k : Nat) (v : Int32) (d : Nat) : gI (pI σ c k v) d = if d = c then upd (gI σ c) k v else gI σ d := gI_pA _ _ _ _
theorem gL_pI (σ : SS) (c k : Nat) (v : Int32) (d : Nat) : gL (pI σ c k v) d = gL σ d := rfl
theorem upd_ap (f : Nat → Int32) (k : Nat) (v : Int32) (j : Nat) : upd f k v j = if j = k then v else f j := rfl
theorem gI_pI_ne {σ : SS} {c k d : Nat} {v : Int32} (h : d ≠ c) : gI (pI σ c k v) d = gI σ d := by rw [gI_pI, if_neg h]
theorem gI_pI_eq {σ : SS} {c k : Nat} {v : Int32} : gI (pI σ c k v) c = upd (gI σ c) k v := by rw [gI_pI, if_pos rfl]
theorem gI_pA_ne {σ : SS} {c d : Nat} {f : Nat → Int32} (h : d ≠ c) : gI (pA σ c f) d = gI σ d := by rw [gI_pA, if_neg h]
theorem gI_pA_eq {σ : SS} {c : Nat} {f : Nat → Int32} : gI (pA σ c f) c = f := by rw [gI_pA, if_pos rfl]
theorem gI_pLx {σ : SS} {c k d : Nat} {v : Int64} : gI (pL σ c k v) d = gI σ d := rfl
theorem pA_pA (σ : SS) (c : Nat) (f g : Nat → Int32) : pA (pA σ c f) c g = pA σ c g := by
  simp only [pA]
  congr 1
  funext d
  split <;> rfl
theorem pA_self (σ : SS) (c : Nat) : pA σ c (gI σ c) = σ := by
  simp only [pA]
  apply Prod.ext
  · funext d
    show (if d = c then gI σ c else σ.1 d) = σ.1 d
    split
    · rename_i h; rw [h]; rfl
    · rfl
  · rfl
theorem pI_as (σ : SS) (c k : Nat) (v : Int32) : pI σ c k v = pA σ c (upd (gI σ c) k v) := rfl
/-- two worlds that differ in some cells alone -/
def Eq0 (P : Nat → Prop) (σ σ' : SS) : Prop := (∀ c, ¬ P c → gI σ' c = gI σ c) ∧ ∀ c, ¬ P c → gL σ' c = gL σ c
theorem Eq0.rf {P : Nat → Prop} {σ : SS} : Eq0 P σ σ := ⟨fun _ _ => rfl, fun _ _ => rfl⟩
theorem Eq0.tr {P : Nat → Prop} {σ σ' σ2 : SS} (h : Eq0 P σ σ') (g : Eq0 P σ' σ2) : Eq0 P σ σ2 := ⟨fun c hc => (g.1 c hc).trans (h.1 c hc), fun c hc => (g.2 c hc).trans (h.2 c hc)⟩
theorem Eq0.pA {P : Nat → Prop} {σ : SS} {c : Nat} {f : Nat → Int32} (h : P c) : Eq0 P σ (pA σ c f) := ⟨fun d hd => gI_pA_ne (fun q => hd (q ▸ h)), fun _ _ => rfl⟩
theorem Eq0.pI {P : Nat → Prop} {σ : SS} {c k : Nat} {v : Int32} (h : P c) : Eq0 P σ (pI σ c k v) := ⟨fun d hd => gI_pI_ne (fun q => hd (q ▸ h)), fun _ _ => rfl⟩
theorem Eq0.up {P Q : Nat → Prop} {σ σ' : SS} (h : Eq0 P σ σ') (hpq : ∀ c, P c → Q c) : Eq0 Q σ σ' := ⟨fun c hc => h.1 c (fun q => hc (hpq c q)), fun c hc => h.2 c (fun q => hc (hpq c q))⟩
