/-! ===== kinds: what is taken, due, awarded ===== -/
def tk (kk hh ss : Nat) : Nat :=
  if kk = 0 then (ss + 2) / 3 else if kk = 1 then (ss + 2) / 3 / 2 else if kk = 2 then min ((ss + 2) / 3) hh else if kk = 3 then min ss 1 else if kk = 4 then min ((ss + 2) / 3 / 2 + hh) ss else min (2 * min ((ss + 2) / 3) hh) ss
def rn (kk tt : Nat) : Nat :=
  if kk = 0 then 3 * tt else if kk = 1 then 3 * tt else if kk = 2 then (if tt = 0 then 0 else 3 * tt + 1) else if kk = 3 then 0 else if kk = 4 then 6 * tt else (if tt = 0 then 0 else 3 * tt + 1)
def ss0 : SS := (fun _ _ => 0, fun _ _ => 0)
theorem tk_dec : ∀ kk, kk < 6 → ∀ hh, hh < 5 → ∀ ss, ss < 21 → FX12_taken (nI kk) (nI hh) (nI ss) ss0 = some (nI (tk kk hh ss)) ∧ FX5_takenOf (nI kk) (nI hh) (nI ss) ss0 = some (nI (tk kk hh ss)) ∧ tk kk hh ss ≤ ss := by decide +kernel
theorem tk_m {kk hh ss : Nat} (h1 : kk ≤ 5) (h2 : hh ≤ 4) (h3 : ss ≤ 20) (σ : SS) : FX12_taken (nI kk) (nI hh) (nI ss) σ = some (nI (tk kk hh ss)) := (tk_dec kk (by omega) hh (by omega) ss (by omega)).1
theorem tk_x {kk hh ss : Nat} (h1 : kk ≤ 5) (h2 : hh ≤ 4) (h3 : ss ≤ 20) (σ : SS) : FX5_takenOf (nI kk) (nI hh) (nI ss) σ = some (nI (tk kk hh ss)) := (tk_dec kk (by omega) hh (by omega) ss (by omega)).2.1
theorem tk_le {kk hh ss : Nat} (h1 : kk ≤ 5) (h2 : hh ≤ 4) (h3 : ss ≤ 20) : tk kk hh ss ≤ ss := (tk_dec kk (by omega) hh (by omega) ss (by omega)).2.2
theorem rn_dec : ∀ kk, kk < 6 → ∀ tt, tt < 21 → FX12_rentOf (nI kk) (nI tt) ss0 = some (nI (rn kk tt)) ∧ FX5_rentOf (nI kk) (nI tt) ss0 = some (nI (rn kk tt)) := by decide +kernel
theorem rn_m {kk tt : Nat} (h1 : kk ≤ 5) (h2 : tt ≤ 20) (σ : SS) : FX12_rentOf (nI kk) (nI tt) σ = some (nI (rn kk tt)) := (rn_dec kk (by omega) tt (by omega)).1
theorem rn_x {kk tt : Nat} (h1 : kk ≤ 5) (h2 : tt ≤ 20) (σ : SS) : FX5_rentOf (nI kk) (nI tt) σ = some (nI (rn kk tt)) := (rn_dec kk (by omega) tt (by omega)).2
theorem rn_le {kk tt : Nat} (h2 : tt ≤ 20) : rn kk tt ≤ 120 := by
  unfold rn; repeat' split
  all_goals omega
/-- what is awarded, by a suit's kind -/
def aw (kk : Nat) (dd gg : Int32) : Int32 :=
  if kk = 0 then dd else if kk = 1 then nI 2 * dd else if kk = 2 then dd + gg else if kk = 3 then (dd + nI 1) / nI 2 else if kk = 4 then (if nI 8 ≤ gg then nI 2 * (dd + gg) else nI 0) else (if nI 40 < nI 2 * dd then nI 40 else nI 2 * dd)
theorem aw_x {kk : Nat} (h1 : kk ≤ 5) (dd gg : Int32) (σ : SS) : FX5_awardOf (nI kk) dd gg σ = some (aw kk dd gg) := by
  unfold FX5_awardOf aw imin
  simp only [nm_eq]
  have hz : kk = 0 ∨ kk = 1 ∨ kk = 2 ∨ kk = 3 ∨ kk = 4 ∨ kk = 5 := by omega
  rcases hz with rfl | rfl | rfl | rfl | rfl | rfl
  · rfl
  · rfl
  · rfl
  · rfl
  · show (if nI 8 ≤ gg then some _ else some _) = some (if nI 8 ≤ gg then _ else _)
    split <;> rfl
  · rfl
theorem aw_m {kk : Nat} (h1 : kk ≤ 5) (dd gg : Int32) (σ : SS) : FX12_awardOf (nI kk) dd gg σ = some (aw kk dd gg) := by
  unfold FX12_awardOf aw
  have hz : kk = 0 ∨ kk = 1 ∨ kk = 2 ∨ kk = 3 ∨ kk = 4 ∨ kk = 5 := by omega
  rcases hz with rfl | rfl | rfl | rfl | rfl | rfl
  · rfl
  · rfl
  · rfl
  · rfl
  · show (if nI 8 ≤ gg then some _ else some _) = some (if nI 8 ≤ gg then _ else _)
    split <;> rfl
  · show (if nI 40 ≤ nI 2 * dd then some (nI 40) else some (nI 2 * dd)) = some (if nI 40 < nI 2 * dd then nI 40 else nI 2 * dd)
    by_cases hlt : nI 40 < nI 2 * dd
    · rw [if_pos (Int32.le_of_lt hlt), if_pos hlt]
    · rw [if_neg hlt]
      by_cases hle : nI 40 ≤ nI 2 * dd
      · rw [if_pos hle]
        have : nI 2 * dd ≤ nI 40 := Int32.not_lt.mp hlt
        rw [Int32.le_antisymm hle this]
      · rw [if_neg hle]
/-! bits -/
theorem sh_31 : ∀ cc, cc < 32 → ((nI cc &&& 31).toBitVec.smod 32).toNat = cc := by decide +kernel
theorem bit_n {mm cc : Nat} (h1 : mm < 2147483648) (h2 : cc < 32) : ((nI mm >>> (nI cc &&& 31)) &&& nI 1) = nI (mm / 2 ^ cc % 2) := by
  rw [pk_shrN h1 _ cc (sh_31 cc h2), pk_andN (k := 1) (by have := Nat.div_le_self mm (2 ^ cc); omega) (by decide +kernel), Nat.pow_one]
theorem bit_1 {mm cc : Nat} (h1 : mm < 2147483648) (h2 : cc < 32) : (((nI mm >>> (nI cc &&& 31)) &&& nI 1) = nI 1) ↔ mm.testBit cc = true := by
  rw [bit_n h1 h2, nI_eqn (by omega) (by omega), Nat.testBit_eq_decide_div_mod_eq, decide_eq_true_iff]
theorem shl_n {cc : Nat} (h2 : cc < 31) : nI 1 <<< (nI cc &&& 31) = nI (2 ^ cc) := by
  have h3 : 2 ^ cc < 2 ^ 32 := Nat.pow_lt_pow_right (by omega) (by omega)
  rw [pk_shlN _ cc (sh_31 cc (by omega)) (by rw [Nat.one_mul]; exact h3), Nat.one_mul]
theorem or_n (aa bb : Nat) : nI aa ||| nI bb = nI (aa ||| bb) := by
  apply Int32.toBitVec_inj.mp
  show (BitVec.ofNat 32 aa) ||| (BitVec.ofNat 32 bb) = BitVec.ofNat 32 (aa ||| bb)
  rw [BitVec.ofNat_or]
theorem has_n {mm cc : Nat} (h1 : mm < 2147483648) (h2 : cc < 32) (σ : SS) : FX12_has (nI mm) (nI cc) σ = some (if mm.testBit cc = true then nI 1 else 0) := by
  unfold FX12_has
  by_cases hb : mm.testBit cc = true
  · rw [if_pos ((bit_1 h1 h2).mpr hb), if_pos hb]
  · rw [if_neg (fun q => hb ((bit_1 h1 h2).mp q)), if_neg hb, nI_0]
