/-! ===== pure rows: the lifted functions, reckoned ===== -/
theorem nm_eq {α τ : Type} (e : α) (k : α → Option τ) : nm e k = k e := rfl
theorem gd_t {τ : Type} (f : Option τ) : gd true f = f := rfl
theorem gd_of {τ : Type} {b : Bool} (h : b = true) (f : Option τ) : gd b f = f := by subst h; rfl
theorem bd_s {α τ : Type} (a : α) (k : α → Option τ) : bd (some a) k = k a := rfl
theorem bd2_s {α β τ : Type} (a : α) (b : β) (k : α → β → Option τ) : bd2 (some (a, b)) k = k a b := rfl
theorem bde_l {α τ : Type} (a : α) (k : α → Option τ) : bde (some (Sum.inl a)) k = k a := rfl
theorem bde_r {α τ : Type} (a : τ) (k : α → Option τ) : bde (some (Sum.inr a)) k = some a := rfl
theorem u2_s {A B T : Type} (f : A → B → T) (a : A) (b : B) : u2 f (a, b) = f a b := rfl
theorem u3_s {A B C T : Type} (f : A → B → C → T) (a : A) (b : B) (c : C) : u3 f (a, b, c) = f a b c := rfl
theorem u4_s {A B C D T : Type} (f : A → B → C → D → T) (a : A) (b : B) (c : C) (d : D) : u4 f (a, b, c, d) = f a b c d := rfl
theorem u5_s {A B C D E T : Type} (f : A → B → C → D → E → T) (a : A) (b : B) (c : C) (d : D) (e : E) : u5 f (a, b, c, d, e) = f a b c d e := rfl
theorem u6_s {A B C D E F T : Type} (f : A → B → C → D → E → F → T) (a : A) (b : B) (c : C) (d : D) (e : E) (g : F) : u6 f (a, b, c, d, e, g) = f a b c d e g := rfl
theorem bd_of {α τ : Type} {x : Option α} {a : α} (h : x = some a) (k : α → Option τ) : bd x k = k a := by rw [h]; rfl
theorem bd2_of {α β τ : Type} {x : Option (α × β)} {a : α} {b : β} (h : x = some (a, b)) (k : α → β → Option τ) : bd2 x k = k a b := by rw [h]; rfl
/-- any loop: at most N turns, each keeps I, some turn leaves with P -/
theorem lp_gen {S E : Type} {b : S → Option (S ⊕ E)} (I : Nat → S → Prop) (P : E → Prop) (N : Nat)
    (step : ∀ i s, i ≤ N → I i s → (i < N ∧ ∃ t, b s = some (.inl t) ∧ I (i + 1) t) ∨ ∃ e, b s = some (.inr e) ∧ P e) :
    ∀ (n i : Nat) (s : S), i ≤ N → N < n + i → I i s → ∃ e, lp n b s = some e ∧ P e := by
  intro n
  induction n with
  | zero => intro i s hi hn; omega
  | succ n ih =>
    intro i s hi hn hI
    rcases step i s hi hI with ⟨h1, t, h2, h3⟩ | ⟨e, h2, h3⟩
    · obtain ⟨e, he, hp⟩ := ih (i + 1) t (by omega) (by omega) h3
      exact ⟨e, by simp only [lp, h2]; exact he, hp⟩
    · exact ⟨e, by simp only [lp, h2], h3⟩
theorem lp_G {S E : Type} {b : S → Option (S ⊕ E)} (I : Nat → S → Prop) (P : E → Prop) (N : Nat) (hN : N < FUEL) (s : S) (h0 : I 0 s)
    (step : ∀ i s, i ≤ N → I i s → (i < N ∧ ∃ t, b s = some (.inl t) ∧ I (i + 1) t) ∨ ∃ e, b s = some (.inr e) ∧ P e) : ∃ e, lp FUEL b s = some e ∧ P e :=
  lp_gen I P N step FUEL 0 s (Nat.zero_le _) (by omega) h0
/-- a loop whose states are known -/
theorem lp_F {S E : Type} {b : S → Option (S ⊕ E)} (F : Nat → S) (N : Nat) (hN : N < FUEL) {e : E} {s : S} (h0 : s = F 0) (hs : ∀ i, i < N → b (F i) = some (.inl (F (i + 1)))) (he : b (F N) = some (.inr e)) : lp FUEL b s = some e := by
  obtain ⟨e', h1, h2⟩ := lp_G (b := b) (fun i s => s = F i) (fun e' => e' = e) N hN s h0 (fun i s hi hI => by
    subst hI
    rcases Nat.lt_or_ge i N with q | q
    · exact Or.inl ⟨q, _, hs i q, rfl⟩
    · have : i = N := by omega
      subst this
      exact Or.inr ⟨e, he, rfl⟩)
  rw [h1, h2]
theorem fuel_of {n : Nat} (h : n ≤ 99999) : n < FUEL := Nat.lt_of_le_of_lt h (Nat.lt_of_lt_of_eq (Nat.lt_succ_self 99999) rfl)
/-! numbers -/
theorem inb_n {n N : Nat} (h : n < N) (hN : N < 2147483648) : inb (nI n) N = true := by
  have h1 := nI_clamp (n := n) (by omega)
  have h2 : ¬ nI n < 0 := nI_pos (by omega)
  simp only [inb, h1, Bool.not_eq_true', Bool.or_eq_false_iff, decide_eq_false_iff_not]
  exact ⟨h2, by omega⟩
theorem gd_n {τ : Type} {n N : Nat} (h : n < N) (hN : N < 2147483648) (f : Option τ) : gd (inb (nI n) N) f = f := gd_of (inb_n h hN) f
theorem ix_n {n : Nat} (h : n < 2147483648) : Int32.toNatClampNeg (nI n) = n := nI_clamp h
theorem nI_addn (a b : Nat) : nI a + nI b = nI (a + b) := nI_add a b
theorem nI_muln (a b : Nat) : nI a * nI b = nI (a * b) := pk_mul a b
theorem nI_ltn {a b : Nat} (ha : a < 2147483648) (hb : b < 2147483648) : nI a < nI b ↔ a < b := nI_ltI ha hb
theorem nI_len {a b : Nat} (ha : a < 2147483648) (hb : b < 2147483648) : nI a ≤ nI b ↔ a ≤ b := nI_leI ha hb
theorem nI_eqn {a b : Nat} (ha : a < 2147483648) (hb : b < 2147483648) : nI a = nI b ↔ a = b := nI_eq ha hb
theorem nI_subn {a b : Nat} (h : b ≤ a) : nI a - nI b = nI (a - b) := pk_sub h
theorem zI : (0 : Int32) = nI 0 := nI_0.symm
theorem oI : (1 : Int32) = nI 1 := by decide +kernel
def wi (a b c : Int32) : Int32 := if a < b then nI 0 else if c < a then nI 0 else nI 1
theorem wi_zb (a b c : Int32) : zb (wi a b c) = true := by
  unfold wi; split
  · exact zb_0
  · split
    · exact zb_0
    · exact zb_1
theorem wi_01 (a b c : Int32) : wi a b c = 0 ∨ wi a b c = nI 1 := by
  unfold wi; split
  · exact Or.inl nI_0
  · split
    · exact Or.inl nI_0
    · exact Or.inr rfl
theorem wi_in {a : Int32} {lo hi : Nat} (hh : hi < 2147483648) (hl : lo < 2147483648) (h : ¬ wi a (nI lo) (nI hi) = 0) : ∃ j, lo ≤ j ∧ j ≤ hi ∧ a = nI j := by
  unfold wi at h
  by_cases h1 : a < nI lo
  · rw [if_pos h1] at h; exact absurd nI_0 h
  · rw [if_neg h1] at h
    by_cases h2 : nI hi < a
    · rw [if_pos h2] at h; exact absurd nI_0 h
    · have h3 : nI lo ≤ a := Int32.not_lt.mp h1
      have h4 : a ≤ nI hi := Int32.not_lt.mp h2
      have e1 := Int32.le_iff_toInt_le.mp h3
      have e2 := Int32.le_iff_toInt_le.mp h4
      rw [nI_toInt hl] at e1
      rw [nI_toInt hh] at e2
      refine ⟨a.toInt.toNat, by omega, by omega, ?_⟩
      apply Int32.toInt_inj.mp
      rw [nI_toInt (by omega)]
      omega
theorem wi_n {a lo hi : Nat} (ha : a < 2147483648) (hl : lo < 2147483648) (hh : hi < 2147483648) : wi (nI a) (nI lo) (nI hi) = if lo ≤ a ∧ a ≤ hi then nI 1 else 0 := by
  unfold wi
  by_cases h1 : a < lo
  · rw [if_pos ((nI_ltn ha hl).mpr h1), if_neg (by omega), nI_0]
  · rw [if_neg (fun q => h1 ((nI_ltn ha hl).mp q))]
    by_cases h2 : hi < a
    · rw [if_pos ((nI_ltn hh ha).mpr h2), if_neg (by omega), nI_0]
    · rw [if_neg (fun q => h2 ((nI_ltn hh ha).mp q)), if_pos (by omega)]
theorem within_eq (a b c : Int32) (s : SS) : FX11_within a b c s = some (wi a b c) := by
  unfold FX11_within wi
  split
  · rfl
  · split <;> rfl
theorem in_eq (a b c : Int32) (s : SS) : FX12_in a.toInt64 b.toInt64 c.toInt64 s = some (wi a b c) := by
  have e1 : (lg_cmp a.toInt64 b.toInt64 < 0) ↔ a < b := by
    rw [← Int32.not_le, ← Int32.not_le, not_congr (lg_cmp_ge _ _), Int64.le_iff_toInt_le, Int32.le_iff_toInt_le, Int32.toInt_toInt64, Int32.toInt_toInt64]
  have e2 : (0 < lg_cmp a.toInt64 c.toInt64) ↔ c < a := by
    have h0 : (a.toInt64 > c.toInt64) ↔ c < a := by rw [gt_iff_lt, Int64.lt_iff_toInt_lt, Int32.lt_iff_toInt_lt, Int32.toInt_toInt64, Int32.toInt_toInt64]
    unfold lg_cmp
    by_cases h : c < a
    · rw [if_pos (h0.mpr h)]; simp only [h, iff_true]; decide
    · rw [if_neg (fun q => h (h0.mp q))]; simp only [h, iff_false]
      split <;> decide
  unfold FX12_in wi
  by_cases h1 : a < b
  · rw [if_pos (e1.mpr h1), if_pos h1]
  · rw [if_neg (fun q => h1 (e1.mp q)), if_neg h1]
    by_cases h2 : c < a
    · rw [if_pos (e2.mpr h2), if_pos h2]
    · rw [if_neg (fun q => h2 (e2.mp q)), if_neg h2]
theorem lN_n (n : Nat) (h : n < 2147483648) : lN n = (nI n).toInt64 := (nI_l h).symm
theorem l_5 : (5 : Int64) = (nI 5).toInt64 := by decide +kernel
theorem l_3 : (3 : Int64) = (nI 3).toInt64 := by decide +kernel
theorem l_2 : (2 : Int64) = (nI 2).toInt64 := by decide +kernel
theorem l_4 : (4 : Int64) = (nI 4).toInt64 := by decide +kernel
theorem l_7 : (7 : Int64) = (nI 7).toInt64 := by decide +kernel
theorem l_8 : (8 : Int64) = (nI 8).toInt64 := by decide +kernel
theorem l_9 : (9 : Int64) = (nI 9).toInt64 := by decide +kernel
theorem l_10 : (10 : Int64) = (nI 10).toInt64 := by decide +kernel
theorem l_11 : (11 : Int64) = (nI 11).toInt64 := by decide +kernel
theorem l_20 : (20 : Int64) = (nI 20).toInt64 := by decide +kernel
theorem l_60 : (60 : Int64) = (nI 60).toInt64 := by decide +kernel
theorem l_99 : (99 : Int64) = (nI 99).toInt64 := by decide +kernel
theorem l_127 : (127 : Int64) = (nI 127).toInt64 := by decide +kernel
theorem l_200 : (200 : Int64) = (nI 200).toInt64 := by decide +kernel
theorem l_999 : (999 : Int64) = (nI 999).toInt64 := by decide +kernel
theorem l_999999 : (999999 : Int64) = (nI 999999).toInt64 := by decide +kernel
theorem l_N0 : lN 0 = (nI 0).toInt64 := by decide +kernel
theorem l_N1 : lN 1 = (nI 1).toInt64 := by decide +kernel
/-! ===== it answers, and the answer is so ===== -/
def Ok {τ : Type} (ff : Option τ) (Q : τ → Prop) : Prop := ∃ r, ff = some r ∧ Q r
section OK
variable {τ α β : Type} {Q : τ → Prop}
theorem ok_some {r : τ} (h : Q r) : Ok (some r) Q := ⟨r, rfl, h⟩
theorem ok_eq {ff : Option τ} {r : τ} (h : ff = some r) (hq : Q r) : Ok ff Q := ⟨r, h, hq⟩
theorem ok_mono {ff : Option τ} {Q1 : τ → Prop} (h : Ok ff Q1) (hq : ∀ r, Q1 r → Q r) : Ok ff Q := by
  obtain ⟨r, h1, h2⟩ := h
  exact ⟨r, h1, hq r h2⟩
theorem ok_nm {e : α} {k : α → Option τ} (h : Ok (k e) Q) : Ok (nm e k) Q := h
theorem ok_gd {b : Bool} {ff : Option τ} (hb : b = true) (h : Ok ff Q) : Ok (gd b ff) Q := by subst hb; exact h
theorem ok_gn {nn NN : Nat} {ff : Option τ} (h1 : nn < NN) (h2 : NN < 2147483648) (h : Ok ff Q) : Ok (gd (inb (nI nn) NN) ff) Q := ok_gd (inb_n h1 h2) h
theorem ok_bd {Q1 : α → Prop} {x : Option α} {k : α → Option τ} (h1 : Ok x Q1) (h2 : ∀ a, Q1 a → Ok (k a) Q) : Ok (bd x k) Q := by
  obtain ⟨a, ha, hq⟩ := h1
  subst ha
  exact h2 a hq
theorem ok_bd2 {Q1 : α × β → Prop} {x : Option (α × β)} {k : α → β → Option τ} (h1 : Ok x Q1) (h2 : ∀ a b, Q1 (a, b) → Ok (k a b) Q) : Ok (bd2 x k) Q := by
  obtain ⟨a, ha, hq⟩ := h1
  subst ha
  exact h2 a.1 a.2 hq
theorem ok_bde {Q1 : α → Prop} {x : Option (α ⊕ τ)} {k : α → Option τ} (h1 : Ok x (Sum.elim Q1 Q)) (h2 : ∀ a, Q1 a → Ok (k a) Q) : Ok (bde x k) Q := by
  obtain ⟨a, ha, hq⟩ := h1
  subst ha
  cases a with
  | inl a => exact h2 a hq
  | inr a => exact ⟨a, rfl, hq⟩
theorem ok_bdr {x : Option α} {a : α} {k : α → Option τ} (h1 : x = some a) (h2 : Ok (k a) Q) : Ok (bd x k) Q := by subst h1; exact h2
theorem ok_bd2r {x : Option (α × β)} {a : α} {b : β} {k : α → β → Option τ} (h1 : x = some (a, b)) (h2 : Ok (k a b) Q) : Ok (bd2 x k) Q := by subst h1; exact h2
theorem ok_it {c : Prop} [Decidable c] {ff gg : Option τ} (hc : c) (h : Ok ff Q) : Ok (if c then ff else gg) Q := by rw [if_pos hc]; exact h
theorem ok_if {c : Prop} [Decidable c] {ff gg : Option τ} (hc : ¬ c) (h : Ok gg Q) : Ok (if c then ff else gg) Q := by rw [if_neg hc]; exact h
theorem ok_ite {c : Prop} [Decidable c] {ff gg : Option τ} (h1 : c → Ok ff Q) (h2 : ¬ c → Ok gg Q) : Ok (if c then ff else gg) Q := by
  by_cases hc : c
  · rw [if_pos hc]; exact h1 hc
  · rw [if_neg hc]; exact h2 hc
theorem ok_lp {S : Type} {b : S → Option (S ⊕ τ)} (I : Nat → S → Prop) (N : Nat) (hN : N ≤ 99999) {s : S} (h0 : I 0 s) (step : ∀ i s, i ≤ N → I i s → Ok (b s) (Sum.elim (fun t => i < N ∧ I (i + 1) t) Q)) : Ok (lp FUEL b s) Q := by
  obtain ⟨e, he, hp⟩ := lp_G (b := b) I Q N (fuel_of hN) s h0 (fun i s hi hI => by
    obtain ⟨y, hy, hq⟩ := step i s hi hI
    cases y with
    | inl t => exact Or.inl ⟨hq.1, t, hy, hq.2⟩
    | inr e => exact Or.inr ⟨e, hy, hq⟩)
  exact ⟨e, he, hp⟩
end OK
