/-! ===== what is known at the entry ===== -/
theorem tk_n0 : Cond.methodLinkNest "WindLawyer" 11 ⟨"WindLawyer$Island", "<init>", "()V"⟩ "WindLawyer" ∈ lw_tbl := List.mem_of_getElem? (i := 86) (by decide +kernel)
theorem tk_n1 : Cond.methodLinkNest "WindLawyer" 24 ⟨"WindLawyer$Text", "<init>", "()V"⟩ "WindLawyer" ∈ lw_tbl := List.mem_of_getElem? (i := 175) (by decide +kernel)
theorem tk_n2 : Cond.methodLinkNest "WindLawyer" 31 ⟨"WindLawyer$Blow", "<init>", "()V"⟩ "WindLawyer" ∈ lw_tbl := List.mem_of_getElem? (i := 190) (by decide +kernel)
theorem tk_n3 : Cond.methodLinkNest "WindLawyer$Reader" 11 ⟨"WindLawyer$Island", "<init>", "()V"⟩ "WindLawyer" ∈ lw_tbl := List.mem_of_getElem? (i := 213) (by decide +kernel)
theorem tk_n4 : Cond.methodLinkNest "WindLawyer" 56 ⟨"WindLawyer$Session", "<init>", "()V"⟩ "WindLawyer" ∈ lw_tbl := List.mem_of_getElem? (i := 265) (by decide +kernel)
theorem tk_n5 : Cond.methodLinkNest "WindLawyer" 70 ⟨"WindLawyer$Fraction", "<init>", "()V"⟩ "WindLawyer" ∈ lw_tbl := List.mem_of_getElem? (i := 312) (by decide +kernel)
theorem tk_n6 : Cond.methodLinkNest "WindLawyer$Island" 63 ⟨"WindLawyer", "isHourOfDay", "(I)Z"⟩ "WindLawyer" ∈ lw_tbl := List.mem_of_getElem? (i := 401) (by decide +kernel)
theorem tk_n7 : Cond.methodLinkNest "WindLawyer$Text" 19 ⟨"WindLawyer", "within", "(III)Z"⟩ "WindLawyer" ∈ lw_tbl := List.mem_of_getElem? (i := 445) (by decide +kernel)
theorem tk_n8 : Cond.methodLinkNest "WindLawyer$Reader" 112 ⟨"WindLawyer", "within", "(III)Z"⟩ "WindLawyer" ∈ lw_tbl := List.mem_of_getElem? (i := 471) (by decide +kernel)
theorem tk_n9 : Cond.methodLinkNest "WindLawyer$Blow" 61 ⟨"WindLawyer", "within", "(III)Z"⟩ "WindLawyer" ∈ lw_tbl := List.mem_of_getElem? (i := 598) (by decide +kernel)
theorem tk_n10 : Cond.methodLinkNest "WindLawyer$Forecast" 93 ⟨"WindLawyer", "factorial", "(I)I"⟩ "WindLawyer" ∈ lw_tbl := List.mem_of_getElem? (i := 759) (by decide +kernel)
theorem tk_n11 : Cond.methodLinkNest "WindLawyer$Blow" 65 ⟨"WindLawyer", "isCell", "(I)Z"⟩ "WindLawyer" ∈ lw_tbl := List.mem_of_getElem? (i := 835) (by decide +kernel)
theorem tk_nests : ∀ q ∈ nests, Cond.methodLinkNest q.1 q.2.1 q.2.2 "WindLawyer" ∈ lw_tbl := List.forall_mem_cons.mpr ⟨tk_n0, List.forall_mem_cons.mpr ⟨tk_n1, List.forall_mem_cons.mpr ⟨tk_n2, List.forall_mem_cons.mpr ⟨tk_n3, List.forall_mem_cons.mpr ⟨tk_n4, List.forall_mem_cons.mpr ⟨tk_n5, List.forall_mem_cons.mpr ⟨tk_n6, List.forall_mem_cons.mpr ⟨tk_n7, List.forall_mem_cons.mpr ⟨tk_n8, List.forall_mem_cons.mpr ⟨tk_n9, List.forall_mem_cons.mpr ⟨tk_n10, List.forall_mem_cons.mpr ⟨tk_n11, List.forall_mem_nil _⟩⟩⟩⟩⟩⟩⟩⟩⟩⟩⟩⟩
theorem tk_fl : Cond.laysStatic "WindLawyer" "FACTORIALS" "[I" ∈ lw_tbl := List.mem_of_getElem? (i := 763) (by decide +kernel)
theorem tk_cl : Cond.laysStatic "java/lang/String" "COMPACT_STRINGS" "Z" ∈ lw_tbl := List.mem_of_getElem? (i := 486) (by decide +kernel)
theorem tk_sl : Cond.laysStatic "jdk/internal/util/Preconditions" "SIOOBE_FORMATTER" "Ljava/util/function/BiFunction;" ∈ lw_tbl := List.mem_of_getElem? (i := 502) (by decide +kernel)
theorem tk_fi : Cond.initialized "WindLawyer" ∈ lw_tbl := List.mem_of_getElem? (i := 56) (by decide +kernel)
theorem tk_ci : Cond.initialized "java/lang/String" ∈ lw_tbl := List.mem_of_getElem? (i := 67) (by decide +kernel)
theorem tk_si : Cond.initialized "jdk/internal/util/Preconditions" ∈ lw_tbl := List.mem_of_getElem? (i := 69) (by decide +kernel)
theorem tk_r0 : Cond.stringRef "WindLawyer$Reader" 36 "island" ∈ lw_tbl := List.mem_of_getElem? (i := 472) (by decide +kernel)
theorem tk_r1 : Cond.stringRef "WindLawyer$Reader" 51 "winds" ∈ lw_tbl := List.mem_of_getElem? (i := 529) (by decide +kernel)
theorem tk_r2 : Cond.stringRef "WindLawyer$Reader" 56 "user" ∈ lw_tbl := List.mem_of_getElem? (i := 543) (by decide +kernel)
theorem tk_r3 : Cond.stringRef "WindLawyer$Reader" 61 "suit" ∈ lw_tbl := List.mem_of_getElem? (i := 550) (by decide +kernel)
theorem tk_r4 : Cond.stringRef "WindLawyer$Reader" 66 "hours" ∈ lw_tbl := List.mem_of_getElem? (i := 559) (by decide +kernel)
theorem kn_K {s : State} {b : Nat} (hts : ∀ w ∈ TB, w.before #[Value.ref b] s = true) : ∃ (D : va_G) (cI cZ : ClassId), va_K D vwCl [(cI, .int), (cZ, .boolean)] s := by
  obtain ⟨c0, i0, h0⟩ := u_known (C := RX0) (T := TX0) (N := 3) (n := 3) hts in_X0 (hts _ tz_is_0)
  have key : ∀ k : Nat, ∃ z : ClassId × (Nat → Nat), ∀ q : vw_C, vwCl[k]? = some q → u_Kn s q.1 q.2.1 q.2.2 z.1 z.2 := by
    intro k
    have hz : k = 0 ∨ k = 1 ∨ k = 2 ∨ k = 3 ∨ k = 4 ∨ k = 5 ∨ k = 6 ∨ k = 7 ∨ k = 8 ∨ k = 9 ∨ k = 10 ∨ 11 ≤ k := by omega
    rcases hz with rfl | rfl | rfl | rfl | rfl | rfl | rfl | rfl | rfl | rfl | rfl | hk
    · obtain ⟨c, iS, h⟩ := u_known (C := RX0) (T := TX0) (N := 3) (n := 3) hts in_X0 (hts _ tz_is_0)
      exact ⟨(c, iS), fun q hq => by cases hq; exact h⟩
    · obtain ⟨c, iS, h⟩ := u_known (C := RX1) (T := TX1) (N := 5) (n := 5) hts in_X1 (hts _ tz_is_1)
      exact ⟨(c, iS), fun q hq => by cases hq; exact h⟩
    · obtain ⟨c, iS, h⟩ := u_known (C := RX2) (T := TX2) (N := 5) (n := 5) hts in_X2 (hts _ tz_is_2)
      exact ⟨(c, iS), fun q hq => by cases hq; exact h⟩
    · obtain ⟨c, iS, h⟩ := u_known (C := RX3) (T := TX3) (N := 2) (n := 2) hts in_X3 (hts _ tz_is_3)
      exact ⟨(c, iS), fun q hq => by cases hq; exact h⟩
    · obtain ⟨c, iS, h⟩ := u_known (C := RX4) (T := TX4) (N := 10) (n := 10) hts in_X4 (hts _ tz_is_4)
      exact ⟨(c, iS), fun q hq => by cases hq; exact h⟩
    · obtain ⟨c, iS, h⟩ := u_known (C := RX7) (T := TX7) (N := 7) (n := 7) hts in_X7 (hts _ tz_is_7)
      exact ⟨(c, iS), fun q hq => by cases hq; exact h⟩
    · obtain ⟨c, iS, h⟩ := u_known (C := RX8) (T := TX8) (N := 4) (n := 4) hts in_X8 (hts _ tz_is_8)
      exact ⟨(c, iS), fun q hq => by cases hq; exact h⟩
    · obtain ⟨c, iS, h⟩ := u_known (C := RX9) (T := TX9) (N := 4) (n := 4) hts in_X9 (hts _ tz_is_9)
      exact ⟨(c, iS), fun q hq => by cases hq; exact h⟩
    · obtain ⟨c, iS, h⟩ := u_known (C := RX10) (T := TX10) (N := 2) (n := 2) hts in_X10 (hts _ tz_is_10)
      exact ⟨(c, iS), fun q hq => by cases hq; exact h⟩
    · obtain ⟨c, iS, h⟩ := u_known (C := RX11) (T := TX11) (N := 15) (n := 15) hts in_X11 (hts _ tz_is_11)
      exact ⟨(c, iS), fun q hq => by cases hq; exact h⟩
    · obtain ⟨c, iS, h⟩ := u_known (C := RX12) (T := TX12) (N := 19) (n := 19) hts in_X12 (hts _ tz_is_12)
      exact ⟨(c, iS), fun q hq => by cases hq; exact h⟩
    · refine ⟨(c0, i0), fun q hq => ?_⟩
      rw [List.getElem?_eq_none (by simpa using hk)] at hq
      cases hq
  obtain ⟨z, hz⟩ := Classical.axiomOfChoice key
  obtain ⟨cA, kA, comp, h1, h2, h3⟩ := Cond.arrayClass_spec (hts _ tz_aI)
  obtain ⟨cB, kB, compB, g1, g2, g3⟩ := Cond.arrayClass_spec (hts _ tz_aZ)
  refine ⟨(fun k => (z k).1, fun k => (z k).2), cA, cB, fun k q hq => hz k q hq, fun k q hq => ?_⟩
  match k, hq with
  | 0, hq => cases hq; exact ⟨fun n v => ⟨fun k h => (by cases h), kA, h2, comp, h3⟩, h1⟩
  | 1, hq => cases hq; exact ⟨fun n v => ⟨fun k h => (by cases h), kB, g2, compB, g3⟩, g1⟩
  | k + 2, hq => simp at hq
def tmW (i : Nat) : Term := .string "WindLawyer$Reader" (wo_idx.getD i 0)
set_option maxRecDepth 100000 in
theorem kn_S {s : State} {b : Nat} (hgv : (Jvm.Cond.and given_1 narrow_1).before #[Value.ref b] s = true) : ∃ adK adV : Nat → Nat, vk_S 5 wo_len wo_byt adK adV (fun q : Nat => s.heap.size ≤ q) s s.heap ∧ ∀ i : Nat, i < 5 → (tmW i).eval #[Value.ref b] s none [] s = some (.ref (adK i)) := by
  have hs := flat_of_before _ hgv
  refine vk_Sof (args := #[Value.ref b]) (tm := tmW) (fun i hi => ?_) (fun i hi => ?_) (fun i hi => ?_) (fun i hi => ?_) (fun i hi => ?_) (fun i hi j hj => ?_) (fun i j hi hj hij => ?_) (fun a ha => Nat.not_le.mpr ha)
  · have hz : i = 0 ∨ i = 1 ∨ i = 2 ∨ i = 3 ∨ i = 4 := by omega
    rcases hz with rfl | rfl | rfl | rfl | rfl <;> decide +kernel
  · have hz : i = 0 ∨ i = 1 ∨ i = 2 ∨ i = 3 ∨ i = 4 := by omega
    rcases hz with rfl | rfl | rfl | rfl | rfl <;> exact hs _ (by decide +kernel)
  · have hz : i = 0 ∨ i = 1 ∨ i = 2 ∨ i = 3 ∨ i = 4 := by omega
    rcases hz with rfl | rfl | rfl | rfl | rfl <;> exact hs _ (by decide +kernel)
  · have hz : i = 0 ∨ i = 1 ∨ i = 2 ∨ i = 3 ∨ i = 4 := by omega
    rcases hz with rfl | rfl | rfl | rfl | rfl <;> exact hs _ (by decide +kernel)
  · have hz : i = 0 ∨ i = 1 ∨ i = 2 ∨ i = 3 ∨ i = 4 := by omega
    rcases hz with rfl | rfl | rfl | rfl | rfl <;> exact hs _ (by decide +kernel)
  · have hz : i = 0 ∨ i = 1 ∨ i = 2 ∨ i = 3 ∨ i = 4 := by omega
    rcases hz with rfl | rfl | rfl | rfl | rfl
    · have hj2 : j < 6 := hj
      have hz2 : j = 0 ∨ j = 1 ∨ j = 2 ∨ j = 3 ∨ j = 4 ∨ j = 5 := by omega
      rcases hz2 with rfl | rfl | rfl | rfl | rfl | rfl <;> exact hs _ (by decide +kernel)
    · have hj2 : j < 5 := hj
      have hz2 : j = 0 ∨ j = 1 ∨ j = 2 ∨ j = 3 ∨ j = 4 := by omega
      rcases hz2 with rfl | rfl | rfl | rfl | rfl <;> exact hs _ (by decide +kernel)
    · have hj2 : j < 4 := hj
      have hz2 : j = 0 ∨ j = 1 ∨ j = 2 ∨ j = 3 := by omega
      rcases hz2 with rfl | rfl | rfl | rfl <;> exact hs _ (by decide +kernel)
    · have hj2 : j < 4 := hj
      have hz2 : j = 0 ∨ j = 1 ∨ j = 2 ∨ j = 3 := by omega
      rcases hz2 with rfl | rfl | rfl | rfl <;> exact hs _ (by decide +kernel)
    · have hj2 : j < 5 := hj
      have hz2 : j = 0 ∨ j = 1 ∨ j = 2 ∨ j = 3 ∨ j = 4 := by omega
      rcases hz2 with rfl | rfl | rfl | rfl | rfl <;> exact hs _ (by decide +kernel)
  · have hz : i = 0 ∨ i = 1 ∨ i = 2 ∨ i = 3 ∨ i = 4 := by omega
    have hz2 : j = 0 ∨ j = 1 ∨ j = 2 ∨ j = 3 ∨ j = 4 := by omega
    rcases hz with rfl | rfl | rfl | rfl | rfl <;> rcases hz2 with rfl | rfl | rfl | rfl | rfl
    · exact absurd rfl hij
    · exact Or.inl (hs _ (by decide +kernel))
    · exact Or.inl (hs _ (by decide +kernel))
    · exact Or.inl (hs _ (by decide +kernel))
    · exact Or.inl (hs _ (by decide +kernel))
    · exact Or.inr (hs _ (by decide +kernel))
    · exact absurd rfl hij
    · exact Or.inl (hs _ (by decide +kernel))
    · exact Or.inl (hs _ (by decide +kernel))
    · exact Or.inl (hs _ (by decide +kernel))
    · exact Or.inr (hs _ (by decide +kernel))
    · exact Or.inr (hs _ (by decide +kernel))
    · exact absurd rfl hij
    · exact Or.inl (hs _ (by decide +kernel))
    · exact Or.inl (hs _ (by decide +kernel))
    · exact Or.inr (hs _ (by decide +kernel))
    · exact Or.inr (hs _ (by decide +kernel))
    · exact Or.inr (hs _ (by decide +kernel))
    · exact absurd rfl hij
    · exact Or.inl (hs _ (by decide +kernel))
    · exact Or.inr (hs _ (by decide +kernel))
    · exact Or.inr (hs _ (by decide +kernel))
    · exact Or.inr (hs _ (by decide +kernel))
    · exact Or.inr (hs _ (by decide +kernel))
    · exact absurd rfl hij
set_option maxRecDepth 100000 in
theorem kn_F {s : State} {b : Nat} (hts : ∀ w ∈ lw_tbl, w.before #[Value.ref b] s = true) (hgv : (Jvm.Cond.and given_1 narrow_1).before #[Value.ref b] s = true) : ∃ t : Nat, va_Z "WindLawyer" "FACTORIALS" "[I" (.ref t) (fun q : Nat => s.heap.size ≤ q) s s.heap ∧ va_T .int t 8 facs (fun q : Nat => s.heap.size ≤ q) s s.heap := by
  have hs := flat_of_before _ hgv
  have hA : ∀ a : Nat, a < s.heap.size → ¬ (fun q : Nat => s.heap.size ≤ q) a := fun a ha => Nat.not_le.mpr ha
  obtain ⟨t, h1, h2⟩ := va_Tof (args := #[Value.ref b]) (s := s) (tm := .static "WindLawyer" "FACTORIALS" "[I") (ty := .int) (N := 8) (f := facs) (A := fun q : Nat => s.heap.size ≤ q) (by decide) (hs _ (by decide +kernel)) (va_eqt (hs (Cond.eq (.length (.static "WindLawyer" "FACTORIALS" "[I")) (.int (Int32.ofNat 8))) (by decide +kernel))) (fun j hj => by
      have hz : j = 0 ∨ j = 1 ∨ j = 2 ∨ j = 3 ∨ j = 4 ∨ j = 5 ∨ j = 6 ∨ j = 7 := by omega
      rcases hz with rfl | rfl | rfl | rfl | rfl | rfl | rfl | rfl
      · exact va_eqt (hs (Cond.eq (.elem (.static "WindLawyer" "FACTORIALS" "[I") (.int (Int32.ofNat 0))) (.int 1)) (by decide +kernel))
      · exact va_eqt (hs (Cond.eq (.elem (.static "WindLawyer" "FACTORIALS" "[I") (.int (Int32.ofNat 1))) (.int 1)) (by decide +kernel))
      · exact va_eqt (hs (Cond.eq (.elem (.static "WindLawyer" "FACTORIALS" "[I") (.int (Int32.ofNat 2))) (.int 2)) (by decide +kernel))
      · exact va_eqt (hs (Cond.eq (.elem (.static "WindLawyer" "FACTORIALS" "[I") (.int (Int32.ofNat 3))) (.int 6)) (by decide +kernel))
      · exact va_eqt (hs (Cond.eq (.elem (.static "WindLawyer" "FACTORIALS" "[I") (.int (Int32.ofNat 4))) (.int 24)) (by decide +kernel))
      · exact va_eqt (hs (Cond.eq (.elem (.static "WindLawyer" "FACTORIALS" "[I") (.int (Int32.ofNat 5))) (.int 120)) (by decide +kernel))
      · exact va_eqt (hs (Cond.eq (.elem (.static "WindLawyer" "FACTORIALS" "[I") (.int (Int32.ofNat 6))) (.int 720)) (by decide +kernel))
      · exact va_eqt (hs (Cond.eq (.elem (.static "WindLawyer" "FACTORIALS" "[I") (.int (Int32.ofNat 7))) (.int 5040)) (by decide +kernel))) hA
  exact ⟨t, va_Zref (hts _ tk_fl) (hts _ tk_fi) h1 hA, h2⟩
set_option maxRecDepth 100000 in
theorem kn_J {s : State} {b : Nat} (hts : ∀ w ∈ lw_tbl, w.before #[Value.ref b] s = true) (hgv : (Jvm.Cond.and given_1 narrow_1).before #[Value.ref b] s = true) : va_Z "java/lang/String" "COMPACT_STRINGS" "Z" (.int 1) (fun q : Nat => s.heap.size ≤ q) s s.heap ∧ ∃ v : Value, (v = .null ∨ ∃ t, v = .ref t) ∧ va_Z "jdk/internal/util/Preconditions" "SIOOBE_FORMATTER" "Ljava/util/function/BiFunction;" v (fun q : Nat => s.heap.size ≤ q) s s.heap := by
  have hs := flat_of_before _ hgv
  have hA : ∀ a : Nat, a < s.heap.size → ¬ (fun q : Nat => s.heap.size ≤ q) a := fun a ha => Nat.not_le.mpr ha
  refine ⟨va_Zof (hts _ tk_cl) (hts _ tk_ci) (va_eqi (hs (Cond.eq (.static "java/lang/String" "COMPACT_STRINGS" "Z") (.int 1)) (by decide +kernel))) hA, ?_⟩
  rcases va_Zqof (hts _ tk_sl) (hts _ tk_si) (hs (Cond.isRef (.static "jdk/internal/util/Preconditions" "SIOOBE_FORMATTER" "Ljava/util/function/BiFunction;")) (by decide +kernel)) hA with h | ⟨t, h⟩
  · exact ⟨_, Or.inl rfl, h⟩
  · exact ⟨_, Or.inr ⟨t, rfl⟩, h⟩
/-- what is known at the law's entry, of any world made later -/
theorem kn_entry {s : State} {b : Nat} (hts : ∀ w ∈ lw_tbl, w.before #[Value.ref b] s = true) (hgv : (Jvm.Cond.and given_1 narrow_1).before #[Value.ref b] s = true) : ∃ (D : va_G) (cI cZ : ClassId) (β : Nat → Nat), Kz D cI cZ s ∧ β 200 = b ∧ ∀ (α : Nat → Nat), (∀ d, 91 ≤ d → α d = β d) → ∀ w, (∀ q : Nat, Aw α w q → s.heap.size ≤ q) → Kn D α cI cZ w s := by
  obtain ⟨D, cI, cZ, hK⟩ := kn_K (b := b) (s := s) (fun w hw => hts w (tb_lw hw))
  obtain ⟨adK, adV, hS, hE⟩ := kn_S hgv
  obtain ⟨t, hF1, hF2⟩ := kn_F hts hgv
  obtain ⟨hJ, v, hvq, hV⟩ := kn_J hts hgv
  have hn : ∀ q ∈ nests, va_Nw (.methodLinkNest q.1 q.2.1 q.2.2 "WindLawyer") s := fun q hq => va_Nw.of rfl (hts _ (tk_nests q hq))
  refine ⟨D, cI, cZ, fun d => if d = 91 then t else if d < 110 then adK (d - 100) else if d = 200 then b else adV (d - 110), ⟨hK, hn⟩, rfl, fun α hα w hw => ?_⟩
  have a1 : α 91 = t := by rw [hα 91 (by omega)]; rfl
  have a2 : ∀ i, i < 5 → α (100 + i) = adK i := fun i hi => by
    rw [hα _ (by omega)]
    show (if 100 + i = 91 then t else if 100 + i < 110 then adK (100 + i - 100) else if 100 + i = 200 then b else adV (100 + i - 110)) = adK i
    rw [if_neg (by omega), if_pos (by omega), show 100 + i - 100 = i by omega]
  have a3 : ∀ i, i < 5 → α (110 + i) = adV i := fun i hi => by
    rw [hα _ (by omega)]
    show (if 110 + i = 91 then t else if 110 + i < 110 then adK (110 + i - 100) else if 110 + i = 200 then b else adV (110 + i - 110)) = adV i
    rw [if_neg (by omega), if_neg (by omega), if_neg (by omega), show 110 + i - 110 = i by omega]
  refine ⟨hK, hn, ⟨?_, ?_⟩, fun i hi => ?_, ⟨fun i hi => ?_, fun i j hi hj hij => ?_⟩, hJ.narrow hw, v, hvq, hV.narrow hw⟩
  · rw [a1]; exact hF1.narrow hw
  · rw [a1]; exact hF2.narrow hw
  · rw [a2 i hi]
    have hz : i = 0 ∨ i = 1 ∨ i = 2 ∨ i = 3 ∨ i = 4 := by omega
    have he := hE i hi
    rcases hz with rfl | rfl | rfl | rfl | rfl
    · exact vk_R.of (A := #[Value.ref b]) (hts _ tk_r0) he
    · exact vk_R.of (A := #[Value.ref b]) (hts _ tk_r1) he
    · exact vk_R.of (A := #[Value.ref b]) (hts _ tk_r2) he
    · exact vk_R.of (A := #[Value.ref b]) (hts _ tk_r3) he
    · exact vk_R.of (A := #[Value.ref b]) (hts _ tk_r4) he
  · obtain ⟨s1, s2, s3, s4⟩ := (hS.narrow hw).1 i hi
    show va_O _ (α (100 + i)) _ _ _ ∧ va_OF _ _ _ _ (α (100 + i)) _ _ _ ∧ va_OF _ _ _ (.ref (α (110 + i))) (α (100 + i)) _ _ _ ∧ va_T _ (α (110 + i)) _ _ _ _ _
    rw [a2 i hi, a3 i hi]
    exact ⟨s1, s2, s3, s4⟩
  · have hij2 : α (100 + i) = α (100 + j) := hij
    rw [a2 i hi, a2 j hj] at hij2
    exact (hS.narrow hw).2 i j hi hj hij2
