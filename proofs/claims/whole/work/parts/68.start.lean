/-! ===== from the entry ===== -/
theorem wd_at {w i : Nat} (α : Nat → Nat) (cI cZ : ClassId) (σ : SS) (h : i < wn w) : (wd w α cI cZ σ)[i]? = some (α (wlo w + i), el α cI cZ σ (wlo w + i)) := by
  unfold wd
  rw [List.getElem?_map, List.getElem?_range h]
  rfl
theorem wd_len (w : Nat) (α : Nat → Nat) (cI cZ : ClassId) (σ : SS) : (wd w α cI cZ σ).length = wn w := by
  unfold wd
  rw [List.length_map, List.length_range]
/-- what the two worlds, one beside the other, say of their addresses -/
theorem ww_ok {A : Nat → Prop} {α : Nat → Nat} {cI cZ : ClassId} {σ σ2 : SS} (h : va_D A (wd 0 α cI cZ σ ++ wd 1 α cI cZ σ2)) : Wk α 0 ∧ Wk α 1 ∧ (∀ d, d < 91 → A (α d)) ∧ ∀ q, Aw α 0 q → ¬ Aw α 1 q := by
  have h78 : wn 0 = 78 := rfl
  have h13 : wn 1 = 13 := rfl
  have a0 : ∀ i, i < 78 → (wd 0 α cI cZ σ ++ wd 1 α cI cZ σ2)[i]? = some (α (0 + i), el α cI cZ σ (0 + i)) := fun i hi => by
    rw [List.getElem?_append_left (by rw [wd_len, h78]; exact hi)]
    exact wd_at α cI cZ σ (by rw [h78]; exact hi)
  have a1 : ∀ i, i < 13 → (wd 0 α cI cZ σ ++ wd 1 α cI cZ σ2)[78 + i]? = some (α (78 + i), el α cI cZ σ2 (78 + i)) := fun i hi => by
    rw [List.getElem?_append_right (by rw [wd_len, h78]; omega), wd_len, h78, show 78 + i - 78 = i by omega]
    exact wd_at α cI cZ σ2 (by rw [h13]; exact hi)
  refine ⟨⟨Or.inl rfl, fun i j hi hj hij => h.1 i j _ _ (a0 i hi) (a0 j hj) hij⟩, ⟨Or.inr rfl, fun i j hi hj hij => ?_⟩, fun d hd => ?_, fun q hq0 hq1 => ?_⟩
  · have := h.1 (78 + i) (78 + j) _ _ (a1 i hi) (a1 j hj) hij
    omega
  · rcases Nat.lt_or_ge d 78 with g | g
    · have := h.2 d _ (a0 d g)
      rw [Nat.zero_add] at this
      exact this
    · have := h.2 (78 + (d - 78)) _ (a1 (d - 78) (by omega))
      rw [show 78 + (d - 78) = d by omega] at this
      exact this
  · obtain ⟨i, hi, e1⟩ := hq0
    obtain ⟨j, hj, e2⟩ := hq1
    have hi2 : i < 78 := hi
    have := h.1 i (78 + j) _ _ (a0 i hi) (a1 j hj) (e1.symm.trans e2)
    omega
set_option maxHeartbeats 4000000 in
set_option maxRecDepth 100000 in
/-- YOUR PART: from the entry, for every script of at most 3072 ints, the law comes to its end with true -/
theorem whole_start {p : Program} {e : Env} {s : State} {m : MethodId} {below : List Frame} {meth : Method} {c : Code} (l : Launch) (hflags : l.flags = flags0) {b L : Nat} {xs : Nat → Int32} (hL : L ≤ 3072) (C0 : lw_At p s m meth c b L xs) : W p l e room_1 s m #[Value.ref b] below meth c s.heap [] 0 0 (lw_Z below #[Value.ref b] s) (entryFrame m ([Value.ref b] : List Value).toArray 4) := by
  obtain ⟨hx, hb, hr, hml, hown, hts, hX, hbl, hlocks, hgv⟩ := id C0
  obtain ⟨D, cI, cZ, β, hKz, hβ, hKn⟩ := kn_entry hts hgv
  have htsT : ∀ w ∈ TB, w.before #[Value.ref b] s = true := fun w hw => hts w (tb_lw hw)
  have C : Cz ((p, l, e, room_1, s, m), (#[Value.ref b], below, meth, c), (D, cI, cZ, fun q : Nat => s.heap.size ≤ q), (4, lw_Z below #[Value.ref b] s)) RL cL_law room_1 := ⟨hx, hb, hml, hown, htsT, rfl, hKz, fun q h => h⟩
  obtain ⟨ls, e1, e2⟩ := lx_entry ([.ref b]) (nL := 4) (fun α => Nat.le_of_ble_eq_true rfl) id
  have e3 : entryFrame m ([Value.ref b] : List Value).toArray 4 = F0 m 0 ls [] := e1 m
  rw [e3]
  have key : Zx ((p, l, e, room_1, s, m), (#[Value.ref b], below, meth, c), (D, cI, cZ, fun q : Nat => s.heap.size ≤ q), (4, lw_Z below #[Value.ref b] s)) 0 [some (.ref b), none, none, none] [] [] 0 0 := by
    refine z_new C nz_RL_7 dL_law_0 ⟨Nat.le_of_ble_eq_true rfl, Nat.le_of_ble_eq_true rfl⟩ (fun h0 => ?_)
    refine z_dup C dL_law_3 ?_
    refine z_ctor C bz_RL_9 kn_X11 ⟨Nat.le_of_ble_eq_true rfl, Nat.le_of_ble_eq_true rfl⟩ ⟨Nat.le_of_ble_eq_true rfl, Nat.le_of_ble_eq_true rfl⟩ rfl (Nat.le_of_ble_eq_true rfl) rfl dL_law_4 (fun u => ?_)
    refine z_astore (L2 := [some (.ref b), some (.ref h0), none, none]) C dL_law_7 (show 1 < 4 by decide) rfl ?_
    refine z_new C nz_RL_10 dL_law_8 ⟨Nat.le_of_ble_eq_true rfl, Nat.le_of_ble_eq_true rfl⟩ (fun hm => ?_)
    refine z_dup C dL_law_11 ?_
    refine z_ctor C bz_RL_12 kn_X12 ⟨Nat.le_of_ble_eq_true rfl, Nat.le_of_ble_eq_true rfl⟩ ⟨Nat.le_of_ble_eq_true rfl, Nat.le_of_ble_eq_true rfl⟩ rfl (Nat.le_of_ble_eq_true rfl) rfl dL_law_12 (fun v => ?_)
    refine z_astore (L2 := [some (.ref b), some (.ref h0), some (.ref hm), none]) C dL_law_15 (show 2 < 4 by decide) rfl ?_
    refine z_iconst (v := nI 0) C dL_law_16 (by decide +kernel) ?_
    refine z_istore (L2 := [some (.ref b), some (.ref h0), some (.ref hm), some (.int (nI 0))]) C dL_law_17 (show 3 < 4 by decide) rfl ?_
    intro ls H locs hl hP hD hS
    have hP2 : va_P D vwCl (wX11 cI cZ h0 u ++ wX12 cI cZ hm v) H := hP
    have hD2 : va_D (fun q : Nat => s.heap.size ≤ q) (wX11 cI cZ h0 u ++ wX12 cI cZ hm v) := hD
    rw [← wd0_eq h0 hm u v β cI cZ, ← wd1_eq h0 hm u v β cI cZ] at hP2 hD2
    have hα : ∀ d, 91 ≤ d → aX h0 hm u v β d = β d := fun d hd => by
      unfold aX
      rw [if_neg (by omega), if_neg (by omega), if_neg (by omega), if_neg (by omega)]
    have g0 : aX h0 hm u v β 0 = h0 := rfl
    have g78 : aX h0 hm u v β 78 = hm := rfl
    generalize aX h0 hm u v β = α at hP2 hD2 hα g0 g78
    obtain ⟨w0, w1, hf, hj⟩ := ww_ok hD2
    have g200 : α 200 = b := by rw [hα 200 (by omega)]; exact hβ
    have Cq : Cw ((p, l, e, s, m), (below, meth, c), (D, α, cI, cZ), (b, L, xs)) := ⟨hx, hb, hml, hown, htsT, hX, hbl, ⟨hlocks, hr⟩, ⟨hKn α hα 0 (aw_fr hf (Or.inl rfl)), w0⟩, ⟨hKn α hα 1 (aw_fr hf (Or.inr rfl)), w1⟩, hf, hj, g200, hL⟩
    have hl2 : lh ls 4 α (LC 0) := by
      refine ⟨hl.1, hl.2.1, fun i v hi => ?_⟩
      match i, hi with
      | 0, hi =>
        have hv : Value.ref 200 = v := Option.some.inj (Option.some.inj hi)
        subst hv
        show ls[0]? = some (.val (.ref (α 200)))
        rw [g200]
        exact hl.2.2 0 (.ref b) rfl
      | 1, hi =>
        have hv : Value.ref 0 = v := Option.some.inj (Option.some.inj hi)
        subst hv
        show ls[1]? = some (.val (.ref (α 0)))
        rw [g0]
        exact hl.2.2 1 (.ref h0) rfl
      | 2, hi =>
        have hv : Value.ref 78 = v := Option.some.inj (Option.some.inj hi)
        subst hv
        show ls[2]? = some (.val (.ref (α 78)))
        rw [g78]
        exact hl.2.2 2 (.ref hm) rfl
      | 3, hi =>
        have hv : Value.int (nI 0) = v := Option.some.inj (Option.some.inj hi)
        subst hv
        exact hl.2.2 3 (.int (nI 0)) rfl
      | i + 4, hi => simp [LC] at hi
    have hP0 : va_P D vwCl (wd 0 α cI cZ σ0) H := fun k q hk => hP2 k q (by rw [List.getElem?_append_left (List.getElem?_eq_some_iff.mp hk).1]; exact hk)
    have hP1 : va_P D vwCl (wd 1 α cI cZ σ0) H := fun k q hk => hP2 ((wd 0 α cI cZ σ0).length + k) q (by rw [List.getElem?_append_right (Nat.le_add_right _ _), Nat.add_sub_cancel_left]; exact hk)
    exact law_loop Cq (L + 1) 0 σ0 σ0 (Nat.zero_le _) (by show L + 1 ≤ 0 + (L + 1); omega) rel_0 ls H locs hl2 hP0 hP1 hS
  refine key ls s.heap [] ⟨e2.1, e2.2.1, fun i v hi => ?_⟩ (fun k q h => by simp at h) ⟨fun i j p q h => by simp at h, fun k q h => by simp at h⟩ va_S.rf
  match i, hi with
  | 0, hi => exact e2.2.2 0 v hi
  | 1, hi => simp at hi
  | 2, hi => simp at hi
  | 3, hi => simp at hi
  | i + 4, hi => simp at hi
