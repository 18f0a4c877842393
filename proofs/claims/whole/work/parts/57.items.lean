/-! ===== items are read, on both sides ===== -/
def S3 {S1 S2 E1 E2 : Type} (b2 : S2 → Option (S2 ⊕ E2)) (A : S1 → S2 → Prop) (B : E1 → E2 → Prop) : S1 ⊕ E1 → S2 ⊕ E2 → Prop := fun y1 y2 => (∃ v1 v2, y1 = .inl v1 ∧ y2 = .inl v2 ∧ A v1 v2) ∨ (∃ e1 e2, y1 = .inr e1 ∧ y2 = .inr e2 ∧ B e1 e2) ∨ ∃ e1 v2 e2, y1 = .inr e1 ∧ y2 = .inl v2 ∧ b2 v2 = some (.inr e2) ∧ B e1 e2
section TX3
variable {T1 T2 E1 E2 : Type} {b1 : T1 → Option (T1 ⊕ E1)} {b2 : T2 → Option (T2 ⊕ E2)} {A : T1 → T2 → Prop} {P : E1 → E2 → Prop}
/-- the second loop may go one turn further -/
theorem tw_lpx (I : Nat → T1 → T2 → Prop) (N : Nat) (hN : N ≤ 9999) {s1 : T1} {s2 : T2} (h0 : I 0 s1 s2)
    (step : ∀ i t1 t2, i ≤ N → I i t1 t2 → Two (b1 t1) (b2 t2) (S3 b2 (fun v1 v2 => i < N ∧ I (i + 1) v1 v2) P)) : Two (lp FUEL b1 s1) (lp FUEL b2 s2) P := by
  have key : ∀ (n i : Nat) (t1 : T1) (t2 : T2), i ≤ N → N + 1 < n + i → I i t1 t2 → Two (lp n b1 t1) (lp n b2 t2) P := by
    intro n
    induction n with
    | zero => intro i t1 t2 hi hn; omega
    | succ n ih =>
      intro i t1 t2 hi hn hI
      obtain ⟨y1, y2, g1, g2, g3⟩ := step i t1 t2 hi hI
      rcases g3 with ⟨v1, v2, rfl, rfl, g3, g4⟩ | ⟨e1, e2, rfl, rfl, g3⟩ | ⟨e1, v2, e2, rfl, rfl, g3, g4⟩
      · obtain ⟨e1, e2, k1, k2, k3⟩ := ih (i + 1) v1 v2 (by omega) (by omega) g4
        exact ⟨e1, e2, by simp only [lp, g1]; exact k1, by simp only [lp, g2]; exact k2, k3⟩
      · exact ⟨e1, e2, by simp only [lp, g1], by simp only [lp, g2], g3⟩
      · cases n with
        | zero => omega
        | succ n => exact ⟨e1, e2, by simp only [lp, g1], by simp only [lp, g2, g3], g4⟩
  exact key FUEL 0 s1 s2 (Nat.zero_le _) (by have := fuel_of (n := 99999) (Nat.le_refl _); omega) h0
theorem s3_l {v1 : T1} {v2 : T2} (h : A v1 v2) : S3 b2 A P (.inl v1) (.inl v2) := Or.inl ⟨v1, v2, rfl, rfl, h⟩
theorem s3_r {e1 : E1} {e2 : E2} (h : P e1 e2) : S3 b2 A P (.inr e1) (.inr e2) := Or.inr (Or.inl ⟨e1, e2, rfl, rfl, h⟩)
theorem s3_x {e1 : E1} {v2 : T2} {e2 : E2} (h1 : b2 v2 = some (.inr e2)) (h : P e1 e2) : S3 b2 A P (.inr e1) (.inl v2) := Or.inr (Or.inr ⟨e1, v2, e2, rfl, rfl, h1, h⟩)
end TX3
/-- the class has read the token that the model looks at -/
def TK (nl : Nat) (s1 s2 : SS) (tok : Int32) (st nt : Nat) : Prop := st ≤ nl ∧ gI s1 52 3 = nI st ∧ gI s2 78 15 = nI st ∧ gI s2 78 12 = nI nt ∧ gI s2 78 14 = tok ∧ nt ≤ nl ∧ (¬ tok = (-1 : Int32) → st < nt ∧ gI s1 52 4 = nI nt) ∧ LK s1 tok ∧ gI s2 78 13 = (-1 : Int32)
theorem TK.x {nl : Nat} {s1 s2 s2' : SS} {tok : Int32} {st nt : Nat} (h : TK nl s1 s2 tok st nt) (e : gI s2' 78 = gI s2 78) : TK nl s1 s2' tok st nt := by
  unfold TK at h ⊢; rw [e]; exact h
/-- the class is about to read it, whatever its island is -/
def LA (T : Nat → Nat) (nl pp : Nat) (s1 s2 : SS) : Prop := pp ≤ nl ∧ TX s1 s2 T nl ∧ gI s1 52 4 = nI pp ∧ gI s2 78 13 = (-1 : Int32) ∧ ∀ s, TX s s2 T nl → gI s 52 4 = nI pp → ∃ s1' tok st nt, FX7_goOn 52 s = some s1' ∧ Eq0 (fun c => c = 52) s s1' ∧ TK nl s1' s2 tok st nt ∧ pp ≤ st
theorem LA.x {T : Nat → Nat} {nl pp : Nat} {s1 s1' s2 : SS} (h : LA T nl pp s1 s2) (e1 : gI s1' 46 = gI s1 46) (e2 : gI s1' 47 = gI s1 47) (e3 : gI s1' 52 = gI s1 52) : LA T nl pp s1' s2 :=
  ⟨h.1, h.2.1.x e1 e2, by rw [e3]; exact h.2.2.1, h.2.2.2⟩
theorem TX.m {s1 s2 s2' : SS} {T : Nat → Nat} {nl : Nat} (h : TX s1 s2 T nl) (e1 : gI s2' 78 11 = gI s2 78 11) (e2 : gI s2' 87 = gI s2 87) : TX s1 s2' T nl := by
  obtain ⟨h1, h2, h3, h4⟩ := h
  exact ⟨h1, h2, by rw [e1]; exact h3, fun k hk => by rw [e2]; exact h4 k hk⟩
theorem LA.m {T : Nat → Nat} {nl pp : Nat} {s1 s2 s2' : SS} (h : LA T nl pp s1 s2) (e1 : gI s2' 78 = gI s2 78) (e2 : gI s2' 87 = gI s2 87) : LA T nl pp s1 s2' := by
  refine ⟨h.1, h.2.1.m (by rw [e1]) e2, h.2.2.1, by rw [e1]; exact h.2.2.2.1, fun s hX hp => ?_⟩
  obtain ⟨s1', tok, st, nt, f1, f2, f3, f4⟩ := h.2.2.2.2 s (hX.m (by rw [e1]) e2.symm) hp
  exact ⟨s1', tok, st, nt, f1, f2, TK.x f3 e1, f4⟩
theorem TX.en {s1 s2 s2' : SS} {T : Nat → Nat} {nl : Nat} (h : TX s1 s2' T nl) (g : NE s2 s2') : TX s1 s2 T nl := h.m (g.2.2 11 (by omega) (by omega) (by omega)).symm (g.1.1 87 (by omega)).symm
def PX (c : Nat) : Prop := c = 52 ∨ (53 ≤ c ∧ c ≤ 67) ∨ Q3 c
def PM (c : Nat) : Prop := c = 78 ∨ c = 80 ∨ P3 c
/-- what stays, whatever is read -/
def WV (σx σm : SS) (T : Nat → Nat) (nl : Nat) (s1 s2 : SS) : Prop := TX s1 s2 T nl ∧ TCw 53 s1 ∧ Eq0 PX σx s1 ∧ Eq0 PM σm s2 ∧ gL s2 78 = gL σm 78
/-- the islands that are read are alike -/
def IV (s1 s2 : SS) (nu ns hr : Nat) : Prop := IR 53 s1 (gI s2 80) nu ns 0 0 0 0 hr ∧ Bd (gI s2 80) nu ns 0 hr
def IVx (s1 s2 : SS) : Prop := ∃ nu ns hr, IV s1 s2 nu ns hr
section DJ
variable {σx σm s1 s2 : SS} {T : Nat → Nat} {nl : Nat}
theorem WV.m {s2' : SS} (h : WV σx σm T nl s1 s2) (g : NE s2 s2') : WV σx σm T nl s1 s2' :=
  ⟨h.1.ne g, h.2.1, h.2.2.1, h.2.2.2.1.tr (g.1.up (fun c hq => Or.inl hq)), g.2.1.trans h.2.2.2.2⟩
theorem WV.x {s1' : SS} (h : WV σx σm T nl s1 s2) (g : Eq0 (fun c => c = 52) s1 s1') : WV σx σm T nl s1' s2 :=
  ⟨h.1.x (g.1 46 (by omega)) (g.1 47 (by omega)), h.2.1.cong (fun c c1 c2 => g.1 c (by omega)), h.2.2.1.tr (g.up (fun c hq => Or.inl hq)), h.2.2.2.1, h.2.2.2.2⟩
theorem WV.f {v : Int32} (h : WV σx σm T nl s1 s2) : WV σx σm T nl s1 (pI s2 78 13 v) := by
  obtain ⟨⟨h1, h2, h3, h4⟩, h5, h6, h7, h8⟩ := h
  exact ⟨⟨h1, h2, by rw [gI_pI_eq, upd_ne (by omega)]; exact h3, fun k hk => by rw [gI_pI_ne (by omega)]; exact h4 k hk⟩, h5, h6, h7.tr (Eq0.pI (Or.inl rfl)), h8⟩
theorem IV.m {s2' : SS} {nu ns hr : Nat} (h : IV s1 s2 nu ns hr) (g : NE s2 s2') : IV s1 s2' nu ns hr := by
  unfold IV at h ⊢
  rw [g.1.1 80 (by omega)]
  exact h
theorem IV.x {s1' : SS} {nu ns hr : Nat} (h : IV s1 s2 nu ns hr) (g : Eq0 (fun c => c = 52) s1 s1') : IV s1' s2 nu ns hr :=
  ⟨h.1.cong (fun c c1 c2 => g.1 c (by omega)) (fun _ _ => rfl), h.2⟩
/-- the model looks at the next token -/
theorem next_la {tok : Int32} {st nt : Nat} (hW : WV σx σm T nl s1 s2) (hK : TK nl s1 s2 tok st nt) (hn : ¬ tok = (-1 : Int32)) : ∃ s2', FX12_next 78 s2 = some s2' ∧ NE s2 s2' ∧ LA T nl nt s1 s2' := by
  obtain ⟨k1, k2, k3, k4, k5, k6, k7, k8, k9⟩ := hK
  obtain ⟨g1, g2⟩ := k7 hn
  obtain ⟨s1', s2', st', nt', tok', e1, e2, f1, f2, f3, f4, f5, f6, f7, f8, f9, f10, f11⟩ := lex hW.1 k6 g2 k4
  refine ⟨s2', e2, f2, k6, hW.1.ne f2, g2, by rw [f2.2.2 13 (by omega) (by omega) (by omega)]; exact k9, fun s hX hp => ?_⟩
  obtain ⟨t1', t2', st3, nt3, tok3, e13, e23, f13, f23, f33, f43, f53, f63, f73, f83, f93, f103, f113⟩ := lex (hX.en f2) k6 hp k4
  have ez : t2' = s2' := Option.some.inj (e23.symm.trans e2)
  subst ez
  exact ⟨t1', tok3, st3, nt3, e13, f13, ⟨f43, f53, f63, f73, f83, f93, f103, f113, by rw [f23.2.2 13 (by omega) (by omega) (by omega)]; exact k9⟩, f33⟩
theorem go_la {tok : Int32} {st nt : Nat} (hW : WV σx σm T nl s1 s2) (hK : TK nl s1 s2 tok st nt) (hn : ¬ tok = (-1 : Int32)) : ∃ s2', FX12_goOnReading 78 s2 = some s2' ∧ NE s2 s2' ∧ LA T nl nt s1 s2' := by
  obtain ⟨s2', e1, e2, e3⟩ := next_la hW hK hn
  refine ⟨s2', ?_, e2, e3⟩
  unfold FX12_goOnReading
  rw [hK.2.2.2.2.2.2.2.2, if_pos rfl, bd_of e1]
theorem must_1 (s : SS) : FX12_must 78 (nI 1) s = some s := by unfold FX12_must; rw [if_neg n1_0]
theorem must_f {a : Int32} {s : SS} (h : ¬ gI s 78 13 = (-1 : Int32)) : FX12_must 78 a s = some s := by
  unfold FX12_must
  rw [if_neg h]
  split <;> rfl
theorem must_0 {s : SS} {st : Nat} (h : gI s 78 13 = (-1 : Int32)) (h15 : gI s 78 15 = nI st) : FX12_must 78 (nI 0) s = some (pI s 78 13 (nI st)) := by
  unfold FX12_must
  rw [if_pos nI_0, if_pos h, nm_eq, h15]
theorem go_f {s : SS} (h : ¬ gI s 78 13 = (-1 : Int32)) : FX12_goOnReading 78 s = some s := by unfold FX12_goOnReading; rw [if_neg h]
theorem num_f {lo hi : Int32} {s : SS} (h : ¬ gI s 78 13 = (-1 : Int32)) : FX12_number 78 lo hi s = some (gI s 78 14, s) := by
  unfold FX12_number
  rw [if_neg h, bd_s, must_1, bd_s, nm_eq, go_f h, bd_s]
theorem end_f {s : SS} (h : ¬ gI s 78 13 = (-1 : Int32)) : FX12_end 78 s = some s := by
  unfold FX12_end
  rw [if_neg h, bd_s, must_1, bd_s, go_f h, bd_s]
theorem flt_ne {s : SS} {st : Nat} (h : st ≤ 150) : ¬ gI (pI s 78 13 (nI st)) 78 13 = (-1 : Int32) := by
  rw [gI_pI_eq, upd_eq]; exact m1_n (by omega)
theorem num_ok {tok lo hi : Int32} {st nt : Nat} (hW : WV σx σm T nl s1 s2) (hK : TK nl s1 s2 tok st nt) (hn : ¬ tok = (-1 : Int32)) (hw : ¬ wi tok lo hi = 0) : ∃ s2', FX12_number 78 lo hi s2 = some (tok, s2') ∧ NE s2 s2' ∧ LA T nl nt s1 s2' := by
  obtain ⟨s2', e1, e2, e3⟩ := go_la hW hK hn
  refine ⟨s2', ?_, e2, e3⟩
  unfold FX12_number
  rw [if_pos hK.2.2.2.2.2.2.2.2, hK.2.2.2.2.1, bd_of (in_eq tok lo hi s2), if_neg hw, bd_s, must_1, bd_s, nm_eq, hK.2.2.2.2.1, bd_of e1]
theorem num_bad {tok lo hi : Int32} {st nt : Nat} (hn : nl ≤ 150) (hK : TK nl s1 s2 tok st nt) (hw : wi tok lo hi = 0) : FX12_number 78 lo hi s2 = some (tok, pI s2 78 13 (nI st)) := by
  have h9 := hK.2.2.2.2.2.2.2.2
  unfold FX12_number
  rw [if_pos h9, hK.2.2.2.2.1, bd_of (in_eq tok lo hi s2), if_pos hw, bd_s, bd_of (must_0 h9 hK.2.2.1), nm_eq, bd_of (go_f (flt_ne (by have := hK.1; omega))), gI_pI_eq, upd_ne (by omega), hK.2.2.2.2.1]
theorem end_ok {tok : Int32} {st nt : Nat} (hW : WV σx σm T nl s1 s2) (hK : TK nl s1 s2 tok st nt) (ht : tok = nI 200) : ∃ s2', FX12_end 78 s2 = some s2' ∧ NE s2 s2' ∧ LA T nl nt s1 s2' := by
  obtain ⟨s2', e1, e2, e3⟩ := go_la hW hK (by rw [ht]; exact m1_n (by omega))
  refine ⟨s2', ?_, e2, e3⟩
  unfold FX12_end
  rw [if_pos hK.2.2.2.2.2.2.2.2, hK.2.2.2.2.1, if_pos ht, bd_s, must_1, bd_s, bd_of e1]
theorem end_bad {tok : Int32} {st nt : Nat} (hn : nl ≤ 150) (hK : TK nl s1 s2 tok st nt) (ht : ¬ tok = nI 200) : FX12_end 78 s2 = some (pI s2 78 13 (nI st)) := by
  have h9 := hK.2.2.2.2.2.2.2.2
  unfold FX12_end
  rw [if_pos h9, hK.2.2.2.2.1, if_neg ht, bd_s, bd_of (must_0 h9 hK.2.2.1), bd_of (go_f (flt_ne (by have := hK.1; omega)))]
/-- the class reads a number -/
theorem goes_x {pp lo : Nat} {hi : Int32} (h : LA T nl pp s1 s2) (hl : lo < 1000) (hh : hi ≤ nI 99) : ∃ s1' tok st nt, FX7_goesOnWith 52 (nI lo) hi s1 = some (wi tok (nI lo) hi, s1') ∧ Eq0 (fun c => c = 52) s1 s1' ∧ TK nl s1' s2 tok st nt ∧ pp ≤ st ∧ (¬ wi tok (nI lo) hi = 0 → gI s1' 52 6 = tok ∧ ¬ tok = (-1 : Int32)) := by
  obtain ⟨s1', tok, st, nt, e1, e2, hK, h3⟩ := h.2.2.2.2 s1 h.2.1 h.2.2.1
  have hn := hK.2.2.2.2.2.2.2.1.2.2.2 lo hi hl hh
  refine ⟨s1', tok, st, nt, ?_, e2, hK, h3, fun hq => ⟨hn.2 hq, fun hz => hq (by rw [hz]; exact wi_neg hl)⟩⟩
  unfold FX7_goesOnWith
  rw [bd_of e1, bd_of hn.1, gd_of (wi_zb _ _ _)]
/-- the class reads a sign -/
theorem stops_x {pp : Nat} (h : LA T nl pp s1 s2) : ∃ s1' tok st nt, FX7_stops 52 s1 = some (if tok = nI 200 then nI 1 else nI 0, s1') ∧ Eq0 (fun c => c = 52) s1 s1' ∧ TK nl s1' s2 tok st nt ∧ pp ≤ st := by
  obtain ⟨s1', tok, st, nt, e1, e2, hK, h3⟩ := h.2.2.2.2 s1 h.2.1 h.2.2.1
  have hn := hK.2.2.2.2.2.2.2.1.2.1
  refine ⟨s1', tok, st, nt, ?_, e2, hK, h3⟩
  unfold FX7_stops
  rw [bd_of e1]
  by_cases hq : tok = nI 200
  · rw [if_pos (hn.mpr hq), if_pos hq]
  · rw [if_neg (fun hz => hq (hn.mp hz)), if_neg hq]
/-- an item's end: it stands, or there is a fault -/
def EN (σx σm : SS) (T : Nat → Nat) (nl pp : Nat) (y1 : Int32 × SS) (s2 : SS) : Prop := WV σx σm T nl y1.2 s2 ∧ ((y1.1 = nI 0 ∧ ∃ st, st ≤ 150 ∧ gI s2 78 13 = nI st ∧ gI y1.2 52 3 = nI st) ∨ (y1.1 = nI 1 ∧ IVx y1.2 s2 ∧ ∃ qq, pp ≤ qq ∧ LA T nl qq y1.2 s2))
theorem en_bad {pp st nt : Nat} {tok : Int32} (hW : WV σx σm T nl s1 s2) (hK : TK nl s1 s2 tok st nt) : EN σx σm T nl pp (nI 0, s1) (pI s2 78 13 (nI st)) :=
  ⟨hW.f, Or.inl ⟨rfl, st, by have := hK.1; have := hW.1.1; omega, by rw [gI_pI_eq, upd_eq], hK.2.1⟩⟩
end DJ
