/-! ===== contracts, calls ===== -/
def Pcx (D : va_G) (α : Nat → Nat) (cI cZ : ClassId) (w : Nat) (av : List Value) (σ : SS) : Array Value → State → Prop := fun v U => v = (av.map (sv α)).toArray ∧ va_P D vwCl (wd w α cI cZ σ) U.heap ∧ Kn D α cI cZ w U
def Qcx (D : va_G) (α : Nat → Nat) (cI cZ : ClassId) (w : Nat) (rv : Option Value) (σ' : SS) : Array Value → State → Outcome → State → Prop := fun _ st oc t => oc = .returned (rv.map (sv α)) ∧ va_P D vwCl (wd w α cI cZ σ') t.heap ∧ va_F (Aw α w) st t
def wsU (y : MethodName) (cc : ByteArray) (nL : Nat) (rt : Option FieldType) : List Cond := Cond.code y cc nL rt :: TB
def rmx (fr lo : Nat) : Room := { frames := fr, cells := 0, slots := 0, locals := lo }
def CT (w : Nat) (y : MethodName) (cc : ByteArray) (nL : Nat) (rt : Option FieldType) (fr lo : Nat) (av : List Value) (σ : SS) (rv : Option Value) (σ' : SS) : Prop :=
  ∀ (l : Launch) (D : va_G) (α : Nat → Nat) (cI cZ : ClassId), Wk α w → Met l y (wsU y cc nL rt) (rmx fr lo) (Pcx D α cI cZ w av σ) (Qcx D α cI cZ w rv σ') 0 0 (Aw α w)
/-- what a call names -/
def MB (y : MethodName) (cc : ByteArray) (nL : Nat) (rt : Option FieldType) (n : Nat) : Prop := Cond.initialized y.cls ∈ TB ∧ Cond.code y cc nL rt ∈ TB ∧ (y.cls ≠ "java/lang/invoke/MethodHandle" ∧ y.cls ≠ "java/lang/invoke/VarHandle") ∧ (parseMethodDescriptor y.desc).map (fun d => d.parameters.length) = some n
def MV (own : String) (idx ci : Nat) (y : MethodName) (cc : ByteArray) (nL : Nat) (rt : Option FieldType) (n : Nat) : Prop := MB y cc nL rt n ∧ Cond.methodLink own idx y ∈ TB ∧ Cond.instanceMethod y ∈ TB ∧ Cond.selects y.cls y y ∈ TB ∧ (∃ (T : u_T) (N : Nat), vwCl[ci]? = some (y.cls, T, N)) ∧ ci < 20
def MS (own : String) (idx : Nat) (y : MethodName) (cc : ByteArray) (nL : Nat) (rt : Option FieldType) (n : Nat) : Prop := MB y cc nL rt n ∧ Cond.methodLink own idx y ∈ TB ∧ Cond.static y ∈ TB
def MN (own : String) (idx : Nat) (y : MethodName) (cc : ByteArray) (nL : Nat) (rt : Option FieldType) (n : Nat) : Prop := MB y cc nL rt n ∧ (own, idx, y) ∈ nests ∧ Cond.static y ∈ TB
theorem mb_in {y : MethodName} {cc : ByteArray} {nL n : Nat} {rt : Option FieldType} (h : MB y cc nL rt n) : GoodIn TB (wsU y cc nL rt) := by
  intro x hx
  rcases List.mem_cons.mp hx with rfl | hx
  · exact tb_good _ h.2.1
  · exact tb_good _ hx
theorem mb_len {y : MethodName} {cc : ByteArray} {nL n : Nat} {rt : Option FieldType} (h : MB y cc nL rt n) : ∀ sig, parseMethodDescriptor y.desc = some sig → n = sig.parameters.length := by
  intro sig hs
  have h2 := h.2.2.2
  rw [hs] at h2
  exact (Option.some.inj h2).symm
section RC
variable {τ : Type} {f g : Option τ} {Z : τ → Prop} {o : Om} {own : String} {cc : ByteArray} {nL : Nat} {rt : Option FieldType} {rm : Room} {w pc : Nat} {L L' : List (Option Value)} {st : List Value} {σ : SS}
theorem kn_pre {D : va_G} {α : Nat → Nat} {cI cZ : ClassId} {s : State} {H : Heap} {locs : List Loc} {av : List Value} (hKn : Kn D α cI cZ w s) (hP : va_P D vwCl (wd w α cI cZ σ) H) (hS : va_S (Aw α w) s.heap H locs) (U : State) (hU : U.heap = H) (hW : s.WarmedH U.vm) : Pcx D α cI cZ w av σ (av.map (sv α)).toArray U :=
  ⟨rfl, by rw [hU]; exact hP, hKn.call hW (fun q h1 h2 => by rw [hU]; exact hS.2.1 q h1 h2)⟩
theorem pc_blind {D : va_G} {α : Nat → Nat} {cI cZ : ClassId} {av : List Value} : FrameBlind (Pcx D α cI cZ w av σ) := fun _ U g mk h => ⟨h.1, h.2.1, Kn.blind (U := U) (V := U.calling g mk _) h.2.2 rfl rfl⟩
/-- behind a call -/
theorem w_after {p : Program} {l : Launch} {e : Env} {R : Room} {s : State} {m : MethodId} {args : Array Value} {below : List Frame} {meth : Method} {c : Code} {D : va_G} {α : Nat → Nat} {cI cZ : ClassId} {H : Heap} {locs : List Loc} {Q : State → Prop} {ls : Array Slot} {st0 : List Value} {rv : Option Value} {σ' : SS} {a : Array Value}
    (hr : va_Run p l e R s m args below meth c H locs 0 0 0 0 (F0 m pc ls st0) (st.map (sv α)) (Qcx D α cI cZ w rv σ' a) (Aw α w)) (hS : va_S (Aw α w) s.heap H locs)
    (kk : ∀ (H1 : Heap) (locs1 : List Loc), va_P D vwCl (wd w α cI cZ σ') H1 → va_S (Aw α w) s.heap H1 locs1 → W p l e R s m args below meth c H1 locs1 0 0 Q (F0 m (pc + 3) ls ((rv.toList ++ st).map (sv α)))) : W p l e R s m args below meth c H locs 0 0 Q (F0 m pc ls st0) := by
  intro T hT X
  obtain ⟨v, st₀, t, T', LL, h0, X', hL, e1, e2, ⟨hv, hp, hz, hk⟩, stp⟩ := hr T hT X
  cases hv
  rw [h0] at hz hk
  obtain ⟨t2, a1, b1⟩ := kk T'.heap (locs ++ LL) (by rw [e1]; exact hp) ⟨Nat.le_trans hS.1 (by rw [e1]; exact hz), fun q h1 h2 => by rw [e1, hk q (Nat.lt_of_lt_of_le h1 hS.1) h2]; exact hS.2.1 q h1 h2, fun q hq => by
      rcases List.mem_append.mp hq with h | h
      · exact hS.2.2 q h
      · exact hL q h⟩ T' rfl X'
  refine ⟨t2, stp t2 ?_, b1⟩
  cases rv with
  | none => exact a1
  | some v => exact a1
theorem y_callV (C : Cx o own cc nL rt rm w) {idx ci c n : Nat} {y : MethodName} {cc2 : ByteArray} {nL2 fr lo : Nat} {rt2 : Option FieldType} (M : MV own idx ci y cc2 nL2 rt2 n) (hk : kd c = ci) (hkw : kw ci = w) (av : List Value) {rv : Option Value} {σ' : SS} (hct : CT w y cc2 nL2 rt2 fr lo (.ref c :: av) σ rv σ') (hR2 : fr + 1 ≤ rm.frames ∧ 8 + (nL2 + 11) + lo ≤ rm.locals) (hn : av.length = n) (hc8 : cs st ≤ 8) {st0 : List Value} (hst : st0 = av.reverse ++ .ref c :: st) (hd : decode cc pc = .ok (.invokevirtual idx, 3))
    (kk : Yx o (pc + 3) L (rv.toList ++ st) σ') : Yx o pc L st0 σ := by
  subst hst
  intro ls H locs hl hP hS
  obtain ⟨⟨p, l, e, R, s, m⟩, ⟨args, below, meth, c0⟩, ⟨D, α, cI, cZ⟩, w0, n0, Q⟩ := o
  obtain ⟨hx, hb, hml, hown, hts, hR, hlk, hrt, hKn, hWk, e1, e2⟩ := C
  dsimp only at hx hb hml hown hts hR hlk hrt hKn hWk e1 e2
  subst e1; subst e2
  obtain ⟨B, g1, g2, g3, ⟨T, N, g4⟩, g5⟩ := M
  have he := wd_get hWk.1 α cI cZ σ (c := c) (by rw [hk]; exact hkw)
  rw [el_obj α cI cZ σ hk g5] at he
  refine w_after (st := st) (rv := rv) (σ' := σ') (a := ((.ref c :: av).map (sv α)).toArray) ?_ hS (fun H1 locs1 h1 h2 => kk ls H1 locs1 hl h1 h2)
  have hW8 : 2 * (F0 m pc ls ((av.reverse ++ .ref c :: st).map (sv α))).monitorRoom + ((st.map (sv α)).map fun v => v.category).sum ≤ 8 := by
    show 2 * 0 + _ ≤ 8
    rw [cs_sv]; omega
  exact va_runV (C := y.cls) (As := av.map (sv α)) (rest := st.map (sv α)) ⟨hx, hb, hml, hown, hts⟩ (hct l D α cI cZ hWk)
    ⟨⟨rfl, rfl, by rw [hR]; exact hR2.1, by rw [hR]; exact hR2.2, pay_in hts (mb_in B), List.mem_cons_self, hts _ B.2.1, hts _ B.1, B.2.2.1, mb_len B, hts _ g1⟩, hts _ g2, hts _ g3⟩
    ⟨pc_blind, va_recv hKn.1 hP g4 he, fun U hU hW => by
      have := kn_pre (σ := σ) (av := .ref c :: av) hKn hP hS U hU hW
      simpa [sv] using this⟩ rfl (by rw [List.length_map]; exact hn) hl.1 (by simp [sv]) hW8 hd ⟨Nat.zero_le _, Nat.zero_le _⟩
theorem y_callS (C : Cx o own cc nL rt rm w) {idx n : Nat} {y : MethodName} {cc2 : ByteArray} {nL2 fr lo : Nat} {rt2 : Option FieldType} (M : MS own idx y cc2 nL2 rt2 n) (av : List Value) {rv : Option Value} {σ' : SS} (hct : CT w y cc2 nL2 rt2 fr lo av σ rv σ') (hR2 : fr + 1 ≤ rm.frames ∧ 8 + (nL2 + 11) + lo ≤ rm.locals) (hn : av.length = n) (hc8 : cs st ≤ 8) {st0 : List Value} (hst : st0 = av.reverse ++ st) (hd : decode cc pc = .ok (.invokestatic idx, 3))
    (kk : Yx o (pc + 3) L (rv.toList ++ st) σ') : Yx o pc L st0 σ := by
  subst hst
  intro ls H locs hl hP hS
  obtain ⟨⟨p, l, e, R, s, m⟩, ⟨args, below, meth, c0⟩, ⟨D, α, cI, cZ⟩, w0, n0, Q⟩ := o
  obtain ⟨hx, hb, hml, hown, hts, hR, hlk, hrt, hKn, hWk, e1, e2⟩ := C
  dsimp only at hx hb hml hown hts hR hlk hrt hKn hWk e1 e2
  subst e1; subst e2
  obtain ⟨B, g1, g2⟩ := M
  refine w_after (st := st) (rv := rv) (σ' := σ') (a := (av.map (sv α)).toArray) ?_ hS (fun H1 locs1 h1 h2 => kk ls H1 locs1 hl h1 h2)
  have hW8 : 2 * (F0 m pc ls ((av.reverse ++ st).map (sv α))).monitorRoom + ((st.map (sv α)).map fun v => v.category).sum ≤ 8 := by
    show 2 * 0 + _ ≤ 8
    rw [cs_sv]; omega
  exact va_runS (As := av.map (sv α)) (rest := st.map (sv α)) ⟨hx, hb, hml, hown, hts⟩ (hct l D α cI cZ hWk)
    ⟨⟨rfl, rfl, by rw [hR]; exact hR2.1, by rw [hR]; exact hR2.2, pay_in hts (mb_in B), List.mem_cons_self, hts _ B.2.1, hts _ B.1, B.2.2.1, mb_len B, hts _ g1⟩, hts _ g2⟩
    ⟨pc_blind, fun U hU hW => kn_pre (σ := σ) (av := av) hKn hP hS U hU hW⟩ rfl (by rw [List.length_map]; exact hn) hl.1 (by simp) hW8 hd ⟨Nat.zero_le _, Nat.zero_le _⟩
theorem y_callN (C : Cx o own cc nL rt rm w) {idx n : Nat} {y : MethodName} {cc2 : ByteArray} {nL2 fr lo : Nat} {rt2 : Option FieldType} (M : MN own idx y cc2 nL2 rt2 n) (av : List Value) {rv : Option Value} {σ' : SS} (hct : CT w y cc2 nL2 rt2 fr lo av σ rv σ') (hR2 : fr + 1 ≤ rm.frames ∧ 8 + (nL2 + 11) + lo ≤ rm.locals) (hn : av.length = n) (hc8 : cs st ≤ 8) {st0 : List Value} (hst : st0 = av.reverse ++ st) (hd : decode cc pc = .ok (.invokestatic idx, 3))
    (kk : Yx o (pc + 3) L (rv.toList ++ st) σ') : Yx o pc L st0 σ := by
  subst hst
  intro ls H locs hl hP hS
  obtain ⟨⟨p, l, e, R, s, m⟩, ⟨args, below, meth, c0⟩, ⟨D, α, cI, cZ⟩, w0, n0, Q⟩ := o
  obtain ⟨hx, hb, hml, hown, hts, hR, hlk, hrt, hKn, hWk, e1, e2⟩ := C
  dsimp only at hx hb hml hown hts hR hlk hrt hKn hWk e1 e2
  subst e1; subst e2
  obtain ⟨B, g1, g2⟩ := M
  refine w_after (st := st) (rv := rv) (σ' := σ') (a := (av.map (sv α)).toArray) ?_ hS (fun H1 locs1 h1 h2 => kk ls H1 locs1 hl h1 h2)
  have hW8 : 2 * (F0 m pc ls ((av.reverse ++ st).map (sv α))).monitorRoom + ((st.map (sv α)).map fun v => v.category).sum ≤ 8 := by
    show 2 * 0 + _ ≤ 8
    rw [cs_sv]; omega
  exact va_runSN (host := "WindLawyer") (As := av.map (sv α)) (rest := st.map (sv α)) ⟨hx, hb, hml, hown, hts⟩ (hct l D α cI cZ hWk)
    ⟨⟨⟨rfl, rfl, by rw [hR]; exact hR2.1, by rw [hR]; exact hR2.2, pay_in hts (mb_in B), List.mem_cons_self⟩, hts _ B.2.1, hts _ B.1, B.2.2.1, mb_len B, va_Nw.use rfl (hKn.2.1 _ g1)⟩, hts _ g2, trivial⟩
    ⟨pc_blind, fun U hU hW => kn_pre (σ := σ) (av := av) hKn hP hS U hU hW⟩ rfl (by rw [List.length_map]; exact hn) hl.1 (by simp) hW8 hd ⟨Nat.zero_le _, Nat.zero_le _⟩
theorem x_callVi (C : Cx o own cc nL rt rm w) {idx n : Nat} {ci c : Nat} {y : MethodName} {cc2 : ByteArray} {nL2 fr lo : Nat} {rt2 : Option FieldType} (M : MV own idx ci y cc2 nL2 rt2 n) (hk : kd c = ci) (hkw : kw ci = w) (av : List Value) {a : Option Int32} {h : Int32 → Option τ} (hct : ∀ r, a = some r → CT w y cc2 nL2 rt2 fr lo (.ref c :: av) σ (some (.int r)) σ) (hR2 : fr + 1 ≤ rm.frames ∧ 8 + (nL2 + 11) + lo ≤ rm.locals) (hn : av.length = n) (hc8 : cs st ≤ 8) {st0 : List Value} (hst : st0 = av.reverse ++ .ref c :: st) (hd : decode cc pc = .ok (.invokevirtual idx, 3)) (kk : ∀ r, Xo (h r) Z (Yx o (pc + 3) L (.int r :: st) σ)) : Xo (bd a h) Z (Yx o pc L st0 σ) := by
  intro r hr hz
  change a.bind h = some r at hr
  cases ha : a with
  | none => rw [ha] at hr; cases hr
  | some x =>
    rw [ha] at hr
    exact y_callV C M hk hkw av (hct x ha) hR2 hn hc8 hst hd (kk x r hr hz)
theorem x_callVl (C : Cx o own cc nL rt rm w) {idx n : Nat} {ci c : Nat} {y : MethodName} {cc2 : ByteArray} {nL2 fr lo : Nat} {rt2 : Option FieldType} (M : MV own idx ci y cc2 nL2 rt2 n) (hk : kd c = ci) (hkw : kw ci = w) (av : List Value) {a : Option Int64} {h : Int64 → Option τ} (hct : ∀ r, a = some r → CT w y cc2 nL2 rt2 fr lo (.ref c :: av) σ (some (.long r)) σ) (hR2 : fr + 1 ≤ rm.frames ∧ 8 + (nL2 + 11) + lo ≤ rm.locals) (hn : av.length = n) (hc8 : cs st ≤ 8) {st0 : List Value} (hst : st0 = av.reverse ++ .ref c :: st) (hd : decode cc pc = .ok (.invokevirtual idx, 3)) (kk : ∀ r, Xo (h r) Z (Yx o (pc + 3) L (.long r :: st) σ)) : Xo (bd a h) Z (Yx o pc L st0 σ) := by
  intro r hr hz
  change a.bind h = some r at hr
  cases ha : a with
  | none => rw [ha] at hr; cases hr
  | some x =>
    rw [ha] at hr
    exact y_callV C M hk hkw av (hct x ha) hR2 hn hc8 hst hd (kk x r hr hz)
theorem x_callVv (C : Cx o own cc nL rt rm w) {idx n : Nat} {ci c : Nat} {y : MethodName} {cc2 : ByteArray} {nL2 fr lo : Nat} {rt2 : Option FieldType} (M : MV own idx ci y cc2 nL2 rt2 n) (hk : kd c = ci) (hkw : kw ci = w) (av : List Value) {a : Option SS} {h : SS → Option τ} (hct : ∀ s2, a = some s2 → CT w y cc2 nL2 rt2 fr lo (.ref c :: av) σ none s2) (hR2 : fr + 1 ≤ rm.frames ∧ 8 + (nL2 + 11) + lo ≤ rm.locals) (hn : av.length = n) (hc8 : cs st ≤ 8) {st0 : List Value} (hst : st0 = av.reverse ++ .ref c :: st) (hd : decode cc pc = .ok (.invokevirtual idx, 3)) (kk : ∀ s2, Xo (h s2) Z (Yx o (pc + 3) L st s2)) : Xo (bd a h) Z (Yx o pc L st0 σ) := by
  intro r hr hz
  change a.bind h = some r at hr
  cases ha : a with
  | none => rw [ha] at hr; cases hr
  | some x =>
    rw [ha] at hr
    exact y_callV C M hk hkw av (hct x ha) hR2 hn hc8 hst hd (kk x r hr hz)
theorem x_callVim (C : Cx o own cc nL rt rm w) {idx n : Nat} {ci c : Nat} {y : MethodName} {cc2 : ByteArray} {nL2 fr lo : Nat} {rt2 : Option FieldType} (M : MV own idx ci y cc2 nL2 rt2 n) (hk : kd c = ci) (hkw : kw ci = w) (av : List Value) {a : Option (Int32 × SS)} {h : Int32 → SS → Option τ} (hct : ∀ r s2, a = some (r, s2) → CT w y cc2 nL2 rt2 fr lo (.ref c :: av) σ (some (.int r)) s2) (hR2 : fr + 1 ≤ rm.frames ∧ 8 + (nL2 + 11) + lo ≤ rm.locals) (hn : av.length = n) (hc8 : cs st ≤ 8) {st0 : List Value} (hst : st0 = av.reverse ++ .ref c :: st) (hd : decode cc pc = .ok (.invokevirtual idx, 3)) (kk : ∀ r s2, Xo (h r s2) Z (Yx o (pc + 3) L (.int r :: st) s2)) : Xo (bd2 a h) Z (Yx o pc L st0 σ) := by
  intro r hr hz
  change a.bind (fun p => h p.1 p.2) = some r at hr
  cases ha : a with
  | none => rw [ha] at hr; cases hr
  | some x =>
    rw [ha] at hr
    exact y_callV C M hk hkw av (hct x.1 x.2 ha) hR2 hn hc8 hst hd (kk x.1 x.2 r hr hz)
theorem x_callVlm (C : Cx o own cc nL rt rm w) {idx n : Nat} {ci c : Nat} {y : MethodName} {cc2 : ByteArray} {nL2 fr lo : Nat} {rt2 : Option FieldType} (M : MV own idx ci y cc2 nL2 rt2 n) (hk : kd c = ci) (hkw : kw ci = w) (av : List Value) {a : Option (Int64 × SS)} {h : Int64 → SS → Option τ} (hct : ∀ r s2, a = some (r, s2) → CT w y cc2 nL2 rt2 fr lo (.ref c :: av) σ (some (.long r)) s2) (hR2 : fr + 1 ≤ rm.frames ∧ 8 + (nL2 + 11) + lo ≤ rm.locals) (hn : av.length = n) (hc8 : cs st ≤ 8) {st0 : List Value} (hst : st0 = av.reverse ++ .ref c :: st) (hd : decode cc pc = .ok (.invokevirtual idx, 3)) (kk : ∀ r s2, Xo (h r s2) Z (Yx o (pc + 3) L (.long r :: st) s2)) : Xo (bd2 a h) Z (Yx o pc L st0 σ) := by
  intro r hr hz
  change a.bind (fun p => h p.1 p.2) = some r at hr
  cases ha : a with
  | none => rw [ha] at hr; cases hr
  | some x =>
    rw [ha] at hr
    exact y_callV C M hk hkw av (hct x.1 x.2 ha) hR2 hn hc8 hst hd (kk x.1 x.2 r hr hz)
theorem x_callSi (C : Cx o own cc nL rt rm w) {idx n : Nat} {y : MethodName} {cc2 : ByteArray} {nL2 fr lo : Nat} {rt2 : Option FieldType} (M : MS own idx y cc2 nL2 rt2 n) (av : List Value) {a : Option Int32} {h : Int32 → Option τ} (hct : ∀ r, a = some r → CT w y cc2 nL2 rt2 fr lo av σ (some (.int r)) σ) (hR2 : fr + 1 ≤ rm.frames ∧ 8 + (nL2 + 11) + lo ≤ rm.locals) (hn : av.length = n) (hc8 : cs st ≤ 8) {st0 : List Value} (hst : st0 = av.reverse ++ st) (hd : decode cc pc = .ok (.invokestatic idx, 3)) (kk : ∀ r, Xo (h r) Z (Yx o (pc + 3) L (.int r :: st) σ)) : Xo (bd a h) Z (Yx o pc L st0 σ) := by
  intro r hr hz
  change a.bind h = some r at hr
  cases ha : a with
  | none => rw [ha] at hr; cases hr
  | some x =>
    rw [ha] at hr
    exact y_callS C M av (hct x ha) hR2 hn hc8 hst hd (kk x r hr hz)
theorem x_callSl (C : Cx o own cc nL rt rm w) {idx n : Nat} {y : MethodName} {cc2 : ByteArray} {nL2 fr lo : Nat} {rt2 : Option FieldType} (M : MS own idx y cc2 nL2 rt2 n) (av : List Value) {a : Option Int64} {h : Int64 → Option τ} (hct : ∀ r, a = some r → CT w y cc2 nL2 rt2 fr lo av σ (some (.long r)) σ) (hR2 : fr + 1 ≤ rm.frames ∧ 8 + (nL2 + 11) + lo ≤ rm.locals) (hn : av.length = n) (hc8 : cs st ≤ 8) {st0 : List Value} (hst : st0 = av.reverse ++ st) (hd : decode cc pc = .ok (.invokestatic idx, 3)) (kk : ∀ r, Xo (h r) Z (Yx o (pc + 3) L (.long r :: st) σ)) : Xo (bd a h) Z (Yx o pc L st0 σ) := by
  intro r hr hz
  change a.bind h = some r at hr
  cases ha : a with
  | none => rw [ha] at hr; cases hr
  | some x =>
    rw [ha] at hr
    exact y_callS C M av (hct x ha) hR2 hn hc8 hst hd (kk x r hr hz)
theorem x_callSv (C : Cx o own cc nL rt rm w) {idx n : Nat} {y : MethodName} {cc2 : ByteArray} {nL2 fr lo : Nat} {rt2 : Option FieldType} (M : MS own idx y cc2 nL2 rt2 n) (av : List Value) {a : Option SS} {h : SS → Option τ} (hct : ∀ s2, a = some s2 → CT w y cc2 nL2 rt2 fr lo av σ none s2) (hR2 : fr + 1 ≤ rm.frames ∧ 8 + (nL2 + 11) + lo ≤ rm.locals) (hn : av.length = n) (hc8 : cs st ≤ 8) {st0 : List Value} (hst : st0 = av.reverse ++ st) (hd : decode cc pc = .ok (.invokestatic idx, 3)) (kk : ∀ s2, Xo (h s2) Z (Yx o (pc + 3) L st s2)) : Xo (bd a h) Z (Yx o pc L st0 σ) := by
  intro r hr hz
  change a.bind h = some r at hr
  cases ha : a with
  | none => rw [ha] at hr; cases hr
  | some x =>
    rw [ha] at hr
    exact y_callS C M av (hct x ha) hR2 hn hc8 hst hd (kk x r hr hz)
theorem x_callSim (C : Cx o own cc nL rt rm w) {idx n : Nat} {y : MethodName} {cc2 : ByteArray} {nL2 fr lo : Nat} {rt2 : Option FieldType} (M : MS own idx y cc2 nL2 rt2 n) (av : List Value) {a : Option (Int32 × SS)} {h : Int32 → SS → Option τ} (hct : ∀ r s2, a = some (r, s2) → CT w y cc2 nL2 rt2 fr lo av σ (some (.int r)) s2) (hR2 : fr + 1 ≤ rm.frames ∧ 8 + (nL2 + 11) + lo ≤ rm.locals) (hn : av.length = n) (hc8 : cs st ≤ 8) {st0 : List Value} (hst : st0 = av.reverse ++ st) (hd : decode cc pc = .ok (.invokestatic idx, 3)) (kk : ∀ r s2, Xo (h r s2) Z (Yx o (pc + 3) L (.int r :: st) s2)) : Xo (bd2 a h) Z (Yx o pc L st0 σ) := by
  intro r hr hz
  change a.bind (fun p => h p.1 p.2) = some r at hr
  cases ha : a with
  | none => rw [ha] at hr; cases hr
  | some x =>
    rw [ha] at hr
    exact y_callS C M av (hct x.1 x.2 ha) hR2 hn hc8 hst hd (kk x.1 x.2 r hr hz)
theorem x_callSlm (C : Cx o own cc nL rt rm w) {idx n : Nat} {y : MethodName} {cc2 : ByteArray} {nL2 fr lo : Nat} {rt2 : Option FieldType} (M : MS own idx y cc2 nL2 rt2 n) (av : List Value) {a : Option (Int64 × SS)} {h : Int64 → SS → Option τ} (hct : ∀ r s2, a = some (r, s2) → CT w y cc2 nL2 rt2 fr lo av σ (some (.long r)) s2) (hR2 : fr + 1 ≤ rm.frames ∧ 8 + (nL2 + 11) + lo ≤ rm.locals) (hn : av.length = n) (hc8 : cs st ≤ 8) {st0 : List Value} (hst : st0 = av.reverse ++ st) (hd : decode cc pc = .ok (.invokestatic idx, 3)) (kk : ∀ r s2, Xo (h r s2) Z (Yx o (pc + 3) L (.long r :: st) s2)) : Xo (bd2 a h) Z (Yx o pc L st0 σ) := by
  intro r hr hz
  change a.bind (fun p => h p.1 p.2) = some r at hr
  cases ha : a with
  | none => rw [ha] at hr; cases hr
  | some x =>
    rw [ha] at hr
    exact y_callS C M av (hct x.1 x.2 ha) hR2 hn hc8 hst hd (kk x.1 x.2 r hr hz)
theorem x_callNi (C : Cx o own cc nL rt rm w) {idx n : Nat} {y : MethodName} {cc2 : ByteArray} {nL2 fr lo : Nat} {rt2 : Option FieldType} (M : MN own idx y cc2 nL2 rt2 n) (av : List Value) {a : Option Int32} {h : Int32 → Option τ} (hct : ∀ r, a = some r → CT w y cc2 nL2 rt2 fr lo av σ (some (.int r)) σ) (hR2 : fr + 1 ≤ rm.frames ∧ 8 + (nL2 + 11) + lo ≤ rm.locals) (hn : av.length = n) (hc8 : cs st ≤ 8) {st0 : List Value} (hst : st0 = av.reverse ++ st) (hd : decode cc pc = .ok (.invokestatic idx, 3)) (kk : ∀ r, Xo (h r) Z (Yx o (pc + 3) L (.int r :: st) σ)) : Xo (bd a h) Z (Yx o pc L st0 σ) := by
  intro r hr hz
  change a.bind h = some r at hr
  cases ha : a with
  | none => rw [ha] at hr; cases hr
  | some x =>
    rw [ha] at hr
    exact y_callN C M av (hct x ha) hR2 hn hc8 hst hd (kk x r hr hz)
theorem x_callNl (C : Cx o own cc nL rt rm w) {idx n : Nat} {y : MethodName} {cc2 : ByteArray} {nL2 fr lo : Nat} {rt2 : Option FieldType} (M : MN own idx y cc2 nL2 rt2 n) (av : List Value) {a : Option Int64} {h : Int64 → Option τ} (hct : ∀ r, a = some r → CT w y cc2 nL2 rt2 fr lo av σ (some (.long r)) σ) (hR2 : fr + 1 ≤ rm.frames ∧ 8 + (nL2 + 11) + lo ≤ rm.locals) (hn : av.length = n) (hc8 : cs st ≤ 8) {st0 : List Value} (hst : st0 = av.reverse ++ st) (hd : decode cc pc = .ok (.invokestatic idx, 3)) (kk : ∀ r, Xo (h r) Z (Yx o (pc + 3) L (.long r :: st) σ)) : Xo (bd a h) Z (Yx o pc L st0 σ) := by
  intro r hr hz
  change a.bind h = some r at hr
  cases ha : a with
  | none => rw [ha] at hr; cases hr
  | some x =>
    rw [ha] at hr
    exact y_callN C M av (hct x ha) hR2 hn hc8 hst hd (kk x r hr hz)
theorem x_callNv (C : Cx o own cc nL rt rm w) {idx n : Nat} {y : MethodName} {cc2 : ByteArray} {nL2 fr lo : Nat} {rt2 : Option FieldType} (M : MN own idx y cc2 nL2 rt2 n) (av : List Value) {a : Option SS} {h : SS → Option τ} (hct : ∀ s2, a = some s2 → CT w y cc2 nL2 rt2 fr lo av σ none s2) (hR2 : fr + 1 ≤ rm.frames ∧ 8 + (nL2 + 11) + lo ≤ rm.locals) (hn : av.length = n) (hc8 : cs st ≤ 8) {st0 : List Value} (hst : st0 = av.reverse ++ st) (hd : decode cc pc = .ok (.invokestatic idx, 3)) (kk : ∀ s2, Xo (h s2) Z (Yx o (pc + 3) L st s2)) : Xo (bd a h) Z (Yx o pc L st0 σ) := by
  intro r hr hz
  change a.bind h = some r at hr
  cases ha : a with
  | none => rw [ha] at hr; cases hr
  | some x =>
    rw [ha] at hr
    exact y_callN C M av (hct x ha) hR2 hn hc8 hst hd (kk x r hr hz)
theorem x_callNim (C : Cx o own cc nL rt rm w) {idx n : Nat} {y : MethodName} {cc2 : ByteArray} {nL2 fr lo : Nat} {rt2 : Option FieldType} (M : MN own idx y cc2 nL2 rt2 n) (av : List Value) {a : Option (Int32 × SS)} {h : Int32 → SS → Option τ} (hct : ∀ r s2, a = some (r, s2) → CT w y cc2 nL2 rt2 fr lo av σ (some (.int r)) s2) (hR2 : fr + 1 ≤ rm.frames ∧ 8 + (nL2 + 11) + lo ≤ rm.locals) (hn : av.length = n) (hc8 : cs st ≤ 8) {st0 : List Value} (hst : st0 = av.reverse ++ st) (hd : decode cc pc = .ok (.invokestatic idx, 3)) (kk : ∀ r s2, Xo (h r s2) Z (Yx o (pc + 3) L (.int r :: st) s2)) : Xo (bd2 a h) Z (Yx o pc L st0 σ) := by
  intro r hr hz
  change a.bind (fun p => h p.1 p.2) = some r at hr
  cases ha : a with
  | none => rw [ha] at hr; cases hr
  | some x =>
    rw [ha] at hr
    exact y_callN C M av (hct x.1 x.2 ha) hR2 hn hc8 hst hd (kk x.1 x.2 r hr hz)
theorem x_callNlm (C : Cx o own cc nL rt rm w) {idx n : Nat} {y : MethodName} {cc2 : ByteArray} {nL2 fr lo : Nat} {rt2 : Option FieldType} (M : MN own idx y cc2 nL2 rt2 n) (av : List Value) {a : Option (Int64 × SS)} {h : Int64 → SS → Option τ} (hct : ∀ r s2, a = some (r, s2) → CT w y cc2 nL2 rt2 fr lo av σ (some (.long r)) s2) (hR2 : fr + 1 ≤ rm.frames ∧ 8 + (nL2 + 11) + lo ≤ rm.locals) (hn : av.length = n) (hc8 : cs st ≤ 8) {st0 : List Value} (hst : st0 = av.reverse ++ st) (hd : decode cc pc = .ok (.invokestatic idx, 3)) (kk : ∀ r s2, Xo (h r s2) Z (Yx o (pc + 3) L (.long r :: st) s2)) : Xo (bd2 a h) Z (Yx o pc L st0 σ) := by
  intro r hr hz
  change a.bind (fun p => h p.1 p.2) = some r at hr
  cases ha : a with
  | none => rw [ha] at hr; cases hr
  | some x =>
    rw [ha] at hr
    exact y_callN C M av (hct x.1 x.2 ha) hR2 hn hc8 hst hd (kk x.1 x.2 r hr hz)
/-! ===== ends, and the contract out of the walk ===== -/
/-- the method comes to its end with this answer, the world being σ -/
def RT (o : Om) (cc : ByteArray) (rv : Option Value) (σ : SS) : Prop := ∀ (pc : Nat) (L : List (Option Value)), decode cc pc = .ok ((match rv with | none => .return_ | some (.long _) => .lreturn | _ => .ireturn), 1) → Yx o pc L rv.toList σ
theorem x_ret {t : τ} {x : Int32} (hd : decode cc pc = .ok (.ireturn, 1)) (hz : Z t → RT o cc (some (.int x)) σ) : Xo (some t) Z (Yx o pc L [.int x] σ) := Xo.done (fun h => hz h pc L hd)
theorem x_lret {t : τ} {x : Int64} (hd : decode cc pc = .ok (.lreturn, 1)) (hz : Z t → RT o cc (some (.long x)) σ) : Xo (some t) Z (Yx o pc L [.long x] σ) := Xo.done (fun h => hz h pc L hd)
theorem x_vret {t : τ} (hd : decode cc pc = .ok (.return_, 1)) (hz : Z t → RT o cc none σ) : Xo (some t) Z (Yx o pc L [] σ) := Xo.done (fun h => hz h pc L hd)
theorem w_ret {l : Launch} {fr lo : Nat} {D : va_G} {α : Nat → Nat} {cI cZ : ClassId} {p : Program} {e : Env} {s : State} {m : MethodId} {args : Array Value} {below : List Frame} {meth : Method} {c : Code} {rv : Option Value} {σ' : SS} (hx : p.tables.exec = Jvm.exec) (hb : c.code = cc) (hlk : meth.locks = false) (hr : meth.sig.returnType = rt) (hret : (rv = none ∧ rt = none) ∨ (∃ x, rv = some (.int x) ∧ ∃ ty, rt = some ty ∧ narrow ty (.int x) = .int x) ∨ (∃ x, rv = some (.long x) ∧ rt = some .long)) :
    RT ((p, l, e, rmx fr lo, s, m), (args, below, meth, c), (D, α, cI, cZ), (w, nL, MQ below (Qcx D α cI cZ w rv σ') args s 0 0 (Aw α w))) cc rv σ' := by
  intro pc L hd ls H locs hl hP hS
  have hq : ∀ (rv2 : Option Value), rv2 = rv.map (sv α) → ∀ t : State, t.heap = H → s.WarmedH t.vm → Qcx D α cI cZ w rv σ' args s (.returned rv2) t := fun rv2 h2 t ht _ => ⟨by rw [h2], by rw [ht]; exact hP, hS.F ht⟩
  rcases hret with ⟨rfl, rfl⟩ | ⟨x, rfl, ty, rfl, hn⟩ | ⟨x, rfl, rfl⟩
  · exact W.vret hx hb hr (hq _ rfl) hS.2.2 hd
  · exact W.zret (ty := ty) hx hb hr hn (hq _ rfl) hS.2.2 hd
  · exact W.lret hx hb hr (hq _ rfl) hS.2.2 hd
theorem met_ofW {y : MethodName} {ws ws' : List Cond} {rm : Room} {Pc : Array Value → State → Prop} {Qc : Array Value → State → Outcome → State → Prop} {mc ms : Nat} {free : Addr → Prop} {cc : ByteArray} {maxL : Nat} {ret : Option FieldType} {l : Launch}
    (hy : plainFor y = true) (hw : ws = Cond.code y cc maxL ret :: ws')
    (body : ∀ p e s m args below meth c s₁, BodyLoose p l y (headSpec ws rm) cc maxL ret e s m args below meth c s₁ → c.maxLocals = maxL → Pc args s →
      W p l e (headSpec ws rm).room s m args below meth c s.heap [] 0 0 (MQ below Qc args s mc ms free) (entryFrame m args maxL)) : Met l y ws rm Pc Qc mc ms free := by
  refine MetFree.of_bodySF (code := cc) (maxLocals := maxL) (ret := ret) hy ?_ ?_
  · intro args s m h hn
    obtain ⟨meth, c, h1, h2, h3, h4, h5, h6, -, -⟩ := Cond.code_spec hn (atoms_spec (ws := ws) h _ (by rw [hw]; exact List.mem_cons_self))
    exact ⟨meth, c, h1, h2, h3, h4, h5, h6⟩
  · intro p e s m args below meth c s₁ B hml hP _
    have hh0 : s₁.heap = s.heap := by rw [B.state]; rfl
    obtain ⟨t, a1, o, b1, b2, b3⟩ := body p e s m args below meth c s₁ B hml hP s₁ hh0 (Stand.of_body B)
    exact ⟨t, o, a1, b1, b2, ⟨b3.1, b3.2⟩⟩
theorem ct_of {y : MethodName} {fr lo : Nat} {av : List Value} {rv : Option Value} {σ' : SS} (hy : plainFor y = true) (hret : (rv = none ∧ rt = none) ∨ (∃ x, rv = some (.int x) ∧ ∃ ty, rt = some ty ∧ narrow ty (.int x) = .int x) ∨ (∃ x, rv = some (.long x) ∧ rt = some .long)) (L0 : List (Option Value)) (hL : ∀ (α : Nat → Nat), ∃ ls : Array Slot, (∀ m, entryFrame m (av.map (sv α)).toArray nL = F0 m 0 ls []) ∧ lh ls nL α L0)
    (body : ∀ o : Om, Cx o y.cls cc nL rt (rmx fr lo) w → RT o cc rv σ' → Yx o 0 L0 [] σ) : CT w y cc nL rt fr lo av σ rv σ' := by
  intro l D α cI cZ hWk
  refine met_ofW (cc := cc) (maxL := nL) (ret := rt) hy rfl ?_
  intro p e s m args below meth c s₁ B hml hv
  obtain ⟨rfl, hP, hKn⟩ := hv
  have hts := atoms_spec (ws := wsU y cc nL rt) B.pre
  obtain ⟨ls, e1, e2⟩ := hL α
  rw [e1 m]
  have C : Cx ((p, l, e, rmx fr lo, s, m), ((av.map (sv α)).toArray, below, meth, c), (D, α, cI, cZ), (w, nL, MQ below (Qcx D α cI cZ w rv σ') (av.map (sv α)).toArray s 0 0 (Aw α w))) y.cls cc nL rt (rmx fr lo) w :=
    ⟨B.exec, B.bytes, hml, findClass_of_methodNamed B.named, fun x hx => hts x (List.mem_cons_of_mem _ hx), rfl, B.notSynchronized, B.returns, hKn, hWk, rfl, rfl⟩
  exact body _ C (w_ret B.exec B.bytes B.notSynchronized B.returns hret) ls s.heap [] e2 hP va_S.rf
/-- the locals at the entry -/
def lx_args : List Value → List (Option Value)
  | [] => []
  | .long x :: r => some (.long x) :: none :: lx_args r
  | .double x :: r => some (.double x) :: none :: lx_args r
  | v :: r => some v :: lx_args r
theorem lx_get : ∀ (av : List Value) (α : Nat → Nat) (b i : Nat) (v : Value), (lx_args av)[i]? = some (some v) → (b + i, sv α v) ∈ lv_args b (av.map (sv α))
  | [], _, _, i, v, h => by simp [lx_args] at h
  | a :: r, α, b, i, v, h => by
    cases a <;> simp only [lx_args, List.map_cons, sv, lv_args, Value.category] at h ⊢
    all_goals
      rcases i with _ | i
      · simp only [List.getElem?_cons_zero, Option.some.injEq] at h
        subst h
        exact List.mem_cons_self
      · simp only [List.getElem?_cons_succ] at h
        refine List.mem_cons_of_mem _ ?_
        first
          | (have := lx_get r α (b + 1) i v h
             rw [show b + (i + 1) = b + 1 + i by omega]
             exact this)
          | (rcases i with _ | i
             · simp at h
             · simp only [List.getElem?_cons_succ] at h
               have := lx_get r α (b + 2) i v h
               rw [show b + (i + 1 + 1) = b + 2 + i by omega]
               exact this)
theorem lx_entry (av : List Value) (hn : ∀ α : Nat → Nat, (lg_sl (av.map (sv α))).length ≤ nL) (α : Nat → Nat) : ∃ ls : Array Slot, (∀ m, entryFrame m (av.map (sv α)).toArray nL = F0 m 0 ls []) ∧ lh ls nL α (lx_args av) := by
  refine ⟨_, fun m => lg_entry_eq _ _ _, ?_⟩
  have hl := lv_entry (av.map (sv α)) (hn α)
  refine ⟨hl.1, hl.2.1, fun i v hi => hl.2.2 (i, sv α v) ?_⟩
  have := lx_get av α 0 i v hi
  rwa [Nat.zero_add] at this
end RC
