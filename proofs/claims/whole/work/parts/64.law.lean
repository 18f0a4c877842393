/-! ===== the law: the skeleton ===== -/
/-! THE CLAIM OUT OF ONE WALK OF THE LAW'S BODY. Your part is whole_start (and what it stands on); all else here is the same for every law, but numbers. -/
def R_law : String := "WindLawyerLaw"
def lw_P (b : Addr) (xs : List Int32) (args : Array Value) (s : State) : Prop := args = #[.ref b] ∧ s.IntsAt b xs ∧ xs.length ≤ 3072 ∧ (Jvm.Cond.and given_1 narrow_1).before args s = true
def lw_Q (_ : Array Value) (s : State) (o : Outcome) (t : State) : Prop := o = .returned (some (.int 1)) ∧ Framed s o t [] 600000 7302250
def lw_Z (below : List Frame) (a : Array Value) (s : State) : State → Prop := fun t => ∃ o, t.status = .running ∧ Ended t below o ∧ lw_Q a s o t
/-- the law's own end, with 1 on the stack, nothing written that was there before, its room as the claim has it -/
theorem lw_ret {p : Program} {l : Launch} {e : Env} {s : State} {m : MethodId} {below : List Frame} {meth : Method} {c : Code} {b : Nat} (hx : p.tables.exec = Jvm.exec) (hb : c.code = code) (hr : meth.sig.returnType = ret) (hlocks : meth.locks = false) {pc : Nat} {H : Heap} {ls : Array Slot} (hdg : decode code pc = .ok (.ireturn, 1)) : W p l e room_1 s m #[Value.ref b] below meth c H [] 600000 7302250 (lw_Z below #[Value.ref b] s) (F0 m pc ls [.int 1]) := by
  intro T hT X
  obtain ⟨fs, hret, hrun, hended, hW, hframe⟩ := X.leave (v := some (.int 1)) (hlocks := hlocks) (fun h => by rw [hr] at h; cases h)
  have hmeth' : T.vm.method? m = some meth := X.method'
  refine ⟨T.setFrames fs, ?_, .returned (some (.int 1)), hrun, hended, rfl, ⟨_, rfl⟩, hW, hframe⟩
  jvm_step X.here [X.here.top, hx, hb, hdg, hmeth', hr, ret, narrow_b1]
  (try refine ⟨rfl, ?_⟩); (try refine ⟨rfl, ?_⟩)
  first | (intro acts; rw [hret _ acts rfl rfl rfl]) | rw [hret _ _ rfl rfl rfl]
  exact Steps.refl _
/-- what holds at the law's entry: the machine, the code, the tables' words (any of lw_tbl by 'hts w (by decide +kernel)'), the script of L ints xs at the cell b, what the Statement gives of the start (any of its parts by flat_of_before) -/
def lw_At (p : Program) (s : State) (m : MethodId) (meth : Method) (c : Code) (b L : Nat) (xs : Nat → Int32) : Prop :=
  p.tables.exec = Jvm.exec ∧ c.code = code ∧ meth.sig.returnType = ret ∧ c.maxLocals = 4 ∧ s.vm.findClass R_law = some m.cls ∧ (∀ w ∈ lw_tbl, w.before #[Value.ref b] s = true) ∧ va_X b L xs s s.heap ∧ b < s.heap.size ∧ meth.locks = false ∧ (Jvm.Cond.and given_1 narrow_1).before #[Value.ref b] s = true
/-! ===== the law's own judgement: both worlds stand; from here the law comes to its end ===== -/
abbrev Ow : Type := (Program × Launch × Env × State × MethodId) × (List Frame × Method × Code) × (va_G × (Nat → Nat) × ClassId × ClassId) × (Nat × Nat × (Nat → Int32))
def Lx (o : Ow) (pc : Nat) (Lc : List (Option Value)) (st : List Value) (σx σm : SS) : Prop :=
  ∀ (ls : Array Slot) (H : Heap) (locs : List Loc), lh ls 4 o.2.2.1.2.1 Lc → va_P o.2.2.1.1 vwCl (wd 0 o.2.2.1.2.1 o.2.2.1.2.2.1 o.2.2.1.2.2.2 σx) H → va_P o.2.2.1.1 vwCl (wd 1 o.2.2.1.2.1 o.2.2.1.2.2.1 o.2.2.1.2.2.2 σm) H → va_S (fun q : Nat => o.1.2.2.2.1.heap.size ≤ q) o.1.2.2.2.1.heap H locs →
    W o.1.1 o.1.2.1 o.1.2.2.1 room_1 o.1.2.2.2.1 o.1.2.2.2.2 #[Value.ref o.2.2.2.1] o.2.1.1 o.2.1.2.1 o.2.1.2.2 H locs 91 3270 (lw_Z o.2.1.1 #[Value.ref o.2.2.2.1] o.1.2.2.2.1) (F0 o.1.2.2.2.2 pc ls (st.map (sv o.2.2.1.2.1)))
def Cw (o : Ow) : Prop :=
  o.1.1.tables.exec = Jvm.exec ∧ o.2.1.2.2.code = cL_law ∧ o.2.1.2.2.maxLocals = 4 ∧ o.1.2.2.2.1.vm.findClass RL = some o.1.2.2.2.2.cls ∧ (∀ x ∈ TB, x.before #[Value.ref o.2.2.2.1] o.1.2.2.2.1 = true) ∧ va_X o.2.2.2.1 o.2.2.2.2.1 o.2.2.2.2.2 o.1.2.2.2.1 o.1.2.2.2.1.heap ∧ o.2.2.2.1 < o.1.2.2.2.1.heap.size ∧
  (o.2.1.2.1.locks = false ∧ o.2.1.2.1.sig.returnType = ret) ∧ (Kn o.2.2.1.1 o.2.2.1.2.1 o.2.2.1.2.2.1 o.2.2.1.2.2.2 0 o.1.2.2.2.1 ∧ Wk o.2.2.1.2.1 0) ∧ (Kn o.2.2.1.1 o.2.2.1.2.1 o.2.2.1.2.2.1 o.2.2.1.2.2.2 1 o.1.2.2.2.1 ∧ Wk o.2.2.1.2.1 1) ∧
  (∀ d, d < 91 → o.1.2.2.2.1.heap.size ≤ o.2.2.1.2.1 d) ∧ (∀ q, Aw o.2.2.1.2.1 0 q → ¬ Aw o.2.2.1.2.1 1 q) ∧ o.2.2.1.2.1 200 = o.2.2.2.1 ∧ o.2.2.2.2.1 ≤ 3072
theorem aw_fr {α : Nat → Nat} {z : Nat} (h : ∀ d, d < 91 → z ≤ α d) {w : Nat} (hw : w = 0 ∨ w = 1) (q : Nat) (hq : Aw α w q) : z ≤ q := by
  obtain ⟨i, h1, rfl⟩ := hq
  rcases hw with rfl | rfl
  · exact h _ (show 0 + i < 91 by have : i < 78 := h1; omega)
  · exact h _ (show 78 + i < 91 by have : i < 13 := h1; omega)
theorem lw_call {p : Program} {l : Launch} {e : Env} {s : State} {m : MethodId} {below : List Frame} {meth : Method} {c : Code} {b : Nat} {D : va_G} {α : Nat → Nat} {cI cZ : ClassId} {w : Nat} {σ σ' : SS} {H : Heap} {locs : List Loc} {Q : State → Prop} {ls : Array Slot} {st : List Value} {pc idx ci d n : Nat} {y : MethodName} {cc2 : ByteArray} {nL2 fr lo : Nat} {rt2 : Option FieldType} {rv : Option Value}
    (hx : p.tables.exec = Jvm.exec) (hb : c.code = cL_law) (hml : c.maxLocals = 4) (hown : s.vm.findClass RL = some m.cls) (hts : ∀ x ∈ TB, x.before #[Value.ref b] s = true) (hKn : Kn D α cI cZ w s) (hWk : Wk α w) (hfr : ∀ q : Nat, Aw α w q → s.heap.size ≤ q)
    (M : MV RL idx ci y cc2 nL2 rt2 n) (hk : kd d = ci) (hkw : kw ci = w) (av : List Value) (hct : CT w y cc2 nL2 rt2 fr lo (.ref d :: av) σ rv σ') (hR2 : fr + 1 ≤ 10 ∧ 8 + (nL2 + 11) + lo ≤ 384) (hn : av.length = n) (hc8 : cs st ≤ 8) (hd : decode cL_law pc = .ok (.invokevirtual idx, 3))
    (hls : ls.size = 4) (hP : va_P D vwCl (wd w α cI cZ σ) H) (hS : va_S (fun q : Nat => s.heap.size ≤ q) s.heap H locs)
    (kk : ∀ (H1 : Heap) (locs1 : List Loc), va_P D vwCl (wd w α cI cZ σ') H1 → (∀ q : Nat, q < H.size → ¬ Aw α w q → H1[q]? = H[q]?) → va_S (fun q : Nat => s.heap.size ≤ q) s.heap H1 locs1 → W p l e room_1 s m #[Value.ref b] below meth c H1 locs1 91 3270 Q (F0 m (pc + 3) ls ((rv.toList ++ st).map (sv α)))) :
    W p l e room_1 s m #[Value.ref b] below meth c H locs 91 3270 Q (F0 m pc ls ((av.reverse ++ .ref d :: st).map (sv α))) := by
  obtain ⟨B, g1, g2, g3, ⟨T, N, g4⟩, g5⟩ := M
  have he := wd_get hWk.1 α cI cZ σ (c := d) (by rw [hk]; exact hkw)
  rw [el_obj α cI cZ σ hk g5] at he
  have hW8 : 2 * (F0 m pc ls ((av.reverse ++ .ref d :: st).map (sv α))).monitorRoom + ((st.map (sv α)).map fun v => v.category).sum ≤ 8 := by
    show 2 * 0 + _ ≤ 8
    rw [cs_sv]; omega
  have hr : va_Run p l e room_1 s m #[Value.ref b] below meth c H locs 91 3270 0 0 (F0 m pc ls ((av.reverse ++ .ref d :: st).map (sv α))) (st.map (sv α)) (Qcx D α cI cZ w rv σ' ((.ref d :: av).map (sv α)).toArray) (Aw α w) :=
    va_runV (C := y.cls) (As := av.map (sv α)) (rest := st.map (sv α)) ⟨hx, hb, hml, hown, hts⟩ (hct l D α cI cZ hWk)
      ⟨⟨rfl, rfl, hR2.1, hR2.2, pay_in hts (mb_in B), List.mem_cons_self, hts _ B.2.1, hts _ B.1, B.2.2.1, mb_len B, hts _ g1⟩, hts _ g2, hts _ g3⟩
      ⟨pc_blind, va_recv hKn.1 hP g4 he, fun U hU hW => by
        have : Pcx D α cI cZ w (.ref d :: av) σ (((.ref d :: av) : List Value).map (sv α)).toArray U := ⟨rfl, by rw [hU]; exact hP, hKn.call hW (fun q h1 _ => by rw [hU]; exact hS.2.1 q h1 (Nat.not_le.mpr h1))⟩
        simpa [sv] using this⟩ rfl (by rw [List.length_map]; exact hn) hls (by simp [sv]) hW8 hd ⟨Nat.le_of_ble_eq_true rfl, Nat.le_of_ble_eq_true rfl⟩
  intro T2 hT X
  obtain ⟨v, st₀, t, T', LL, h0, X', hL, e1, e2, ⟨hv, hp, hz, hk2⟩, stp⟩ := hr T2 hT X
  cases hv
  rw [h0] at hz hk2
  obtain ⟨t2, a1, b1⟩ := kk T'.heap (locs ++ LL) (by rw [e1]; exact hp) (fun q h1 h2 => by rw [e1]; exact hk2 q h1 h2) ⟨Nat.le_trans hS.1 (by rw [e1]; exact hz), fun q h1 h2 => by rw [e1, hk2 q (Nat.lt_of_lt_of_le h1 hS.1) (fun h => h2 (hfr q h))]; exact hS.2.1 q h1 h2, fun q hq => by
      rcases List.mem_append.mp hq with h | h
      · exact hS.2.2 q h
      · exact hfr _ (hL q h)⟩ T' rfl X'
  refine ⟨t2, stp t2 ?_, b1⟩
  cases rv with
  | none => exact a1
  | some v => exact a1
theorem W.incG {p : Program} {l : Launch} {e : Env} {R : Room} {s : State} {m : MethodId} {args : Array Value} {below : List Frame} {meth : Method} {c : Code} {H : Heap} {locs : List Loc} {nc ns : Nat} {Q : State → Prop} {ls ls' : Array Slot} {rest : List Value} {cc : ByteArray} {pc : Nat} (hexec : p.tables.exec = Jvm.exec) (hb : c.code = cc) {i : Nat} {n : Int} {x v : Int32} (hd : decode cc pc = .ok (.iinc i n, 3)) (hg : ls[i]? = some (.val (.int x))) (hv : x + Int32.ofInt n = v) (e' : storeLocals ls i (.int v) = some ls')
    (k : W p l e R s m args below meth c H locs nc ns Q (F0 m (pc + 3) ls' rest)) : W p l e R s m args below meth c H locs nc ns Q (F0 m pc ls rest) := by
  subst hv
  intro T hT X
  obtain ⟨t, a, b⟩ := k T hT X
  refine ⟨t, ?_, b⟩
  jvm_step X.here [X.here.top, ↓top_set X.here.top, hexec, hb, hd, hg, e']
  exact a
theorem W.aG {p : Program} {l : Launch} {e : Env} {R : Room} {s : State} {m : MethodId} {args : Array Value} {below : List Frame} {meth : Method} {c : Code} {H : Heap} {locs : List Loc} {nc ns : Nat} {Q : State → Prop} {ls ls' : Array Slot} {rest : List Value} {cc : ByteArray} {pc : Nat} (hexec : p.tables.exec = Jvm.exec) (hb : c.code = cc) {x : Nat} {k : Fin 4} (hs : storeLocals ls (k : Nat) (.ref x) = some ls')
    (hd : decode cc pc = .ok (.astore_n k, 1)) (kk : W p l e R s m args below meth c H locs nc ns Q (F0 m (pc + 1) ls' rest)) : W p l e R s m args below meth c H locs nc ns Q (F0 m pc ls (.ref x :: rest)) := by
  intro T hT X
  obtain ⟨t, a, b⟩ := kk T hT X
  refine ⟨t, ?_, b⟩
  jvm_step X.here [X.here.top, ↓top_set X.here.top, hexec, hb, hd, hs]
  first | exact a | exact ⟨rfl, a⟩
theorem W.iG {p : Program} {l : Launch} {e : Env} {R : Room} {s : State} {m : MethodId} {args : Array Value} {below : List Frame} {meth : Method} {c : Code} {H : Heap} {locs : List Loc} {nc ns : Nat} {Q : State → Prop} {ls ls' : Array Slot} {rest : List Value} {cc : ByteArray} {pc : Nat} (hexec : p.tables.exec = Jvm.exec) (hb : c.code = cc) {x : Int32} {k : Fin 4} (hs : storeLocals ls (k : Nat) (.int x) = some ls')
    (hd : decode cc pc = .ok (.istore_n k, 1)) (kk : W p l e R s m args below meth c H locs nc ns Q (F0 m (pc + 1) ls' rest)) : W p l e R s m args below meth c H locs nc ns Q (F0 m pc ls (.int x :: rest)) := by
  intro T hT X
  obtain ⟨t, a, b⟩ := kk T hT X
  refine ⟨t, ?_, b⟩
  jvm_step X.here [X.here.top, ↓top_set X.here.top, hexec, hb, hd, hs]
  first | exact a | exact ⟨rfl, a⟩
theorem z_astore {o : Oz} {own : String} {cc : ByteArray} {rm : Room} {pc nc ns : Nat} {L L2 : List (Option Value)} {st : List Value} {ws : va_W} (C : Cz o own cc rm) {k : Fin 4} {x : Nat} (hd : decode cc pc = .ok (.astore_n k, 1)) (hi : (k : Nat) < o.2.2.2.1) (hL : st1 L (k : Nat) (.ref x) = L2) (kk : Zx o (pc + 1) L2 st ws nc ns) : Zx o pc L (.ref x :: st) ws nc ns := by
  intro ls H locs h1 h2 h3 h4
  obtain ⟨ls', e1, e2⟩ := lh_st1 (v := .ref x) h1 hi rfl
  rw [hL] at e2
  exact W.aG C.1 C.2.1 e1 hd (kk ls' H locs e2 h2 h3 h4)
theorem z_istore {o : Oz} {own : String} {cc : ByteArray} {rm : Room} {pc nc ns : Nat} {L L2 : List (Option Value)} {st : List Value} {ws : va_W} (C : Cz o own cc rm) {k : Fin 4} {x : Int32} (hd : decode cc pc = .ok (.istore_n k, 1)) (hi : (k : Nat) < o.2.2.2.1) (hL : st1 L (k : Nat) (.int x) = L2) (kk : Zx o (pc + 1) L2 st ws nc ns) : Zx o pc L (.int x :: st) ws nc ns := by
  intro ls H locs h1 h2 h3 h4
  obtain ⟨ls', e1, e2⟩ := lh_st1 (v := .int x) h1 hi rfl
  rw [hL] at e2
  exact W.iG C.1 C.2.1 e1 hd (kk ls' H locs e2 h2 h3 h4)
section RW
variable {o : Ow} {pc : Nat} {Lc : List (Option Value)} {st : List Value} {σx σm : SS}
theorem l_callX (C : Cw o) {σ2 : SS} {idx ci d n : Nat} {y : MethodName} {cc2 : ByteArray} {nL2 fr lo : Nat} {rt2 : Option FieldType} {rv : Option Value} (M : MV RL idx ci y cc2 nL2 rt2 n) (hk : kd d = ci) (hkw : kw ci = 0) (av : List Value) (hct : CT 0 y cc2 nL2 rt2 fr lo (.ref d :: av) σx rv σ2) (hR2 : fr + 1 ≤ 10 ∧ 8 + (nL2 + 11) + lo ≤ 384) (hn : av.length = n) (hc8 : cs st ≤ 8) {st0 : List Value} (hst : st0 = av.reverse ++ .ref d :: st) (hd : decode cL_law pc = .ok (.invokevirtual idx, 3)) (kk : Lx o (pc + 3) Lc (rv.toList ++ st) σ2 σm) : Lx o pc Lc st0 σx σm := by
  subst hst
  intro ls H locs hl hP0 hP1 hS
  obtain ⟨⟨p, l, e, s, m⟩, ⟨below, meth, c⟩, ⟨D, α, cI, cZ⟩, b, L, xs⟩ := o
  obtain ⟨h1, h2, h3, h4, h5, h6, h7, h8, ⟨k0, w0⟩, ⟨k1, w1⟩, hf, hj, h9, h10⟩ := C
  dsimp only at h1 h2 h3 h4 h5 h6 h7 h8 k0 w0 k1 w1 hf hj h9 h10
  exact lw_call h1 h2 h3 h4 h5 k0 w0 (aw_fr hf (Or.inl rfl)) M hk hkw av hct hR2 hn hc8 hd hl.1 hP0 hS (fun H1 locs1 g0 gk gS => kk ls H1 locs1 hl g0 (hP1.kept (fun k q hq => gk q.1 (hP1 k q hq).lt (fun h => hj q.1 h ((wd_D w1 cI cZ σm).2 k q hq)))) gS)
theorem l_callM (C : Cw o) {σ2 : SS} {idx ci d n : Nat} {y : MethodName} {cc2 : ByteArray} {nL2 fr lo : Nat} {rt2 : Option FieldType} {rv : Option Value} (M : MV RL idx ci y cc2 nL2 rt2 n) (hk : kd d = ci) (hkw : kw ci = 1) (av : List Value) (hct : CT 1 y cc2 nL2 rt2 fr lo (.ref d :: av) σm rv σ2) (hR2 : fr + 1 ≤ 10 ∧ 8 + (nL2 + 11) + lo ≤ 384) (hn : av.length = n) (hc8 : cs st ≤ 8) {st0 : List Value} (hst : st0 = av.reverse ++ .ref d :: st) (hd : decode cL_law pc = .ok (.invokevirtual idx, 3)) (kk : Lx o (pc + 3) Lc (rv.toList ++ st) σx σ2) : Lx o pc Lc st0 σx σm := by
  subst hst
  intro ls H locs hl hP0 hP1 hS
  obtain ⟨⟨p, l, e, s, m⟩, ⟨below, meth, c⟩, ⟨D, α, cI, cZ⟩, b, L, xs⟩ := o
  obtain ⟨h1, h2, h3, h4, h5, h6, h7, h8, ⟨k0, w0⟩, ⟨k1, w1⟩, hf, hj, h9, h10⟩ := C
  dsimp only at h1 h2 h3 h4 h5 h6 h7 h8 k0 w0 k1 w1 hf hj h9 h10
  exact lw_call h1 h2 h3 h4 h5 k1 w1 (aw_fr hf (Or.inr rfl)) M hk hkw av hct hR2 hn hc8 hd hl.1 hP1 hS (fun H1 locs1 g0 gk gS => kk ls H1 locs1 hl (hP0.kept (fun k q hq => gk q.1 (hP0 k q hq).lt (fun h => hj q.1 ((wd_D w0 cI cZ σx).2 k q hq) h))) g0 gS)
theorem l_aload (C : Cw o) {k : Fin 4} {i x : Nat} (hd : decode cL_law pc = .ok (.aload_n k, 1)) (hi : (k : Nat) = i) (hl : Lc[i]? = some (some (.ref x))) (kk : Lx o (pc + 1) Lc (.ref x :: st) σx σm) : Lx o pc Lc st σx σm :=
  fun ls H locs h1 h2 h3 h4 => lv_aload_n C.1 C.2.1 hd hi (lh_at h1 hl) (kk ls H locs h1 h2 h3 h4)
theorem l_iload (C : Cw o) {k : Fin 4} {i : Nat} {x : Int32} (hd : decode cL_law pc = .ok (.iload_n k, 1)) (hi : (k : Nat) = i) (hl : Lc[i]? = some (some (.int x))) (kk : Lx o (pc + 1) Lc (.int x :: st) σx σm) : Lx o pc Lc st σx σm :=
  fun ls H locs h1 h2 h3 h4 => lv_iload_n C.1 C.2.1 hd hi (lh_at h1 hl) (kk ls H locs h1 h2 h3 h4)
theorem l_iconst (C : Cw o) {n : Int} {v : Int32} (hd : decode cL_law pc = .ok (.iconst n, 1)) (hv : Int32.ofInt n = v) (kk : Lx o (pc + 1) Lc (.int v :: st) σx σm) : Lx o pc Lc st σx σm :=
  fun ls H locs h1 h2 h3 h4 => lv_iconst C.1 C.2.1 hd hv (kk ls H locs h1 h2 h3 h4)
theorem l_bipush (C : Cw o) {n : Int} {v : Int32} (hd : decode cL_law pc = .ok (.bipush n, 2)) (hv : (Int8.ofInt n).toInt32 = v) (kk : Lx o (pc + 2) Lc (.int v :: st) σx σm) : Lx o pc Lc st σx σm :=
  fun ls H locs h1 h2 h3 h4 => lv_bipush C.1 C.2.1 hd hv (kk ls H locs h1 h2 h3 h4)
theorem l_iadd (C : Cw o) {x y : Int32} (hd : decode cL_law pc = .ok (.iadd, 1)) (kk : Lx o (pc + 1) Lc (.int (x + y) :: st) σx σm) : Lx o pc Lc (.int y :: .int x :: st) σx σm :=
  fun ls H locs h1 h2 h3 h4 => lv_iadd C.1 C.2.1 hd (kk ls H locs h1 h2 h3 h4)
theorem l_isub (C : Cw o) {x y : Int32} (hd : decode cL_law pc = .ok (.isub, 1)) (kk : Lx o (pc + 1) Lc (.int (x - y) :: st) σx σm) : Lx o pc Lc (.int y :: .int x :: st) σx σm :=
  fun ls H locs h1 h2 h3 h4 => lv_isub C.1 C.2.1 hd (kk ls H locs h1 h2 h3 h4)
theorem l_iand (C : Cw o) {x y : Int32} (hd : decode cL_law pc = .ok (.iand, 1)) (kk : Lx o (pc + 1) Lc (.int (x &&& y) :: st) σx σm) : Lx o pc Lc (.int y :: .int x :: st) σx σm :=
  fun ls H locs h1 h2 h3 h4 => lv_iand C.1 C.2.1 hd (kk ls H locs h1 h2 h3 h4)
theorem l_lcmp (C : Cw o) {x y : Int64} (hd : decode cL_law pc = .ok (.lcmp, 1)) (kk : Lx o (pc + 1) Lc (.int (lg_cmp x y) :: st) σx σm) : Lx o pc Lc (.long y :: .long x :: st) σx σm :=
  fun ls H locs h1 h2 h3 h4 => W.lcmp C.1 C.2.1 hd (kk ls H locs h1 h2 h3 h4)
theorem l_len (C : Cw o) (hd : decode cL_law pc = .ok (.arraylength, 1)) (kk : Lx o (pc + 1) Lc (.int (nI o.2.2.2.2.1) :: st) σx σm) : Lx o pc Lc (.ref 200 :: st) σx σm := by
  intro ls H locs h1 h2 h3 h4
  have h9 : sv o.2.2.1.2.1 (.ref 200) = .ref o.2.2.2.1 := by show Value.ref (o.2.2.1.2.1 200) = _; rw [C.2.2.2.2.2.2.2.2.2.2.2.2.1]
  rw [List.map_cons, h9]
  exact va_slen C.1 C.2.1 C.2.2.2.2.2.1 C.2.2.2.2.2.2.1 (Nat.not_le.mpr C.2.2.2.2.2.2.1) h4 hd (kk ls H locs h1 h2 h3 h4)
theorem l_sld (C : Cw o) {j : Nat} (hj : j < o.2.2.2.2.1) (hd : decode cL_law pc = .ok (.iaload, 1)) (kk : Lx o (pc + 1) Lc (.int (o.2.2.2.2.2 j) :: st) σx σm) : Lx o pc Lc (.int (nI j) :: .ref 200 :: st) σx σm := by
  intro ls H locs h1 h2 h3 h4
  have h9 : sv o.2.2.1.2.1 (.ref 200) = .ref o.2.2.2.1 := by show Value.ref (o.2.2.1.2.1 200) = _; rw [C.2.2.2.2.2.2.2.2.2.2.2.2.1]
  have hL : o.2.2.2.2.1 ≤ 3072 := C.2.2.2.2.2.2.2.2.2.2.2.2.2
  rw [List.map_cons, List.map_cons, h9]
  refine va_sld C.1 C.2.1 C.2.2.2.2.2.1 C.2.2.2.2.2.2.1 (Nat.not_le.mpr C.2.2.2.2.2.2.1) h4 (vp_in_nI hj (by omega)) hd ?_
  rw [ix_n (by omega)]
  exact kk ls H locs h1 h2 h3 h4
theorem l_eq (C : Cw o) {x : Int32} {off : Int} {tgt : Nat} (hd : decode cL_law pc = .ok (.if_icmp .eq off, 3)) (ht : (pc : Int) + off = (tgt : Int)) (kk : Lx o tgt Lc st σx σm) : Lx o pc Lc (.int x :: .int x :: st) σx σm :=
  fun ls H locs h1 h2 h3 h4 => lv_icmp_eq C.1 C.2.1 hd ht (fun _ => kk ls H locs h1 h2 h3 h4) (fun h => absurd rfl h)
theorem l_gt (C : Cw o) {x y : Int32} {off : Int} {tgt : Nat} (hd : decode cL_law pc = .ok (.if_icmp .gt off, 3)) (ht : (pc : Int) + off = (tgt : Int)) (kt : y < x → Lx o tgt Lc st σx σm) (kf : ¬ y < x → Lx o (pc + 3) Lc st σx σm) : Lx o pc Lc (.int y :: .int x :: st) σx σm :=
  fun ls H locs h1 h2 h3 h4 => lv_icmp_gt C.1 C.2.1 hd ht (fun h => kt h ls H locs h1 h2 h3 h4) (fun h => kf h ls H locs h1 h2 h3 h4)
theorem l_goto (C : Cw o) {off : Int} {tgt : Nat} (hd : decode cL_law pc = .ok (.goto off, 3)) (ht : (pc : Int) + off = (tgt : Int)) (kk : Lx o tgt Lc st σx σm) : Lx o pc Lc st σx σm :=
  fun ls H locs h1 h2 h3 h4 => lv_goto C.1 C.2.1 hd ht (kk ls H locs h1 h2 h3 h4)
theorem l_iinc (C : Cw o) {i : Nat} {n : Int} {x y : Int32} {L2 : List (Option Value)} (hd : decode cL_law pc = .ok (.iinc i n, 3)) (hx : Lc[i]? = some (some (.int x))) (hv : x + Int32.ofInt n = y) (hi : i < 4) (hL : st1 Lc i (.int y) = L2) (kk : Lx o (pc + 3) L2 st σx σm) : Lx o pc Lc st σx σm := by
  intro ls H locs h1 h2 h3 h4
  obtain ⟨ls', e1, e2⟩ := lh_st1 (v := .int y) h1 hi rfl
  rw [hL] at e2
  exact W.incG C.1 C.2.1 hd (lh_at h1 hx) hv e1 (kk ls' H locs e2 h2 h3 h4)
theorem l_true (C : Cw o) (hd : decode cL_law pc = .ok (.ireturn, 1)) : Lx o pc Lc [.int 1] σx σm := by
  intro ls H locs h1 h2 h3 h4
  refine va_forget (fun q hq => h4.2.2 q hq) ?_
  refine W.widen (k := 600000) (n := 7302250) (Nat.le_of_ble_eq_true rfl) (Nat.le_of_ble_eq_true rfl) ?_
  exact lw_ret C.1 C.2.1 C.2.2.2.2.2.2.2.1.2 C.2.2.2.2.2.2.2.1.1 hd
/-- the law's locals, with i ints read -/
def LC (i : Nat) : List (Option Value) := [some (.ref 200), some (.ref 0), some (.ref 78), some (.int (nI i))]
theorem l_arg (C : Cw o) {i k : Nat} {kz : Int} (d1 : decode cL_law pc = .ok (.aload_n 0, 1)) (d2 : decode cL_law (pc + 1) = .ok (.iload_n 3, 1)) (d3 : decode cL_law (pc + 1 + 1) = .ok (.iconst kz, 1)) (d4 : decode cL_law (pc + 1 + 1 + 1) = .ok (.iadd, 1)) (d5 : decode cL_law (pc + 1 + 1 + 1 + 1) = .ok (.iaload, 1)) (hk : Int32.ofInt kz = nI k) (hk6 : k < 6) (hi : i + 6 ≤ o.2.2.2.2.1)
    (kk : Lx o (pc + 1 + 1 + 1 + 1 + 1) (LC i) (.int (o.2.2.2.2.2 (i + k)) :: st) σx σm) : Lx o pc (LC i) st σx σm := by
  refine l_aload C d1 rfl rfl ?_
  refine l_iload C d2 rfl rfl ?_
  refine l_iconst C d3 hk ?_
  refine l_iadd C d4 ?_
  rw [nI_addn]
  exact l_sld C (by omega) d5 kk
end RW
