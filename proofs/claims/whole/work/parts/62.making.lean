/-! ===== constructors: from here the constructor comes to its end, its world being ws ===== -/
abbrev Oz : Type := (Program × Launch × Env × Room × State × MethodId) × (Array Value × List Frame × Method × Code) × (va_G × ClassId × ClassId × (Nat → Prop)) × (Nat × (State → Prop))
def Zx (o : Oz) (pc : Nat) (L : List (Option Value)) (st : List Value) (ws : va_W) (nc ns : Nat) : Prop :=
  ∀ (ls : Array Slot) (H : Heap) (locs : List Loc), lh ls o.2.2.2.1 id L → va_P o.2.2.1.1 vwCl ws H → va_D o.2.2.1.2.2.2 ws → va_S o.2.2.1.2.2.2 o.1.2.2.2.2.1.heap H locs →
    W o.1.1 o.1.2.1 o.1.2.2.1 o.1.2.2.2.1 o.1.2.2.2.2.1 o.1.2.2.2.2.2 o.2.1.1 o.2.1.2.1 o.2.1.2.2.1 o.2.1.2.2.2 H locs nc ns o.2.2.2.2 (F0 o.1.2.2.2.2.2 pc ls st)
def Kz (D : va_G) (cI cZ : ClassId) (U : State) : Prop := va_K D vwCl [(cI, .int), (cZ, .boolean)] U ∧ ∀ q ∈ nests, va_Nw (.methodLinkNest q.1 q.2.1 q.2.2 "WindLawyer") U
theorem Kz.call {D : va_G} {cI cZ : ClassId} {s U : State} (h : Kz D cI cZ s) (hW : s.WarmedH U.vm) : Kz D cI cZ U := ⟨va_K.moved hW.alike h.1, fun q hn => va_Nw.warmM hW (h.2 q hn)⟩
theorem Kz.blind {D : va_G} {cI cZ : ClassId} {U V : State} (h : Kz D cI cZ U) (hv : V.vm = U.vm) : Kz D cI cZ V := by
  have m : U.vm.Alike V.vm := by rw [hv]; exact Vm.Alike.refl _
  exact ⟨va_K.moved m h.1, fun q hn => va_Nw.same rfl hv.symm (h.2 q hn)⟩
def Cz (o : Oz) (own : String) (cc : ByteArray) (rm : Room) : Prop :=
  o.1.1.tables.exec = Jvm.exec ∧ o.2.1.2.2.2.code = cc ∧ o.2.1.2.2.2.maxLocals = o.2.2.2.1 ∧ o.1.2.2.2.2.1.vm.findClass own = some o.1.2.2.2.2.2.cls ∧ (∀ x ∈ TB, x.before o.2.1.1 o.1.2.2.2.2.1 = true) ∧
  o.1.2.2.2.1 = rm ∧ Kz o.2.2.1.1 o.2.2.1.2.1 o.2.2.1.2.2.1 o.1.2.2.2.2.1 ∧ ∀ q : Nat, o.1.2.2.2.2.1.heap.size ≤ q → o.2.2.1.2.2.2 q
def rmz (fr lo mc ms : Nat) : Room := { frames := fr, cells := mc, slots := ms, locals := lo }
/-- a constructor's contract: out of one object with its first fields come the cells ww -/
def KN (y : MethodName) (cc : ByteArray) (nL fr lo mc ms ci : Nat) (fs0 : List Value) (ww : ClassId → ClassId → Nat → (Nat → Nat) → va_W) (av : List Value) : Prop :=
  ∀ (l : Launch) (D : va_G) (cI cZ : ClassId) (h0 sz : Nat), Met l y (wsU y cc nL none) (rmz fr lo mc ms) (va_Pc (.ref h0 :: av) (fun U => U.heap.size = sz ∧ va_P D vwCl [(h0, .inr (ci, fs0))] U.heap ∧ Kz D cI cZ U))
    (va_Qv (fun _ : Nat → Nat => True) (fun u t => va_P D vwCl (ww cI cZ h0 u) t.heap ∧ va_D (va_A [(h0, .inr (ci, fs0))] sz) (ww cI cZ h0 u)) (va_A [(h0, .inr (ci, fs0))] sz)) mc ms (va_A [(h0, .inr (ci, fs0))] sz)
theorem va_D1 {A : Nat → Prop} {q : Nat} {e : va_E} (h : A q) : va_D A [(q, e)] := by
  have key : ∀ (k : Nat) (x : Nat × va_E), ([(q, e)] : va_W)[k]? = some x → k = 0 ∧ x = (q, e) := by
    intro k x hk
    cases k with
    | zero => cases hk; exact ⟨rfl, rfl⟩
    | succ k => simp at hk
  refine ⟨fun i j x y hi hj _ => ?_, fun k x hk => ?_⟩
  · rw [(key i x hi).1, (key j y hj).1]
  · rw [(key k x hk).2]; exact h
/-- the cells that a constructor made, beside the others -/
theorem vj {A0 : Nat → Prop} {D : va_G} {ws w1 : va_W} {q0 : Nat} {e : va_E} {H H1 : Heap} (hP : va_P D vwCl (ws ++ [(q0, e)]) H) (hD : va_D A0 (ws ++ [(q0, e)])) (hk : ∀ x : Nat, x < H.size → ¬ va_A [(q0, e)] H.size x → H1[x]? = H[x]?) (hF : ∀ x, va_A [(q0, e)] H.size x → A0 x) (hP1 : va_P D vwCl w1 H1) (hD1 : va_D (va_A [(q0, e)] H.size) w1) : va_P D vwCl (ws ++ w1) H1 ∧ va_D A0 (ws ++ w1) := by
  have hw : ∀ (k : Nat) (q : Nat × va_E), ws[k]? = some q → (ws ++ [(q0, e)])[k]? = some q := fun k q hk => by
    rw [List.getElem?_append_left (List.getElem?_eq_some_iff.mp hk).1]; exact hk
  have hl : (ws ++ [(q0, e)])[ws.length]? = some (q0, e) := by
    rw [List.getElem?_append_right (Nat.le_refl _), Nat.sub_self]; rfl
  have hnot : ∀ (k : Nat) (q : Nat × va_E), ws[k]? = some q → q.1 < H.size ∧ ¬ va_A [(q0, e)] H.size q.1 := by
    intro k q hq
    have hlt : q.1 < H.size := (hP k q (hw k q hq)).lt
    refine ⟨hlt, fun hA => ?_⟩
    rcases hA with ⟨k2, e2, h2⟩ | h2
    · cases k2 with
      | zero =>
        have e3 : (q0, e) = (q.1, e2) := Option.some.inj h2
        have := hD.1 k ws.length q (q0, e) (hw k q hq) hl (Prod.mk.inj e3).1.symm
        have := (List.getElem?_eq_some_iff.mp hq).1
        omega
      | succ k2 => simp at h2
    · omega
  have hPr : va_P D vwCl ws H := fun k q hq => hP k q (hw k q hq)
  have hDr : va_D A0 ws := ⟨fun i j x y hi hj hxy => hD.1 i j x y (hw i x hi) (hw j y hj) hxy, fun k q hq => hD.2 k q (hw k q hq)⟩
  refine ⟨(hPr.kept (fun k q hq => hk q.1 (hnot k q hq).1 (hnot k q hq).2)).app hP1, hDr.app (hD1.weaken (fun k q hq h => hF q.1 h)) (fun i j x y hi hj hxy => ?_)⟩
  exact (hnot i x hi).2 (hxy ▸ hD1.2 j y hj)
theorem cn_of {y : MethodName} {cc : ByteArray} {nL fr lo mc ms ci : Nat} {fs0 : List Value} {ww : ClassId → ClassId → Nat → (Nat → Nat) → va_W} {av : List Value} (hy : plainName y.cls = true) (hyn : y.name = "<init>") (L0 : Nat → List (Option Value)) (hL : ∀ h0 : Nat, ∃ ls : Array Slot, (∀ m, entryFrame m (.ref h0 :: av).toArray nL = F0 m 0 ls []) ∧ lh ls nL id (L0 h0))
    (body : ∀ (o : Oz) (h0 : Nat), Cz o y.cls cc (rmz fr lo mc ms) → o.2.1.2.2.1.name = "<init>" → (∀ (pc : Nat) (L : List (Option Value)) (u : Nat → Nat) (nc ns : Nat), nc ≤ mc → ns ≤ ms → decode cc pc = .ok (.return_, 1) → Zx o pc L [] (ww o.2.2.1.2.1 o.2.2.1.2.2.1 h0 u) nc ns) → Zx o 0 (L0 h0) [] [(h0, .inr (ci, fs0))] 0 0) : KN y cc nL fr lo mc ms ci fs0 ww av := by
  intro l D cI cZ h0 sz
  refine Met.ofW (cc := cc) (maxL := nL) (ret := none) hy rfl ?_
  intro p e s m args below meth c s₁ B hml hv
  obtain ⟨rfl, hsz, hP, hKz⟩ := hv
  subst hsz
  have hts := atoms_spec (ws := wsU y cc nL none) B.pre
  obtain ⟨ls, e1, e2⟩ := hL h0
  rw [e1 m]
  have C : Cz ((p, l, e, rmz fr lo mc ms, s, m), ((.ref h0 :: av).toArray, below, meth, c), (D, cI, cZ, va_A [(h0, .inr (ci, fs0))] s.heap.size), (nL, MQ below (va_Qv (fun _ : Nat → Nat => True) (fun u t => va_P D vwCl (ww cI cZ h0 u) t.heap ∧ va_D (va_A [(h0, .inr (ci, fs0))] s.heap.size) (ww cI cZ h0 u)) (va_A [(h0, .inr (ci, fs0))] s.heap.size)) (.ref h0 :: av).toArray s mc ms (va_A [(h0, .inr (ci, fs0))] s.heap.size))) y.cls cc (rmz fr lo mc ms) :=
    ⟨B.exec, B.bytes, hml, findClass_of_methodNamed B.named, fun x hx => hts x (List.mem_cons_of_mem _ hx), rfl, hKz, fun q hq => Or.inr hq⟩
  refine body _ h0 C ((name_of_methodNamed B.named B.method).1.trans hyn) (fun pc L u nc ns h1 h2 hd ls H locs hl hP2 hD2 hS2 => ?_) ls s.heap [] e2 hP (va_D1 (Or.inl ⟨0, _, rfl⟩)) va_S.rf
  refine W.widen h1 h2 ?_
  exact W.vret B.exec B.bytes B.returns (fun t ht hW => ⟨⟨u, rfl, trivial, by rw [ht]; exact hP2, hD2⟩, hS2.F ht⟩) hS2.2.2 hd B.notSynchronized
/-- fields, classes and constructors that are named -/
def FZ (own : String) (idx ci k : Nat) (ty : FieldType) : Prop := ∃ (T : u_T) (N : Nat) (ty0 : Nat → FieldType), vwCl[ci]? = some (own, T, N) ∧ (∀ x ∈ u_ws own T N, x ∈ TB) ∧ k < N ∧ Cond.fieldLink own idx own (T k).2.1 (T k).2.2.1 ∈ TB ∧ (T k).1 = own ∧
  (∀ k, k < N → parseFieldDescriptor (T k).2.2.1 = some (ty0 k)) ∧ (∀ a, a < N → ∀ b, b < N → a ≠ b → (T a).2.1 ≠ (T b).2.1) ∧ parseFieldDescriptor (T k).2.2.1 = some ty
def NZ (own : String) (idx ci N : Nat) (fs : List Value) : Prop := ∃ (K : String) (T : u_T) (ty0 : Nat → FieldType), vwCl[ci]? = some (K, T, N) ∧ (∀ x ∈ u_ws K T N, x ∈ TB) ∧ Cond.classLink own idx K ∈ TB ∧ Cond.instantiable K N ∈ TB ∧ Cond.initialized K ∈ TB ∧
  (∀ k, k < N → parseFieldDescriptor (T k).2.2.1 = some (ty0 k)) ∧ ∀ j, j < N → defaultValue (ty0 j) = vp_V fs j
def BZ (own : String) (idx : Nat) (y : MethodName) (cc : ByteArray) (nL n : Nat) : Prop := MB y cc nL none n ∧ (Cond.methodLink own idx y ∈ TB ∨ (own, idx, y) ∈ nests) ∧ Cond.instanceMethod y ∈ TB ∧ y.name = "<init>"
section RZ
variable {o : Oz} {own : String} {cc : ByteArray} {rm : Room} {pc nc ns : Nat} {L : List (Option Value)} {st : List Value} {ws : va_W}
theorem z_aload (C : Cz o own cc rm) {k : Fin 4} {i x : Nat} (hd : decode cc pc = .ok (.aload_n k, 1)) (hi : (k : Nat) = i) (hl : L[i]? = some (some (.ref x))) (kk : Zx o (pc + 1) L (.ref x :: st) ws nc ns) : Zx o pc L st ws nc ns :=
  fun ls H locs h1 h2 h3 h4 => lv_aload_n C.1 C.2.1 hd hi (lh_at h1 hl) (kk ls H locs h1 h2 h3 h4)
theorem z_iload (C : Cz o own cc rm) {k : Fin 4} {i : Nat} {x : Int32} (hd : decode cc pc = .ok (.iload_n k, 1)) (hi : (k : Nat) = i) (hl : L[i]? = some (some (.int x))) (kk : Zx o (pc + 1) L (.int x :: st) ws nc ns) : Zx o pc L st ws nc ns :=
  fun ls H locs h1 h2 h3 h4 => lv_iload_n C.1 C.2.1 hd hi (lh_at h1 hl) (kk ls H locs h1 h2 h3 h4)
theorem z_iconst (C : Cz o own cc rm) {n : Int} {v : Int32} (hd : decode cc pc = .ok (.iconst n, 1)) (hv : Int32.ofInt n = v) (kk : Zx o (pc + 1) L (.int v :: st) ws nc ns) : Zx o pc L st ws nc ns :=
  fun ls H locs h1 h2 h3 h4 => lv_iconst C.1 C.2.1 hd hv (kk ls H locs h1 h2 h3 h4)
theorem z_bipush (C : Cz o own cc rm) {n : Int} {v : Int32} (hd : decode cc pc = .ok (.bipush n, 2)) (hv : (Int8.ofInt n).toInt32 = v) (kk : Zx o (pc + 2) L (.int v :: st) ws nc ns) : Zx o pc L st ws nc ns :=
  fun ls H locs h1 h2 h3 h4 => lv_bipush C.1 C.2.1 hd hv (kk ls H locs h1 h2 h3 h4)
theorem z_sipush (C : Cz o own cc rm) {n : Int} {v : Int32} (hd : decode cc pc = .ok (.sipush n, 3)) (hv : (Int16.ofInt n).toInt32 = v) (kk : Zx o (pc + 3) L (.int v :: st) ws nc ns) : Zx o pc L st ws nc ns :=
  fun ls H locs h1 h2 h3 h4 => lv_sipush C.1 C.2.1 hd hv (kk ls H locs h1 h2 h3 h4)
theorem z_lconst (C : Cz o own cc rm) {n : Fin 2} {v : Int64} (hd : decode cc pc = .ok (.lconst n, 1)) (hv : Int64.ofNat (n : Nat) = v) (kk : Zx o (pc + 1) L (.long v :: st) ws nc ns) : Zx o pc L st ws nc ns :=
  fun ls H locs h1 h2 h3 h4 => lv_lconst C.1 C.2.1 hd hv (kk ls H locs h1 h2 h3 h4)
theorem z_dup (C : Cz o own cc rm) {x : Nat} (hd : decode cc pc = .ok (.dup, 1)) (kk : Zx o (pc + 1) L (.ref x :: .ref x :: st) ws nc ns) : Zx o pc L (.ref x :: st) ws nc ns :=
  fun ls H locs h1 h2 h3 h4 => lv_dup C.1 C.2.1 hd rfl (kk ls H locs h1 h2 h3 h4)
theorem z_imul (C : Cz o own cc rm) {x y : Int32} (hd : decode cc pc = .ok (.imul, 1)) (kk : Zx o (pc + 1) L (.int (x * y) :: st) ws nc ns) : Zx o pc L (.int y :: .int x :: st) ws nc ns :=
  fun ls H locs h1 h2 h3 h4 => lv_imul C.1 C.2.1 hd (kk ls H locs h1 h2 h3 h4)
theorem z_obj (C : Cz o own cc rm) {idx x : Nat} (hd : decode cc pc = .ok (.invokespecial idx, 3)) (hw : Cond.methodLink own idx Lib.objectInit ∈ TB) (hf : 1 ≤ rm.frames ∧ 12 ≤ rm.locals) (h1 : Cond.instanceMethod Lib.objectInit ∈ TB) (h2 : Cond.code Lib.objectInit ⟨#[0xb1]⟩ 1 none ∈ TB) (kk : Zx o (pc + 3) L [] ws nc ns) : Zx o pc L [.ref x] ws nc ns := by
  intro ls H locs hl hP hD hS
  obtain ⟨⟨p, l, e, R, s, m⟩, ⟨args, below, meth, c0⟩, ⟨D, cI, cZ, A⟩, nL, Q⟩ := o
  obtain ⟨hx, hb, hml, hown, hts, hR, hKz, hA⟩ := C
  dsimp only at hx hb hml hown hts hR hKz hA
  subst hR
  refine W.objInit hx hb hown (hts _ hw) (hts _ h1) (hts _ h2) rfl (by rw [hml]; exact hl.1) rfl hd hf.1 ?_ ?_
  · show 2 * 0 + 0 + 12 ≤ _
    exact hf.2
  · exact W.eq (g2 := F0 m (pc + 3) ls []) rfl (kk ls H locs hl hP hD hS)
theorem z_new (C : Cz o own cc rm) {idx ci N : Nat} {fs : List Value} (M : NZ own idx ci N fs) (hd : decode cc pc = .ok (.new idx, 3)) (hc : nc + 1 ≤ rm.cells ∧ ns + N ≤ rm.slots) (kk : ∀ q : Nat, Zx o (pc + 3) L (.ref q :: st) (ws ++ [(q, .inr (ci, fs))]) (nc + 1) (ns + N)) : Zx o pc L st ws nc ns := by
  intro ls H locs hl hP hD hS
  obtain ⟨⟨p, l, e, R, s, m⟩, ⟨args, below, meth, c0⟩, ⟨D, cI, cZ, A⟩, nL, Q⟩ := o
  obtain ⟨hx, hb, hml, hown, hts, hR, hKz, hA⟩ := C
  dsimp only at hx hb hml hown hts hR hKz hA
  subst hR
  obtain ⟨K, T, ty0, g1, g2, g3, g4, g5, g6, g7⟩ := M
  exact va_new (D := D) (ci := ci) (fs := fs) hx hb hts g2 ty0 g6 hown (hts _ g3) (hts _ g4) (hts _ g5) hKz.1 hP hD hS hA g1 g7 hc.1 hc.2 hd (fun q H1 hP1 hD1 hS1 => kk q ls H1 locs hl hP1 hD1 hS1)
theorem z_newI (C : Cz o own cc rm) {n : Int32} {N : Nat} (hw : Cond.arrayClass .int ∈ TB) (hd : decode cc pc = .ok (.newarray .int, 2)) (hn : ¬ n < 0) (hN : n.toNatClampNeg = N) (hb9 : N ≤ 1000) (hc : nc + 1 ≤ rm.cells ∧ ns + N ≤ rm.slots) (kk : ∀ q : Nat, Zx o (pc + 2) L (.ref q :: st) (ws ++ [(q, .inl (o.2.2.1.2.1, N, .inl (fun _ => 0)))]) (nc + 1) (ns + N)) : Zx o pc L (.int n :: st) ws nc ns := by
  intro ls H locs hl hP hD hS
  obtain ⟨⟨p, l, e, R, s, m⟩, ⟨args, below, meth, c0⟩, ⟨D, cI, cZ, A⟩, nL, Q⟩ := o
  obtain ⟨hx, hb, hml, hown, hts, hR, hKz, hA⟩ := C
  dsimp only at hx hb hml hown hts hR hKz hA kk
  subst hR
  refine va_newa (D := D) (atype := .int) (ty := .int) (a0 := (N, .inl (fun _ => 0))) hx hb (hts _ hw) rfl hKz.1 hP hD hS hA (fun _ => rfl) hn hN ?_ hc.1 hc.2 hd (fun q cA H1 hK1 hP1 hD1 hS1 => ?_)
  · show N * 4 ≤ 536870912
    omega
  · have e1 : s.vm.findClass "[I" = some cA := va_nm_int (hK1.2 2 (cA, .int) rfl).2
    have e2 : s.vm.findClass "[I" = some cI := va_nm_int (hKz.1.2 0 (cI, .int) rfl).2
    have e3 : cA = cI := Option.some.inj (e1.symm.trans e2)
    subst e3
    exact kk q ls H1 locs hl hP1 hD1 hS1
theorem z_newZ (C : Cz o own cc rm) {n : Int32} {N : Nat} (hw : Cond.arrayClass .boolean ∈ TB) (hd : decode cc pc = .ok (.newarray .boolean, 2)) (hn : ¬ n < 0) (hN : n.toNatClampNeg = N) (hb9 : N ≤ 1000) (hc : nc + 1 ≤ rm.cells ∧ ns + N ≤ rm.slots) (kk : ∀ q : Nat, Zx o (pc + 2) L (.ref q :: st) (ws ++ [(q, .inl (o.2.2.1.2.2.1, N, .inl (fun _ => 0)))]) (nc + 1) (ns + N)) : Zx o pc L (.int n :: st) ws nc ns := by
  intro ls H locs hl hP hD hS
  obtain ⟨⟨p, l, e, R, s, m⟩, ⟨args, below, meth, c0⟩, ⟨D, cI, cZ, A⟩, nL, Q⟩ := o
  obtain ⟨hx, hb, hml, hown, hts, hR, hKz, hA⟩ := C
  dsimp only at hx hb hml hown hts hR hKz hA kk
  subst hR
  refine va_newa (D := D) (atype := .boolean) (ty := .boolean) (a0 := (N, .inl (fun _ => 0))) hx hb (hts _ hw) rfl hKz.1 hP hD hS hA (fun _ => rfl) hn hN ?_ hc.1 hc.2 hd (fun q cA H1 hK1 hP1 hD1 hS1 => ?_)
  · show N * 1 ≤ 536870912
    omega
  · have e1 : va_RA s cA .boolean := (hK1.2 2 (cA, .boolean) rfl).2
    have e2 : va_RA s cZ .boolean := (hKz.1.2 1 (cZ, .boolean) rfl).2
    have e3 : cA = cZ := Option.some.inj (Eq.trans (Eq.symm e1) e2)
    subst e3
    exact kk q ls H1 locs hl hP1 hD1 hS1
theorem z_put (C : Cz o own cc rm) (hin : o.2.1.2.2.1.name = "<init>") {idx ci k i a : Nat} {ty : FieldType} {v : Value} {fs : List Value} (F : FZ own idx ci k ty) (hd : decode cc pc = .ok (.putfield idx, 3)) (he : ws[i]? = some (a, .inr (ci, fs))) (hn : narrow ty v = v) (hfit : fits ty v = true) (hl9 : k < fs.length) (kk : Zx o (pc + 3) L st (ws.set i (a, .inr (ci, fs.set k v))) nc ns) : Zx o pc L (v :: .ref a :: st) ws nc ns := by
  intro ls H locs hl hP hD hS
  obtain ⟨⟨p, l, e, R, s, m⟩, ⟨args, below, meth, c0⟩, ⟨D, cI, cZ, A⟩, nL, Q⟩ := o
  obtain ⟨hx, hb, hml, hown, hts, hR, hKz, hA⟩ := C
  dsimp only at hx hb hml hown hts hR hKz hA hin
  subst hR
  obtain ⟨T, N, ty0, g1, g2, g3, g4, g5, g6, g7, g8⟩ := F
  cases hfin : (T k).2.2.2 with
  | true => exact va_putF (D := D) (ci := ci) (v := v) hx hb hts g2 ty0 g6 g7 hown hKz.1 hP hD hS i he g1 k g3 (hts _ g4) (by rw [g5]; exact fun _ h => h) hfin hin g5 g8 hn hfit hl9 hd (fun H1 locs1 hP1 hD1 hS1 => kk ls H1 locs1 hl hP1 hD1 hS1)
  | false => exact va_put (D := D) (ci := ci) (v := v) hx hb hts g2 ty0 g6 g7 hown hKz.1 hP hD hS i he g1 k g3 (hts _ g4) (by rw [g5]; exact fun _ h => h) hfin g8 hn hfit hl9 hd (fun H1 locs1 hP1 hD1 hS1 => kk ls H1 locs1 hl hP1 hD1 hS1)
theorem z_get (C : Cz o own cc rm) {idx ci k i a : Nat} {ty : FieldType} {v : Value} {fs : List Value} (F : FZ own idx ci k ty) (hd : decode cc pc = .ok (.getfield idx, 3)) (he : ws[i]? = some (a, .inr (ci, fs))) (hv : fs[k]? = some v) (kk : Zx o (pc + 3) L (v :: st) ws nc ns) : Zx o pc L (.ref a :: st) ws nc ns := by
  intro ls H locs hl hP hD hS
  obtain ⟨⟨p, l, e, R, s, m⟩, ⟨args, below, meth, c0⟩, ⟨D, cI, cZ, A⟩, nL, Q⟩ := o
  obtain ⟨hx, hb, hml, hown, hts, hR, hKz, hA⟩ := C
  dsimp only at hx hb hml hown hts hR hKz hA
  subst hR
  obtain ⟨T, N, ty0, g1, g2, g3, g4, g5, g6, g7, g8⟩ := F
  exact va_get (D := D) (ci := ci) (v := v) hx hb hts g2 hown hKz.1 hP i he g1 k g3 (hts _ g4) (by rw [g5]; exact fun _ h => h) hv hd (kk ls H locs hl hP hD hS)
theorem z_ctor (C : Cz o own cc rm) {idx n mc ms ci fr lo nL2 q : Nat} {y : MethodName} {cc2 : ByteArray} {fs0 : List Value} {ww : ClassId → ClassId → Nat → (Nat → Nat) → va_W} {av : List Value} (M : BZ own idx y cc2 nL2 n) (hcn : KN y cc2 nL2 fr lo mc ms ci fs0 ww av) (hR2 : fr + 1 ≤ rm.frames ∧ 8 + (nL2 + 11) + lo ≤ rm.locals) (hcs : nc + mc ≤ rm.cells ∧ ns + ms ≤ rm.slots) (hn : av.length = n) (hc8 : (st.map (fun v => v.category)).sum ≤ 8) {st0 : List Value} (hst : st0 = av.reverse ++ .ref q :: st) (hd : decode cc pc = .ok (.invokespecial idx, 3))
    (kk : ∀ u : Nat → Nat, Zx o (pc + 3) L st (ws ++ ww o.2.2.1.2.1 o.2.2.1.2.2.1 q u) (nc + mc) (ns + ms)) : Zx o pc L st0 (ws ++ [(q, .inr (ci, fs0))]) nc ns := by
  subst hst
  intro ls H locs hl hP hD hS
  obtain ⟨⟨p, l, e, R, s, m⟩, ⟨args, below, meth, c0⟩, ⟨D, cI, cZ, A⟩, nL, Q⟩ := o
  obtain ⟨hx, hb, hml, hown, hts, hR, hKz, hA⟩ := C
  dsimp only at hx hb hml hown hts hR hKz hA kk
  subst hR
  obtain ⟨B, g1, g2, g3⟩ := M
  have hW8 : 2 * (F0 m pc ls (av.reverse ++ .ref q :: st)).monitorRoom + (st.map fun v => v.category).sum ≤ 8 := by
    show 2 * 0 + _ ≤ 8
    omega
  have hl1 : (ws ++ [(q, (.inr (ci, fs0) : va_E))])[ws.length]? = some (q, .inr (ci, fs0)) := by
    rw [List.getElem?_append_right (Nat.le_refl _), Nat.sub_self]; rfl
  have hPc : va_P D vwCl [(q, .inr (ci, fs0))] H := hP.sub [ws.length] (by rw [List.filterMap_cons, hl1]; rfl)
  have hF : ∀ x, va_A [(q, .inr (ci, fs0))] H.size x → A x := by
    intro x hx9
    rcases hx9 with ⟨k2, e2, h2⟩ | h2
    · cases k2 with
      | zero =>
        have e3 : (q, (.inr (ci, fs0) : va_E)) = (x, e2) := Option.some.inj h2
        rw [← (Prod.mk.inj e3).1]
        exact hD.2 ws.length _ hl1
      | succ k2 => simp at h2
    · exact hA x (Nat.le_trans hS.1 h2)
  have hpre : PreS s H (va_Pc (.ref q :: av) (fun U => U.heap.size = H.size ∧ va_P D vwCl [(q, .inr (ci, fs0))] U.heap ∧ Kz D cI cZ U)) (.ref q :: av) :=
    ⟨fun a U g mk hq => ⟨hq.1, hq.2.1, hq.2.2.1, Kz.blind (U := U) (V := U.calling g mk _) hq.2.2.2 rfl⟩, fun U hU hW => ⟨rfl, by rw [hU], by rw [hU]; exact hPc, hKz.call hW⟩⟩
  have hrun : va_Run p l e R s m args below meth c0 H locs nc ns mc ms (F0 m pc ls (av.reverse ++ .ref q :: st)) st (va_Qv (fun _ : Nat → Nat => True) (fun u t => va_P D vwCl (ww cI cZ q u) t.heap ∧ va_D (va_A [(q, .inr (ci, fs0))] H.size) (ww cI cZ q u)) (va_A [(q, .inr (ci, fs0))] H.size) (Value.ref q :: av).toArray) (va_A [(q, .inr (ci, fs0))] H.size) := by
    rcases g1 with g1 | g1
    · exact va_runI (As := av) (rest := st) ⟨hx, hb, hml, hown, hts⟩ (hcn l D cI cZ q H.size)
        ⟨⟨rfl, rfl, hR2.1, hR2.2, pay_in hts (mb_in B), List.mem_cons_self, hts _ B.2.1, hts _ B.1, B.2.2.1, mb_len B, hts _ g1⟩, g3, hts _ g2⟩ hpre rfl hn hl.1 rfl hW8 hd hcs
    · exact va_runIN (host := "WindLawyer") (As := av) (rest := st) ⟨hx, hb, hml, hown, hts⟩ (hcn l D cI cZ q H.size)
        ⟨⟨⟨rfl, rfl, hR2.1, hR2.2, pay_in hts (mb_in B), List.mem_cons_self⟩, hts _ B.2.1, hts _ B.1, B.2.2.1, mb_len B, va_Nw.use rfl (hKz.2 _ g1)⟩, g3, hts _ g2⟩ hpre rfl hn hl.1 rfl hW8 hd hcs
  refine va_callv hrun hS (fun x _ h => hF x h) hF (fun u t H1 locs1 ht hvm hw hB hz1 hk1 hS1 => ?_)
  obtain ⟨hP1, hD1⟩ := hB
  rw [ht] at hP1
  obtain ⟨hPj, hDj⟩ := vj hP hD hk1 hF hP1 hD1
  exact kk u ls H1 locs1 hl hPj hDj hS1
end RZ
