/-! ===== the judgement: from here the method comes to its end, the world being σ; the bundle of what stays ===== -/
abbrev Om : Type := (Program × Launch × Env × Room × State × MethodId) × (Array Value × List Frame × Method × Code) × (va_G × (Nat → Nat) × ClassId × ClassId) × (Nat × Nat × (State → Prop))
def Yx (o : Om) (pc : Nat) (L : List (Option Value)) (st : List Value) (σ : SS) : Prop :=
  ∀ (ls : Array Slot) (H : Heap) (locs : List Loc), lh ls o.2.2.2.2.1 o.2.2.1.2.1 L → va_P o.2.2.1.1 vwCl (wd o.2.2.2.1 o.2.2.1.2.1 o.2.2.1.2.2.1 o.2.2.1.2.2.2 σ) H → va_S (Aw o.2.2.1.2.1 o.2.2.2.1) o.1.2.2.2.2.1.heap H locs →
    W o.1.1 o.1.2.1 o.1.2.2.1 o.1.2.2.2.1 o.1.2.2.2.2.1 o.1.2.2.2.2.2 o.2.1.1 o.2.1.2.1 o.2.1.2.2.1 o.2.1.2.2.2 H locs 0 0 o.2.2.2.2.2 (F0 o.1.2.2.2.2.2 pc ls (st.map (sv o.2.2.1.2.1)))
def Cx (o : Om) (own : String) (cc : ByteArray) (nL : Nat) (rt : Option FieldType) (rm : Room) (w : Nat) : Prop :=
  o.1.1.tables.exec = Jvm.exec ∧ o.2.1.2.2.2.code = cc ∧ o.2.1.2.2.2.maxLocals = nL ∧ o.1.2.2.2.2.1.vm.findClass own = some o.1.2.2.2.2.2.cls ∧ (∀ x ∈ TB, x.before o.2.1.1 o.1.2.2.2.2.1 = true) ∧
  o.1.2.2.2.1 = rm ∧ o.2.1.2.2.1.locks = false ∧ o.2.1.2.2.1.sig.returnType = rt ∧ Kn o.2.2.1.1 o.2.2.1.2.1 o.2.2.1.2.2.1 o.2.2.1.2.2.2 w o.1.2.2.2.2.1 ∧ Wk o.2.2.1.2.1 w ∧ o.2.2.2.1 = w ∧ o.2.2.2.2.1 = nL
def Xo {τ : Type} (f : Option τ) (Z : τ → Prop) (G : Prop) : Prop := ∀ r, f = some r → Z r → G
def gd {τ : Type} (b : Bool) (f : Option τ) : Option τ := if b = true then f else none
def nm {α τ : Type} (e : α) (k : α → Option τ) : Option τ := k e
def bd {α τ : Type} (f : Option α) (k : α → Option τ) : Option τ := f.bind k
def bd2 {α β τ : Type} (f : Option (α × β)) (k : α → β → Option τ) : Option τ := f.bind (fun p => k p.1 p.2)
def inb (i : Int32) (n : Nat) : Bool := !(decide (i < 0) || decide (n ≤ i.toNatClampNeg))
theorem inb_in {i : Int32} {n : Nat} (h : inb i n = true) : vp_in i n := by
  simp only [inb, Bool.not_eq_true', Bool.or_eq_false_iff, decide_eq_false_iff_not] at h
  exact fun q => q.elim h.1 h.2
def cpok (sp dp n : Int32) (a b : Nat) : Bool := decide (¬ sp < 0) && (decide (¬ dp < 0) && (decide (¬ n < 0) && (decide (sp.toNatClampNeg + n.toNatClampNeg ≤ a) && decide (dp.toNatClampNeg + n.toNatClampNeg ≤ b))))
def zb (r : Int32) : Bool := decide (r = 0) || decide (r = 1)
theorem zb_nar {r : Int32} (h : zb r = true) : narrow .boolean (.int r) = .int r := by
  simp only [zb, Bool.or_eq_true, decide_eq_true_eq] at h
  rcases h with rfl | rfl <;> decide +kernel
def imin (x y : Int32) : Int32 := if y < x then y else x
def imax (x y : Int32) : Int32 := if x < y then y else x
def labs (x : Int64) : Int64 := if 0 < x then x else -x
section XG
variable {τ : Type} {f g : Option τ} {Z : τ → Prop} {G G2 : Prop}
theorem Xo.mono (h : G2 → G) (k : Xo f Z G2) : Xo f Z G := fun r hr hz => h (k r hr hz)
theorem Xo.done {t : τ} (h : Z t → G) : Xo (some t) Z G := fun r hr hz => h (by cases hr; exact hz)
theorem Xo.gd {b : Bool} (k : b = true → Xo f Z G) : Xo (gd b f) Z G := by
  intro r hr hz
  change (if b = true then f else none) = some r at hr
  by_cases h : b = true
  · rw [if_pos h] at hr; exact k h r hr hz
  · rw [if_neg h] at hr; cases hr
theorem Xo.ite {c : Prop} [Decidable c] (kt : c → Xo f Z G) (kf : ¬ c → Xo g Z G) : Xo (if c then f else g) Z G := by
  intro r hr hz
  by_cases h : c
  · rw [if_pos h] at hr; exact kt h r hr hz
  · rw [if_neg h] at hr; exact kf h r hr hz
theorem Xo.nm {α : Type} {e : α} {k : α → Option τ} (h : ∀ x, Xo (k x) Z (G)) : Xo (nm e k) Z G := h e
theorem Xo.bd {α : Type} {a : Option α} {k : α → Option τ} {Z1 : α → Prop} (h1 : Xo a Z1 G) (h2 : ∀ x, Xo (k x) Z (Z1 x)) : Xo (bd a k) Z G := by
  intro r hr hz
  change a.bind k = some r at hr
  cases ha : a with
  | none => rw [ha] at hr; cases hr
  | some x => rw [ha] at hr; exact h1 x ha (h2 x r hr hz)
theorem Xo.bd2 {α β : Type} {a : Option (α × β)} {k : α → β → Option τ} {Z1 : α × β → Prop} (h1 : Xo a Z1 G) (h2 : ∀ x y, Xo (k x y) Z (Z1 (x, y))) : Xo (bd2 a k) Z G := by
  intro r hr hz
  change a.bind (fun p => k p.1 p.2) = some r at hr
  cases ha : a with
  | none => rw [ha] at hr; cases hr
  | some x => rw [ha] at hr; exact h1 x ha (h2 x.1 x.2 r hr hz)
end XG
/-! ===== loops ===== -/
def lp {S E : Type} : Nat → (S → Option (S ⊕ E)) → S → Option E
  | 0, _, _ => none
  | n + 1, b, s => match b s with
    | none => none
    | some (.inl t) => lp n b t
    | some (.inr e) => some e
def FUEL : Nat := 100000
def u2 {A B T : Type} (f : A → B → T) (x : A × B) : T := f x.1 x.2
def u3 {A B C T : Type} (f : A → B → C → T) (x : A × B × C) : T := f x.1 x.2.1 x.2.2
def u4 {A B C D T : Type} (f : A → B → C → D → T) (x : A × B × C × D) : T := f x.1 x.2.1 x.2.2.1 x.2.2.2
def u5 {A B C D E T : Type} (f : A → B → C → D → E → T) (x : A × B × C × D × E) : T := f x.1 x.2.1 x.2.2.1 x.2.2.2.1 x.2.2.2.2
def u6 {A B C D E F T : Type} (f : A → B → C → D → E → F → T) (x : A × B × C × D × E × F) : T := f x.1 x.2.1 x.2.2.1 x.2.2.2.1 x.2.2.2.2.1 x.2.2.2.2.2
def u7 {A B C D E F G T : Type} (f : A → B → C → D → E → F → G → T) (x : A × B × C × D × E × F × G) : T := f x.1 x.2.1 x.2.2.1 x.2.2.2.1 x.2.2.2.2.1 x.2.2.2.2.2.1 x.2.2.2.2.2.2
theorem x_lp {S E : Type} {b : S → Option (S ⊕ E)} (fr : S → Prop) (ex : E → Prop) (hb : ∀ s, Xo (b s) (Sum.elim fr ex) (fr s)) : ∀ (n : Nat) (s : S), Xo (lp n b s) ex (fr s) := by
  intro n
  induction n with
  | zero => intro s r hr; cases hr
  | succ n ih =>
    intro s r hr hz
    unfold lp at hr
    cases hbs : b s with
    | none => rw [hbs] at hr; cases hr
    | some y =>
      rw [hbs] at hr
      cases y with
      | inl t => exact hb s _ hbs (ih t r hr hz)
      | inr e => cases hr; exact hb s _ hbs hz
theorem x_lpF {S E : Type} {b : S → Option (S ⊕ E)} (fr : S → Prop) (ex : E → Prop) (s : S) (hb : ∀ s, Xo (b s) (Sum.elim fr ex) (fr s)) : Xo (lp FUEL b s) ex (fr s) := x_lp fr ex hb FUEL s
/-! ===== fewer locals known ===== -/
def LW (L L' : List (Option Value)) : Prop := ∀ (i : Nat) (v : Value), L'[i]? = some (some v) → L[i]? = some (some v)
theorem lw_0 {L : List (Option Value)} : LW L [] := fun i v h => by simp at h
theorem lw_n {a : Option Value} {L L' : List (Option Value)} (h : LW L L') : LW (a :: L) (none :: L') := fun i v hi => by
  cases i with
  | zero => simp at hi
  | succ i => simpa using h i v (by simpa using hi)
theorem lw_s {a : Option Value} {L L' : List (Option Value)} (h : LW L L') : LW (a :: L) (a :: L') := fun i v hi => by
  cases i with
  | zero => simpa using hi
  | succ i => simpa using h i v (by simpa using hi)
theorem Yx.weak {o : Om} {pc : Nat} {L L' : List (Option Value)} {st : List Value} {σ : SS} (h : LW L L') (k : Yx o pc L' st σ) : Yx o pc L st σ :=
  fun ls H locs hl hP hS => k ls H locs ⟨hl.1, hl.2.1, fun i v hi => hl.2.2 i v (h i v hi)⟩ hP hS
def cs (st : List Value) : Nat := (st.map (fun v => v.category)).sum
theorem cs_sv (α : Nat → Nat) (st : List Value) : ((st.map (sv α)).map (fun v => v.category)).sum = cs st := by
  unfold cs
  rw [List.map_map]
  congr 1
  apply List.map_congr_left
  intro v _
  exact sv_cat α v
/-! ===== the rules ===== -/
section RU
variable {τ : Type} {f g : Option τ} {Z : τ → Prop} {o : Om} {own : String} {cc : ByteArray} {nL : Nat} {rt : Option FieldType} {rm : Room} {w pc : Nat} {L L' : List (Option Value)} {st : List Value} {σ : SS}
theorem x_iadd (C : Cx o own cc nL rt rm w) {x y : Int32} (hd : decode cc pc = .ok (.iadd, 1)) (k : Xo f Z (Yx o (pc + 1) L (.int (x + y) :: st) σ)) : Xo f Z (Yx o pc L (.int y :: .int x :: st) σ) :=
  k.mono (fun y ls H locs hl hP hS => lv_iadd C.1 C.2.1 hd (y ls H locs hl hP hS))
theorem x_isub (C : Cx o own cc nL rt rm w) {x y : Int32} (hd : decode cc pc = .ok (.isub, 1)) (k : Xo f Z (Yx o (pc + 1) L (.int (x - y) :: st) σ)) : Xo f Z (Yx o pc L (.int y :: .int x :: st) σ) :=
  k.mono (fun y ls H locs hl hP hS => lv_isub C.1 C.2.1 hd (y ls H locs hl hP hS))
theorem x_imul (C : Cx o own cc nL rt rm w) {x y : Int32} (hd : decode cc pc = .ok (.imul, 1)) (k : Xo f Z (Yx o (pc + 1) L (.int (x * y) :: st) σ)) : Xo f Z (Yx o pc L (.int y :: .int x :: st) σ) :=
  k.mono (fun y ls H locs hl hP hS => lv_imul C.1 C.2.1 hd (y ls H locs hl hP hS))
theorem x_iand (C : Cx o own cc nL rt rm w) {x y : Int32} (hd : decode cc pc = .ok (.iand, 1)) (k : Xo f Z (Yx o (pc + 1) L (.int (x &&& y) :: st) σ)) : Xo f Z (Yx o pc L (.int y :: .int x :: st) σ) :=
  k.mono (fun y ls H locs hl hP hS => lv_iand C.1 C.2.1 hd (y ls H locs hl hP hS))
theorem x_ior (C : Cx o own cc nL rt rm w) {x y : Int32} (hd : decode cc pc = .ok (.ior, 1)) (k : Xo f Z (Yx o (pc + 1) L (.int (x ||| y) :: st) σ)) : Xo f Z (Yx o pc L (.int y :: .int x :: st) σ) :=
  k.mono (fun y ls H locs hl hP hS => lv_ior C.1 C.2.1 hd (y ls H locs hl hP hS))
theorem x_ixor (C : Cx o own cc nL rt rm w) {x y : Int32} (hd : decode cc pc = .ok (.ixor, 1)) (k : Xo f Z (Yx o (pc + 1) L (.int (x ^^^ y) :: st) σ)) : Xo f Z (Yx o pc L (.int y :: .int x :: st) σ) :=
  k.mono (fun y ls H locs hl hP hS => lv_ixor C.1 C.2.1 hd (y ls H locs hl hP hS))
theorem x_ishl (C : Cx o own cc nL rt rm w) {x y : Int32} (hd : decode cc pc = .ok (.ishl, 1)) (k : Xo f Z (Yx o (pc + 1) L (.int (x <<< (y &&& 31)) :: st) σ)) : Xo f Z (Yx o pc L (.int y :: .int x :: st) σ) :=
  k.mono (fun y ls H locs hl hP hS => lv_ishl C.1 C.2.1 hd (y ls H locs hl hP hS))
theorem x_ishr (C : Cx o own cc nL rt rm w) {x y : Int32} (hd : decode cc pc = .ok (.ishr, 1)) (k : Xo f Z (Yx o (pc + 1) L (.int (x >>> (y &&& 31)) :: st) σ)) : Xo f Z (Yx o pc L (.int y :: .int x :: st) σ) :=
  k.mono (fun y ls H locs hl hP hS => lv_ishr C.1 C.2.1 hd (y ls H locs hl hP hS))
theorem x_iushr (C : Cx o own cc nL rt rm w) {x y : Int32} (hd : decode cc pc = .ok (.iushr, 1)) (k : Xo f Z (Yx o (pc + 1) L (.int ((x.toUInt32 >>> (y.toUInt32 &&& Int32.toUInt32 31)).toInt32) :: st) σ)) : Xo f Z (Yx o pc L (.int y :: .int x :: st) σ) :=
  k.mono (fun y ls H locs hl hP hS => lv_iushr C.1 C.2.1 hd rfl (y ls H locs hl hP hS))
theorem x_ineg (C : Cx o own cc nL rt rm w) {x : Int32} (hd : decode cc pc = .ok (.ineg, 1)) (k : Xo f Z (Yx o (pc + 1) L (.int (-x) :: st) σ)) : Xo f Z (Yx o pc L (.int x :: st) σ) :=
  k.mono (fun y ls H locs hl hP hS => lv_ineg C.1 C.2.1 hd (y ls H locs hl hP hS))
theorem x_idiv (C : Cx o own cc nL rt rm w) {x y : Int32} (hd : decode cc pc = .ok (.idiv, 1)) (hn : ¬ y = 0) (k : Xo f Z (Yx o (pc + 1) L (.int (x / y) :: st) σ)) : Xo f Z (Yx o pc L (.int y :: .int x :: st) σ) :=
  k.mono (fun y ls H locs hl hP hS => lv_idiv C.1 C.2.1 hd hn (y ls H locs hl hP hS))
theorem x_irem (C : Cx o own cc nL rt rm w) {x y : Int32} (hd : decode cc pc = .ok (.irem, 1)) (hn : ¬ y = 0) (k : Xo f Z (Yx o (pc + 1) L (.int (x - x / y * y) :: st) σ)) : Xo f Z (Yx o pc L (.int y :: .int x :: st) σ) :=
  k.mono (fun y ls H locs hl hP hS => lv_irem C.1 C.2.1 hd hn (y ls H locs hl hP hS))
theorem x_ladd (C : Cx o own cc nL rt rm w) {x y : Int64} (hd : decode cc pc = .ok (.ladd, 1)) (k : Xo f Z (Yx o (pc + 1) L (.long (x + y) :: st) σ)) : Xo f Z (Yx o pc L (.long y :: .long x :: st) σ) :=
  k.mono (fun y ls H locs hl hP hS => lv_ladd C.1 C.2.1 hd (y ls H locs hl hP hS))
theorem x_lsub (C : Cx o own cc nL rt rm w) {x y : Int64} (hd : decode cc pc = .ok (.lsub, 1)) (k : Xo f Z (Yx o (pc + 1) L (.long (x - y) :: st) σ)) : Xo f Z (Yx o pc L (.long y :: .long x :: st) σ) :=
  k.mono (fun y ls H locs hl hP hS => lv_lsub C.1 C.2.1 hd (y ls H locs hl hP hS))
theorem x_lmul (C : Cx o own cc nL rt rm w) {x y : Int64} (hd : decode cc pc = .ok (.lmul, 1)) (k : Xo f Z (Yx o (pc + 1) L (.long (x * y) :: st) σ)) : Xo f Z (Yx o pc L (.long y :: .long x :: st) σ) :=
  k.mono (fun y ls H locs hl hP hS => lv_lmul C.1 C.2.1 hd (y ls H locs hl hP hS))
theorem x_ldiv (C : Cx o own cc nL rt rm w) {x y : Int64} (hd : decode cc pc = .ok (.ldiv, 1)) (hn : ¬ y = 0) (k : Xo f Z (Yx o (pc + 1) L (.long (x / y) :: st) σ)) : Xo f Z (Yx o pc L (.long y :: .long x :: st) σ) :=
  k.mono (fun y ls H locs hl hP hS => lv_ldiv C.1 C.2.1 hd hn (y ls H locs hl hP hS))
theorem x_lrem (C : Cx o own cc nL rt rm w) {x y : Int64} (hd : decode cc pc = .ok (.lrem, 1)) (hn : ¬ y = 0) (k : Xo f Z (Yx o (pc + 1) L (.long (x - x / y * y) :: st) σ)) : Xo f Z (Yx o pc L (.long y :: .long x :: st) σ) :=
  k.mono (fun y ls H locs hl hP hS => lv_lrem C.1 C.2.1 hd hn (y ls H locs hl hP hS))
theorem x_lneg (C : Cx o own cc nL rt rm w) {x : Int64} (hd : decode cc pc = .ok (.lneg, 1)) (k : Xo f Z (Yx o (pc + 1) L (.long (-x) :: st) σ)) : Xo f Z (Yx o pc L (.long x :: st) σ) :=
  k.mono (fun y ls H locs hl hP hS => lv_lneg C.1 C.2.1 hd (y ls H locs hl hP hS))
theorem x_lcmp (C : Cx o own cc nL rt rm w) {x y : Int64} (hd : decode cc pc = .ok (.lcmp, 1)) (k : Xo f Z (Yx o (pc + 1) L (.int (lg_cmp x y) :: st) σ)) : Xo f Z (Yx o pc L (.long y :: .long x :: st) σ) :=
  k.mono (fun y ls H locs hl hP hS => W.lcmp C.1 C.2.1 hd (y ls H locs hl hP hS))
theorem x_i2l (C : Cx o own cc nL rt rm w) {x : Int32} (hd : decode cc pc = .ok (.i2l, 1)) (k : Xo f Z (Yx o (pc + 1) L (.long x.toInt64 :: st) σ)) : Xo f Z (Yx o pc L (.int x :: st) σ) :=
  k.mono (fun y ls H locs hl hP hS => lv_i2l C.1 C.2.1 hd rfl (y ls H locs hl hP hS))
theorem x_l2i (C : Cx o own cc nL rt rm w) {x : Int64} (hd : decode cc pc = .ok (.l2i, 1)) (k : Xo f Z (Yx o (pc + 1) L (.int x.toInt32 :: st) σ)) : Xo f Z (Yx o pc L (.long x :: st) σ) :=
  k.mono (fun y ls H locs hl hP hS => lv_l2i C.1 C.2.1 hd rfl (y ls H locs hl hP hS))
theorem x_iconst (C : Cx o own cc nL rt rm w) {n : Int} {v : Int32} (hd : decode cc pc = .ok (.iconst n, 1)) (hv : Int32.ofInt n = v) (k : Xo f Z (Yx o (pc + 1) L (.int v :: st) σ)) : Xo f Z (Yx o pc L (st) σ) :=
  k.mono (fun y ls H locs hl hP hS => lv_iconst C.1 C.2.1 hd hv (y ls H locs hl hP hS))
theorem x_bipush (C : Cx o own cc nL rt rm w) {n : Int} {v : Int32} (hd : decode cc pc = .ok (.bipush n, 2)) (hv : (Int8.ofInt n).toInt32 = v) (k : Xo f Z (Yx o (pc + 2) L (.int v :: st) σ)) : Xo f Z (Yx o pc L (st) σ) :=
  k.mono (fun y ls H locs hl hP hS => lv_bipush C.1 C.2.1 hd hv (y ls H locs hl hP hS))
theorem x_sipush (C : Cx o own cc nL rt rm w) {n : Int} {v : Int32} (hd : decode cc pc = .ok (.sipush n, 3)) (hv : (Int16.ofInt n).toInt32 = v) (k : Xo f Z (Yx o (pc + 3) L (.int v :: st) σ)) : Xo f Z (Yx o pc L (st) σ) :=
  k.mono (fun y ls H locs hl hP hS => lv_sipush C.1 C.2.1 hd hv (y ls H locs hl hP hS))
theorem x_lconst (C : Cx o own cc nL rt rm w) {n : Fin 2} {v : Int64} (hd : decode cc pc = .ok (.lconst n, 1)) (hv : Int64.ofNat (n : Nat) = v) (k : Xo f Z (Yx o (pc + 1) L (.long v :: st) σ)) : Xo f Z (Yx o pc L (st) σ) :=
  k.mono (fun y ls H locs hl hP hS => lv_lconst C.1 C.2.1 hd hv (y ls H locs hl hP hS))
theorem x_ldc2 (C : Cx o own cc nL rt rm w) {index : Nat} {v : Int64} (hd : decode cc pc = .ok (.ldc2_w index, 3)) (hc : Jvm.Cond.constantLong own index v ∈ TB) (k : Xo f Z (Yx o (pc + 3) L (.long v :: st) σ)) : Xo f Z (Yx o pc L (st) σ) :=
  k.mono (fun y ls H locs hl hP hS => lv_ldc2 C.1 C.2.1 C.2.2.2.1 (C.2.2.2.2.1 _ hc) hd (y ls H locs hl hP hS))
theorem x_ldcw (C : Cx o own cc nL rt rm w) {index : Nat} {v : Int32} (hd : decode cc pc = .ok (.ldc_w index, 3)) (hc : Jvm.Cond.constant own index v ∈ TB) (k : Xo f Z (Yx o (pc + 3) L (.int v :: st) σ)) : Xo f Z (Yx o pc L (st) σ) :=
  k.mono (fun y ls H locs hl hP hS => lv_ldcw C.1 C.2.1 C.2.2.2.1 (C.2.2.2.2.1 _ hc) hd (y ls H locs hl hP hS))
theorem x_iload_n (C : Cx o own cc nL rt rm w) {i : Fin 4} {x : Int32} (hd : decode cc pc = .ok (.iload_n i, 1)) (hi : L[(i : Nat)]? = some (some (.int x))) (k : Xo f Z (Yx o (pc + 1) L (.int x :: st) σ)) : Xo f Z (Yx o pc L st σ) :=
  k.mono (fun y ls H locs hl hP hS => lv_iload_n C.1 C.2.1 hd rfl (lh_at hl hi) (y ls H locs hl hP hS))
theorem x_iload (C : Cx o own cc nL rt rm w) {i : Nat} {x : Int32} (hd : decode cc pc = .ok (.iload i, 2)) (hi : L[i]? = some (some (.int x))) (k : Xo f Z (Yx o (pc + 2) L (.int x :: st) σ)) : Xo f Z (Yx o pc L st σ) :=
  k.mono (fun y ls H locs hl hP hS => lv_iload C.1 C.2.1 hd (lh_at hl hi) (y ls H locs hl hP hS))
theorem x_lload_n (C : Cx o own cc nL rt rm w) {i : Fin 4} {x : Int64} (hd : decode cc pc = .ok (.lload_n i, 1)) (hi : L[(i : Nat)]? = some (some (.long x))) (k : Xo f Z (Yx o (pc + 1) L (.long x :: st) σ)) : Xo f Z (Yx o pc L st σ) :=
  k.mono (fun y ls H locs hl hP hS => lv_lload_n C.1 C.2.1 hd rfl (lh_at hl hi) (y ls H locs hl hP hS))
theorem x_lload (C : Cx o own cc nL rt rm w) {i : Nat} {x : Int64} (hd : decode cc pc = .ok (.lload i, 2)) (hi : L[i]? = some (some (.long x))) (k : Xo f Z (Yx o (pc + 2) L (.long x :: st) σ)) : Xo f Z (Yx o pc L st σ) :=
  k.mono (fun y ls H locs hl hP hS => lv_lload C.1 C.2.1 hd (lh_at hl hi) (y ls H locs hl hP hS))
theorem x_aload_n (C : Cx o own cc nL rt rm w) {i : Fin 4} {x : Nat} (hd : decode cc pc = .ok (.aload_n i, 1)) (hi : L[(i : Nat)]? = some (some (.ref x))) (k : Xo f Z (Yx o (pc + 1) L (.ref x :: st) σ)) : Xo f Z (Yx o pc L st σ) :=
  k.mono (fun y ls H locs hl hP hS => lv_aload_n C.1 C.2.1 hd rfl (lh_at hl hi) (y ls H locs hl hP hS))
theorem x_aload (C : Cx o own cc nL rt rm w) {i : Nat} {x : Nat} (hd : decode cc pc = .ok (.aload i, 2)) (hi : L[i]? = some (some (.ref x))) (k : Xo f Z (Yx o (pc + 2) L (.ref x :: st) σ)) : Xo f Z (Yx o pc L st σ) :=
  k.mono (fun y ls H locs hl hP hS => lv_aload C.1 C.2.1 hd (lh_at hl hi) (y ls H locs hl hP hS))
theorem W.st1 {p : Program} {l : Launch} {e : Env} {R : Room} {s : State} {m : MethodId} {args : Array Value} {below : List Frame} {meth : Method} {c : Code} {H : Heap} {locs : List Loc} {Q : State → Prop} {ls ls' : Array Slot} {rest : List Value} (hexec : p.tables.exec = Jvm.exec) (hb : c.code = cc) {v : Value} {i : Nat} {ins : Instr} {n : Nat} (hs : storeLocals ls i v = some ls')
    (h : (∃ x, v = .int x ∧ ((∃ k : Fin 4, (k : Nat) = i ∧ ins = .istore_n k ∧ n = 1) ∨ (ins = .istore i ∧ n = 2))) ∨ (∃ x, v = .ref x ∧ ((∃ k : Fin 4, (k : Nat) = i ∧ ins = .astore_n k ∧ n = 1) ∨ (ins = .astore i ∧ n = 2))) ∨ (∃ x, v = .long x ∧ ((∃ k : Fin 4, (k : Nat) = i ∧ ins = .lstore_n k ∧ n = 1) ∨ (ins = .lstore i ∧ n = 2))))
    (hd : decode cc pc = .ok (ins, n)) (k : W p l e R s m args below meth c H locs 0 0 Q (F0 m (pc + n) ls' rest)) : W p l e R s m args below meth c H locs 0 0 Q (F0 m pc ls (v :: rest)) := by
  intro T hT X
  obtain ⟨t, a, b⟩ := k T hT X
  refine ⟨t, ?_, b⟩
  rcases h with ⟨x, rfl, ⟨kk, rfl, rfl, rfl⟩ | ⟨rfl, rfl⟩⟩ | ⟨x, rfl, ⟨kk, rfl, rfl, rfl⟩ | ⟨rfl, rfl⟩⟩ | ⟨x, rfl, ⟨kk, rfl, rfl, rfl⟩ | ⟨rfl, rfl⟩⟩
  all_goals
    jvm_step X.here [X.here.top, ↓top_set X.here.top, hexec, hb, hd, hs]
    first | exact a | exact ⟨rfl, a⟩
theorem x_istore_n (C : Cx o own cc nL rt rm w) {i : Fin 4} {x : Int32} {h : Int32 → Option τ} {L' : Int32 → List (Option Value)} (hd : decode cc pc = .ok (.istore_n i, 1)) (hi : (i : Nat) < nL) (hL : ∀ y, st1 L (i : Nat) (.int y) = L' y) (k : ∀ y, Xo (h y) Z (Yx o (pc + 1) (L' y) st σ)) : Xo (nm x h) Z (Yx o pc L (.int x :: st) σ) := by
  refine Xo.mono ?_ (k x)
  intro y ls H locs hl hP hS
  obtain ⟨ls', e1, e2⟩ := lh_st1 (v := .int x) hl (by rw [C.2.2.2.2.2.2.2.2.2.2.2]; exact hi) rfl
  rw [hL] at e2
  exact W.st1 C.1 C.2.1 e1 (Or.inl ⟨_, rfl, Or.inl ⟨i, rfl, rfl, rfl⟩⟩) hd (y ls' H locs e2 hP hS)
theorem x_istore (C : Cx o own cc nL rt rm w) {i : Nat} {x : Int32} {h : Int32 → Option τ} {L' : Int32 → List (Option Value)} (hd : decode cc pc = .ok (.istore i, 2)) (hi : i < nL) (hL : ∀ y, st1 L i (.int y) = L' y) (k : ∀ y, Xo (h y) Z (Yx o (pc + 2) (L' y) st σ)) : Xo (nm x h) Z (Yx o pc L (.int x :: st) σ) := by
  refine Xo.mono ?_ (k x)
  intro y ls H locs hl hP hS
  obtain ⟨ls', e1, e2⟩ := lh_st1 (v := .int x) hl (by rw [C.2.2.2.2.2.2.2.2.2.2.2]; exact hi) rfl
  rw [hL] at e2
  exact W.st1 C.1 C.2.1 e1 (Or.inl ⟨_, rfl, Or.inr ⟨rfl, rfl⟩⟩) hd (y ls' H locs e2 hP hS)
theorem x_astore_n (C : Cx o own cc nL rt rm w) {i : Fin 4} {x : Nat} (hd : decode cc pc = .ok (.astore_n i, 1)) (hi : (i : Nat) < nL) (hL : st1 L (i : Nat) (.ref x) = L') (k : Xo f Z (Yx o (pc + 1) L' st σ)) : Xo f Z (Yx o pc L (.ref x :: st) σ) := by
  refine k.mono (fun y ls H locs hl hP hS => ?_)
  subst hL
  obtain ⟨ls', e1, e2⟩ := lh_st1 (v := .ref x) hl (by rw [C.2.2.2.2.2.2.2.2.2.2.2]; exact hi) rfl
  exact W.st1 C.1 C.2.1 e1 (Or.inr (Or.inl ⟨_, rfl, Or.inl ⟨i, rfl, rfl, rfl⟩⟩)) hd (y ls' H locs e2 hP hS)
theorem x_astore (C : Cx o own cc nL rt rm w) {i : Nat} {x : Nat} (hd : decode cc pc = .ok (.astore i, 2)) (hi : i < nL) (hL : st1 L i (.ref x) = L') (k : Xo f Z (Yx o (pc + 2) L' st σ)) : Xo f Z (Yx o pc L (.ref x :: st) σ) := by
  refine k.mono (fun y ls H locs hl hP hS => ?_)
  subst hL
  obtain ⟨ls', e1, e2⟩ := lh_st1 (v := .ref x) hl (by rw [C.2.2.2.2.2.2.2.2.2.2.2]; exact hi) rfl
  exact W.st1 C.1 C.2.1 e1 (Or.inr (Or.inl ⟨_, rfl, Or.inr ⟨rfl, rfl⟩⟩)) hd (y ls' H locs e2 hP hS)
theorem x_lstore_n (C : Cx o own cc nL rt rm w) {i : Fin 4} {x : Int64} {h : Int64 → Option τ} {L' : Int64 → List (Option Value)} (hd : decode cc pc = .ok (.lstore_n i, 1)) (hi : (i : Nat) + 1 < nL) (hL : ∀ y, st2 L (i : Nat) (.long y) = L' y) (k : ∀ y, Xo (h y) Z (Yx o (pc + 1) (L' y) st σ)) : Xo (nm x h) Z (Yx o pc L (.long x :: st) σ) := by
  refine Xo.mono ?_ (k x)
  intro y ls H locs hl hP hS
  obtain ⟨ls', e1, e2⟩ := lh_st2 (x := x) hl (by rw [C.2.2.2.2.2.2.2.2.2.2.2]; exact hi)
  rw [hL] at e2
  exact W.st1 C.1 C.2.1 e1 (Or.inr (Or.inr ⟨_, rfl, Or.inl ⟨i, rfl, rfl, rfl⟩⟩)) hd (y ls' H locs e2 hP hS)
theorem x_lstore (C : Cx o own cc nL rt rm w) {i : Nat} {x : Int64} {h : Int64 → Option τ} {L' : Int64 → List (Option Value)} (hd : decode cc pc = .ok (.lstore i, 2)) (hi : i + 1 < nL) (hL : ∀ y, st2 L i (.long y) = L' y) (k : ∀ y, Xo (h y) Z (Yx o (pc + 2) (L' y) st σ)) : Xo (nm x h) Z (Yx o pc L (.long x :: st) σ) := by
  refine Xo.mono ?_ (k x)
  intro y ls H locs hl hP hS
  obtain ⟨ls', e1, e2⟩ := lh_st2 (x := x) hl (by rw [C.2.2.2.2.2.2.2.2.2.2.2]; exact hi)
  rw [hL] at e2
  exact W.st1 C.1 C.2.1 e1 (Or.inr (Or.inr ⟨_, rfl, Or.inr ⟨rfl, rfl⟩⟩)) hd (y ls' H locs e2 hP hS)
theorem W.iincS {p : Program} {l : Launch} {e : Env} {R : Room} {s : State} {m : MethodId} {args : Array Value} {below : List Frame} {meth : Method} {c : Code} {H : Heap} {locs : List Loc} {Q : State → Prop} {ls ls' : Array Slot} {rest : List Value} (hexec : p.tables.exec = Jvm.exec) (hb : c.code = cc) {i : Nat} {n : Int} {x v : Int32} (hd : decode cc pc = .ok (.iinc i n, 3)) (hg : ls[i]? = some (.val (.int x))) (hv : x + Int32.ofInt n = v) (e' : storeLocals ls i (.int v) = some ls')
    (k : W p l e R s m args below meth c H locs 0 0 Q (F0 m (pc + 3) ls' rest)) : W p l e R s m args below meth c H locs 0 0 Q (F0 m pc ls rest) := by
  subst hv
  intro T hT X
  obtain ⟨t, a, b⟩ := k T hT X
  refine ⟨t, ?_, b⟩
  jvm_step X.here [X.here.top, ↓top_set X.here.top, hexec, hb, hd, hg, e']
  exact a
theorem x_iinc (C : Cx o own cc nL rt rm w) {i : Nat} {n : Int} {x d : Int32} {h : Int32 → Option τ} {L' : Int32 → List (Option Value)} (hd : decode cc pc = .ok (.iinc i n, 3)) (hx : L[i]? = some (some (.int x))) (hv : Int32.ofInt n = d) (hi : i < nL) (hL : ∀ y, st1 L i (.int y) = L' y) (k : ∀ y, Xo (h y) Z (Yx o (pc + 3) (L' y) st σ)) : Xo (nm (x + d) h) Z (Yx o pc L st σ) := by
  refine Xo.mono ?_ (k (x + d))
  intro y ls H locs hl hP hS
  obtain ⟨ls', e1, e2⟩ := lh_st1 (v := .int (x + d)) hl (by rw [C.2.2.2.2.2.2.2.2.2.2.2]; exact hi) rfl
  rw [hL] at e2
  exact W.iincS C.1 C.2.1 hd (lh_at hl hx) (by rw [hv]) e1 (y ls' H locs e2 hP hS)
theorem x_dup (C : Cx o own cc nL rt rm w) {v : Value} (hd : decode cc pc = .ok (.dup, 1)) (hc : v.category = 1) (k : Xo f Z (Yx o (pc + 1) L (v :: v :: st) σ)) : Xo f Z (Yx o pc L (v :: st) σ) :=
  k.mono (fun y ls H locs hl hP hS => lv_dup C.1 C.2.1 hd (by rw [sv_cat]; exact hc) (y ls H locs hl hP hS))
theorem x_pop (C : Cx o own cc nL rt rm w) {v : Value} (hd : decode cc pc = .ok (.pop, 1)) (hc : v.category = 1) (k : Xo f Z (Yx o (pc + 1) L st σ)) : Xo f Z (Yx o pc L (v :: st) σ) :=
  k.mono (fun y ls H locs hl hP hS => lv_pop C.1 C.2.1 hd (by rw [sv_cat]; exact hc) (y ls H locs hl hP hS))
theorem x_dup2 (C : Cx o own cc nL rt rm w) {u v : Value} (hd : decode cc pc = .ok (.dup2, 1)) (hu : u.category = 1) (hc : v.category = 1) (k : Xo f Z (Yx o (pc + 1) L (u :: v :: u :: v :: st) σ)) : Xo f Z (Yx o pc L (u :: v :: st) σ) :=
  k.mono (fun y ls H locs hl hP hS => lv_dup2_11 C.1 C.2.1 hd (by rw [sv_cat]; exact hu) (by rw [sv_cat]; exact hc) (y ls H locs hl hP hS))
theorem x_goto (C : Cx o own cc nL rt rm w) {off : Int} {tgt : Nat} (hd : decode cc pc = .ok (.goto off, 3)) (ht : (pc : Int) + off = (tgt : Int)) (k : Xo f Z (Yx o tgt L st σ)) : Xo f Z (Yx o pc L st σ) :=
  k.mono (fun y ls H locs hl hP hS => lv_goto C.1 C.2.1 hd ht (y ls H locs hl hP hS))
theorem x_icmp_eq (C : Cx o own cc nL rt rm w) {x y : Int32} [Decidable (x = y)] {off : Int} {tgt : Nat} (hd : decode cc pc = .ok (.if_icmp .eq off, 3)) (ht : (pc : Int) + off = (tgt : Int)) (kt : x = y → Xo f Z (Yx o tgt L st σ)) (kf : ¬ (x = y) → Xo g Z (Yx o (pc + 3) L st σ)) : Xo (if x = y then f else g) Z (Yx o pc L (.int y :: .int x :: st) σ) :=
  Xo.ite (fun h => (kt h).mono (fun y ls H locs hl hP hS => lv_icmp_eq C.1 C.2.1 hd ht (fun _ => y ls H locs hl hP hS) (fun q => absurd h q))) (fun h => (kf h).mono (fun y ls H locs hl hP hS => lv_icmp_eq C.1 C.2.1 hd ht (fun q => absurd q h) (fun _ => y ls H locs hl hP hS)))
theorem x_if_eq (C : Cx o own cc nL rt rm w) {x : Int32} [Decidable (x = 0)] {off : Int} {tgt : Nat} (hd : decode cc pc = .ok (.ifCond .eq off, 3)) (ht : (pc : Int) + off = (tgt : Int)) (kt : x = 0 → Xo f Z (Yx o tgt L st σ)) (kf : ¬ (x = 0) → Xo g Z (Yx o (pc + 3) L st σ)) : Xo (if x = 0 then f else g) Z (Yx o pc L (.int x :: st) σ) :=
  Xo.ite (fun h => (kt h).mono (fun y ls H locs hl hP hS => lv_if_eq C.1 C.2.1 hd ht (fun _ => y ls H locs hl hP hS) (fun q => absurd h q))) (fun h => (kf h).mono (fun y ls H locs hl hP hS => lv_if_eq C.1 C.2.1 hd ht (fun q => absurd q h) (fun _ => y ls H locs hl hP hS)))
theorem x_icmp_ne (C : Cx o own cc nL rt rm w) {x y : Int32} [Decidable (x = y)] {off : Int} {tgt : Nat} (hd : decode cc pc = .ok (.if_icmp .ne off, 3)) (ht : (pc : Int) + off = (tgt : Int)) (kf : x = y → Xo f Z (Yx o (pc + 3) L st σ)) (kt : ¬ x = y → Xo g Z (Yx o tgt L st σ)) : Xo (if x = y then f else g) Z (Yx o pc L (.int y :: .int x :: st) σ) :=
  Xo.ite (fun h => (kf h).mono (fun y ls H locs hl hP hS => lv_icmp_ne C.1 C.2.1 hd ht (fun q => absurd h q) (fun _ => y ls H locs hl hP hS))) (fun h => (kt h).mono (fun y ls H locs hl hP hS => lv_icmp_ne C.1 C.2.1 hd ht (fun _ => y ls H locs hl hP hS) (fun q => absurd q h)))
theorem x_if_ne (C : Cx o own cc nL rt rm w) {x : Int32} [Decidable (x = 0)] {off : Int} {tgt : Nat} (hd : decode cc pc = .ok (.ifCond .ne off, 3)) (ht : (pc : Int) + off = (tgt : Int)) (kf : x = 0 → Xo f Z (Yx o (pc + 3) L st σ)) (kt : ¬ x = 0 → Xo g Z (Yx o tgt L st σ)) : Xo (if x = 0 then f else g) Z (Yx o pc L (.int x :: st) σ) :=
  Xo.ite (fun h => (kf h).mono (fun y ls H locs hl hP hS => lv_if_ne C.1 C.2.1 hd ht (fun q => absurd h q) (fun _ => y ls H locs hl hP hS))) (fun h => (kt h).mono (fun y ls H locs hl hP hS => lv_if_ne C.1 C.2.1 hd ht (fun _ => y ls H locs hl hP hS) (fun q => absurd q h)))
theorem x_icmp_lt (C : Cx o own cc nL rt rm w) {x y : Int32} [Decidable (x < y)] {off : Int} {tgt : Nat} (hd : decode cc pc = .ok (.if_icmp .lt off, 3)) (ht : (pc : Int) + off = (tgt : Int)) (kt : x < y → Xo f Z (Yx o tgt L st σ)) (kf : ¬ (x < y) → Xo g Z (Yx o (pc + 3) L st σ)) : Xo (if x < y then f else g) Z (Yx o pc L (.int y :: .int x :: st) σ) :=
  Xo.ite (fun h => (kt h).mono (fun y ls H locs hl hP hS => lv_icmp_lt C.1 C.2.1 hd ht (fun _ => y ls H locs hl hP hS) (fun q => absurd h q))) (fun h => (kf h).mono (fun y ls H locs hl hP hS => lv_icmp_lt C.1 C.2.1 hd ht (fun q => absurd q h) (fun _ => y ls H locs hl hP hS)))
theorem x_if_lt (C : Cx o own cc nL rt rm w) {x : Int32} [Decidable (x < 0)] {off : Int} {tgt : Nat} (hd : decode cc pc = .ok (.ifCond .lt off, 3)) (ht : (pc : Int) + off = (tgt : Int)) (kt : x < 0 → Xo f Z (Yx o tgt L st σ)) (kf : ¬ (x < 0) → Xo g Z (Yx o (pc + 3) L st σ)) : Xo (if x < 0 then f else g) Z (Yx o pc L (.int x :: st) σ) :=
  Xo.ite (fun h => (kt h).mono (fun y ls H locs hl hP hS => lv_if_lt C.1 C.2.1 hd ht (fun _ => y ls H locs hl hP hS) (fun q => absurd h q))) (fun h => (kf h).mono (fun y ls H locs hl hP hS => lv_if_lt C.1 C.2.1 hd ht (fun q => absurd q h) (fun _ => y ls H locs hl hP hS)))
theorem x_icmp_ge (C : Cx o own cc nL rt rm w) {x y : Int32} [Decidable (y ≤ x)] {off : Int} {tgt : Nat} (hd : decode cc pc = .ok (.if_icmp .ge off, 3)) (ht : (pc : Int) + off = (tgt : Int)) (kt : y ≤ x → Xo f Z (Yx o tgt L st σ)) (kf : ¬ (y ≤ x) → Xo g Z (Yx o (pc + 3) L st σ)) : Xo (if y ≤ x then f else g) Z (Yx o pc L (.int y :: .int x :: st) σ) :=
  Xo.ite (fun h => (kt h).mono (fun y ls H locs hl hP hS => lv_icmp_ge C.1 C.2.1 hd ht (fun _ => y ls H locs hl hP hS) (fun q => absurd h q))) (fun h => (kf h).mono (fun y ls H locs hl hP hS => lv_icmp_ge C.1 C.2.1 hd ht (fun q => absurd q h) (fun _ => y ls H locs hl hP hS)))
theorem x_if_ge (C : Cx o own cc nL rt rm w) {x : Int32} [Decidable (0 ≤ x)] {off : Int} {tgt : Nat} (hd : decode cc pc = .ok (.ifCond .ge off, 3)) (ht : (pc : Int) + off = (tgt : Int)) (kt : 0 ≤ x → Xo f Z (Yx o tgt L st σ)) (kf : ¬ (0 ≤ x) → Xo g Z (Yx o (pc + 3) L st σ)) : Xo (if 0 ≤ x then f else g) Z (Yx o pc L (.int x :: st) σ) :=
  Xo.ite (fun h => (kt h).mono (fun y ls H locs hl hP hS => lv_if_ge C.1 C.2.1 hd ht (fun _ => y ls H locs hl hP hS) (fun q => absurd h q))) (fun h => (kf h).mono (fun y ls H locs hl hP hS => lv_if_ge C.1 C.2.1 hd ht (fun q => absurd q h) (fun _ => y ls H locs hl hP hS)))
theorem x_icmp_gt (C : Cx o own cc nL rt rm w) {x y : Int32} [Decidable (y < x)] {off : Int} {tgt : Nat} (hd : decode cc pc = .ok (.if_icmp .gt off, 3)) (ht : (pc : Int) + off = (tgt : Int)) (kt : y < x → Xo f Z (Yx o tgt L st σ)) (kf : ¬ (y < x) → Xo g Z (Yx o (pc + 3) L st σ)) : Xo (if y < x then f else g) Z (Yx o pc L (.int y :: .int x :: st) σ) :=
  Xo.ite (fun h => (kt h).mono (fun y ls H locs hl hP hS => lv_icmp_gt C.1 C.2.1 hd ht (fun _ => y ls H locs hl hP hS) (fun q => absurd h q))) (fun h => (kf h).mono (fun y ls H locs hl hP hS => lv_icmp_gt C.1 C.2.1 hd ht (fun q => absurd q h) (fun _ => y ls H locs hl hP hS)))
theorem x_if_gt (C : Cx o own cc nL rt rm w) {x : Int32} [Decidable (0 < x)] {off : Int} {tgt : Nat} (hd : decode cc pc = .ok (.ifCond .gt off, 3)) (ht : (pc : Int) + off = (tgt : Int)) (kt : 0 < x → Xo f Z (Yx o tgt L st σ)) (kf : ¬ (0 < x) → Xo g Z (Yx o (pc + 3) L st σ)) : Xo (if 0 < x then f else g) Z (Yx o pc L (.int x :: st) σ) :=
  Xo.ite (fun h => (kt h).mono (fun y ls H locs hl hP hS => lv_if_gt C.1 C.2.1 hd ht (fun _ => y ls H locs hl hP hS) (fun q => absurd h q))) (fun h => (kf h).mono (fun y ls H locs hl hP hS => lv_if_gt C.1 C.2.1 hd ht (fun q => absurd q h) (fun _ => y ls H locs hl hP hS)))
theorem x_icmp_le (C : Cx o own cc nL rt rm w) {x y : Int32} [Decidable (x ≤ y)] {off : Int} {tgt : Nat} (hd : decode cc pc = .ok (.if_icmp .le off, 3)) (ht : (pc : Int) + off = (tgt : Int)) (kt : x ≤ y → Xo f Z (Yx o tgt L st σ)) (kf : ¬ (x ≤ y) → Xo g Z (Yx o (pc + 3) L st σ)) : Xo (if x ≤ y then f else g) Z (Yx o pc L (.int y :: .int x :: st) σ) :=
  Xo.ite (fun h => (kt h).mono (fun y ls H locs hl hP hS => lv_icmp_le C.1 C.2.1 hd ht (fun _ => y ls H locs hl hP hS) (fun q => absurd h q))) (fun h => (kf h).mono (fun y ls H locs hl hP hS => lv_icmp_le C.1 C.2.1 hd ht (fun q => absurd q h) (fun _ => y ls H locs hl hP hS)))
theorem x_if_le (C : Cx o own cc nL rt rm w) {x : Int32} [Decidable (x ≤ 0)] {off : Int} {tgt : Nat} (hd : decode cc pc = .ok (.ifCond .le off, 3)) (ht : (pc : Int) + off = (tgt : Int)) (kt : x ≤ 0 → Xo f Z (Yx o tgt L st σ)) (kf : ¬ (x ≤ 0) → Xo g Z (Yx o (pc + 3) L st σ)) : Xo (if x ≤ 0 then f else g) Z (Yx o pc L (.int x :: st) σ) :=
  Xo.ite (fun h => (kt h).mono (fun y ls H locs hl hP hS => lv_if_le C.1 C.2.1 hd ht (fun _ => y ls H locs hl hP hS) (fun q => absurd h q))) (fun h => (kf h).mono (fun y ls H locs hl hP hS => lv_if_le C.1 C.2.1 hd ht (fun q => absurd q h) (fun _ => y ls H locs hl hP hS)))
theorem x_tabI (C : Cx o own cc nL rt rm w) {dflt lo hi : Int} {offs : Array Int} {len : Nat} {x v : Int32} {off : Int} {tgt : Nat} (hd : decode cc pc = .ok (.tableswitch dflt lo hi offs, len)) (hx : x = v) (h1 : ¬ v.toInt < lo) (h2 : ¬ hi < v.toInt) (ho : offs[(v.toInt - lo).toNat]? = some off) (ht : (pc : Int) + off = (tgt : Int)) (k : Xo f Z (Yx o tgt L st σ)) : Xo f Z (Yx o pc L (.int x :: st) σ) := by
  subst hx
  exact k.mono (fun y ls H locs hl hP hS => lv_tableIn C.1 C.2.1 hd h1 h2 ho ht (y ls H locs hl hP hS))
theorem x_tabO (C : Cx o own cc nL rt rm w) {dflt lo hi : Int} {offs : Array Int} {len : Nat} {x : Int32} {tgt : Nat} (hd : decode cc pc = .ok (.tableswitch dflt lo hi offs, len)) (h : x.toInt < lo ∨ hi < x.toInt) (ht : (pc : Int) + dflt = (tgt : Int)) (k : Xo f Z (Yx o tgt L st σ)) : Xo f Z (Yx o pc L (.int x :: st) σ) :=
  k.mono (fun y ls H locs hl hP hS => lv_tableOut C.1 C.2.1 hd h ht (y ls H locs hl hP hS))
theorem x_look (C : Cx o own cc nL rt rm w) {dflt : Int} {ps : Array (Int × Int)} {len : Nat} {x : Int32} {off : Int} {tgt : Nat} (hd : decode cc pc = .ok (.lookupswitch dflt ps, len)) (hp : (ps.toList.zip (ps.toList.drop 1)).all (fun (a, next) => a.1 < next.1) = true) (ho : Op.lookupswitch.offset ps.toList dflt x.toInt = off) (ht : (pc : Int) + off = (tgt : Int)) (k : Xo f Z (Yx o tgt L st σ)) : Xo f Z (Yx o pc L (.int x :: st) σ) :=
  k.mono (fun y ls H locs hl hP hS => lv_lookup C.1 C.2.1 hd hp ho ht (y ls H locs hl hP hS))
theorem tab_out {x : Int32} {lo hi : Int} (n : Nat) (h : ∀ j : Nat, j < n → ¬ x.toInt = lo + j) (hn : hi = lo + n - 1) : x.toInt < lo ∨ hi < x.toInt := by
  rcases Int.lt_or_le x.toInt lo with q | q
  · exact Or.inl q
  · rcases Int.lt_or_le hi x.toInt with r | r
    · exact Or.inr r
    · exact absurd (show x.toInt = lo + ((x.toInt - lo).toNat : Int) by omega) (h (x.toInt - lo).toNat (by omega))
end RU
