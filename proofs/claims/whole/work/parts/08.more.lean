/-! ===== forms for programs ===== -/
theorem lw_z {L' : List (Option Value)} (h : LW [] L') : LW [] (none :: L') := fun i v hi => by
  cases i with
  | zero => simp at hi
  | succ i => exact absurd (h i v (by simpa using hi)) (by simp)
def bde {A R : Type} (f : Option (A ⊕ R)) (k : A → Option R) : Option R := f.bind (Sum.elim k some)
section XM
variable {τ : Type} {Z : τ → Prop} {G : Prop}
theorem xb_1 {α : Type} {a : Option α} {k : α → Option τ} {Z1 : α → Prop} (h1 : Xo a Z1 G) (h2 : ∀ x, Xo (k x) Z (Z1 x)) : Xo (bd a k) Z G := Xo.bd h1 h2
theorem xb_0 {a : Option Unit} {k : Unit → Option τ} {Z1 : Unit → Prop} (h1 : Xo a Z1 G) (h2 : ∀ x, Xo (k x) Z (Z1 x)) : Xo (bd a k) Z G := Xo.bd h1 h2
theorem xe_1 {A : Type} {a : Option (A ⊕ τ)} {k : A → Option τ} {Z1 : A → Prop} (h1 : Xo a (Sum.elim Z1 Z) G) (h2 : ∀ x, Xo (k x) Z (Z1 x)) : Xo (bde a k) Z G := by
  intro r hr hz
  change a.bind (Sum.elim k some) = some r at hr
  cases ha : a with
  | none => rw [ha] at hr; cases hr
  | some x =>
    rw [ha] at hr
    cases x with
    | inl x => exact h1 _ ha (h2 x r hr hz)
    | inr x => cases hr; exact h1 _ ha hz
theorem xe_0 {a : Option (Unit ⊕ τ)} {k : Unit → Option τ} {Z1 : Unit → Prop} (h1 : Xo a (Sum.elim Z1 Z) G) (h2 : ∀ x, Xo (k x) Z (Z1 x)) : Xo (bde a k) Z G := xe_1 h1 h2
theorem xb_2 {A B : Type} {a : Option (A × B)} {k : A → B → Option τ} {Z1 : A → B → Prop} (h1 : Xo a (fun x => Z1 x.1 x.2) G) (h2 : ∀ a1 a2, Xo (k a1 a2) Z (Z1 a1 a2)) : Xo (bd a (u2 k)) Z G := Xo.bd h1 (fun x => h2 x.1 x.2)
theorem xe_2 {A B : Type} {a : Option ((A × B) ⊕ τ)} {k : A → B → Option τ} {Z1 : A → B → Prop} (h1 : Xo a (Sum.elim (fun x => Z1 x.1 x.2) Z) G) (h2 : ∀ a1 a2, Xo (k a1 a2) Z (Z1 a1 a2)) : Xo (bde a (u2 k)) Z G := xe_1 h1 (fun x => h2 x.1 x.2)
theorem xb_3 {A B C : Type} {a : Option (A × B × C)} {k : A → B → C → Option τ} {Z1 : A → B → C → Prop} (h1 : Xo a (fun x => Z1 x.1 x.2.1 x.2.2) G) (h2 : ∀ a1 a2 a3, Xo (k a1 a2 a3) Z (Z1 a1 a2 a3)) : Xo (bd a (u3 k)) Z G := Xo.bd h1 (fun x => h2 x.1 x.2.1 x.2.2)
theorem xe_3 {A B C : Type} {a : Option ((A × B × C) ⊕ τ)} {k : A → B → C → Option τ} {Z1 : A → B → C → Prop} (h1 : Xo a (Sum.elim (fun x => Z1 x.1 x.2.1 x.2.2) Z) G) (h2 : ∀ a1 a2 a3, Xo (k a1 a2 a3) Z (Z1 a1 a2 a3)) : Xo (bde a (u3 k)) Z G := xe_1 h1 (fun x => h2 x.1 x.2.1 x.2.2)
theorem xb_4 {A B C D : Type} {a : Option (A × B × C × D)} {k : A → B → C → D → Option τ} {Z1 : A → B → C → D → Prop} (h1 : Xo a (fun x => Z1 x.1 x.2.1 x.2.2.1 x.2.2.2) G) (h2 : ∀ a1 a2 a3 a4, Xo (k a1 a2 a3 a4) Z (Z1 a1 a2 a3 a4)) : Xo (bd a (u4 k)) Z G := Xo.bd h1 (fun x => h2 x.1 x.2.1 x.2.2.1 x.2.2.2)
theorem xe_4 {A B C D : Type} {a : Option ((A × B × C × D) ⊕ τ)} {k : A → B → C → D → Option τ} {Z1 : A → B → C → D → Prop} (h1 : Xo a (Sum.elim (fun x => Z1 x.1 x.2.1 x.2.2.1 x.2.2.2) Z) G) (h2 : ∀ a1 a2 a3 a4, Xo (k a1 a2 a3 a4) Z (Z1 a1 a2 a3 a4)) : Xo (bde a (u4 k)) Z G := xe_1 h1 (fun x => h2 x.1 x.2.1 x.2.2.1 x.2.2.2)
theorem xb_5 {A B C D E : Type} {a : Option (A × B × C × D × E)} {k : A → B → C → D → E → Option τ} {Z1 : A → B → C → D → E → Prop} (h1 : Xo a (fun x => Z1 x.1 x.2.1 x.2.2.1 x.2.2.2.1 x.2.2.2.2) G) (h2 : ∀ a1 a2 a3 a4 a5, Xo (k a1 a2 a3 a4 a5) Z (Z1 a1 a2 a3 a4 a5)) : Xo (bd a (u5 k)) Z G := Xo.bd h1 (fun x => h2 x.1 x.2.1 x.2.2.1 x.2.2.2.1 x.2.2.2.2)
theorem xe_5 {A B C D E : Type} {a : Option ((A × B × C × D × E) ⊕ τ)} {k : A → B → C → D → E → Option τ} {Z1 : A → B → C → D → E → Prop} (h1 : Xo a (Sum.elim (fun x => Z1 x.1 x.2.1 x.2.2.1 x.2.2.2.1 x.2.2.2.2) Z) G) (h2 : ∀ a1 a2 a3 a4 a5, Xo (k a1 a2 a3 a4 a5) Z (Z1 a1 a2 a3 a4 a5)) : Xo (bde a (u5 k)) Z G := xe_1 h1 (fun x => h2 x.1 x.2.1 x.2.2.1 x.2.2.2.1 x.2.2.2.2)
theorem xb_6 {A B C D E F : Type} {a : Option (A × B × C × D × E × F)} {k : A → B → C → D → E → F → Option τ} {Z1 : A → B → C → D → E → F → Prop} (h1 : Xo a (fun x => Z1 x.1 x.2.1 x.2.2.1 x.2.2.2.1 x.2.2.2.2.1 x.2.2.2.2.2) G) (h2 : ∀ a1 a2 a3 a4 a5 a6, Xo (k a1 a2 a3 a4 a5 a6) Z (Z1 a1 a2 a3 a4 a5 a6)) : Xo (bd a (u6 k)) Z G := Xo.bd h1 (fun x => h2 x.1 x.2.1 x.2.2.1 x.2.2.2.1 x.2.2.2.2.1 x.2.2.2.2.2)
theorem xe_6 {A B C D E F : Type} {a : Option ((A × B × C × D × E × F) ⊕ τ)} {k : A → B → C → D → E → F → Option τ} {Z1 : A → B → C → D → E → F → Prop} (h1 : Xo a (Sum.elim (fun x => Z1 x.1 x.2.1 x.2.2.1 x.2.2.2.1 x.2.2.2.2.1 x.2.2.2.2.2) Z) G) (h2 : ∀ a1 a2 a3 a4 a5 a6, Xo (k a1 a2 a3 a4 a5 a6) Z (Z1 a1 a2 a3 a4 a5 a6)) : Xo (bde a (u6 k)) Z G := xe_1 h1 (fun x => h2 x.1 x.2.1 x.2.2.1 x.2.2.2.1 x.2.2.2.2.1 x.2.2.2.2.2)
theorem xb_7 {A B C D E F H : Type} {a : Option (A × B × C × D × E × F × H)} {k : A → B → C → D → E → F → H → Option τ} {Z1 : A → B → C → D → E → F → H → Prop} (h1 : Xo a (fun x => Z1 x.1 x.2.1 x.2.2.1 x.2.2.2.1 x.2.2.2.2.1 x.2.2.2.2.2.1 x.2.2.2.2.2.2) G) (h2 : ∀ a1 a2 a3 a4 a5 a6 a7, Xo (k a1 a2 a3 a4 a5 a6 a7) Z (Z1 a1 a2 a3 a4 a5 a6 a7)) : Xo (bd a (u7 k)) Z G := Xo.bd h1 (fun x => h2 x.1 x.2.1 x.2.2.1 x.2.2.2.1 x.2.2.2.2.1 x.2.2.2.2.2.1 x.2.2.2.2.2.2)
theorem xe_7 {A B C D E F H : Type} {a : Option ((A × B × C × D × E × F × H) ⊕ τ)} {k : A → B → C → D → E → F → H → Option τ} {Z1 : A → B → C → D → E → F → H → Prop} (h1 : Xo a (Sum.elim (fun x => Z1 x.1 x.2.1 x.2.2.1 x.2.2.2.1 x.2.2.2.2.1 x.2.2.2.2.2.1 x.2.2.2.2.2.2) Z) G) (h2 : ∀ a1 a2 a3 a4 a5 a6 a7, Xo (k a1 a2 a3 a4 a5 a6 a7) Z (Z1 a1 a2 a3 a4 a5 a6 a7)) : Xo (bde a (u7 k)) Z G := xe_1 h1 (fun x => h2 x.1 x.2.1 x.2.2.1 x.2.2.2.1 x.2.2.2.2.1 x.2.2.2.2.2.1 x.2.2.2.2.2.2)
theorem x_lp1 {A E : Type} {b : A → Option (A ⊕ E)} (fr : A → Prop) {ex : E → Prop} (a1 : A) (hb : ∀ a1, Xo (b a1) (Sum.elim fr ex) (fr a1)) : Xo (lp FUEL b a1) ex (fr a1) := x_lpF fr ex a1 hb
theorem x_lp2 {A B E' : Type} {b : A → B → Option ((A × B) ⊕ E')} (fr : A → B → Prop) {ex : E' → Prop} (a1 : A) (a2 : B) (hb : ∀ a1 a2, Xo (b a1 a2) (Sum.elim (fun x => fr x.1 x.2) ex) (fr a1 a2)) : Xo (lp FUEL (u2 b) (a1, a2)) ex (fr a1 a2) := x_lpF (fun x => fr x.1 x.2) ex (a1, a2) (fun x => hb x.1 x.2)
theorem x_lp3 {A B C E' : Type} {b : A → B → C → Option ((A × B × C) ⊕ E')} (fr : A → B → C → Prop) {ex : E' → Prop} (a1 : A) (a2 : B) (a3 : C) (hb : ∀ a1 a2 a3, Xo (b a1 a2 a3) (Sum.elim (fun x => fr x.1 x.2.1 x.2.2) ex) (fr a1 a2 a3)) : Xo (lp FUEL (u3 b) (a1, a2, a3)) ex (fr a1 a2 a3) := x_lpF (fun x => fr x.1 x.2.1 x.2.2) ex (a1, a2, a3) (fun x => hb x.1 x.2.1 x.2.2)
theorem x_lp4 {A B C D E' : Type} {b : A → B → C → D → Option ((A × B × C × D) ⊕ E')} (fr : A → B → C → D → Prop) {ex : E' → Prop} (a1 : A) (a2 : B) (a3 : C) (a4 : D) (hb : ∀ a1 a2 a3 a4, Xo (b a1 a2 a3 a4) (Sum.elim (fun x => fr x.1 x.2.1 x.2.2.1 x.2.2.2) ex) (fr a1 a2 a3 a4)) : Xo (lp FUEL (u4 b) (a1, a2, a3, a4)) ex (fr a1 a2 a3 a4) := x_lpF (fun x => fr x.1 x.2.1 x.2.2.1 x.2.2.2) ex (a1, a2, a3, a4) (fun x => hb x.1 x.2.1 x.2.2.1 x.2.2.2)
theorem x_lp5 {A B C D E E' : Type} {b : A → B → C → D → E → Option ((A × B × C × D × E) ⊕ E')} (fr : A → B → C → D → E → Prop) {ex : E' → Prop} (a1 : A) (a2 : B) (a3 : C) (a4 : D) (a5 : E) (hb : ∀ a1 a2 a3 a4 a5, Xo (b a1 a2 a3 a4 a5) (Sum.elim (fun x => fr x.1 x.2.1 x.2.2.1 x.2.2.2.1 x.2.2.2.2) ex) (fr a1 a2 a3 a4 a5)) : Xo (lp FUEL (u5 b) (a1, a2, a3, a4, a5)) ex (fr a1 a2 a3 a4 a5) := x_lpF (fun x => fr x.1 x.2.1 x.2.2.1 x.2.2.2.1 x.2.2.2.2) ex (a1, a2, a3, a4, a5) (fun x => hb x.1 x.2.1 x.2.2.1 x.2.2.2.1 x.2.2.2.2)
theorem x_lp6 {A B C D E F E' : Type} {b : A → B → C → D → E → F → Option ((A × B × C × D × E × F) ⊕ E')} (fr : A → B → C → D → E → F → Prop) {ex : E' → Prop} (a1 : A) (a2 : B) (a3 : C) (a4 : D) (a5 : E) (a6 : F) (hb : ∀ a1 a2 a3 a4 a5 a6, Xo (b a1 a2 a3 a4 a5 a6) (Sum.elim (fun x => fr x.1 x.2.1 x.2.2.1 x.2.2.2.1 x.2.2.2.2.1 x.2.2.2.2.2) ex) (fr a1 a2 a3 a4 a5 a6)) : Xo (lp FUEL (u6 b) (a1, a2, a3, a4, a5, a6)) ex (fr a1 a2 a3 a4 a5 a6) := x_lpF (fun x => fr x.1 x.2.1 x.2.2.1 x.2.2.2.1 x.2.2.2.2.1 x.2.2.2.2.2) ex (a1, a2, a3, a4, a5, a6) (fun x => hb x.1 x.2.1 x.2.2.1 x.2.2.2.1 x.2.2.2.2.1 x.2.2.2.2.2)
theorem x_lp7 {A B C D E F H E' : Type} {b : A → B → C → D → E → F → H → Option ((A × B × C × D × E × F × H) ⊕ E')} (fr : A → B → C → D → E → F → H → Prop) {ex : E' → Prop} (a1 : A) (a2 : B) (a3 : C) (a4 : D) (a5 : E) (a6 : F) (a7 : H) (hb : ∀ a1 a2 a3 a4 a5 a6 a7, Xo (b a1 a2 a3 a4 a5 a6 a7) (Sum.elim (fun x => fr x.1 x.2.1 x.2.2.1 x.2.2.2.1 x.2.2.2.2.1 x.2.2.2.2.2.1 x.2.2.2.2.2.2) ex) (fr a1 a2 a3 a4 a5 a6 a7)) : Xo (lp FUEL (u7 b) (a1, a2, a3, a4, a5, a6, a7)) ex (fr a1 a2 a3 a4 a5 a6 a7) := x_lpF (fun x => fr x.1 x.2.1 x.2.2.1 x.2.2.2.1 x.2.2.2.2.1 x.2.2.2.2.2.1 x.2.2.2.2.2.2) ex (a1, a2, a3, a4, a5, a6, a7) (fun x => hb x.1 x.2.1 x.2.2.1 x.2.2.2.1 x.2.2.2.2.1 x.2.2.2.2.2.1 x.2.2.2.2.2.2)
theorem zb_0 : zb (nI 0) = true := by decide +kernel
theorem zb_1 : zb (nI 1) = true := by decide +kernel
end XM
section RM
variable {τ : Type} {f g : Option τ} {Z : τ → Prop} {o : Om} {own : String} {cc : ByteArray} {nL : Nat} {rt : Option FieldType} {rm : Room} {w pc : Nat} {L L' : List (Option Value)} {st : List Value} {σ : SS} {h : SS → Option τ}
theorem x_putIn (C : Cx o own cc nL rt rm w) {idx ci k c : Nat} {v : Int32} (F : FP w own idx ci k 0 .int) (hd : decode cc pc = .ok (.putfield idx, 3)) (hk : kd c = ci) (kk : ∀ s2, Xo (h s2) Z (Yx o (pc + 3) L st s2)) : Xo (nm (pI σ c k v) h) Z (Yx o pc L (.int v :: .ref c :: st) σ) := x_putI (f := h (pI σ c k v)) C F hd hk (kk _)
theorem x_putZn (C : Cx o own cc nL rt rm w) {idx ci k c : Nat} {v : Int32} (F : FP w own idx ci k 0 .boolean) (hz : zb v = true) (hd : decode cc pc = .ok (.putfield idx, 3)) (hk : kd c = ci) (kk : ∀ s2, Xo (h s2) Z (Yx o (pc + 3) L st s2)) : Xo (nm (pI σ c k v) h) Z (Yx o pc L (.int v :: .ref c :: st) σ) := x_putZ (f := h (pI σ c k v)) C F hz hd hk (kk _)
theorem x_putLn (C : Cx o own cc nL rt rm w) {idx ci k c : Nat} {v : Int64} (F : FP w own idx ci k 1 .long) (hd : decode cc pc = .ok (.putfield idx, 3)) (hk : kd c = ci) (kk : ∀ s2, Xo (h s2) Z (Yx o (pc + 3) L st s2)) : Xo (nm (pL σ c k v) h) Z (Yx o pc L (.long v :: .ref c :: st) σ) := x_putL (f := h (pL σ c k v)) C F hd hk (kk _)
theorem x_iastn (C : Cx o own cc nL rt rm w) {c : Nat} {i v : Int32} (hd : decode cc pc = .ok (.iastore, 1)) (hk : kd c = 20 + w) (kk : ∀ s2, Xo (h s2) Z (Yx o (pc + 1) L st s2)) : Xo (gd (inb i (ln c)) (nm (pI σ c i.toNatClampNeg v) h)) Z (Yx o pc L (.int v :: .int i :: .ref c :: st) σ) := x_iast (f := h (pI σ c i.toNatClampNeg v)) C hd hk (fun _ => kk _)
theorem x_bastn (C : Cx o own cc nL rt rm w) {c : Nat} {i v : Int32} (hd : decode cc pc = .ok (.bastore, 1)) (hk : kd c = 22) (hw1 : w = 1) (hv : vp_nar .boolean v = v) (kk : ∀ s2, Xo (h s2) Z (Yx o (pc + 1) L st s2)) : Xo (gd (inb i (ln c)) (nm (pI σ c i.toNatClampNeg v) h)) Z (Yx o pc L (.int v :: .int i :: .ref c :: st) σ) := x_bast (f := h (pI σ c i.toNatClampNeg v)) C hd hk hw1 hv (fun _ => kk _)
theorem x_acopyn (C : Cx o own cc nL rt rm w) {a b : Nat} {sp dp n : Int32} {index : Nat} (h1 : Cond.methodLink own index arraycopyName ∈ TB) (h2 : Cond.native arraycopyName ∈ TB) (h3 : Cond.static arraycopyName ∈ TB) (h4 : Cond.initialized "java/lang/System" ∈ TB) (hr : 1 ≤ rm.frames ∧ nativeFrameWords "java/lang/System" "arraycopy" 5 + 11 ≤ rm.locals) (hd : decode cc pc = .ok (.invokestatic index, 3)) (hka0 : kd a = 20 + w) (hkb0 : kd b = 20 + w)
    (kk : ∀ s2, Xo (h s2) Z (Yx o (pc + 3) L [] s2)) : Xo (gd (cpok sp dp n (ln a) (ln b)) (nm (pA σ b (va_cpy (gI σ a) (gI σ b) sp.toNatClampNeg dp.toNatClampNeg n.toNatClampNeg)) h)) Z (Yx o pc L [.int n, .int dp, .ref b, .int sp, .ref a] σ) := x_acopy (f := h (pA σ b (va_cpy (gI σ a) (gI σ b) sp.toNatClampNeg dp.toNatClampNeg n.toNatClampNeg))) C h1 h2 h3 h4 hr hd hka0 hkb0 (fun _ => kk _)
theorem ct_ofz {y : MethodName} {fr lo : Nat} {av : List Value} {r : Int32} {σ' : SS} (hy : plainFor y = true) (hrt : rt = some .boolean) (L0 : List (Option Value)) (hL : ∀ (α : Nat → Nat), ∃ ls : Array Slot, (∀ m, entryFrame m (av.map (sv α)).toArray nL = F0 m 0 ls []) ∧ lh ls nL α L0)
    (body : ∀ o : Om, Cx o y.cls cc nL rt (rmx fr lo) w → (zb r = true → RT o cc (some (.int r)) σ') → Yx o 0 L0 [] σ) : CT w y cc nL rt fr lo av σ (some (.int r)) σ' := by
  intro l D α cI cZ hWk
  refine met_ofW (cc := cc) (maxL := nL) (ret := rt) hy rfl ?_
  intro p e s m args below meth c s₁ B hml hv
  obtain ⟨rfl, hP, hKn⟩ := hv
  have hts := atoms_spec (ws := wsU y cc nL rt) B.pre
  obtain ⟨ls, e1, e2⟩ := hL α
  rw [e1 m]
  have C : Cx ((p, l, e, rmx fr lo, s, m), ((av.map (sv α)).toArray, below, meth, c), (D, α, cI, cZ), (w, nL, MQ below (Qcx D α cI cZ w (some (.int r)) σ') (av.map (sv α)).toArray s 0 0 (Aw α w))) y.cls cc nL rt (rmx fr lo) w :=
    ⟨B.exec, B.bytes, hml, findClass_of_methodNamed B.named, fun x hx => hts x (List.mem_cons_of_mem _ hx), rfl, B.notSynchronized, B.returns, hKn, hWk, rfl, rfl⟩
  exact body _ C (fun hz => w_ret B.exec B.bytes B.notSynchronized B.returns (Or.inr (Or.inl ⟨_, rfl, _, hrt, zb_nar hz⟩))) ls s.heap [] e2 hP va_S.rf
end RM
