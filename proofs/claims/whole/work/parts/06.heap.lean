/-! ===== fields, rows, calls ===== -/
def FG (w : Nat) (own : String) (idx ci k t : Nat) : Prop := ∃ (K : String) (T : u_T) (N : Nat), vwCl[ci]? = some (K, T, N) ∧ (∀ x ∈ u_ws K T N, x ∈ TB) ∧ k < N ∧ Cond.fieldLink own idx K (T k).2.1 (T k).2.2.1 ∈ TB ∧ (T k).1 = K ∧ (ft ci)[k]? = some t ∧ kw ci = w ∧ ci < 20
def FP (w : Nat) (own : String) (idx ci k t : Nat) (ty : FieldType) : Prop := ∃ (K : String) (T : u_T) (N : Nat) (ty0 : Nat → FieldType), vwCl[ci]? = some (K, T, N) ∧ (∀ x ∈ u_ws K T N, x ∈ TB) ∧ k < N ∧ Cond.fieldLink own idx K (T k).2.1 (T k).2.2.1 ∈ TB ∧ (T k).1 = K ∧ (ft ci)[k]? = some t ∧ kw ci = w ∧ ci < 20 ∧
  (∀ k, k < N → parseFieldDescriptor (T k).2.2.1 = some (ty0 k)) ∧ (∀ a, a < N → ∀ b, b < N → a ≠ b → (T a).2.1 ≠ (T b).2.1) ∧ (T k).2.2.2 = false ∧ parseFieldDescriptor (T k).2.2.1 = some ty
theorem zb_fit {r : Int32} (h : zb r = true) : fits .boolean (.int r) = true := by
  simp only [zb, Bool.or_eq_true, decide_eq_true_eq] at h
  rcases h with rfl | rfl <;> decide +kernel
section RH
variable {τ : Type} {f g : Option τ} {Z : τ → Prop} {o : Om} {own : String} {cc : ByteArray} {nL : Nat} {rt : Option FieldType} {rm : Room} {w pc : Nat} {L L' : List (Option Value)} {st : List Value} {σ : SS}
theorem x_getI (C : Cx o own cc nL rt rm w) {idx ci k c : Nat} (F : FG w own idx ci k 0) (hd : decode cc pc = .ok (.getfield idx, 3)) (hk : kd c = ci) (kk : Xo f Z (Yx o (pc + 3) L (.int (gI σ c k) :: st) σ)) : Xo f Z (Yx o pc L (.ref c :: st) σ) := by
  refine kk.mono (fun y ls H locs hl hP hS => ?_)
  obtain ⟨⟨p, l, e, R, s, m⟩, ⟨args, below, meth, c0⟩, ⟨D, α, cI, cZ⟩, w0, n0, Q⟩ := o
  obtain ⟨hx, hb, hml, hown, hts, hR, hlk, hrt, hKn, hWk, e1, e2⟩ := C
  dsimp only at hx hb hml hown hts hR hlk hrt hKn hWk e1 e2
  subst e1; subst e2
  obtain ⟨K, T, N, h1, h2, h3, h4, h5, h6, h7, h8⟩ := F
  have he := wd_get hWk.1 α cI cZ σ (c := c) (by rw [hk]; exact h7)
  rw [el_obj α cI cZ σ hk h8] at he
  exact va_get (D := D) (ci := ci) (v := .int (gI σ c k)) hx hb hts h2 hown hKn.1 hP (c - wlo w0) he h1 k h3 (hts _ h4) (by rw [h5]; exact fun _ h => h) (fs_get α σ c ci k 0 h6) hd (y ls H locs hl hP hS)
theorem x_getL (C : Cx o own cc nL rt rm w) {idx ci k c : Nat} (F : FG w own idx ci k 1) (hd : decode cc pc = .ok (.getfield idx, 3)) (hk : kd c = ci) (kk : Xo f Z (Yx o (pc + 3) L (.long (gL σ c k) :: st) σ)) : Xo f Z (Yx o pc L (.ref c :: st) σ) := by
  refine kk.mono (fun y ls H locs hl hP hS => ?_)
  obtain ⟨⟨p, l, e, R, s, m⟩, ⟨args, below, meth, c0⟩, ⟨D, α, cI, cZ⟩, w0, n0, Q⟩ := o
  obtain ⟨hx, hb, hml, hown, hts, hR, hlk, hrt, hKn, hWk, e1, e2⟩ := C
  dsimp only at hx hb hml hown hts hR hlk hrt hKn hWk e1 e2
  subst e1; subst e2
  obtain ⟨K, T, N, h1, h2, h3, h4, h5, h6, h7, h8⟩ := F
  have he := wd_get hWk.1 α cI cZ σ (c := c) (by rw [hk]; exact h7)
  rw [el_obj α cI cZ σ hk h8] at he
  exact va_get (D := D) (ci := ci) (v := .long (gL σ c k)) hx hb hts h2 hown hKn.1 hP (c - wlo w0) he h1 k h3 (hts _ h4) (by rw [h5]; exact fun _ h => h) (fs_get α σ c ci k 1 h6) hd (y ls H locs hl hP hS)
theorem x_getR (C : Cx o own cc nL rt rm w) {idx ci k c : Nat} (F : FG w own idx ci k 2) (hd : decode cc pc = .ok (.getfield idx, 3)) (hk : kd c = ci) (kk : Xo f Z (Yx o (pc + 3) L (.ref (lk c k) :: st) σ)) : Xo f Z (Yx o pc L (.ref c :: st) σ) := by
  refine kk.mono (fun y ls H locs hl hP hS => ?_)
  obtain ⟨⟨p, l, e, R, s, m⟩, ⟨args, below, meth, c0⟩, ⟨D, α, cI, cZ⟩, w0, n0, Q⟩ := o
  obtain ⟨hx, hb, hml, hown, hts, hR, hlk, hrt, hKn, hWk, e1, e2⟩ := C
  dsimp only at hx hb hml hown hts hR hlk hrt hKn hWk e1 e2
  subst e1; subst e2
  obtain ⟨K, T, N, h1, h2, h3, h4, h5, h6, h7, h8⟩ := F
  have he := wd_get hWk.1 α cI cZ σ (c := c) (by rw [hk]; exact h7)
  rw [el_obj α cI cZ σ hk h8] at he
  exact va_get (D := D) (ci := ci) (v := .ref (α (lk c k))) hx hb hts h2 hown hKn.1 hP (c - wlo w0) he h1 k h3 (hts _ h4) (by rw [h5]; exact fun _ h => h) (fs_get α σ c ci k 2 h6) hd (y ls H locs hl hP hS)
theorem x_putI (C : Cx o own cc nL rt rm w) {idx ci k c : Nat} {v : Int32} (F : FP w own idx ci k 0 .int) (hd : decode cc pc = .ok (.putfield idx, 3)) (hk : kd c = ci) (kk : Xo f Z (Yx o (pc + 3) L st (pI σ c k v))) : Xo f Z (Yx o pc L (.int v :: .ref c :: st) σ) := by
  refine kk.mono (fun y ls H locs hl hP hS => ?_)
  obtain ⟨⟨p, l, e, R, s, m⟩, ⟨args, below, meth, c0⟩, ⟨D, α, cI, cZ⟩, w0, n0, Q⟩ := o
  obtain ⟨hx, hb, hml, hown, hts, hR, hlk, hrt, hKn, hWk, e1, e2⟩ := C
  dsimp only at hx hb hml hown hts hR hlk hrt hKn hWk e1 e2
  subst e1; subst e2
  obtain ⟨K, T, N, ty0, h1, h2, h3, h4, h5, h6, h7, h8, h9, h10, h11, h12⟩ := F
  have hkw : kw (kd c) = w0 := by rw [hk]; exact h7
  have he := wd_get hWk.1 α cI cZ σ (c := c) hkw
  rw [el_obj α cI cZ σ hk h8] at he
  have e3 : (wd w0 α cI cZ σ).set (c - wlo w0) (α c, .inr (ci, ((ft ci).mapIdx (fvl α σ c)).set k (.int v))) = wd w0 α cI cZ (pI σ c k v) := by
    refine wd_set hWk.1 α cI cZ hkw _ ?_ (fun d hd => el_pA_ne α cI cZ σ c _ d hd)
    rw [el_obj α cI cZ _ hk h8]
    rw [fs_set α σ (pI σ c k v) c ci k 0 (.int v) h6 (by simp only [fvl, pI, gI_pA, if_pos rfl, gL_pA]; simp [upd]) (fun j u hj => by simp only [fvl, pI, gI_pA, if_pos rfl, gL_pA]; simp [upd, hj])]
  refine va_put (D := D) (ci := ci) (v := .int v) hx hb hts h2 ty0 h9 h10 hown hKn.1 hP (wd_D hWk cI cZ σ) hS (c - wlo w0) he h1 k h3 (hts _ h4) (by rw [h5]; exact fun _ h => h) h11 h12 rfl rfl (by rw [List.length_mapIdx]; exact (List.getElem?_eq_some_iff.mp h6).1) hd (fun H1 locs1 hP1 hD1 hS1 => ?_)
  rw [e3] at hP1
  exact y ls H1 locs1 hl hP1 hS1
theorem x_putZ (C : Cx o own cc nL rt rm w) {idx ci k c : Nat} {v : Int32} (F : FP w own idx ci k 0 .boolean) (hz : zb v = true) (hd : decode cc pc = .ok (.putfield idx, 3)) (hk : kd c = ci) (kk : Xo f Z (Yx o (pc + 3) L st (pI σ c k v))) : Xo f Z (Yx o pc L (.int v :: .ref c :: st) σ) := by
  refine kk.mono (fun y ls H locs hl hP hS => ?_)
  obtain ⟨⟨p, l, e, R, s, m⟩, ⟨args, below, meth, c0⟩, ⟨D, α, cI, cZ⟩, w0, n0, Q⟩ := o
  obtain ⟨hx, hb, hml, hown, hts, hR, hlk, hrt, hKn, hWk, e1, e2⟩ := C
  dsimp only at hx hb hml hown hts hR hlk hrt hKn hWk e1 e2
  subst e1; subst e2
  obtain ⟨K, T, N, ty0, h1, h2, h3, h4, h5, h6, h7, h8, h9, h10, h11, h12⟩ := F
  have hkw : kw (kd c) = w0 := by rw [hk]; exact h7
  have he := wd_get hWk.1 α cI cZ σ (c := c) hkw
  rw [el_obj α cI cZ σ hk h8] at he
  have e3 : (wd w0 α cI cZ σ).set (c - wlo w0) (α c, .inr (ci, ((ft ci).mapIdx (fvl α σ c)).set k (.int v))) = wd w0 α cI cZ (pI σ c k v) := by
    refine wd_set hWk.1 α cI cZ hkw _ ?_ (fun d hd => el_pA_ne α cI cZ σ c _ d hd)
    rw [el_obj α cI cZ _ hk h8]
    rw [fs_set α σ (pI σ c k v) c ci k 0 (.int v) h6 (by simp only [fvl, pI, gI_pA, if_pos rfl, gL_pA]; simp [upd]) (fun j u hj => by simp only [fvl, pI, gI_pA, if_pos rfl, gL_pA]; simp [upd, hj])]
  refine va_put (D := D) (ci := ci) (v := .int v) hx hb hts h2 ty0 h9 h10 hown hKn.1 hP (wd_D hWk cI cZ σ) hS (c - wlo w0) he h1 k h3 (hts _ h4) (by rw [h5]; exact fun _ h => h) h11 h12 (zb_nar hz) (zb_fit hz) (by rw [List.length_mapIdx]; exact (List.getElem?_eq_some_iff.mp h6).1) hd (fun H1 locs1 hP1 hD1 hS1 => ?_)
  rw [e3] at hP1
  exact y ls H1 locs1 hl hP1 hS1
theorem x_putL (C : Cx o own cc nL rt rm w) {idx ci k c : Nat} {v : Int64} (F : FP w own idx ci k 1 .long) (hd : decode cc pc = .ok (.putfield idx, 3)) (hk : kd c = ci) (kk : Xo f Z (Yx o (pc + 3) L st (pL σ c k v))) : Xo f Z (Yx o pc L (.long v :: .ref c :: st) σ) := by
  refine kk.mono (fun y ls H locs hl hP hS => ?_)
  obtain ⟨⟨p, l, e, R, s, m⟩, ⟨args, below, meth, c0⟩, ⟨D, α, cI, cZ⟩, w0, n0, Q⟩ := o
  obtain ⟨hx, hb, hml, hown, hts, hR, hlk, hrt, hKn, hWk, e1, e2⟩ := C
  dsimp only at hx hb hml hown hts hR hlk hrt hKn hWk e1 e2
  subst e1; subst e2
  obtain ⟨K, T, N, ty0, h1, h2, h3, h4, h5, h6, h7, h8, h9, h10, h11, h12⟩ := F
  have hkw : kw (kd c) = w0 := by rw [hk]; exact h7
  have he := wd_get hWk.1 α cI cZ σ (c := c) hkw
  rw [el_obj α cI cZ σ hk h8] at he
  have e3 : (wd w0 α cI cZ σ).set (c - wlo w0) (α c, .inr (ci, ((ft ci).mapIdx (fvl α σ c)).set k (.long v))) = wd w0 α cI cZ (pL σ c k v) := by
    refine wd_set hWk.1 α cI cZ hkw _ ?_ (fun d hd => el_pL_ne α cI cZ σ c k v d hd)
    rw [el_obj α cI cZ _ hk h8]
    rw [fs_set α σ (pL σ c k v) c ci k 1 (.long v) h6 (by simp only [fvl, gL_pL, if_pos rfl, gI_pL]; simp [vp_updL]) (fun j u hj => by simp only [fvl, gL_pL, if_pos rfl, gI_pL]; simp [vp_updL, hj])]
  refine va_put (D := D) (ci := ci) (v := .long v) hx hb hts h2 ty0 h9 h10 hown hKn.1 hP (wd_D hWk cI cZ σ) hS (c - wlo w0) he h1 k h3 (hts _ h4) (by rw [h5]; exact fun _ h => h) h11 h12 rfl rfl (by rw [List.length_mapIdx]; exact (List.getElem?_eq_some_iff.mp h6).1) hd (fun H1 locs1 hP1 hD1 hS1 => ?_)
  rw [e3] at hP1
  exact y ls H1 locs1 hl hP1 hS1
theorem x_iald (C : Cx o own cc nL rt rm w) {c : Nat} {i : Int32} (hd : decode cc pc = .ok (.iaload, 1)) (hk : kd c = 20 + w) (kk : inb i (ln c) = true → Xo f Z (Yx o (pc + 1) L (.int (gI σ c i.toNatClampNeg) :: st) σ)) : Xo (gd (inb i (ln c)) f) Z (Yx o pc L (.int i :: .ref c :: st) σ) := by
  refine Xo.gd (fun hi => (kk hi).mono (fun y ls H locs hl hP hS => ?_))
  obtain ⟨⟨p, l, e, R, s, m⟩, ⟨args, below, meth, c0⟩, ⟨D, α, cI, cZ⟩, w0, n0, Q⟩ := o
  obtain ⟨hx, hb, hml, hown, hts, hR, hlk, hrt, hKn, hWk, e1, e2⟩ := C
  dsimp only at hx hb hml hown hts hR hlk hrt hKn hWk e1 e2
  subst e1; subst e2
  have hw := hWk.1
  have he := wd_get hWk.1 α cI cZ σ (c := c) (by rw [hk]; rcases hw with rfl | rfl <;> rfl)
  rw [el_arr (w := w0) α cI cZ σ (by omega)] at he
  exact va_iald hx hb hKn.1 hP (c - wlo w0) 0 he rfl (inb_in hi) hd (y ls H locs hl hP hS)
theorem x_iast (C : Cx o own cc nL rt rm w) {c : Nat} {i v : Int32} (hd : decode cc pc = .ok (.iastore, 1)) (hk : kd c = 20 + w) (kk : inb i (ln c) = true → Xo f Z (Yx o (pc + 1) L st (pI σ c i.toNatClampNeg v))) : Xo (gd (inb i (ln c)) f) Z (Yx o pc L (.int v :: .int i :: .ref c :: st) σ) := by
  refine Xo.gd (fun hi => (kk hi).mono (fun y ls H locs hl hP hS => ?_))
  obtain ⟨⟨p, l, e, R, s, m⟩, ⟨args, below, meth, c0⟩, ⟨D, α, cI, cZ⟩, w0, n0, Q⟩ := o
  obtain ⟨hx, hb, hml, hown, hts, hR, hlk, hrt, hKn, hWk, e1, e2⟩ := C
  dsimp only at hx hb hml hown hts hR hlk hrt hKn hWk e1 e2
  subst e1; subst e2
  have hw := hWk.1
  have hkw : kw (kd c) = w0 := by rw [hk]; rcases hw with rfl | rfl <;> rfl
  have he := wd_get hWk.1 α cI cZ σ (c := c) hkw
  have hk2 : kd c = 20 ∨ kd c = 21 := by omega
  rw [el_arr (w := w0) α cI cZ σ hk2] at he
  refine va_iast hx hb hKn.1 hP (wd_D hWk cI cZ σ) hS (c - wlo w0) 0 he rfl (x := v) (inb_in hi) hd (fun H1 locs1 hP1 hD1 hS1 => ?_)
  rw [wd_set hWk.1 α cI cZ hkw _ (σ' := pI σ c i.toNatClampNeg v) (by rw [el_arr (w := w0) α cI cZ _ hk2, pI, gI_pA, if_pos rfl]) (fun d hd => el_pA_ne α cI cZ σ c _ d hd)] at hP1
  exact y ls H1 locs1 hl hP1 hS1
theorem x_bald (C : Cx o own cc nL rt rm w) {c : Nat} {i : Int32} (hd : decode cc pc = .ok (.baload, 1)) (hk : kd c = 22) (hw1 : w = 1) (kk : inb i (ln c) = true → Xo f Z (Yx o (pc + 1) L (.int (gI σ c i.toNatClampNeg) :: st) σ)) : Xo (gd (inb i (ln c)) f) Z (Yx o pc L (.int i :: .ref c :: st) σ) := by
  refine Xo.gd (fun hi => (kk hi).mono (fun y ls H locs hl hP hS => ?_))
  obtain ⟨⟨p, l, e, R, s, m⟩, ⟨args, below, meth, c0⟩, ⟨D, α, cI, cZ⟩, w0, n0, Q⟩ := o
  obtain ⟨hx, hb, hml, hown, hts, hR, hlk, hrt, hKn, hWk, e1, e2⟩ := C
  dsimp only at hx hb hml hown hts hR hlk hrt hKn hWk e1 e2
  subst e1; subst e2
  have he := wd_get hWk.1 α cI cZ σ (c := c) (by rw [hk, hw1]; rfl)
  rw [el_boo α cI cZ σ hk] at he
  exact va_zald hx hb hKn.1 hP (c - wlo w0) 1 he rfl (inb_in hi) hd (y ls H locs hl hP hS)
theorem x_bast (C : Cx o own cc nL rt rm w) {c : Nat} {i v : Int32} (hd : decode cc pc = .ok (.bastore, 1)) (hk : kd c = 22) (hw1 : w = 1) (hv : vp_nar .boolean v = v) (kk : inb i (ln c) = true → Xo f Z (Yx o (pc + 1) L st (pI σ c i.toNatClampNeg v))) : Xo (gd (inb i (ln c)) f) Z (Yx o pc L (.int v :: .int i :: .ref c :: st) σ) := by
  refine Xo.gd (fun hi => (kk hi).mono (fun y ls H locs hl hP hS => ?_))
  obtain ⟨⟨p, l, e, R, s, m⟩, ⟨args, below, meth, c0⟩, ⟨D, α, cI, cZ⟩, w0, n0, Q⟩ := o
  obtain ⟨hx, hb, hml, hown, hts, hR, hlk, hrt, hKn, hWk, e1, e2⟩ := C
  dsimp only at hx hb hml hown hts hR hlk hrt hKn hWk e1 e2
  subst e1; subst e2
  have hkw : kw (kd c) = w0 := by rw [hk, hw1]; rfl
  have he := wd_get hWk.1 α cI cZ σ (c := c) hkw
  rw [el_boo α cI cZ σ hk] at he
  refine va_zast hx hb hKn.1 hP (wd_D hWk cI cZ σ) hS (c - wlo w0) 1 he rfl (x := v) (inb_in hi) hd (fun H1 locs1 hP1 hD1 hS1 => ?_)
  rw [hv, wd_set hWk.1 α cI cZ hkw _ (σ' := pI σ c i.toNatClampNeg v) (by rw [el_boo α cI cZ _ hk, pI, gI_pA, if_pos rfl]) (fun d hd => el_pA_ne α cI cZ σ c _ d hd)] at hP1
  exact y ls H1 locs1 hl hP1 hS1
theorem x_alen (C : Cx o own cc nL rt rm w) {c : Nat} (hd : decode cc pc = .ok (.arraylength, 1)) (hk : kd c = 20 + w) (kk : Xo f Z (Yx o (pc + 1) L (.int (nI (ln c)) :: st) σ)) : Xo f Z (Yx o pc L (.ref c :: st) σ) := by
  refine kk.mono (fun y ls H locs hl hP hS => ?_)
  obtain ⟨⟨p, l, e, R, s, m⟩, ⟨args, below, meth, c0⟩, ⟨D, α, cI, cZ⟩, w0, n0, Q⟩ := o
  obtain ⟨hx, hb, hml, hown, hts, hR, hlk, hrt, hKn, hWk, e1, e2⟩ := C
  dsimp only at hx hb hml hown hts hR hlk hrt hKn hWk e1 e2
  subst e1; subst e2
  have hw := hWk.1
  have he := wd_get hWk.1 α cI cZ σ (c := c) (by rw [hk]; rcases hw with rfl | rfl <;> rfl)
  rw [el_arr (w := w0) α cI cZ σ (by omega)] at he
  exact va_alen hx hb hKn.1 hP (c - wlo w0) 0 he (ty := .int) rfl rfl hd (y ls H locs hl hP hS)
theorem x_acopy (C : Cx o own cc nL rt rm w) {a b : Nat} {sp dp n : Int32} {index : Nat} (h1 : Cond.methodLink own index arraycopyName ∈ TB) (h2 : Cond.native arraycopyName ∈ TB) (h3 : Cond.static arraycopyName ∈ TB) (h4 : Cond.initialized "java/lang/System" ∈ TB) (hr : 1 ≤ rm.frames ∧ nativeFrameWords "java/lang/System" "arraycopy" 5 + 11 ≤ rm.locals) (hd : decode cc pc = .ok (.invokestatic index, 3)) (hka0 : kd a = 20 + w) (hkb0 : kd b = 20 + w)
    (kk : cpok sp dp n (ln a) (ln b) = true → Xo f Z (Yx o (pc + 3) L [] (pA σ b (va_cpy (gI σ a) (gI σ b) sp.toNatClampNeg dp.toNatClampNeg n.toNatClampNeg)))) : Xo (gd (cpok sp dp n (ln a) (ln b)) f) Z (Yx o pc L [.int n, .int dp, .ref b, .int sp, .ref a] σ) := by
  refine Xo.gd (fun hi => (kk hi).mono (fun y ls H locs hl hP hS => ?_))
  obtain ⟨⟨p, l, e, R, s, m⟩, ⟨args, below, meth, c0⟩, ⟨D, α, cI, cZ⟩, w0, n0, Q⟩ := o
  obtain ⟨hx, hb, hml, hown, hts, hR, hlk, hrt, hKn, hWk, e1, e2⟩ := C
  dsimp only at hx hb hml hown hts hR hlk hrt hKn hWk e1 e2
  subst e1; subst e2
  have hw := hWk.1
  have hka : kw (kd a) = w0 := by rw [hka0]; rcases hw with rfl | rfl <;> rfl
  have hkb : kw (kd b) = w0 := by rw [hkb0]; rcases hw with rfl | rfl <;> rfl
  have h2a : kd a = 20 ∨ kd a = 21 := by omega
  have h2b : kd b = 20 ∨ kd b = 21 := by omega
  have hea := wd_get hWk.1 α cI cZ σ (c := a) hka
  have heb := wd_get hWk.1 α cI cZ σ (c := b) hkb
  rw [el_arr (w := w0) α cI cZ σ h2a] at hea
  rw [el_arr (w := w0) α cI cZ σ h2b] at heb
  simp only [cpok, Bool.and_eq_true, decide_eq_true_eq] at hi
  obtain ⟨g1, g2, g3, g4, g5⟩ := hi
  refine va_copyi hx hb (hml.trans hl.1.symm) hown (hts _ h1) (hts _ h2) (hts _ h3) (hts _ h4) hKn.1 hP (wd_D hWk cI cZ σ) hS (a - wlo w0) (b - wlo w0) 0 0 hea heb (ty := .int) rfl rfl rfl g1 g2 g3 g4 g5 (fun _ _ => rfl) (by rw [hR]; exact hr.1) (by rw [hR]; simpa using hr.2) hd (fun H1 locs1 hP1 hD1 hS1 => ?_)
  rw [wd_set hWk.1 α cI cZ hkb _ (σ' := pA σ b (va_cpy (gI σ a) (gI σ b) sp.toNatClampNeg dp.toNatClampNeg n.toNatClampNeg)) (by rw [el_arr (w := w0) α cI cZ _ h2b, gI_pA, if_pos rfl]) (fun d hd => el_pA_ne α cI cZ σ b _ d hd)] at hP1
  exact y ls H1 locs1 hl hP1 hS1
theorem x_mmin (C : Cx o own cc nL rt rm w) {x y : Int32} {index : Nat} (h1 : Cond.methodLink own index Lib.Math.min.name ∈ TB) (h2 : Cond.static Lib.Math.min.name ∈ TB) (h3 : Cond.initialized "java/lang/Math" ∈ TB) (h4 : Cond.code Lib.Math.min.name Lib.Math.min.code 2 (some .int) ∈ TB) (hr : 1 ≤ rm.frames ∧ cs st + 13 ≤ rm.locals) (hd : decode cc pc = .ok (.invokestatic index, 3)) (kk : Xo f Z (Yx o (pc + 3) L (.int (imin x y) :: st) σ)) : Xo f Z (Yx o pc L (.int y :: .int x :: st) σ) := by
  refine kk.mono (fun yy ls H locs hl hP hS => ?_)
  obtain ⟨⟨p, l, e, R, s, m⟩, ⟨args, below, meth, c0⟩, ⟨D, α, cI, cZ⟩, w0, n0, Q⟩ := o
  obtain ⟨hx, hb, hml, hown, hts, hR, hlk, hrt, hKn, hWk, e1, e2⟩ := C
  dsimp only at hx hb hml hown hts hR hlk hrt hKn hWk e1 e2
  subst e1; subst e2
  exact va_mmin hx hb (hml.trans hl.1.symm) hown (hts _ h1) (hts _ h2) (hts _ h3) (hts _ h4) (by rw [hR]; exact hr.1) (by rw [hR, cs_sv]; exact hr.2) (Nat.zero_le _) (Nat.zero_le _) hd (yy ls H locs hl hP hS)
theorem x_mmax (C : Cx o own cc nL rt rm w) {x y : Int32} {index : Nat} (h1 : Cond.methodLink own index Lib.Math.max.name ∈ TB) (h2 : Cond.static Lib.Math.max.name ∈ TB) (h3 : Cond.initialized "java/lang/Math" ∈ TB) (h4 : Cond.code Lib.Math.max.name Lib.Math.max.code 2 (some .int) ∈ TB) (hr : 1 ≤ rm.frames ∧ cs st + 13 ≤ rm.locals) (hd : decode cc pc = .ok (.invokestatic index, 3)) (kk : Xo f Z (Yx o (pc + 3) L (.int (imax x y) :: st) σ)) : Xo f Z (Yx o pc L (.int y :: .int x :: st) σ) := by
  refine kk.mono (fun yy ls H locs hl hP hS => ?_)
  obtain ⟨⟨p, l, e, R, s, m⟩, ⟨args, below, meth, c0⟩, ⟨D, α, cI, cZ⟩, w0, n0, Q⟩ := o
  obtain ⟨hx, hb, hml, hown, hts, hR, hlk, hrt, hKn, hWk, e1, e2⟩ := C
  dsimp only at hx hb hml hown hts hR hlk hrt hKn hWk e1 e2
  subst e1; subst e2
  exact va_mmax hx hb (hml.trans hl.1.symm) hown (hts _ h1) (hts _ h2) (hts _ h3) (hts _ h4) (by rw [hR]; exact hr.1) (by rw [hR, cs_sv]; exact hr.2) (Nat.zero_le _) (Nat.zero_le _) hd (yy ls H locs hl hP hS)
theorem x_labs (C : Cx o own cc nL rt rm w) {x : Int64} {index : Nat} (h1 : Cond.methodLink own index Lib.MathLoose.abs_long.x ∈ TB) (h2 : Cond.static Lib.MathLoose.abs_long.x ∈ TB) (h3 : Cond.initialized "java/lang/Math" ∈ TB) (h4 : Cond.code Lib.MathLoose.abs_long.x Lib.MathLoose.abs_long.code 2 (some .long) ∈ TB) (hr : 1 ≤ rm.frames ∧ cs st + 13 ≤ rm.locals) (hd : decode cc pc = .ok (.invokestatic index, 3)) (kk : Xo f Z (Yx o (pc + 3) L (.long (labs x) :: st) σ)) : Xo f Z (Yx o pc L (.long x :: st) σ) := by
  refine kk.mono (fun yy ls H locs hl hP hS => ?_)
  obtain ⟨⟨p, l, e, R, s, m⟩, ⟨args, below, meth, c0⟩, ⟨D, α, cI, cZ⟩, w0, n0, Q⟩ := o
  obtain ⟨hx, hb, hml, hown, hts, hR, hlk, hrt, hKn, hWk, e1, e2⟩ := C
  dsimp only at hx hb hml hown hts hR hlk hrt hKn hWk e1 e2
  subst e1; subst e2
  exact va_mabs_long hx hb (hml.trans hl.1.symm) hown (hts _ h1) (hts _ h2) (hts _ h3) (hts _ h4) (by rw [hR]; exact hr.1) (by rw [hR, cs_sv]; exact hr.2) (Nat.zero_le _) (Nat.zero_le _) hd (yy ls H locs hl hP hS)
/-- the table of factorials -/
theorem x_fac (C : Cx o own cc nL rt rm w) {index : Nat} (hl1 : Cond.fieldLink own index "WindLawyer" "FACTORIALS" "[I" ∈ TB) (hd : decode cc pc = .ok (.getstatic index, 3)) (kk : Xo f Z (Yx o (pc + 3) L (.ref 91 :: st) σ)) : Xo f Z (Yx o pc L st σ) := by
  refine kk.mono (fun y ls H locs hl hP hS => ?_)
  obtain ⟨⟨p, l, e, R, s, m⟩, ⟨args, below, meth, c0⟩, ⟨D, α, cI, cZ⟩, w0, n0, Q⟩ := o
  obtain ⟨hx, hb, hml, hown, hts, hR, hlk, hrt, hKn, hWk, e1, e2⟩ := C
  dsimp only at hx hb hml hown hts hR hlk hrt hKn hWk e1 e2
  subst e1; subst e2
  exact va_gets hx hb hKn.2.2.1.1 hS hown (hts _ hl1) (fun _ h => h) hd (y ls H locs hl hP hS)
theorem x_facR (C : Cx o own cc nL rt rm w) {i : Int32} (hd : decode cc pc = .ok (.iaload, 1)) (kk : inb i 8 = true → Xo f Z (Yx o (pc + 1) L (.int (([1, 1, 2, 6, 24, 120, 720, 5040] : List Int32).getD i.toNatClampNeg 0) :: st) σ)) : Xo (gd (inb i 8) f) Z (Yx o pc L (.int i :: .ref 91 :: st) σ) := by
  refine Xo.gd (fun hi => (kk hi).mono (fun y ls H locs hl hP hS => ?_))
  obtain ⟨⟨p, l, e, R, s, m⟩, ⟨args, below, meth, c0⟩, ⟨D, α, cI, cZ⟩, w0, n0, Q⟩ := o
  obtain ⟨hx, hb, hml, hown, hts, hR, hlk, hrt, hKn, hWk, e1, e2⟩ := C
  dsimp only at hx hb hml hown hts hR hlk hrt hKn hWk e1 e2
  subst e1; subst e2
  exact va_ti hx hb hKn.2.2.1.2 hS (inb_in hi) rfl hd (y ls H locs hl hP hS)
theorem x_facL (C : Cx o own cc nL rt rm w) (hd : decode cc pc = .ok (.arraylength, 1)) (kk : Xo f Z (Yx o (pc + 1) L (.int (nI 8) :: st) σ)) : Xo f Z (Yx o pc L (.ref 91 :: st) σ) := by
  refine kk.mono (fun y ls H locs hl hP hS => ?_)
  obtain ⟨⟨p, l, e, R, s, m⟩, ⟨args, below, meth, c0⟩, ⟨D, α, cI, cZ⟩, w0, n0, Q⟩ := o
  obtain ⟨hx, hb, hml, hown, hts, hR, hlk, hrt, hKn, hWk, e1, e2⟩ := C
  dsimp only at hx hb hml hown hts hR hlk hrt hKn hWk e1 e2
  subst e1; subst e2
  exact va_tlen hx hb hKn.2.2.1.2 hS rfl hd (y ls H locs hl hP hS)
/-- a word -/
theorem x_ldcS (C : Cx o own cc nL rt rm w) {index i : Nat} (ho : own = "WindLawyer$Reader") (hi : i < 5) (hx2 : wo_idx.getD i 0 = index) (hd : decode cc pc = .ok (.ldc index, 2)) (kk : Xo f Z (Yx o (pc + 2) L (.ref (100 + i) :: st) σ)) : Xo f Z (Yx o pc L st σ) := by
  refine kk.mono (fun y ls H locs hl hP hS => ?_)
  obtain ⟨⟨p, l, e, R, s, m⟩, ⟨args, below, meth, c0⟩, ⟨D, α, cI, cZ⟩, w0, n0, Q⟩ := o
  obtain ⟨hx, hb, hml, hown, hts, hR, hlk, hrt, hKn, hWk, e1, e2⟩ := C
  dsimp only at hx hb hml hown hts hR hlk hrt hKn hWk e1 e2
  subst e1; subst e2
  subst ho; subst hx2
  exact va_ldcS hx hb hown (hKn.2.2.2.1 i hi) hd (y ls H locs hl hP hS)
end RH
