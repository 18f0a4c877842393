/-! ===== the worlds: class cells 0 to 77, model cells 78 to 90; 91 the table of factorials; 100.. the words, 110.. their bytes ===== -/
abbrev SS : Type := (Nat → Nat → Int32) × (Nat → Nat → Int64)
def gI (σ : SS) (c k : Nat) : Int32 := σ.1 c k
def gL (σ : SS) (c k : Nat) : Int64 := σ.2 c k
def pA (σ : SS) (c : Nat) (f : Nat → Int32) : SS := (fun d => if d = c then f else σ.1 d, σ.2)
def pI (σ : SS) (c k : Nat) (v : Int32) : SS := pA σ c (upd (gI σ c) k v)
def pL (σ : SS) (c k : Nat) (v : Int64) : SS := (σ.1, fun d => if d = c then vp_updL (gL σ c) k v else σ.2 d)
theorem gI_pA (σ : SS) (c : Nat) (f : Nat → Int32) (d : Nat) : gI (pA σ c f) d = if d = c then f else gI σ d := by
  funext k; simp only [gI, pA]; split <;> rfl
theorem gL_pA (σ : SS) (c : Nat) (f : Nat → Int32) (d : Nat) : gL (pA σ c f) d = gL σ d := rfl
theorem gI_pL (σ : SS) (c k : Nat) (v : Int64) (d : Nat) : gI (pL σ c k v) d = gI σ d := rfl
theorem gL_pL (σ : SS) (c k : Nat) (v : Int64) (d : Nat) : gL (pL σ c k v) d = if d = c then vp_updL (gL σ c) k v else gL σ d := by
  funext j; simp only [gL, pL]; split <;> rfl
def kd (c : Nat) : Nat := ([9, 4, 20, 20, 7, 20, 7, 20, 7, 20, 7, 20, 7, 20, 7, 20, 4, 20, 20, 7, 20, 7, 20, 7, 20, 7, 20, 7, 20, 7, 20, 4, 20, 20, 7, 20, 7, 20, 7, 20, 7, 20, 7, 20, 7, 20, 8, 20, 0, 20, 20, 20, 5, 4, 20, 20, 7, 20, 7, 20, 7, 20, 7, 20, 7, 20, 7, 20, 2, 7, 20, 20, 6, 20, 20, 1, 20, 3, 10, 21, 21, 21, 22, 21, 21, 21, 21, 21, 21, 21, 21, 30] : List Nat).getD c 99
def ln (c : Nat) : Nat := ([0, 0, 8, 8, 0, 28, 0, 20, 0, 12, 0, 30, 0, 24, 0, 120, 0, 8, 8, 0, 28, 0, 20, 0, 12, 0, 30, 0, 24, 0, 120, 0, 8, 8, 0, 28, 0, 20, 0, 12, 0, 30, 0, 24, 0, 120, 0, 150, 0, 12, 12, 7, 0, 0, 8, 8, 0, 28, 0, 20, 0, 12, 0, 30, 0, 24, 0, 120, 0, 0, 28, 128, 0, 5, 5, 0, 6, 0, 0, 378, 378, 756, 2, 3, 7, 12, 12, 150, 5, 5, 7, 8] : List Nat).getD c 0
def lk (c k : Nat) : Nat := (([[1, 16, 31, 99, 99, 46, 48, 52, 68, 72, 75, 77, 99, 99, 99], [2, 3, 4, 6, 8, 10, 12, 14, 99, 99], [], [], [99, 99, 5, 99], [], [99, 99, 7, 99], [], [99, 99, 9, 99], [], [99, 99, 11, 99], [], [99, 99, 13, 99], [], [99, 99, 15, 99], [], [17, 18, 19, 21, 23, 25, 27, 29, 99, 99], [], [], [99, 99, 20, 99], [], [99, 99, 22, 99], [], [99, 99, 24, 99], [], [99, 99, 26, 99], [], [99, 99, 28, 99], [], [99, 99, 30, 99], [], [32, 33, 34, 36, 38, 40, 42, 44, 99, 99], [], [], [99, 99, 35, 99], [], [99, 99, 37, 99], [], [99, 99, 39, 99], [], [99, 99, 41, 99], [], [99, 99, 43, 99], [], [99, 99, 45, 99], [], [47, 99], [], [49, 50, 51], [], [], [], [46, 48, 53, 99, 99, 99, 99], [54, 55, 56, 58, 60, 62, 64, 66, 99, 99], [], [], [99, 99, 57, 99], [], [99, 99, 59, 99], [], [99, 99, 61, 99], [], [99, 99, 63, 99], [], [99, 99, 65, 99], [], [99, 99, 67, 99], [], [48, 69, 71, 99, 99], [99, 99, 70, 99], [], [], [73, 74, 99, 99], [], [], [48, 76, 99, 99, 99], [], [], [79, 80, 81, 82, 99, 99, 83, 84, 85, 86, 87, 99, 99, 99, 99, 99, 88, 89, 90], [], [], [], [], [], [], [], [], [], [], [], []] : List (List Nat)).getD c []).getD k 99
def ft (ci : Nat) : List Nat := ([[2, 2, 2], [2, 2, 0, 0, 0], [2, 2, 2, 0, 0], [1, 1], [2, 2, 2, 2, 2, 2, 2, 2, 0, 0], [2, 2, 2, 0, 0, 0, 0], [2, 2, 0, 0], [0, 0, 2, 0], [2, 0], [2, 2, 2, 0, 0, 2, 2, 2, 2, 2, 2, 2, 0, 0, 0], [2, 2, 2, 2, 1, 1, 2, 2, 2, 2, 2, 0, 0, 0, 0, 0, 2, 2, 2]] : List (List Nat)).getD ci []
def kw (k : Nat) : Nat := if k < 10 ∨ k = 20 then 0 else if k = 10 ∨ k = 21 ∨ k = 22 then 1 else 2
def wlo (w : Nat) : Nat := if w = 0 then 0 else 78
def wn (w : Nat) : Nat := if w = 0 then 78 else 13
theorem kd_out {c : Nat} (h : 92 ≤ c) : kd c = 99 := by
  unfold kd
  rw [List.getD_eq_getElem?_getD, List.getElem?_eq_none (by simpa using h)]
  rfl
theorem kd_all {P : Nat → Prop} (h : ∀ c, c < 92 → P c) (h9 : ∀ c, kd c = 99 → P c) (c : Nat) : P c := by
  rcases Nat.lt_or_ge c 92 with q | q
  · exact h c q
  · exact h9 c (kd_out q)
theorem kw_in (w : Nat) (hw : w = 0 ∨ w = 1) (c : Nat) (h : kw (kd c) = w) : wlo w ≤ c ∧ c - wlo w < wn w := by
  rcases hw with rfl | rfl
  · revert h
    refine kd_all (P := fun c => kw (kd c) = 0 → wlo 0 ≤ c ∧ c - wlo 0 < wn 0) (by decide +kernel) (fun c h q => ?_) c
    rw [h] at q; exact absurd q (by decide)
  · revert h
    refine kd_all (P := fun c => kw (kd c) = 1 → wlo 1 ≤ c ∧ c - wlo 1 < wn 1) (by decide +kernel) (fun c h q => ?_) c
    rw [h] at q; exact absurd q (by decide)
def sv (α : Nat → Nat) : Value → Value
  | .ref c => .ref (α c)
  | v => v
def fvl (α : Nat → Nat) (σ : SS) (c k t : Nat) : Value := if t = 0 then .int (gI σ c k) else if t = 1 then .long (gL σ c k) else .ref (α (lk c k))
def el (α : Nat → Nat) (cI cZ : ClassId) (σ : SS) (c : Nat) : va_E :=
  if kd c = 20 ∨ kd c = 21 then .inl (cI, ln c, .inl (gI σ c)) else if kd c = 22 then .inl (cZ, ln c, .inl (gI σ c)) else .inr (kd c, (ft (kd c)).mapIdx (fvl α σ c))
def wd (w : Nat) (α : Nat → Nat) (cI cZ : ClassId) (σ : SS) : va_W := (List.range (wn w)).map (fun i => (α (wlo w + i), el α cI cZ σ (wlo w + i)))
theorem wd_get {w : Nat} (hw : w = 0 ∨ w = 1) (α : Nat → Nat) (cI cZ : ClassId) (σ : SS) {c : Nat} (h : kw (kd c) = w) : (wd w α cI cZ σ)[c - wlo w]? = some (α c, el α cI cZ σ c) := by
  obtain ⟨h1, h2⟩ := kw_in w hw c h
  unfold wd
  rw [List.getElem?_map, List.getElem?_range h2]
  show some (α (wlo w + (c - wlo w)), _) = _
  rw [show wlo w + (c - wlo w) = c by omega]
theorem wd_set {w : Nat} (hw : w = 0 ∨ w = 1) (α : Nat → Nat) (cI cZ : ClassId) {σ σ' : SS} {c : Nat} (h : kw (kd c) = w) (e : va_E) (he : e = el α cI cZ σ' c) (ho : ∀ d, d ≠ c → el α cI cZ σ' d = el α cI cZ σ d) : (wd w α cI cZ σ).set (c - wlo w) (α c, e) = wd w α cI cZ σ' := by
  subst he
  obtain ⟨h1, h2⟩ := kw_in w hw c h
  apply List.ext_getElem?
  intro i
  rw [List.getElem?_set]
  by_cases hi : c - wlo w = i
  · subst hi
    rw [if_pos rfl, if_pos (by simpa [wd] using h2), wd_get hw α cI cZ σ' h]
  · rw [if_neg hi]
    unfold wd
    rw [List.getElem?_map, List.getElem?_map]
    by_cases hl : i < wn w
    · rw [List.getElem?_range hl]
      show some (_, el α cI cZ σ (wlo w + i)) = some (_, el α cI cZ σ' (wlo w + i))
      rw [ho (wlo w + i) (by omega)]
    · rw [List.getElem?_eq_none (by simpa using hl)]
      rfl
theorem el_pA_ne (α : Nat → Nat) (cI cZ : ClassId) (σ : SS) (c : Nat) (f : Nat → Int32) (d : Nat) (h : d ≠ c) : el α cI cZ (pA σ c f) d = el α cI cZ σ d := by
  have e : gI (pA σ c f) d = gI σ d := by rw [gI_pA, if_neg h]
  have e2 : fvl α (pA σ c f) d = fvl α σ d := by funext k t; simp only [fvl, e, gL_pA]
  simp only [el, e, e2]
theorem el_pL_ne (α : Nat → Nat) (cI cZ : ClassId) (σ : SS) (c k : Nat) (v : Int64) (d : Nat) (h : d ≠ c) : el α cI cZ (pL σ c k v) d = el α cI cZ σ d := by
  have e : gL (pL σ c k v) d = gL σ d := by rw [gL_pL, if_neg h]
  have e2 : fvl α (pL σ c k v) d = fvl α σ d := by funext j t; simp only [fvl, e, gI_pL]
  simp only [el, gI_pL, e2]
theorem el_arr {w : Nat} (α : Nat → Nat) (cI cZ : ClassId) (σ : SS) {c : Nat} (h : kd c = 20 ∨ kd c = 21) : el α cI cZ σ c = .inl (cI, ln c, .inl (gI σ c)) := by
  unfold el; rw [if_pos h]
theorem el_boo (α : Nat → Nat) (cI cZ : ClassId) (σ : SS) {c : Nat} (h : kd c = 22) : el α cI cZ σ c = .inl (cZ, ln c, .inl (gI σ c)) := by
  unfold el; rw [if_neg (by rw [h]; decide), if_pos h]
theorem el_obj (α : Nat → Nat) (cI cZ : ClassId) (σ : SS) {c ci : Nat} (h : kd c = ci) (hci : ci < 20) : el α cI cZ σ c = .inr (ci, (ft ci).mapIdx (fvl α σ c)) := by
  unfold el; rw [if_neg (by omega), if_neg (by omega), h]
theorem fs_get (α : Nat → Nat) (σ : SS) (c ci k t : Nat) (h : (ft ci)[k]? = some t) : ((ft ci).mapIdx (fvl α σ c))[k]? = some (fvl α σ c k t) := by
  rw [List.getElem?_mapIdx, h]; rfl
theorem fs_set (α : Nat → Nat) (σ σ' : SS) (c ci k t : Nat) (v : Value) (h : (ft ci)[k]? = some t) (hv : v = fvl α σ' c k t) (ho : ∀ j u, j ≠ k → fvl α σ' c j u = fvl α σ c j u) : ((ft ci).mapIdx (fvl α σ c)).set k v = (ft ci).mapIdx (fvl α σ' c) := by
  subst hv
  have hk : k < (ft ci).length := (List.getElem?_eq_some_iff.mp h).1
  apply List.ext_getElem?
  intro i
  rw [List.getElem?_set]
  by_cases hi : k = i
  · subst hi
    rw [if_pos rfl, if_pos (by simpa using hk), fs_get α σ' c ci k t h]
  · rw [if_neg hi, List.getElem?_mapIdx, List.getElem?_mapIdx]
    cases (ft ci)[i]? with
    | none => rfl
    | some u => show some _ = some _; rw [ho i u (fun q => hi q.symm)]
/-! ===== locals ===== -/
def lh (ls : Array Slot) (nL : Nat) (α : Nat → Nat) (L : List (Option Value)) : Prop := ls.size = nL ∧ lv_wf ls ∧ ∀ (i : Nat) (v : Value), L[i]? = some (some v) → ls[i]? = some (.val (sv α v))
def kil (L : List (Option Value)) : Nat → List (Option Value)
  | 0 => L
  | j + 1 => match L[j]? with
    | some (some (.long _)) => L.set j none
    | some (some (.double _)) => L.set j none
    | _ => L
def st1 (L : List (Option Value)) (i : Nat) (v : Value) : List (Option Value) := (kil L i).set i (some v)
def st2 (L : List (Option Value)) (i : Nat) (v : Value) : List (Option Value) := ((kil L i).set i (some v)).set (i + 1) none
theorem sv_cat (α : Nat → Nat) (v : Value) : (sv α v).category = v.category := by cases v <;> rfl
theorem kil_get {L : List (Option Value)} {i j : Nat} {w : Value} (h : (kil L i)[j]? = some (some w)) : L[j]? = some (some w) ∧ ¬ (j + 1 = i ∧ w.category = 2) := by
  cases i with
  | zero => exact ⟨h, fun q => by omega⟩
  | succ i =>
    have key : ∀ (hne : (kil L (i + 1)) = L.set i none), L[j]? = some (some w) ∧ ¬ (j + 1 = i + 1 ∧ w.category = 2) := by
      intro hne
      rw [hne, List.getElem?_set] at h
      by_cases q : i = j
      · rw [if_pos q] at h
        split at h <;> cases h
      · rw [if_neg q] at h
        exact ⟨h, fun z => by omega⟩
    have key2 : ∀ (heq : (kil L (i + 1)) = L) (hc : ∀ w, L[i]? = some (some w) → ¬ w.category = 2), L[j]? = some (some w) ∧ ¬ (j + 1 = i + 1 ∧ w.category = 2) := by
      intro heq hc
      rw [heq] at h
      refine ⟨h, fun z => ?_⟩
      have : j = i := by omega
      subst this
      exact hc w h z.2
    cases hl : L[i]? with
    | none => exact key2 (by simp [kil, hl]) (by simp [hl])
    | some o =>
      cases o with
      | none => exact key2 (by simp [kil, hl]) (by simp [hl])
      | some v =>
        cases v with
        | long x => exact key (by simp [kil, hl])
        | double x => exact key (by simp [kil, hl])
        | _ => exact key2 (by simp [kil, hl]) (fun w hw => by rw [hl] at hw; cases hw; simp [Value.category])
theorem st1_get {L : List (Option Value)} {i j : Nat} {v w : Value} (h : (st1 L i v)[j]? = some (some w)) : (j = i ∧ w = v) ∨ (j ≠ i ∧ L[j]? = some (some w) ∧ ¬ (j + 1 = i ∧ w.category = 2)) := by
  unfold st1 at h
  rw [List.getElem?_set] at h
  by_cases q : i = j
  · rw [if_pos q] at h
    split at h
    · cases h; exact Or.inl ⟨q.symm, rfl⟩
    · cases h
  · rw [if_neg q] at h
    exact Or.inr ⟨fun z => q z.symm, kil_get h⟩
theorem st2_get {L : List (Option Value)} {i j : Nat} {v w : Value} (h : (st2 L i v)[j]? = some (some w)) : (j = i ∧ w = v) ∨ (j ≠ i ∧ j ≠ i + 1 ∧ L[j]? = some (some w) ∧ ¬ (j + 1 = i ∧ w.category = 2)) := by
  unfold st2 at h
  rw [List.getElem?_set] at h
  by_cases q : i + 1 = j
  · rw [if_pos q] at h
    split at h <;> cases h
  · rw [if_neg q] at h
    rcases st1_get (L := L) (i := i) (j := j) (v := v) (w := w) h with z | ⟨z1, z2⟩
    · exact Or.inl z
    · exact Or.inr ⟨z1, fun z => q z.symm, z2⟩
theorem lh_at {ls : Array Slot} {nL : Nat} {α : Nat → Nat} {L : List (Option Value)} (h : lh ls nL α L) {i : Nat} {v : Value} (hi : L[i]? = some (some v)) : ls[i]? = some (.val (sv α v)) := h.2.2 i v hi
theorem lh_st1 {ls : Array Slot} {nL : Nat} {α : Nat → Nat} {L : List (Option Value)} {i : Nat} {v : Value} (h : lh ls nL α L) (hi : i < nL) (hc : v.category = 1) : ∃ ls', storeLocals ls i (sv α v) = some ls' ∧ lh ls' nL α (st1 L i v) := by
  obtain ⟨hs, hw, hl⟩ := h
  have hc' : (sv α v).category = 1 := by rw [sv_cat]; exact hc
  obtain ⟨ls', e1, e2, e3, e4⟩ := lv_store1 (l := []) ⟨hs, hw, fun q hq => by cases hq⟩ hi hc'
  refine ⟨ls', e1, e2, e3, fun j w hj => ?_⟩
  rcases st1_get hj with ⟨rfl, rfl⟩ | ⟨z1, z2, z3⟩
  · exact e4 (j, sv α w) List.mem_cons_self
  · obtain ⟨ls2, f1, f2, f3, f4⟩ := lv_store1 (l := [(j, sv α w)]) ⟨hs, hw, fun q hq => by rw [List.mem_singleton.mp hq]; exact hl j w z2⟩ hi hc'
    have e : ls2 = ls' := Option.some.inj (f1.symm.trans e1)
    subst e
    refine f4 (j, sv α w) (List.mem_cons_of_mem _ (List.mem_filter.mpr ⟨List.mem_singleton.mpr rfl, ?_⟩))
    simp only [Bool.and_eq_true, Bool.not_eq_true', beq_eq_false_iff_ne, ne_eq, Bool.and_eq_false_iff, sv_cat]
    refine ⟨z1, ?_⟩
    by_cases y : j + 1 = i
    · exact Or.inr (fun q => z3 ⟨y, q⟩)
    · exact Or.inl y
theorem lh_st2 {ls : Array Slot} {nL : Nat} {α : Nat → Nat} {L : List (Option Value)} {i : Nat} {x : Int64} (h : lh ls nL α L) (hi : i + 1 < nL) : ∃ ls', storeLocals ls i (.long x) = some ls' ∧ lh ls' nL α (st2 L i (.long x)) := by
  obtain ⟨hs, hw, hl⟩ := h
  obtain ⟨ls', e1, e2, e3, e4⟩ := lv_store2 (l := []) (v := .long x) ⟨hs, hw, fun q hq => by cases hq⟩ hi rfl
  refine ⟨ls', e1, e2, e3, fun j w hj => ?_⟩
  rcases st2_get hj with ⟨rfl, rfl⟩ | ⟨z1, z0, z2, z3⟩
  · exact e4 (j, .long x) List.mem_cons_self
  · obtain ⟨ls2, f1, f2, f3, f4⟩ := lv_store2 (l := [(j, sv α w)]) (v := .long x) ⟨hs, hw, fun q hq => by rw [List.mem_singleton.mp hq]; exact hl j w z2⟩ hi rfl
    have e : ls2 = ls' := Option.some.inj (f1.symm.trans e1)
    subst e
    refine f4 (j, sv α w) (List.mem_cons_of_mem _ (List.mem_filter.mpr ⟨List.mem_singleton.mpr rfl, ?_⟩))
    simp only [Bool.and_eq_true, Bool.not_eq_true', beq_eq_false_iff_ne, ne_eq, Bool.and_eq_false_iff, sv_cat]
    refine ⟨z1, z0, ?_⟩
    by_cases y : j + 1 = i
    · exact Or.inr (fun q => z3 ⟨y, q⟩)
    · exact Or.inl y
/-! ===== what holds of the tables all along ===== -/
def nests : List (String × Nat × MethodName) := [("WindLawyer", 11, ⟨"WindLawyer$Island", "<init>", "()V"⟩), ("WindLawyer", 24, ⟨"WindLawyer$Text", "<init>", "()V"⟩), ("WindLawyer", 31, ⟨"WindLawyer$Blow", "<init>", "()V"⟩), ("WindLawyer$Reader", 11, ⟨"WindLawyer$Island", "<init>", "()V"⟩), ("WindLawyer", 56, ⟨"WindLawyer$Session", "<init>", "()V"⟩), ("WindLawyer", 70, ⟨"WindLawyer$Fraction", "<init>", "()V"⟩), ("WindLawyer$Island", 63, ⟨"WindLawyer", "isHourOfDay", "(I)Z"⟩), ("WindLawyer$Text", 19, ⟨"WindLawyer", "within", "(III)Z"⟩), ("WindLawyer$Reader", 112, ⟨"WindLawyer", "within", "(III)Z"⟩), ("WindLawyer$Blow", 61, ⟨"WindLawyer", "within", "(III)Z"⟩), ("WindLawyer$Forecast", 93, ⟨"WindLawyer", "factorial", "(I)I"⟩), ("WindLawyer$Blow", 65, ⟨"WindLawyer", "isCell", "(I)Z"⟩)]
def facs : Nat → Value := fun j => .int (([1, 1, 2, 6, 24, 120, 720, 5040] : List Int32).getD j 0)
def wo_len : List Nat := [6, 5, 4, 4, 5]
def wo_byt : List (List Int32) := [[105, 115, 108, 97, 110, 100], [119, 105, 110, 100, 115], [117, 115, 101, 114], [115, 117, 105, 116], [104, 111, 117, 114, 115]]
def wo_idx : List Nat := [36, 51, 56, 61, 66]
def wo_txt : List String := ["island", "winds", "user", "suit", "hours"]
def Aw (α : Nat → Nat) (w : Nat) : Nat → Prop := fun q => ∃ i, i < wn w ∧ q = α (wlo w + i)
def Wk (α : Nat → Nat) (w : Nat) : Prop := (w = 0 ∨ w = 1) ∧ ∀ i j, i < wn w → j < wn w → α (wlo w + i) = α (wlo w + j) → i = j
def Kn (D : va_G) (α : Nat → Nat) (cI cZ : ClassId) (w : Nat) (U : State) : Prop :=
  va_K D vwCl [(cI, .int), (cZ, .boolean)] U ∧ (∀ q ∈ nests, va_Nw (.methodLinkNest q.1 q.2.1 q.2.2 "WindLawyer") U) ∧
  (va_Z "WindLawyer" "FACTORIALS" "[I" (.ref (α 91)) (Aw α w) U U.heap ∧ va_T .int (α 91) 8 facs (Aw α w) U U.heap) ∧
  ((∀ i, i < 5 → vk_R "WindLawyer$Reader" (wo_idx.getD i 0) (wo_txt.getD i "") (α (100 + i)) U) ∧ vk_S 5 wo_len wo_byt (fun i => α (100 + i)) (fun i => α (110 + i)) (Aw α w) U U.heap ∧
    va_Z "java/lang/String" "COMPACT_STRINGS" "Z" (.int 1) (Aw α w) U U.heap ∧ ∃ v : Value, (v = .null ∨ ∃ t, v = .ref t) ∧ va_Z "jdk/internal/util/Preconditions" "SIOOBE_FORMATTER" "Ljava/util/function/BiFunction;" v (Aw α w) U U.heap)
theorem Kn.call {D : va_G} {α : Nat → Nat} {cI cZ : ClassId} {w : Nat} {s U : State} (h : Kn D α cI cZ w s) (hW : s.WarmedH U.vm) (hq : ∀ q : Nat, q < s.heap.size → ¬ Aw α w q → U.heap[q]? = s.heap[q]?) : Kn D α cI cZ w U := by
  obtain ⟨h1, h2, ⟨h3, h4⟩, h5, h6, h7, v, hvq, h8⟩ := h
  have m := hW.alike
  refine ⟨va_K.moved m h1, fun q hn => va_Nw.warmM hW (h2 q hn), ⟨(va_Z.moved m h3).kept hq, (va_T.moved m h4).kept hq⟩, fun i hi => (h5 i hi).warm hW, (vk_S.moved m h6).kept hq, (va_Z.moved m h7).kept hq, v, hvq, (va_Z.moved m h8).kept hq⟩
theorem Kn.blind {D : va_G} {α : Nat → Nat} {cI cZ : ClassId} {w : Nat} {U V : State} (h : Kn D α cI cZ w U) (hv : V.vm = U.vm) (hh : V.heap = U.heap) : Kn D α cI cZ w V := by
  obtain ⟨h1, h2, ⟨h3, h4⟩, h5, h6, h7, v, hvq, h8⟩ := h
  have m : U.vm.Alike V.vm := by rw [hv]; exact Vm.Alike.refl _
  have k : ∀ q : Nat, q < U.heap.size → ¬ Aw α w q → V.heap[q]? = U.heap[q]? := fun q _ _ => by rw [hh]
  refine ⟨va_K.moved m h1, fun q hn => va_Nw.same rfl hv.symm (h2 q hn), ⟨(va_Z.moved m h3).kept k, (va_T.moved m h4).kept k⟩, fun i hi => (h5 i hi).same hv, (vk_S.moved m h6).kept k, (va_Z.moved m h7).kept k, v, hvq, (va_Z.moved m h8).kept k⟩
theorem wd_D {α : Nat → Nat} {w : Nat} (h : Wk α w) (cI cZ : ClassId) (σ : SS) : va_D (Aw α w) (wd w α cI cZ σ) := by
  have key : ∀ (k : Nat) (q : Nat × va_E), (wd w α cI cZ σ)[k]? = some q → k < wn w ∧ q.1 = α (wlo w + k) := by
    intro k q hk
    unfold wd at hk
    rw [List.getElem?_map] at hk
    by_cases hl : k < wn w
    · rw [List.getElem?_range hl] at hk
      cases hk
      exact ⟨hl, rfl⟩
    · rw [List.getElem?_eq_none (by simpa using hl)] at hk
      cases hk
  refine ⟨fun i j x y hi hj hxy => ?_, fun k q hk => ?_⟩
  · obtain ⟨a1, a2⟩ := key i x hi
    obtain ⟨b1, b2⟩ := key j y hj
    exact h.2 i j a1 b1 (by rw [← a2, ← b2]; exact hxy)
  · obtain ⟨a1, a2⟩ := key k q hk
    exact ⟨k, a1, a2⟩
