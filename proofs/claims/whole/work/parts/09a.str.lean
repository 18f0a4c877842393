/-! ===== the words island, winds, user, suit, hours: String.length, String.charAt ===== -/
def wl (a : Nat) : Nat := wo_len.getD (a - 100) 0
def wch (a i : Nat) : Int32 := (wo_byt.getD (a - 100) []).getD i 0
theorem ti_J0 : Cond.initialized RJ0 ∈ TB := tb_of 67 (by decide +kernel)
theorem ti_J1 : Cond.initialized RJ1 ∈ TB := tb_of 68 (by decide +kernel)
theorem ti_J3 : Cond.initialized RJ3 ∈ TB := tb_of 69 (by decide +kernel)
theorem tcd_J0_length_8abf5 : Cond.code yJ0_length_8abf5 cJ0_length_8abf5 1 (some .int) ∈ TB := tb_of 480 (by decide +kernel)
theorem tcd_J0_coder_7d493 : Cond.code yJ0_coder_7d493 cJ0_coder_7d493 1 (some .byte) ∈ TB := tb_of 484 (by decide +kernel)
theorem tcd_J0_charAt_5068e : Cond.code yJ0_charAt_5068e cJ0_charAt_5068e 2 (some .char) ∈ TB := tb_of 490 (by decide +kernel)
theorem tcd_J0_isLatin1_aae02 : Cond.code yJ0_isLatin1_aae02 cJ0_isLatin1_aae02 1 (some .boolean) ∈ TB := tb_of 494 (by decide +kernel)
theorem tcd_J1_charAt_3b067 : Cond.code yJ1_charAt_3b067 cJ1_charAt_3b067 2 (some .char) ∈ TB := tb_of 497 (by decide +kernel)
theorem tcd_J0_checkIndex_df160 : Cond.code yJ0_checkIndex_df160 cJ0_checkIndex_df160 2 none ∈ TB := tb_of 500 (by decide +kernel)
theorem tcd_J3_checkIndex_8e157 : Cond.code yJ3_checkIndex_8e157 cJ3_checkIndex_8e157 3 (some .int) ∈ TB := tb_of 505 (by decide +kernel)
theorem tl_len : Cond.methodLink RX7 116 yJ0_length_8abf5 ∈ TB := tb_of 477 (by decide +kernel)
theorem tn_len : Cond.instanceMethod yJ0_length_8abf5 ∈ TB := tb_of 478 (by decide +kernel)
theorem te_len : Cond.selects "java/lang/String" yJ0_length_8abf5 yJ0_length_8abf5 ∈ TB := tb_of 479 (by decide +kernel)
theorem tl_cod : Cond.methodLink RJ0 335 yJ0_coder_7d493 ∈ TB := tb_of 481 (by decide +kernel)
theorem tn_cod : Cond.instanceMethod yJ0_coder_7d493 ∈ TB := tb_of 482 (by decide +kernel)
theorem te_cod : Cond.selects "java/lang/String" yJ0_coder_7d493 yJ0_coder_7d493 ∈ TB := tb_of 483 (by decide +kernel)
theorem tl_cha : Cond.methodLink RX7 128 yJ0_charAt_5068e ∈ TB := tb_of 487 (by decide +kernel)
theorem tn_cha : Cond.instanceMethod yJ0_charAt_5068e ∈ TB := tb_of 488 (by decide +kernel)
theorem te_cha : Cond.selects "java/lang/String" yJ0_charAt_5068e yJ0_charAt_5068e ∈ TB := tb_of 489 (by decide +kernel)
theorem tl_lat : Cond.methodLink RJ0 492 yJ0_isLatin1_aae02 ∈ TB := tb_of 491 (by decide +kernel)
theorem tn_lat : Cond.instanceMethod yJ0_isLatin1_aae02 ∈ TB := tb_of 492 (by decide +kernel)
theorem te_lat : Cond.selects "java/lang/String" yJ0_isLatin1_aae02 yJ0_isLatin1_aae02 ∈ TB := tb_of 493 (by decide +kernel)
theorem tl_la1 : Cond.methodLink RJ0 495 yJ1_charAt_3b067 ∈ TB := tb_of 495 (by decide +kernel)
theorem ts_la1 : Cond.static yJ1_charAt_3b067 ∈ TB := tb_of 496 (by decide +kernel)
theorem tl_chk : Cond.methodLink RJ1 9 yJ0_checkIndex_df160 ∈ TB := tb_of 498 (by decide +kernel)
theorem ts_chk : Cond.static yJ0_checkIndex_df160 ∈ TB := tb_of 499 (by decide +kernel)
theorem tl_pre : Cond.methodLink RJ0 1059 yJ3_checkIndex_8e157 ∈ TB := tb_of 503 (by decide +kernel)
theorem ts_pre : Cond.static yJ3_checkIndex_8e157 ∈ TB := tb_of 504 (by decide +kernel)
theorem tg_cs : Cond.fieldLink RJ0 38 "java/lang/String" "COMPACT_STRINGS" "Z" ∈ TB := tb_of 485 (by decide +kernel)
theorem tg_sf : Cond.fieldLink RJ0 1053 "jdk/internal/util/Preconditions" "SIOOBE_FORMATTER" "Ljava/util/function/BiFunction;" ∈ TB := tb_of 501 (by decide +kernel)
theorem tg_val : Cond.fieldLink RJ0 9 "java/lang/String" "value" "[B" ∈ TB := tb_of 1419 (by decide +kernel)
theorem tg_cod : Cond.fieldLink RJ0 15 "java/lang/String" "coder" "B" ∈ TB := tb_of 1420 (by decide +kernel)
theorem mbj_J0_length_8abf5 : MB yJ0_length_8abf5 cJ0_length_8abf5 1 (some .int) 0 := ⟨ti_J0, tcd_J0_length_8abf5, ⟨by decide +kernel, by decide +kernel⟩, by decide +kernel⟩
theorem mbj_J0_coder_7d493 : MB yJ0_coder_7d493 cJ0_coder_7d493 1 (some .byte) 0 := ⟨ti_J0, tcd_J0_coder_7d493, ⟨by decide +kernel, by decide +kernel⟩, by decide +kernel⟩
theorem mbj_J0_charAt_5068e : MB yJ0_charAt_5068e cJ0_charAt_5068e 2 (some .char) 1 := ⟨ti_J0, tcd_J0_charAt_5068e, ⟨by decide +kernel, by decide +kernel⟩, by decide +kernel⟩
theorem mbj_J0_isLatin1_aae02 : MB yJ0_isLatin1_aae02 cJ0_isLatin1_aae02 1 (some .boolean) 0 := ⟨ti_J0, tcd_J0_isLatin1_aae02, ⟨by decide +kernel, by decide +kernel⟩, by decide +kernel⟩
theorem mbj_J1_charAt_3b067 : MB yJ1_charAt_3b067 cJ1_charAt_3b067 2 (some .char) 2 := ⟨ti_J1, tcd_J1_charAt_3b067, ⟨by decide +kernel, by decide +kernel⟩, by decide +kernel⟩
theorem mbj_J0_checkIndex_df160 : MB yJ0_checkIndex_df160 cJ0_checkIndex_df160 2 none 2 := ⟨ti_J0, tcd_J0_checkIndex_df160, ⟨by decide +kernel, by decide +kernel⟩, by decide +kernel⟩
theorem mbj_J3_checkIndex_8e157 : MB yJ3_checkIndex_8e157 cJ3_checkIndex_8e157 3 (some .int) 3 := ⟨ti_J3, tcd_J3_checkIndex_8e157, ⟨by decide +kernel, by decide +kernel⟩, by decide +kernel⟩
section RS
variable {τ : Type} {f g : Option τ} {Z : τ → Prop} {o : Om} {own : String} {cc : ByteArray} {nL : Nat} {rt : Option FieldType} {rm : Room} {w pc : Nat} {L L' : List (Option Value)} {st : List Value} {σ : SS}
theorem ys {G : Prop} (h : Xo (some ()) (fun _ => True) G) : G := h () rfl trivial
theorem y_val (C : Cx o RJ0 cc nL rt rm w) {i : Nat} (hi : i < 5) (hd : decode cc pc = .ok (.getfield 9, 3)) (k : Yx o (pc + 3) L (.ref (110 + i) :: st) σ) : Yx o pc L (.ref (100 + i) :: st) σ := by
  intro ls H locs hl hP hS
  obtain ⟨⟨p, l, e, R, s, m⟩, ⟨args, below, meth, c0⟩, ⟨D, α, cI, cZ⟩, w0, n0, Q⟩ := o
  obtain ⟨hx, hb, hml, hown, hts, hR, hlk, hrt, hKn, hWk, e1, e2⟩ := C
  dsimp only at hx hb hml hown hts hR hlk hrt hKn hWk e1 e2
  subst e1; subst e2
  exact vk_getf hx hb (hKn.2.2.2.2.1.1 i hi).2.2.1 hS hown (hts _ tg_val) (fun _ h => h) hd (k ls H locs hl hP hS)
theorem y_cod (C : Cx o RJ0 cc nL rt rm w) {i : Nat} (hi : i < 5) (hd : decode cc pc = .ok (.getfield 15, 3)) (k : Yx o (pc + 3) L (.int 0 :: st) σ) : Yx o pc L (.ref (100 + i) :: st) σ := by
  intro ls H locs hl hP hS
  obtain ⟨⟨p, l, e, R, s, m⟩, ⟨args, below, meth, c0⟩, ⟨D, α, cI, cZ⟩, w0, n0, Q⟩ := o
  obtain ⟨hx, hb, hml, hown, hts, hR, hlk, hrt, hKn, hWk, e1, e2⟩ := C
  dsimp only at hx hb hml hown hts hR hlk hrt hKn hWk e1 e2
  subst e1; subst e2
  exact vk_getf hx hb (hKn.2.2.2.2.1.1 i hi).2.1 hS hown (hts _ tg_cod) (fun _ h => h) hd (k ls H locs hl hP hS)
theorem y_cs (C : Cx o RJ0 cc nL rt rm w) (hd : decode cc pc = .ok (.getstatic 38, 3)) (k : Yx o (pc + 3) L (.int 1 :: st) σ) : Yx o pc L st σ := by
  intro ls H locs hl hP hS
  obtain ⟨⟨p, l, e, R, s, m⟩, ⟨args, below, meth, c0⟩, ⟨D, α, cI, cZ⟩, w0, n0, Q⟩ := o
  obtain ⟨hx, hb, hml, hown, hts, hR, hlk, hrt, hKn, hWk, e1, e2⟩ := C
  dsimp only at hx hb hml hown hts hR hlk hrt hKn hWk e1 e2
  subst e1; subst e2
  exact va_gets hx hb hKn.2.2.2.2.2.1 hS hown (hts _ tg_cs) (fun _ h => h) hd (k ls H locs hl hP hS)
theorem y_bln (C : Cx o own cc nL rt rm w) {i : Nat} (hi : i < 5) (hd : decode cc pc = .ok (.arraylength, 1)) (k : Yx o (pc + 1) L (.int (nI (wo_len.getD i 0)) :: st) σ) : Yx o pc L (.ref (110 + i) :: st) σ := by
  intro ls H locs hl hP hS
  obtain ⟨⟨p, l, e, R, s, m⟩, ⟨args, below, meth, c0⟩, ⟨D, α, cI, cZ⟩, w0, n0, Q⟩ := o
  obtain ⟨hx, hb, hml, hown, hts, hR, hlk, hrt, hKn, hWk, e1, e2⟩ := C
  dsimp only at hx hb hml hown hts hR hlk hrt hKn hWk e1 e2
  subst e1; subst e2
  exact va_tlen hx hb (hKn.2.2.2.2.1.1 i hi).2.2.2 hS rfl hd (k ls H locs hl hP hS)
theorem y_bld (C : Cx o own cc nL rt rm w) {i : Nat} (hi : i < 5) {j : Int32} (hj : inb j (wo_len.getD i 0) = true) (hd : decode cc pc = .ok (.baload, 1)) (k : Yx o (pc + 1) L (.int ((wo_byt.getD i []).getD j.toNatClampNeg 0) :: st) σ) : Yx o pc L (.int j :: .ref (110 + i) :: st) σ := by
  intro ls H locs hl hP hS
  obtain ⟨⟨p, l, e, R, s, m⟩, ⟨args, below, meth, c0⟩, ⟨D, α, cI, cZ⟩, w0, n0, Q⟩ := o
  obtain ⟨hx, hb, hml, hown, hts, hR, hlk, hrt, hKn, hWk, e1, e2⟩ := C
  dsimp only at hx hb hml hown hts hR hlk hrt hKn hWk e1 e2
  subst e1; subst e2
  exact va_tb hx hb (hKn.2.2.2.2.1.1 i hi).2.2.2 hS (inb_in hj) rfl hd (k ls H locs hl hP hS)
theorem y_ifn (C : Cx o own cc nL rt rm w) {x : Int32} {off : Int} {tgt : Nat} (hx0 : x ≠ 0) (hd : decode cc pc = .ok (.ifCond .eq off, 3)) (ht : (pc : Int) + off = (tgt : Int)) (k : Yx o (pc + 3) L st σ) : Yx o pc L (.int x :: st) σ :=
  fun ls H locs hl hP hS => lv_if_eq C.1 C.2.1 hd ht (fun q => absurd q hx0) (fun _ => k ls H locs hl hP hS)
theorem y_ifz (C : Cx o own cc nL rt rm w) {x : Int32} {off : Int} {tgt : Nat} (hx0 : x = 0) (hd : decode cc pc = .ok (.ifCond .ne off, 3)) (ht : (pc : Int) + off = (tgt : Int)) (k : Yx o (pc + 3) L st σ) : Yx o pc L (.int x :: st) σ :=
  fun ls H locs hl hP hS => lv_if_ne C.1 C.2.1 hd ht (fun q => absurd hx0 q) (fun _ => k ls H locs hl hP hS)
theorem y_go (C : Cx o own cc nL rt rm w) {off : Int} {tgt : Nat} (hd : decode cc pc = .ok (.goto off, 3)) (ht : (pc : Int) + off = (tgt : Int)) (k : Yx o tgt L st σ) : Yx o pc L st σ :=
  fun ls H locs hl hP hS => lv_goto C.1 C.2.1 hd ht (k ls H locs hl hP hS)
theorem y_i2c (C : Cx o own cc nL rt rm w) {x v : Int32} (hd : decode cc pc = .ok (.i2c, 1)) (hv : (x.toUInt32 % 65536).toInt32 = v) (k : Yx o (pc + 1) L (.int v :: st) σ) : Yx o pc L (.int x :: st) σ :=
  fun ls H locs hl hP hS => lv_i2c C.1 C.2.1 hd hv (k ls H locs hl hP hS)
/-- a call of a method of a word -/
theorem y_callT (C : Cx o own cc nL rt rm w) {idx i n : Nat} {y : MethodName} {cc2 : ByteArray} {nL2 fr lo : Nat} {rt2 : Option FieldType} (B : MB y cc2 nL2 rt2 n) (g1 : Cond.methodLink own idx y ∈ TB) (g2 : Cond.instanceMethod y ∈ TB) (g3 : Cond.selects "java/lang/String" y y ∈ TB) (hi : i < 5) (av : List Value) {rv : Option Value} {σ' : SS} (hct : CT w y cc2 nL2 rt2 fr lo (.ref (100 + i) :: av) σ rv σ') (hR2 : fr + 1 ≤ rm.frames ∧ 8 + (nL2 + 11) + lo ≤ rm.locals) (hn : av.length = n) (hc8 : cs st ≤ 8) {st0 : List Value} (hst : st0 = av.reverse ++ .ref (100 + i) :: st) (hd : decode cc pc = .ok (.invokevirtual idx, 3))
    (kk : Yx o (pc + 3) L (rv.toList ++ st) σ') : Yx o pc L st0 σ := by
  subst hst
  intro ls H locs hl hP hS
  obtain ⟨⟨p, l, e, R, s, m⟩, ⟨args, below, meth, c0⟩, ⟨D, α, cI, cZ⟩, w0, n0, Q⟩ := o
  obtain ⟨hx, hb, hml, hown, hts, hR, hlk, hrt, hKn, hWk, e1, e2⟩ := C
  dsimp only at hx hb hml hown hts hR hlk hrt hKn hWk e1 e2
  subst e1; subst e2
  refine w_after (st := st) (rv := rv) (σ' := σ') (a := ((.ref (100 + i) :: av).map (sv α)).toArray) ?_ hS (fun H1 locs1 h1 h2 => kk ls H1 locs1 hl h1 h2)
  have hW8 : 2 * (F0 m pc ls ((av.reverse ++ .ref (100 + i) :: st).map (sv α))).monitorRoom + ((st.map (sv α)).map fun v => v.category).sum ≤ 8 := by
    show 2 * 0 + _ ≤ 8
    rw [cs_sv]; omega
  exact va_runV (C := "java/lang/String") (As := av.map (sv α)) (rest := st.map (sv α)) ⟨hx, hb, hml, hown, hts⟩ (hct l D α cI cZ hWk)
    ⟨⟨rfl, rfl, by rw [hR]; exact hR2.1, by rw [hR]; exact hR2.2, pay_in hts (mb_in B), List.mem_cons_self, hts _ B.2.1, hts _ B.1, B.2.2.1, mb_len B, hts _ g1⟩, hts _ g2, hts _ g3⟩
    ⟨pc_blind, vk_recv (adK := fun k => α (100 + k)) (adV := fun k => α (110 + k)) (i := i) hKn.2.2.2.2.1 hi hS, fun U hU hW => by
      have := kn_pre (σ := σ) (av := .ref (100 + i) :: av) hKn hP hS U hU hW
      simpa [sv] using this⟩ rfl (by rw [List.length_map]; exact hn) hl.1 (by simp [sv]) hW8 hd ⟨Nat.zero_le _, Nat.zero_le _⟩
end RS
theorem inb_lt {i : Int32} {n : Nat} (h : inb i n = true) (hn : n < 2147483648) : ¬ i < 0 ∧ i < nI n := by
  simp only [inb, Bool.not_eq_true', Bool.or_eq_false_iff, decide_eq_false_iff_not] at h
  refine ⟨h.1, ?_⟩
  have h2 : i.toInt.toNat < n := Nat.not_le.mp h.2
  rw [Int32.lt_iff_toInt_lt]
  have e2 : (nI n).toInt = n := Int32.toInt_ofNat_of_lt (by omega)
  rw [e2]
  omega
theorem met_pre {l : Launch} {D : va_G} {α : Nat → Nat} {cI cZ : ClassId} {w : Nat} {σ : SS} {n : Nat} {i : Int32} (hin : inb i n = true) (hn9 : n < 2147483648) {v : Value} (hv : v = .null ∨ ∃ t, v = .ref t) : Met l yJ3_checkIndex_8e157 (wsU yJ3_checkIndex_8e157 cJ3_checkIndex_8e157 3 (some .int)) (rmx 0 0) (fun a U => a = #[Value.int i, .int (nI n), v] ∧ va_P D vwCl (wd w α cI cZ σ) U.heap) (Qcx D α cI cZ w (some (.int i)) σ) 0 0 (Aw α w) := by
  refine met_ofW (cc := cJ3_checkIndex_8e157) (maxL := 3) (ret := some .int) (by decide +kernel) rfl ?_
  intro p e s m args below meth c s₁ B hml hv9
  obtain ⟨rfl, hP⟩ := hv9
  have hlq : ∃ ls : Array Slot, entryFrame m #[Value.int i, .int (nI n), v] 3 = F0 m 0 ls [] ∧ lv_has ls 3 [(0, .int i), (1, .int (nI n))] := by
    rcases hv with rfl | ⟨t, rfl⟩
    · have h := lv_entry ([.int i, .int (nI n), .null]) (n := 3) (Nat.le_of_ble_eq_true rfl)
      exact ⟨_, lg_entry_eq m [Value.int i, .int (nI n), .null] 3, lv_sub h [0, 1] rfl⟩
    · have h := lv_entry ([.int i, .int (nI n), .ref t]) (n := 3) (Nat.le_of_ble_eq_true rfl)
      exact ⟨_, lg_entry_eq m [Value.int i, .int (nI n), .ref t] 3, lv_sub h [0, 1] rfl⟩
  obtain ⟨ls, e1, hl⟩ := hlq
  rw [e1]
  obtain ⟨z1, z2⟩ := inb_lt hin hn9
  have hx := B.exec
  have hb := B.bytes
  refine lv_iload_n hx hb dJ3_checkIndex_8e157_0 rfl (lv_at hl 0 rfl) ?_
  refine lv_if_lt (tgt := 9) hx hb dJ3_checkIndex_8e157_1 (by decide) (fun h => absurd h z1) (fun _ => ?_)
  refine lv_iload_n hx hb dJ3_checkIndex_8e157_4 rfl (lv_at hl 0 rfl) ?_
  refine lv_iload_n hx hb dJ3_checkIndex_8e157_5 rfl (lv_at hl 1 rfl) ?_
  refine lv_icmp_lt (tgt := 16) hx hb dJ3_checkIndex_8e157_6 (by decide) (fun _ => ?_) (fun h => absurd z2 h)
  refine lv_iload_n hx hb dJ3_checkIndex_8e157_16 rfl (lv_at hl 0 rfl) ?_
  exact W.zret (ty := .int) hx hb B.returns rfl (fun t ht _ => ⟨rfl, by rw [ht]; exact hP, va_S.rf.F ht⟩) (fun q hq => by cases hq) dJ3_checkIndex_8e157_17
theorem y_pre {o : Om} {cc : ByteArray} {nL : Nat} {rt : Option FieldType} {w pc : Nat} {L : List (Option Value)} {σ : SS} (C : Cx o RJ0 cc nL rt (rmx 1 22) w) {n : Nat} {i : Int32} (hin : inb i n = true) (hn9 : n < 2147483648) (hd1 : decode cc pc = .ok (.getstatic 1053, 3)) (hd2 : decode cc (pc + 3) = .ok (.invokestatic 1059, 3)) (hd3 : decode cc (pc + 3 + 3) = .ok (.pop, 1)) (k : Yx o (pc + 3 + 3 + 1) L [] σ) : Yx o pc L [.int (nI n), .int i] σ := by
  intro ls H locs hl hP hS
  obtain ⟨⟨p, l, e, R, s, m⟩, ⟨args, below, meth, c0⟩, ⟨D, α, cI, cZ⟩, w0, n0, Q⟩ := o
  obtain ⟨hx, hb, hml, hown, hts, hR, hlk, hrt, hKn, hWk, e1, e2⟩ := C
  dsimp only at hx hb hml hown hts hR hlk hrt hKn hWk e1 e2
  subst e1; subst e2
  obtain ⟨v, hv, hZ⟩ := hKn.2.2.2.2.2.2
  refine va_gets hx hb hZ hS hown (hts _ tg_sf) (fun _ h => h) hd1 ?_
  have hr : va_Run p l e R s m args below meth c0 H locs 0 0 0 0 (F0 m (pc + 3) ls (v :: [Value.int (nI n), .int i])) [] (Qcx D α cI cZ w0 (some (.int i)) σ #[Value.int i, .int (nI n), v]) (Aw α w0) :=
    va_runS (As := [Value.int i, .int (nI n), v]) (rest := []) ⟨hx, hb, hml, hown, hts⟩ (met_pre (l := l) (D := D) (α := α) (cI := cI) (cZ := cZ) (w := w0) (σ := σ) hin hn9 hv)
      ⟨⟨rfl, rfl, by rw [hR]; decide, by rw [hR]; decide, pay_in hts (mb_in mbj_J3_checkIndex_8e157), List.mem_cons_self, hts _ mbj_J3_checkIndex_8e157.2.1, hts _ mbj_J3_checkIndex_8e157.1, mbj_J3_checkIndex_8e157.2.2.1, mb_len mbj_J3_checkIndex_8e157, hts _ tl_pre⟩, hts _ ts_pre⟩
      ⟨fun _ U g mk h => ⟨h.1, h.2⟩, fun U hU hW => ⟨rfl, by rw [hU]; exact hP⟩⟩ rfl rfl hl.1 rfl (Nat.le_of_ble_eq_true rfl) hd2 ⟨Nat.zero_le _, Nat.zero_le _⟩
  refine w_after (st := []) (rv := some (.int i)) (σ' := σ) (a := #[Value.int i, .int (nI n), v]) hr hS (fun H1 locs1 h1 h2 => ?_)
  exact lv_pop hx hb hd3 rfl (k ls H1 locs1 hl h1 h2)
section RT2
variable {w : Nat} {σ : SS} {i : Nat}
theorem ct_coder (hi : i < 5) : CT w yJ0_coder_7d493 cJ0_coder_7d493 1 (some .byte) 0 0 [.ref (100 + i)] σ (some (.int 0)) σ := by
  refine ct_of (by decide +kernel) (Or.inr (Or.inl ⟨0, rfl, .byte, rfl, by decide +kernel⟩)) (lx_args [.ref (100 + i)]) (lx_entry [.ref (100 + i)] (fun _ => Nat.le_of_ble_eq_true rfl)) (fun o C hR => ?_)
  refine y_cs (pc := 0) C dJ0_coder_7d493_0 ?_
  refine y_ifn (tgt := 13) C (by decide) dJ0_coder_7d493_3 (by decide) ?_
  refine ys (x_aload_n C (pc := 6) dJ0_coder_7d493_6 rfl (Xo.done (fun _ => ?_)))
  refine y_cod C hi dJ0_coder_7d493_7 ?_
  refine y_go (tgt := 14) C dJ0_coder_7d493_10 (by decide) ?_
  exact hR 14 _ dJ0_coder_7d493_14
theorem ct_latin (hi : i < 5) : CT w yJ0_isLatin1_aae02 cJ0_isLatin1_aae02 1 (some .boolean) 0 0 [.ref (100 + i)] σ (some (.int 1)) σ := by
  refine ct_of (by decide +kernel) (Or.inr (Or.inl ⟨1, rfl, .boolean, rfl, by decide +kernel⟩)) (lx_args [.ref (100 + i)]) (lx_entry [.ref (100 + i)] (fun _ => Nat.le_of_ble_eq_true rfl)) (fun o C hR => ?_)
  refine y_cs (pc := 0) C dJ0_isLatin1_aae02_0 ?_
  refine y_ifn (tgt := 17) C (by decide) dJ0_isLatin1_aae02_3 (by decide) ?_
  refine ys (x_aload_n C (pc := 6) dJ0_isLatin1_aae02_6 rfl (Xo.done (fun _ => ?_)))
  refine y_cod C hi dJ0_isLatin1_aae02_7 ?_
  refine y_ifz (tgt := 17) C rfl dJ0_isLatin1_aae02_10 (by decide) ?_
  refine ys (x_iconst C (pc := 13) (v := 1) dJ0_isLatin1_aae02_13 (by decide +kernel) (Xo.done (fun _ => ?_)))
  refine y_go (tgt := 18) C dJ0_isLatin1_aae02_14 (by decide) ?_
  exact hR 18 _ dJ0_isLatin1_aae02_18
theorem ct_chk {n : Nat} {j : Int32} (hin : inb j n = true) (hn9 : n < 2147483648) : CT w yJ0_checkIndex_df160 cJ0_checkIndex_df160 2 none 1 22 [.int j, .int (nI n)] σ none σ := by
  refine ct_of (by decide +kernel) (Or.inl ⟨rfl, rfl⟩) (lx_args [.int j, .int (nI n)]) (lx_entry [.int j, .int (nI n)] (fun _ => Nat.le_of_ble_eq_true rfl)) (fun o C hR => ?_)
  refine ys (x_iload_n C (pc := 0) dJ0_checkIndex_df160_0 rfl (Xo.done (fun _ => ?_)))
  refine ys (x_iload_n C (pc := 1) dJ0_checkIndex_df160_1 rfl (Xo.done (fun _ => ?_)))
  refine y_pre C hin hn9 dJ0_checkIndex_df160_2 dJ0_checkIndex_df160_5 dJ0_checkIndex_df160_8 ?_
  exact hR 9 _ dJ0_checkIndex_df160_9
theorem by_ok (hi : i < 5) {j : Int32} (hj : inb j (wo_len.getD i 0) = true) : ((((wo_byt.getD i []).getD j.toNatClampNeg 0) &&& 255).toUInt32 % 65536).toInt32 = (wo_byt.getD i []).getD j.toNatClampNeg 0 ∧ narrow .char (.int ((wo_byt.getD i []).getD j.toNatClampNeg 0)) = .int ((wo_byt.getD i []).getD j.toNatClampNeg 0) := by
  have h2 : ∀ a : Fin 5, ∀ b : Fin 6, ((((wo_byt.getD (a : Nat) []).getD (b : Nat) 0) &&& 255).toUInt32 % 65536).toInt32 = (wo_byt.getD (a : Nat) []).getD (b : Nat) 0 ∧ narrow .char (.int ((wo_byt.getD (a : Nat) []).getD (b : Nat) 0)) = .int ((wo_byt.getD (a : Nat) []).getD (b : Nat) 0) := by decide +kernel
  have h3 : ∀ a : Fin 5, wo_len.getD (a : Nat) 0 ≤ 6 := by decide +kernel
  simp only [inb, Bool.not_eq_true', Bool.or_eq_false_iff, decide_eq_false_iff_not] at hj
  have h4 := h3 ⟨i, hi⟩
  exact h2 ⟨i, hi⟩ ⟨j.toNatClampNeg, by have := hj.2; dsimp only at h4; omega⟩
theorem ct_la1 (hi : i < 5) {j : Int32} (hj : inb j (wo_len.getD i 0) = true) : CT w yJ1_charAt_3b067 cJ1_charAt_3b067 2 (some .char) 2 43 [.ref (110 + i), .int j] σ (some (.int ((wo_byt.getD i []).getD j.toNatClampNeg 0))) σ := by
  have hb9 := by_ok hi hj
  have hlen : wo_len.getD i 0 < 2147483648 := by
    have h3 : ∀ a : Fin 5, wo_len.getD (a : Nat) 0 ≤ 6 := by decide +kernel
    have := h3 ⟨i, hi⟩
    dsimp only at this
    omega
  refine ct_of (by decide +kernel) (Or.inr (Or.inl ⟨_, rfl, .char, rfl, hb9.2⟩)) (lx_args [.ref (110 + i), .int j]) (lx_entry [.ref (110 + i), .int j] (fun _ => Nat.le_of_ble_eq_true rfl)) (fun o C hR => ?_)
  refine ys (x_iload_n C (pc := 0) dJ1_charAt_3b067_0 rfl (Xo.done (fun _ => ?_)))
  refine ys (x_aload_n C (pc := 1) dJ1_charAt_3b067_1 rfl (Xo.done (fun _ => ?_)))
  refine y_bln (pc := 2) C hi dJ1_charAt_3b067_2 ?_
  refine y_callS (pc := 3) C (⟨mbj_J0_checkIndex_df160, tl_chk, ts_chk⟩ : MS RJ1 9 yJ0_checkIndex_df160 cJ0_checkIndex_df160 2 none 2) [.int j, .int (nI (wo_len.getD i 0))] (ct_chk hj hlen) ⟨Nat.le_of_ble_eq_true rfl, Nat.le_of_ble_eq_true rfl⟩ rfl (Nat.le_of_ble_eq_true rfl) rfl dJ1_charAt_3b067_3 ?_
  refine ys (x_aload_n C (pc := 6) dJ1_charAt_3b067_6 rfl (Xo.done (fun _ => ?_)))
  refine ys (x_iload_n C (pc := 7) dJ1_charAt_3b067_7 rfl (Xo.done (fun _ => ?_)))
  refine y_bld (pc := 8) C hi hj dJ1_charAt_3b067_8 ?_
  refine ys (x_sipush C (pc := 9) (v := 255) dJ1_charAt_3b067_9 (by decide +kernel) (Xo.done (fun _ => ?_)))
  refine ys (x_iand C (pc := 12) dJ1_charAt_3b067_12 (Xo.done (fun _ => ?_)))
  refine y_i2c (pc := 13) C dJ1_charAt_3b067_13 hb9.1 ?_
  exact hR 14 _ dJ1_charAt_3b067_14
theorem ct_cha (hi : i < 5) {j : Int32} (hj : inb j (wo_len.getD i 0) = true) : CT w yJ0_charAt_5068e cJ0_charAt_5068e 2 (some .char) 3 64 [.ref (100 + i), .int j] σ (some (.int ((wo_byt.getD i []).getD j.toNatClampNeg 0))) σ := by
  have hb9 := by_ok hi hj
  refine ct_of (by decide +kernel) (Or.inr (Or.inl ⟨_, rfl, .char, rfl, hb9.2⟩)) (lx_args [.ref (100 + i), .int j]) (lx_entry [.ref (100 + i), .int j] (fun _ => Nat.le_of_ble_eq_true rfl)) (fun o C hR => ?_)
  refine ys (x_aload_n C (pc := 0) dJ0_charAt_5068e_0 rfl (Xo.done (fun _ => ?_)))
  refine y_callT (pc := 1) C mbj_J0_isLatin1_aae02 tl_lat tn_lat te_lat hi [] (ct_latin hi) ⟨Nat.le_of_ble_eq_true rfl, Nat.le_of_ble_eq_true rfl⟩ rfl (Nat.le_of_ble_eq_true rfl) rfl dJ0_charAt_5068e_1 ?_
  refine y_ifn (pc := 4) (tgt := 16) C (by decide) dJ0_charAt_5068e_4 (by decide) ?_
  refine ys (x_aload_n C (pc := 7) dJ0_charAt_5068e_7 rfl (Xo.done (fun _ => ?_)))
  refine y_val (pc := 8) C hi dJ0_charAt_5068e_8 ?_
  refine ys (x_iload_n C (pc := 11) dJ0_charAt_5068e_11 rfl (Xo.done (fun _ => ?_)))
  refine y_callS (pc := 12) C (⟨mbj_J1_charAt_3b067, tl_la1, ts_la1⟩ : MS RJ0 495 yJ1_charAt_3b067 cJ1_charAt_3b067 2 (some .char) 2) [.ref (110 + i), .int j] (ct_la1 hi hj) ⟨Nat.le_of_ble_eq_true rfl, Nat.le_of_ble_eq_true rfl⟩ rfl (Nat.le_of_ble_eq_true rfl) rfl dJ0_charAt_5068e_12 ?_
  exact hR 15 _ dJ0_charAt_5068e_15
theorem ct_len (hi : i < 5) : CT w yJ0_length_8abf5 cJ0_length_8abf5 1 (some .int) 1 20 [.ref (100 + i)] σ (some (.int (nI (wo_len.getD i 0)))) σ := by
  have h3 : ∀ a : Fin 5, (nI (wo_len.getD (a : Nat) 0)) >>> ((0 : Int32) &&& 31) = nI (wo_len.getD (a : Nat) 0) := by decide +kernel
  have h4 : (nI (wo_len.getD i 0)) >>> ((0 : Int32) &&& 31) = nI (wo_len.getD i 0) := h3 ⟨i, hi⟩
  refine ct_of (by decide +kernel) (Or.inr (Or.inl ⟨_, rfl, .int, rfl, rfl⟩)) (lx_args [.ref (100 + i)]) (lx_entry [.ref (100 + i)] (fun _ => Nat.le_of_ble_eq_true rfl)) (fun o C hR => ?_)
  refine ys (x_aload_n C (pc := 0) dJ0_length_8abf5_0 rfl (Xo.done (fun _ => ?_)))
  refine y_val (pc := 1) C hi dJ0_length_8abf5_1 ?_
  refine y_bln (pc := 4) C hi dJ0_length_8abf5_4 ?_
  refine ys (x_aload_n C (pc := 5) dJ0_length_8abf5_5 rfl (Xo.done (fun _ => ?_)))
  refine y_callT (pc := 6) C mbj_J0_coder_7d493 tl_cod tn_cod te_cod hi [] (ct_coder hi) ⟨Nat.le_of_ble_eq_true rfl, Nat.le_of_ble_eq_true rfl⟩ rfl (Nat.le_of_ble_eq_true rfl) rfl dJ0_length_8abf5_6 ?_
  refine ys (x_ishr C (pc := 9) dJ0_length_8abf5_9 (Xo.done (fun _ => ?_)))
  rw [h4]
  exact hR 10 _ dJ0_length_8abf5_10
end RT2
section RS2
variable {τ : Type} {f g : Option τ} {Z : τ → Prop} {o : Om} {own : String} {cc : ByteArray} {nL : Nat} {rt : Option FieldType} {rm : Room} {w pc : Nat} {L L' : List (Option Value)} {st : List Value} {σ : SS}
theorem x_slen (C : Cx o RX7 cc nL rt (rmx 4 90) w) {a : Nat} (hd : decode cc pc = .ok (.invokevirtual 116, 3)) (ha : 100 ≤ a ∧ a < 105) (k : Xo f Z (Yx o (pc + 3) L (.int (nI (wl a)) :: st) σ)) (hc8 : cs st ≤ 8 := by exact Nat.le_of_ble_eq_true rfl) : Xo f Z (Yx o pc L (.ref a :: st) σ) := by
  obtain ⟨i, rfl⟩ : ∃ i, a = 100 + i := ⟨a - 100, by omega⟩
  refine k.mono (fun y => ?_)
  unfold wl at y
  rw [show 100 + i - 100 = i by omega] at y
  exact y_callT C mbj_J0_length_8abf5 tl_len tn_len te_len (by omega) [] (ct_len (by omega)) ⟨Nat.le_of_ble_eq_true rfl, Nat.le_of_ble_eq_true rfl⟩ rfl hc8 rfl hd y
theorem x_sch (C : Cx o RX7 cc nL rt (rmx 4 90) w) {a : Nat} {i : Int32} (hd : decode cc pc = .ok (.invokevirtual 128, 3)) (ha : 100 ≤ a ∧ a < 105) (k : inb i (wl a) = true → Xo f Z (Yx o (pc + 3) L (.int (wch a i.toNatClampNeg) :: st) σ)) (hc8 : cs st ≤ 8 := by exact Nat.le_of_ble_eq_true rfl) : Xo (gd (inb i (wl a)) f) Z (Yx o pc L (.int i :: .ref a :: st) σ) := by
  obtain ⟨j, rfl⟩ : ∃ j, a = 100 + j := ⟨a - 100, by omega⟩
  refine Xo.gd (fun hi => (k hi).mono (fun y => ?_))
  unfold wch at y
  unfold wl at hi
  rw [show 100 + j - 100 = j by omega] at y hi
  exact y_callT C mbj_J0_charAt_5068e tl_cha tn_cha te_cha (by omega) [.int i] (ct_cha (by omega) hi) ⟨Nat.le_of_ble_eq_true rfl, Nat.le_of_ble_eq_true rfl⟩ rfl hc8 rfl hd y
end RS2
