def FJ9_floorMod_7cf53 (a : Int32) (b : Int32) (s0 : SS) : Option (Int32) :=
  gd (decide (¬ b = 0)) (nm (a - a / b * b) (fun (i1 : Int32) => if 0 ≤ (a ^^^ b) then some (i1) else (if i1 = 0 then some (i1) else (some ((i1 + b))))))
set_option maxRecDepth 100000 in
set_option maxHeartbeats 4000000 in
theorem bd_J9_floorMod_7cf53 {o : Om} (C : Cx o RJ9 cJ9_floorMod_7cf53 3 (some .int) (rmx 0 0) 0) (a : Int32) (b : Int32) (s0 : SS) : Xo (FJ9_floorMod_7cf53 a b s0) (fun r => RT o cJ9_floorMod_7cf53 (some (.int r)) s0) (Yx o 0 [some (.int a), some (.int b), none] [] s0) := by
  unfold FJ9_floorMod_7cf53
  refine x_iload_n C (pc := 0) dJ9_floorMod_7cf53_0 rfl ?_
  refine x_iload_n C (pc := 1) dJ9_floorMod_7cf53_1 rfl ?_
  refine Xo.gd (fun hz => ?_)
  refine x_irem C (pc := 2) dJ9_floorMod_7cf53_2 (of_decide_eq_true hz) ?_
  refine x_istore_n C (pc := 3) (L' := fun i1 => [some (.int a), some (.int b), some (.int i1)]) dJ9_floorMod_7cf53_3 (by decide) (fun _ => rfl) (fun i1 => ?_)
  refine x_iload_n C (pc := 4) dJ9_floorMod_7cf53_4 rfl ?_
  refine x_iload_n C (pc := 5) dJ9_floorMod_7cf53_5 rfl ?_
  refine x_ixor C (pc := 6) dJ9_floorMod_7cf53_6 ?_
  refine x_if_ge C (pc := 7) (tgt := 18) dJ9_floorMod_7cf53_7 (by decide) (fun _ => ?_) (fun _ => ?_)
  · skip
    refine x_iload_n C (pc := 18) dJ9_floorMod_7cf53_18 rfl ?_
    exact x_ret dJ9_floorMod_7cf53_19 (fun h => h)
  · skip
    refine x_iload_n C (pc := 10) dJ9_floorMod_7cf53_10 rfl ?_
    refine x_if_eq C (pc := 11) (tgt := 18) dJ9_floorMod_7cf53_11 (by decide) (fun _ => ?_) (fun _ => ?_)
    · skip
      refine x_iload_n C (pc := 18) dJ9_floorMod_7cf53_18 rfl ?_
      exact x_ret dJ9_floorMod_7cf53_19 (fun h => h)
    · skip
      refine x_iload_n C (pc := 14) dJ9_floorMod_7cf53_14 rfl ?_
      refine x_iload_n C (pc := 15) dJ9_floorMod_7cf53_15 rfl ?_
      refine x_iadd C (pc := 16) dJ9_floorMod_7cf53_16 ?_
      exact x_ret dJ9_floorMod_7cf53_17 (fun h => h)
theorem ct_J9_floorMod_7cf53 (a : Int32) (b : Int32) (s0 : SS) (r : Int32) (h : FJ9_floorMod_7cf53 a b s0 = some r) : CT 0 yJ9_floorMod_7cf53 cJ9_floorMod_7cf53 3 (some .int) 0 0 [.int a, .int b] s0 (some (.int r)) s0 :=
  ct_of (by decide +kernel) (Or.inr (Or.inl ⟨_, rfl, _, rfl, rfl⟩)) (lx_args [.int a, .int b]) (lx_entry [.int a, .int b] (fun _ => Nat.le_of_ble_eq_true rfl)) (fun o C hR => Yx.weak (lw_s (lw_s (lw_z lw_0))) (bd_J9_floorMod_7cf53 C a b s0 r h hR))
def FJ6_bitCount_0f7a4 (a : Int32) (s0 : SS) : Option (Int32) :=
  nm (a - (((Int32.toUInt32 a >>> (Int32.toUInt32 (nI 1) &&& Int32.toUInt32 31)).toInt32) &&& (1431655765 : Int32))) (fun (i1 : Int32) => nm ((i1 &&& (858993459 : Int32)) + (((Int32.toUInt32 i1 >>> (Int32.toUInt32 (nI 2) &&& Int32.toUInt32 31)).toInt32) &&& (858993459 : Int32))) (fun (i2 : Int32) => nm ((i2 + ((Int32.toUInt32 i2 >>> (Int32.toUInt32 (nI 4) &&& Int32.toUInt32 31)).toInt32)) &&& (252645135 : Int32)) (fun (i3 : Int32) => nm (i3 + ((Int32.toUInt32 i3 >>> (Int32.toUInt32 (nI 8) &&& Int32.toUInt32 31)).toInt32)) (fun (i4 : Int32) => nm (i4 + ((Int32.toUInt32 i4 >>> (Int32.toUInt32 (nI 16) &&& Int32.toUInt32 31)).toInt32)) (fun (i5 : Int32) => some ((i5 &&& (nI 63))))))))
set_option maxRecDepth 100000 in
set_option maxHeartbeats 4000000 in
theorem bd_J6_bitCount_0f7a4 {o : Om} (C : Cx o RJ6 cJ6_bitCount_0f7a4 1 (some .int) (rmx 0 0) 0) (a : Int32) (s0 : SS) : Xo (FJ6_bitCount_0f7a4 a s0) (fun r => RT o cJ6_bitCount_0f7a4 (some (.int r)) s0) (Yx o 0 [some (.int a)] [] s0) := by
  unfold FJ6_bitCount_0f7a4
  refine x_iload_n C (pc := 0) dJ6_bitCount_0f7a4_0 rfl ?_
  refine x_iload_n C (pc := 1) dJ6_bitCount_0f7a4_1 rfl ?_
  refine x_iconst C (pc := 2) dJ6_bitCount_0f7a4_2 kc_i_1 ?_
  refine x_iushr C (pc := 3) dJ6_bitCount_0f7a4_3 ?_
  refine x_ldcw C (pc := 4) dJ6_bitCount_0f7a4_4 cc_J6_265 ?_
  refine x_iand C (pc := 7) dJ6_bitCount_0f7a4_7 ?_
  refine x_isub C (pc := 8) dJ6_bitCount_0f7a4_8 ?_
  refine x_istore_n C (pc := 9) (L' := fun i1 => [some (.int i1)]) dJ6_bitCount_0f7a4_9 (by decide) (fun _ => rfl) (fun i1 => ?_)
  refine x_iload_n C (pc := 10) dJ6_bitCount_0f7a4_10 rfl ?_
  refine x_ldcw C (pc := 11) dJ6_bitCount_0f7a4_11 cc_J6_266 ?_
  refine x_iand C (pc := 14) dJ6_bitCount_0f7a4_14 ?_
  refine x_iload_n C (pc := 15) dJ6_bitCount_0f7a4_15 rfl ?_
  refine x_iconst C (pc := 16) dJ6_bitCount_0f7a4_16 kc_i_2 ?_
  refine x_iushr C (pc := 17) dJ6_bitCount_0f7a4_17 ?_
  refine x_ldcw C (pc := 18) dJ6_bitCount_0f7a4_18 cc_J6_266 ?_
  refine x_iand C (pc := 21) dJ6_bitCount_0f7a4_21 ?_
  refine x_iadd C (pc := 22) dJ6_bitCount_0f7a4_22 ?_
  refine x_istore_n C (pc := 23) (L' := fun i2 => [some (.int i2)]) dJ6_bitCount_0f7a4_23 (by decide) (fun _ => rfl) (fun i2 => ?_)
  refine x_iload_n C (pc := 24) dJ6_bitCount_0f7a4_24 rfl ?_
  refine x_iload_n C (pc := 25) dJ6_bitCount_0f7a4_25 rfl ?_
  refine x_iconst C (pc := 26) dJ6_bitCount_0f7a4_26 kc_i_4 ?_
  refine x_iushr C (pc := 27) dJ6_bitCount_0f7a4_27 ?_
  refine x_iadd C (pc := 28) dJ6_bitCount_0f7a4_28 ?_
  refine x_ldcw C (pc := 29) dJ6_bitCount_0f7a4_29 cc_J6_267 ?_
  refine x_iand C (pc := 32) dJ6_bitCount_0f7a4_32 ?_
  refine x_istore_n C (pc := 33) (L' := fun i3 => [some (.int i3)]) dJ6_bitCount_0f7a4_33 (by decide) (fun _ => rfl) (fun i3 => ?_)
  refine x_iload_n C (pc := 34) dJ6_bitCount_0f7a4_34 rfl ?_
  refine x_iload_n C (pc := 35) dJ6_bitCount_0f7a4_35 rfl ?_
  refine x_bipush C (pc := 36) dJ6_bitCount_0f7a4_36 kc_b_8 ?_
  refine x_iushr C (pc := 38) dJ6_bitCount_0f7a4_38 ?_
  refine x_iadd C (pc := 39) dJ6_bitCount_0f7a4_39 ?_
  refine x_istore_n C (pc := 40) (L' := fun i4 => [some (.int i4)]) dJ6_bitCount_0f7a4_40 (by decide) (fun _ => rfl) (fun i4 => ?_)
  refine x_iload_n C (pc := 41) dJ6_bitCount_0f7a4_41 rfl ?_
  refine x_iload_n C (pc := 42) dJ6_bitCount_0f7a4_42 rfl ?_
  refine x_bipush C (pc := 43) dJ6_bitCount_0f7a4_43 kc_b_16 ?_
  refine x_iushr C (pc := 45) dJ6_bitCount_0f7a4_45 ?_
  refine x_iadd C (pc := 46) dJ6_bitCount_0f7a4_46 ?_
  refine x_istore_n C (pc := 47) (L' := fun i5 => [some (.int i5)]) dJ6_bitCount_0f7a4_47 (by decide) (fun _ => rfl) (fun i5 => ?_)
  refine x_iload_n C (pc := 48) dJ6_bitCount_0f7a4_48 rfl ?_
  refine x_bipush C (pc := 49) dJ6_bitCount_0f7a4_49 kc_b_63 ?_
  refine x_iand C (pc := 51) dJ6_bitCount_0f7a4_51 ?_
  exact x_ret dJ6_bitCount_0f7a4_52 (fun h => h)
theorem ct_J6_bitCount_0f7a4 (a : Int32) (s0 : SS) (r : Int32) (h : FJ6_bitCount_0f7a4 a s0 = some r) : CT 0 yJ6_bitCount_0f7a4 cJ6_bitCount_0f7a4 1 (some .int) 0 0 [.int a] s0 (some (.int r)) s0 :=
  ct_of (by decide +kernel) (Or.inr (Or.inl ⟨_, rfl, _, rfl, rfl⟩)) (lx_args [.int a]) (lx_entry [.int a] (fun _ => Nat.le_of_ble_eq_true rfl)) (fun o C hR => Yx.weak (lw_s lw_0) (bd_J6_bitCount_0f7a4 C a s0 r h hR))
def FX9_at (t : Nat) (a : Int32) (b : Int32) (s0 : SS) : Option (Int32) :=
  if a < 0 then some ((nI 0)) else (if (gI s0 t 3) ≤ a then some ((nI 0)) else (if b < 0 then some ((nI 0)) else (if b < (gI s0 t 0) then gd (inb ((a * (gI s0 t 0)) + b) (ln (lk t 2))) (some ((gI s0 (lk t 2) (Int32.toNatClampNeg ((a * (gI s0 t 0)) + b))))) else (some ((nI 0))))))
set_option maxRecDepth 100000 in
set_option maxHeartbeats 4000000 in
theorem bd_X9_at {o : Om} (C : Cx o RX9 cX9_at 3 (some .int) (rmx 0 0) 0) (t : Nat) (ht : kd t = 7) (a : Int32) (b : Int32) (s0 : SS) : Xo (FX9_at t a b s0) (fun r => RT o cX9_at (some (.int r)) s0) (Yx o 0 [some (.ref t), some (.int a), some (.int b)] [] s0) := by
  unfold FX9_at
  refine x_iload_n C (pc := 0) dX9_at_0 rfl ?_
  refine x_if_lt C (pc := 1) (tgt := 24) dX9_at_1 (by decide) (fun _ => ?_) (fun _ => ?_)
  · skip
    refine x_iconst C (pc := 24) dX9_at_24 kc_i_0 ?_
    exact x_ret dX9_at_25 (fun h => h)
  · skip
    refine x_iload_n C (pc := 4) dX9_at_4 rfl ?_
    refine x_aload_n C (pc := 5) dX9_at_5 rfl ?_
    refine x_getI C (pc := 6) fg_X9_22 dX9_at_6 ht ?_
    refine x_icmp_ge C (pc := 9) (tgt := 24) dX9_at_9 (by decide) (fun _ => ?_) (fun _ => ?_)
    · skip
      refine x_iconst C (pc := 24) dX9_at_24 kc_i_0 ?_
      exact x_ret dX9_at_25 (fun h => h)
    · skip
      refine x_iload_n C (pc := 12) dX9_at_12 rfl ?_
      refine x_if_lt C (pc := 13) (tgt := 24) dX9_at_13 (by decide) (fun _ => ?_) (fun _ => ?_)
      · skip
        refine x_iconst C (pc := 24) dX9_at_24 kc_i_0 ?_
        exact x_ret dX9_at_25 (fun h => h)
      · skip
        refine x_iload_n C (pc := 16) dX9_at_16 rfl ?_
        refine x_aload_n C (pc := 17) dX9_at_17 rfl ?_
        refine x_getI C (pc := 18) fg_X9_15 dX9_at_18 ht ?_
        refine x_icmp_lt C (pc := 21) (tgt := 26) dX9_at_21 (by decide) (fun _ => ?_) (fun _ => ?_)
        · skip
          refine x_aload_n C (pc := 26) dX9_at_26 rfl ?_
          refine x_getR C (pc := 27) fg_X9_18 dX9_at_27 ht ?_
          refine x_iload_n C (pc := 30) dX9_at_30 rfl ?_
          refine x_aload_n C (pc := 31) dX9_at_31 rfl ?_
          refine x_getI C (pc := 32) fg_X9_15 dX9_at_32 ht ?_
          refine x_imul C (pc := 35) dX9_at_35 ?_
          refine x_iload_n C (pc := 36) dX9_at_36 rfl ?_
          refine x_iadd C (pc := 37) dX9_at_37 ?_
          refine x_iald C (pc := 38) dX9_at_38 (lkd_7_2 ht) (fun _ => ?_)
          exact x_ret dX9_at_39 (fun h => h)
        · skip
          refine x_iconst C (pc := 24) dX9_at_24 kc_i_0 ?_
          exact x_ret dX9_at_25 (fun h => h)
theorem ct_X9_at (t : Nat) (ht : kd t = 7) (a : Int32) (b : Int32) (s0 : SS) (r : Int32) (h : FX9_at t a b s0 = some r) : CT 0 yX9_at cX9_at 3 (some .int) 0 0 [.ref t, .int a, .int b] s0 (some (.int r)) s0 :=
  ct_of (by decide +kernel) (Or.inr (Or.inl ⟨_, rfl, _, rfl, rfl⟩)) (lx_args [.ref t, .int a, .int b]) (lx_entry [.ref t, .int a, .int b] (fun _ => Nat.le_of_ble_eq_true rfl)) (fun o C hR => Yx.weak (lw_s (lw_s (lw_s lw_0))) (bd_X9_at C t ht a b s0 r h hR))
def FX5_takenOf (a : Int32) (b : Int32) (c : Int32) (s0 : SS) : Option (Int32) :=
  nm ((c + (nI 2)) / (nI 3)) (fun (i1 : Int32) => nm (i1 / (nI 2)) (fun (i2 : Int32) => nm (imin i1 b) (fun (i3 : Int32) => if a = (nI 0) then some (i1) else (if a = (nI 1) then some (i2) else (if a = (nI 2) then some (i3) else (if a = (nI 3) then if c < (nI 1) then some ((nI 0)) else (some ((nI 1))) else (if a = (nI 4) then some ((imin (i2 + b) c)) else (if a = (nI 5) then some ((imin ((nI 2) * i3) c)) else (some ((nI 0)))))))))))
set_option maxRecDepth 100000 in
set_option maxHeartbeats 4000000 in
theorem bd_X5_takenOf {o : Om} (C : Cx o RX5 cX5_takenOf 6 (some .int) (rmx 1 21) 0) (a : Int32) (b : Int32) (c : Int32) (s0 : SS) : Xo (FX5_takenOf a b c s0) (fun r => RT o cX5_takenOf (some (.int r)) s0) (Yx o 0 [some (.int a), some (.int b), some (.int c), none, none, none] [] s0) := by
  unfold FX5_takenOf
  refine x_iload_n C (pc := 0) dX5_takenOf_0 rfl ?_
  refine x_iconst C (pc := 1) dX5_takenOf_1 kc_i_2 ?_
  refine x_iadd C (pc := 2) dX5_takenOf_2 ?_
  refine x_iconst C (pc := 3) dX5_takenOf_3 kc_i_3 ?_
  refine x_idiv C (pc := 4) dX5_takenOf_4 (by decide +kernel) ?_
  refine x_istore_n C (pc := 5) (L' := fun i1 => [some (.int a), some (.int b), some (.int c), some (.int i1), none, none]) dX5_takenOf_5 (by decide) (fun _ => rfl) (fun i1 => ?_)
  refine x_iload_n C (pc := 6) dX5_takenOf_6 rfl ?_
  refine x_iconst C (pc := 7) dX5_takenOf_7 kc_i_2 ?_
  refine x_idiv C (pc := 8) dX5_takenOf_8 (by decide +kernel) ?_
  refine x_istore C (pc := 9) (L' := fun i2 => [some (.int a), some (.int b), some (.int c), some (.int i1), some (.int i2), none]) dX5_takenOf_9 (by decide) (fun _ => rfl) (fun i2 => ?_)
  refine x_iload_n C (pc := 11) dX5_takenOf_11 rfl ?_
  refine x_iload_n C (pc := 12) dX5_takenOf_12 rfl ?_
  refine x_mmin C (pc := 13) ml_X5_7 tw_mns tw_mai tw_mnc ⟨Nat.le_of_ble_eq_true rfl, Nat.le_of_ble_eq_true rfl⟩ dX5_takenOf_13 ?_
  refine x_istore C (pc := 16) (L' := fun i3 => [some (.int a), some (.int b), some (.int c), some (.int i1), some (.int i2), some (.int i3)]) dX5_takenOf_16 (by decide) (fun _ => rfl) (fun i3 => ?_)
  refine x_iload_n C (pc := 18) dX5_takenOf_18 rfl ?_
  refine Xo.ite (fun hq4 => ?_) (fun hq4 => ?_)
  · refine x_tabI C (pc := 19) (tgt := 56) (off := 37) dX5_takenOf_19 hq4 (by decide +kernel) (by decide +kernel) (by decide +kernel) (by decide) ?_
    refine x_iload_n C (pc := 56) dX5_takenOf_56 rfl ?_
    exact x_ret dX5_takenOf_57 (fun h => h)
  refine Xo.ite (fun hq5 => ?_) (fun hq5 => ?_)
  · refine x_tabI C (pc := 19) (tgt := 58) (off := 39) dX5_takenOf_19 hq5 (by decide +kernel) (by decide +kernel) (by decide +kernel) (by decide) ?_
    refine x_iload C (pc := 58) dX5_takenOf_58 rfl ?_
    exact x_ret dX5_takenOf_60 (fun h => h)
  refine Xo.ite (fun hq6 => ?_) (fun hq6 => ?_)
  · refine x_tabI C (pc := 19) (tgt := 61) (off := 42) dX5_takenOf_19 hq6 (by decide +kernel) (by decide +kernel) (by decide +kernel) (by decide) ?_
    refine x_iload C (pc := 61) dX5_takenOf_61 rfl ?_
    exact x_ret dX5_takenOf_63 (fun h => h)
  refine Xo.ite (fun hq7 => ?_) (fun hq7 => ?_)
  · refine x_tabI C (pc := 19) (tgt := 64) (off := 45) dX5_takenOf_19 hq7 (by decide +kernel) (by decide +kernel) (by decide +kernel) (by decide) ?_
    refine x_iload_n C (pc := 64) dX5_takenOf_64 rfl ?_
    refine x_iconst C (pc := 65) dX5_takenOf_65 kc_i_1 ?_
    refine x_icmp_lt C (pc := 66) (tgt := 73) dX5_takenOf_66 (by decide) (fun _ => ?_) (fun _ => ?_)
    · skip
      refine x_iconst C (pc := 73) dX5_takenOf_73 kc_i_0 ?_
      exact x_ret dX5_takenOf_74 (fun h => h)
    · skip
      refine x_iconst C (pc := 69) dX5_takenOf_69 kc_i_1 ?_
      refine x_goto C (pc := 70) (tgt := 74) dX5_takenOf_70 (by decide) ?_
      exact x_ret dX5_takenOf_74 (fun h => h)
  refine Xo.ite (fun hq8 => ?_) (fun hq8 => ?_)
  · refine x_tabI C (pc := 19) (tgt := 75) (off := 56) dX5_takenOf_19 hq8 (by decide +kernel) (by decide +kernel) (by decide +kernel) (by decide) ?_
    refine x_iload C (pc := 75) dX5_takenOf_75 rfl ?_
    refine x_iload_n C (pc := 77) dX5_takenOf_77 rfl ?_
    refine x_iadd C (pc := 78) dX5_takenOf_78 ?_
    refine x_iload_n C (pc := 79) dX5_takenOf_79 rfl ?_
    refine x_mmin C (pc := 80) ml_X5_7 tw_mns tw_mai tw_mnc ⟨Nat.le_of_ble_eq_true rfl, Nat.le_of_ble_eq_true rfl⟩ dX5_takenOf_80 ?_
    exact x_ret dX5_takenOf_83 (fun h => h)
  refine Xo.ite (fun hq9 => ?_) (fun hq9 => ?_)
  · refine x_tabI C (pc := 19) (tgt := 84) (off := 65) dX5_takenOf_19 hq9 (by decide +kernel) (by decide +kernel) (by decide +kernel) (by decide) ?_
    refine x_iconst C (pc := 84) dX5_takenOf_84 kc_i_2 ?_
    refine x_iload C (pc := 85) dX5_takenOf_85 rfl ?_
    refine x_imul C (pc := 87) dX5_takenOf_87 ?_
    refine x_iload_n C (pc := 88) dX5_takenOf_88 rfl ?_
    refine x_mmin C (pc := 89) ml_X5_7 tw_mns tw_mai tw_mnc ⟨Nat.le_of_ble_eq_true rfl, Nat.le_of_ble_eq_true rfl⟩ dX5_takenOf_89 ?_
    exact x_ret dX5_takenOf_92 (fun h => h)
  have hT := tab_out (x := a) (lo := 0) (hi := 5) 6 (fun j hj => by
    rcases j with _ | j
    · exact lv_neT hq4 (by decide +kernel)
    rcases j with _ | j
    · exact lv_neT hq5 (by decide +kernel)
    rcases j with _ | j
    · exact lv_neT hq6 (by decide +kernel)
    rcases j with _ | j
    · exact lv_neT hq7 (by decide +kernel)
    rcases j with _ | j
    · exact lv_neT hq8 (by decide +kernel)
    rcases j with _ | j
    · exact lv_neT hq9 (by decide +kernel)
    exact absurd hj (by omega)) (by decide)
  refine x_tabO C (pc := 19) (tgt := 93) dX5_takenOf_19 hT (by decide) ?_
  refine x_iconst C (pc := 93) dX5_takenOf_93 kc_i_0 ?_
  exact x_ret dX5_takenOf_94 (fun h => h)
theorem ct_X5_takenOf (a : Int32) (b : Int32) (c : Int32) (s0 : SS) (r : Int32) (h : FX5_takenOf a b c s0 = some r) : CT 0 yX5_takenOf cX5_takenOf 6 (some .int) 1 21 [.int a, .int b, .int c] s0 (some (.int r)) s0 :=
  ct_of (by decide +kernel) (Or.inr (Or.inl ⟨_, rfl, _, rfl, rfl⟩)) (lx_args [.int a, .int b, .int c]) (lx_entry [.int a, .int b, .int c] (fun _ => Nat.le_of_ble_eq_true rfl)) (fun o C hR => Yx.weak (lw_s (lw_s (lw_s (lw_z (lw_z (lw_z lw_0)))))) (bd_X5_takenOf C a b c s0 r h hR))
def FX0_go (t : Nat) (a : Nat) (b : Int32) (c : Int32) (d : Int32) (s0 : SS) : Option (SS) :=
  nm (imin (gI s0 a 3) (nI 7)) (fun (i1 : Int32) => nm (nI 0) (fun (i2 : Int32) => nm (nI 0) (fun (i3 : Int32) => bd (lp FUEL (u3 (fun (n4 : Int32) (n5 : Int32) (s6 : SS) => if (nI 7) ≤ n5 then some (Sum.inr (n4, s6)) else (gd (inb n5 (ln (lk t 2))) (nm (pI s6 (lk t 2) (Int32.toNatClampNeg n5) (nI 0)) (fun (s7 : SS) => bd (if i1 ≤ n5 then some (n4) else (if ((b >>> (n5 &&& 31)) &&& (nI 1)) = (nI 1) then bd (FX9_at a n5 (nI 1) s7) (fun (r8 : Int32) => nm (n4 ||| ((nI 1) <<< (r8 &&& 31))) (fun (i9 : Int32) => some (i9))) else (some (n4)))) (fun (j10 : Int32) => nm (n5 + (nI 1)) (fun (i11 : Int32) => some (Sum.inl (j10, i11, s7))))))))) (i2, i3, s0)) (u2 (fun (e12 : Int32) (s13 : SS) => nm c (fun (i14 : Int32) => nm (nI 0) (fun (i15 : Int32) => bd (lp FUEL (u3 (fun (n16 : Int32) (n17 : Int32) (s18 : SS) => if (nI 12) ≤ n17 then some (Sum.inr s18) else (bd (if d = 0 then some (n17) else (some (((nI 11) - n17)))) (fun (j19 : Int32) => nm j19 (fun (i20 : Int32) => gd (inb i20 (ln (lk t 0))) (nm (pI s18 (lk t 0) (Int32.toNatClampNeg i20) n16) (fun (s21 : SS) => bd (if ((e12 >>> (i20 &&& 31)) &&& (nI 1)) = (nI 1) then some (i1) else (some ((nI 0)))) (fun (j22 : Int32) => nm j22 (fun (i23 : Int32) => nm (nI 0) (fun (i24 : Int32) => bd (lp FUEL (u3 (fun (n25 : Int32) (n26 : Int32) (s27 : SS) => if i23 ≤ n26 then some (Sum.inr (n25, s27)) else (bd (if ((b >>> (n26 &&& 31)) &&& (nI 1)) = (nI 1) then bd (FX9_at a n26 (nI 1) s27) (fun (r28 : Int32) => if r28 = i20 then bd (FX9_at a n26 (nI 0) s27) (fun (r29 : Int32) => bd (FX9_at a n26 (nI 2) s27) (fun (r30 : Int32) => bd (FX5_takenOf r29 r30 n25 s27) (fun (r31 : Int32) => gd (inb n26 (ln (lk t 2))) (nm (pI s27 (lk t 2) (Int32.toNatClampNeg n26) r31) (fun (s32 : SS) => gd (inb n26 (ln (lk t 2))) (nm (n25 - (gI s32 (lk t 2) (Int32.toNatClampNeg n26))) (fun (i33 : Int32) => some ((i33, s32))))))))) else (some ((n25, s27)))) else (some ((n25, s27)))) (u2 (fun (j34 : Int32) (s35 : SS) => nm (n26 + (nI 1)) (fun (i36 : Int32) => some (Sum.inl (j34, i36, s35)))))))) (n16, i24, s21)) (u2 (fun (e37 : Int32) (s38 : SS) => gd (inb i20 (ln (lk t 1))) (nm (pI s38 (lk t 1) (Int32.toNatClampNeg i20) e37) (fun (s39 : SS) => nm (imin (e37 + (nI 1)) c) (fun (i40 : Int32) => nm (n17 + (nI 1)) (fun (i41 : Int32) => some (Sum.inl (i40, i41, s39)))))))))))))))))) (i14, i15, s13)) (fun (s42 : SS) => some (s42)))))))))
set_option maxRecDepth 100000 in
set_option maxHeartbeats 4000000 in
theorem bd_X0_go {o : Om} (C : Cx o RX0 cX0_go 12 none (rmx 2 46) 0) (t : Nat) (ht : kd t = 0) (a : Nat) (ha : kd a = 7) (b : Int32) (c : Int32) (d : Int32) (s0 : SS) : Xo (FX0_go t a b c d s0) (fun r => RT o cX0_go none r) (Yx o 0 [some (.ref t), some (.ref a), some (.int b), some (.int c), some (.int d), none, none, none, none, none, none, none] [] s0) := by
  unfold FX0_go
  refine x_aload_n C (pc := 0) dX0_go_0 rfl ?_
  refine x_getI C (pc := 1) fg_X0_43 dX0_go_1 ha ?_
  refine x_bipush C (pc := 4) dX0_go_4 kc_b_7 ?_
  refine x_mmin C (pc := 6) ml_X0_49 tw_mns tw_mai tw_mnc ⟨Nat.le_of_ble_eq_true rfl, Nat.le_of_ble_eq_true rfl⟩ dX0_go_6 ?_
  refine x_istore C (pc := 9) (L' := fun i1 => [some (.ref t), some (.ref a), some (.int b), some (.int c), some (.int d), some (.int i1), none, none, none, none, none, none]) dX0_go_9 (by decide) (fun _ => rfl) (fun i1 => ?_)
  refine x_iconst C (pc := 11) dX0_go_11 kc_i_0 ?_
  refine x_istore C (pc := 12) (L' := fun i2 => [some (.ref t), some (.ref a), some (.int b), some (.int c), some (.int d), some (.int i1), some (.int i2), none, none, none, none, none]) dX0_go_12 (by decide) (fun _ => rfl) (fun i2 => ?_)
  refine x_iconst C (pc := 14) dX0_go_14 kc_i_0 ?_
  refine x_istore C (pc := 15) (L' := fun i3 => [some (.ref t), some (.ref a), some (.int b), some (.int c), some (.int d), some (.int i1), some (.int i2), some (.int i3), none, none, none, none]) dX0_go_15 (by decide) (fun _ => rfl) (fun i3 => ?_)
  refine xb_2 (Z1 := (fun e12 s13 => Yx o 69 [some (.ref t), some (.ref a), some (.int b), some (.int c), some (.int d), some (.int i1), some (.int e12), none, none, none, none, none] [] s13)) ?_ (fun e12 s13 => ?_)
  · refine Xo.mono (Yx.weak (lw_s (lw_s (lw_s (lw_s (lw_s (lw_s (lw_s (lw_s (lw_n (lw_n (lw_n (lw_n lw_0))))))))))))) (x_lp3 (fr := fun n4 n5 s6 => Yx o 17 [some (.ref t), some (.ref a), some (.int b), some (.int c), some (.int d), some (.int i1), some (.int n4), some (.int n5), none, none, none, none] [] s6) _ _ _ (fun n4 n5 s6 => ?_))
    refine x_iload C (pc := 17) dX0_go_17 rfl ?_
    refine x_bipush C (pc := 19) dX0_go_19 kc_b_7 ?_
    refine x_icmp_ge C (pc := 21) (tgt := 69) dX0_go_21 (by decide) (fun _ => ?_) (fun _ => ?_)
    · skip
      exact Xo.done (fun h => Yx.weak (lw_s (lw_s (lw_s (lw_s (lw_s (lw_s (lw_s (lw_n (lw_n (lw_n (lw_n (lw_n lw_0)))))))))))) h)
    · skip
      refine x_aload_n C (pc := 24) dX0_go_24 rfl ?_
      refine x_getR C (pc := 25) fg_X0_18 dX0_go_25 ht ?_
      refine x_iload C (pc := 28) dX0_go_28 rfl ?_
      refine x_iconst C (pc := 30) dX0_go_30 kc_i_0 ?_
      refine x_iastn C (pc := 31) dX0_go_31 (lkd_0_2 ht) (fun s7 => ?_)
      refine x_iload C (pc := 32) dX0_go_32 rfl ?_
      refine x_iload C (pc := 34) dX0_go_34 rfl ?_
      refine xb_1 (Z1 := fun j10 => Yx o 63 [some (.ref t), some (.ref a), some (.int b), some (.int c), some (.int d), some (.int i1), some (.int j10), some (.int n5), none, none, none, none] [] s7) ?_ (fun j10 => ?_)
      · skip
        refine x_icmp_ge C (pc := 36) (tgt := 63) dX0_go_36 (by decide) (fun _ => ?_) (fun _ => ?_)
        · skip
          exact Xo.done (fun h => Yx.weak (lw_s (lw_s (lw_s (lw_s (lw_s (lw_s (lw_s (lw_s (lw_n (lw_n (lw_n (lw_n lw_0)))))))))))) h)
        · skip
          refine x_iload_n C (pc := 39) dX0_go_39 rfl ?_
          refine x_iload C (pc := 40) dX0_go_40 rfl ?_
          refine x_ishr C (pc := 42) dX0_go_42 ?_
          refine x_iconst C (pc := 43) dX0_go_43 kc_i_1 ?_
          refine x_iand C (pc := 44) dX0_go_44 ?_
          refine x_iconst C (pc := 45) dX0_go_45 kc_i_1 ?_
          refine x_icmp_ne C (pc := 46) (tgt := 63) dX0_go_46 (by decide) (fun _ => ?_) (fun _ => ?_)
          · skip
            refine x_iload C (pc := 49) dX0_go_49 rfl ?_
            refine x_iconst C (pc := 51) dX0_go_51 kc_i_1 ?_
            refine x_aload_n C (pc := 52) dX0_go_52 rfl ?_
            refine x_iload C (pc := 53) dX0_go_53 rfl ?_
            refine x_iconst C (pc := 55) dX0_go_55 kc_i_1 ?_
            refine x_callVi C (pc := 56) mv_X0_52 ha rfl [.int n5, .int (nI 1)] (fun _ hr => ct_X9_at _ ha _ _ _ _ hr) ⟨Nat.le_of_ble_eq_true rfl, Nat.le_of_ble_eq_true rfl⟩ rfl (Nat.le_of_ble_eq_true rfl) rfl dX0_go_56 (fun r8 => ?_)
            refine x_ishl C (pc := 59) dX0_go_59 ?_
            refine x_ior C (pc := 60) dX0_go_60 ?_
            refine x_istore C (pc := 61) (L' := fun i9 => [some (.ref t), some (.ref a), some (.int b), some (.int c), some (.int d), some (.int i1), some (.int i9), some (.int n5), none, none, none, none]) dX0_go_61 (by decide) (fun _ => rfl) (fun i9 => ?_)
            exact Xo.done (fun h => Yx.weak (lw_s (lw_s (lw_s (lw_s (lw_s (lw_s (lw_s (lw_s (lw_n (lw_n (lw_n (lw_n lw_0)))))))))))) h)
          · skip
            exact Xo.done (fun h => Yx.weak (lw_s (lw_s (lw_s (lw_s (lw_s (lw_s (lw_s (lw_s (lw_n (lw_n (lw_n (lw_n lw_0)))))))))))) h)
      refine x_iinc C (pc := 63) (L' := fun i11 => [some (.ref t), some (.ref a), some (.int b), some (.int c), some (.int d), some (.int i1), some (.int j10), some (.int i11), none, none, none, none]) dX0_go_63 rfl kc_i_1 (by decide) (fun _ => rfl) (fun i11 => ?_)
      refine x_goto C (pc := 66) (tgt := 17) dX0_go_66 (by decide) ?_
      exact Xo.done (fun h => Yx.weak (lw_s (lw_s (lw_s (lw_s (lw_s (lw_s (lw_s (lw_s (lw_n (lw_n (lw_n (lw_n lw_0)))))))))))) h)
  refine x_iload_n C (pc := 69) dX0_go_69 rfl ?_
  refine x_istore C (pc := 70) (L' := fun i14 => [some (.ref t), some (.ref a), some (.int b), some (.int c), some (.int d), some (.int i1), some (.int e12), some (.int i14), none, none, none, none]) dX0_go_70 (by decide) (fun _ => rfl) (fun i14 => ?_)
  refine x_iconst C (pc := 72) dX0_go_72 kc_i_0 ?_
  refine x_istore C (pc := 73) (L' := fun i15 => [some (.ref t), some (.ref a), some (.int b), some (.int c), some (.int d), some (.int i1), some (.int e12), some (.int i14), some (.int i15), none, none, none]) dX0_go_73 (by decide) (fun _ => rfl) (fun i15 => ?_)
  refine xb_1 (Z1 := (fun s42 => Yx o 228 [none, none, none, none, none, none, none, none, none, none, none, none] [] s42)) ?_ (fun s42 => ?_)
  · refine Xo.mono (Yx.weak (lw_s (lw_s (lw_s (lw_s (lw_s (lw_s (lw_s (lw_s (lw_s (lw_n (lw_n (lw_n lw_0))))))))))))) (x_lp3 (fr := fun n16 n17 s18 => Yx o 75 [some (.ref t), some (.ref a), some (.int b), some (.int c), some (.int d), some (.int i1), some (.int e12), some (.int n16), some (.int n17), none, none, none] [] s18) _ _ _ (fun n16 n17 s18 => ?_))
    refine x_iload C (pc := 75) dX0_go_75 rfl ?_
    refine x_bipush C (pc := 77) dX0_go_77 kc_b_12 ?_
    refine x_icmp_ge C (pc := 79) (tgt := 228) dX0_go_79 (by decide) (fun _ => ?_) (fun _ => ?_)
    · skip
      exact Xo.done (fun h => Yx.weak (lw_n (lw_n (lw_n (lw_n (lw_n (lw_n (lw_n (lw_n (lw_n (lw_n (lw_n (lw_n lw_0)))))))))))) h)
    · skip
      refine x_iload C (pc := 82) dX0_go_82 rfl ?_
      refine xb_1 (Z1 := fun j19 => Yx o 97 [some (.ref t), some (.ref a), some (.int b), some (.int c), some (.int d), some (.int i1), some (.int e12), some (.int n16), some (.int n17), none, none, none] [.int j19] s18) ?_ (fun j19 => ?_)
      · skip
        refine x_if_ne C (pc := 84) (tgt := 92) dX0_go_84 (by decide) (fun _ => ?_) (fun _ => ?_)
        · skip
          refine x_iload C (pc := 87) dX0_go_87 rfl ?_
          refine x_goto C (pc := 89) (tgt := 97) dX0_go_89 (by decide) ?_
          exact Xo.done (fun h => Yx.weak (lw_s (lw_s (lw_s (lw_s (lw_s (lw_s (lw_s (lw_s (lw_s (lw_n (lw_n (lw_n lw_0)))))))))))) h)
        · skip
          refine x_bipush C (pc := 92) dX0_go_92 kc_b_11 ?_
          refine x_iload C (pc := 94) dX0_go_94 rfl ?_
          refine x_isub C (pc := 96) dX0_go_96 ?_
          exact Xo.done (fun h => Yx.weak (lw_s (lw_s (lw_s (lw_s (lw_s (lw_s (lw_s (lw_s (lw_s (lw_n (lw_n (lw_n lw_0)))))))))))) h)
      refine x_istore C (pc := 97) (L' := fun i20 => [some (.ref t), some (.ref a), some (.int b), some (.int c), some (.int d), some (.int i1), some (.int e12), some (.int n16), some (.int n17), some (.int i20), none, none]) dX0_go_97 (by decide) (fun _ => rfl) (fun i20 => ?_)
      refine x_aload_n C (pc := 99) dX0_go_99 rfl ?_
      refine x_getR C (pc := 100) fg_X0_9 dX0_go_100 ht ?_
      refine x_iload C (pc := 103) dX0_go_103 rfl ?_
      refine x_iload C (pc := 105) dX0_go_105 rfl ?_
      refine x_iastn C (pc := 107) dX0_go_107 (lkd_0_0 ht) (fun s21 => ?_)
      refine x_iload C (pc := 108) dX0_go_108 rfl ?_
      refine x_iload C (pc := 110) dX0_go_110 rfl ?_
      refine x_ishr C (pc := 112) dX0_go_112 ?_
      refine x_iconst C (pc := 113) dX0_go_113 kc_i_1 ?_
      refine x_iand C (pc := 114) dX0_go_114 ?_
      refine x_iconst C (pc := 115) dX0_go_115 kc_i_1 ?_
      refine xb_1 (Z1 := fun j22 => Yx o 125 [some (.ref t), some (.ref a), some (.int b), some (.int c), some (.int d), some (.int i1), some (.int e12), some (.int n16), some (.int n17), some (.int i20), none, none] [.int j22] s21) ?_ (fun j22 => ?_)
      · skip
        refine x_icmp_ne C (pc := 116) (tgt := 124) dX0_go_116 (by decide) (fun _ => ?_) (fun _ => ?_)
        · skip
          refine x_iload C (pc := 119) dX0_go_119 rfl ?_
          refine x_goto C (pc := 121) (tgt := 125) dX0_go_121 (by decide) ?_
          exact Xo.done (fun h => Yx.weak (lw_s (lw_s (lw_s (lw_s (lw_s (lw_s (lw_s (lw_s (lw_s (lw_s (lw_n (lw_n lw_0)))))))))))) h)
        · skip
          refine x_iconst C (pc := 124) dX0_go_124 kc_i_0 ?_
          exact Xo.done (fun h => Yx.weak (lw_s (lw_s (lw_s (lw_s (lw_s (lw_s (lw_s (lw_s (lw_s (lw_s (lw_n (lw_n lw_0)))))))))))) h)
      refine x_istore C (pc := 125) (L' := fun i23 => [some (.ref t), some (.ref a), some (.int b), some (.int c), some (.int d), some (.int i1), some (.int e12), some (.int n16), some (.int n17), some (.int i20), some (.int i23), none]) dX0_go_125 (by decide) (fun _ => rfl) (fun i23 => ?_)
      refine x_iconst C (pc := 127) dX0_go_127 kc_i_0 ?_
      refine x_istore C (pc := 128) (L' := fun i24 => [some (.ref t), some (.ref a), some (.int b), some (.int c), some (.int d), some (.int i1), some (.int e12), some (.int n16), some (.int n17), some (.int i20), some (.int i23), some (.int i24)]) dX0_go_128 (by decide) (fun _ => rfl) (fun i24 => ?_)
      refine xb_2 (Z1 := (fun e37 s38 => Yx o 203 [some (.ref t), some (.ref a), some (.int b), some (.int c), some (.int d), some (.int i1), some (.int e12), some (.int e37), some (.int n17), some (.int i20), none, none] [] s38)) ?_ (fun e37 s38 => ?_)
      · refine Xo.mono (Yx.weak (lw_s (lw_s (lw_s (lw_s (lw_s (lw_s (lw_s (lw_s (lw_s (lw_s (lw_s (lw_s lw_0))))))))))))) (x_lp3 (fr := fun n25 n26 s27 => Yx o 130 [some (.ref t), some (.ref a), some (.int b), some (.int c), some (.int d), some (.int i1), some (.int e12), some (.int n25), some (.int n17), some (.int i20), some (.int i23), some (.int n26)] [] s27) _ _ _ (fun n25 n26 s27 => ?_))
        refine x_iload C (pc := 130) dX0_go_130 rfl ?_
        refine x_iload C (pc := 132) dX0_go_132 rfl ?_
        refine x_icmp_ge C (pc := 134) (tgt := 203) dX0_go_134 (by decide) (fun _ => ?_) (fun _ => ?_)
        · skip
          exact Xo.done (fun h => Yx.weak (lw_s (lw_s (lw_s (lw_s (lw_s (lw_s (lw_s (lw_s (lw_s (lw_s (lw_n (lw_n lw_0)))))))))))) h)
        · skip
          refine x_iload_n C (pc := 137) dX0_go_137 rfl ?_
          refine x_iload C (pc := 138) dX0_go_138 rfl ?_
          refine x_ishr C (pc := 140) dX0_go_140 ?_
          refine x_iconst C (pc := 141) dX0_go_141 kc_i_1 ?_
          refine x_iand C (pc := 142) dX0_go_142 ?_
          refine x_iconst C (pc := 143) dX0_go_143 kc_i_1 ?_
          refine xb_2 (Z1 := fun j34 s35 => Yx o 197 [some (.ref t), some (.ref a), some (.int b), some (.int c), some (.int d), some (.int i1), some (.int e12), some (.int j34), some (.int n17), some (.int i20), some (.int i23), some (.int n26)] [] s35) ?_ (fun j34 s35 => ?_)
          · skip
            refine x_icmp_ne C (pc := 144) (tgt := 197) dX0_go_144 (by decide) (fun _ => ?_) (fun _ => ?_)
            · skip
              refine x_aload_n C (pc := 147) dX0_go_147 rfl ?_
              refine x_iload C (pc := 148) dX0_go_148 rfl ?_
              refine x_iconst C (pc := 150) dX0_go_150 kc_i_1 ?_
              refine x_callVi C (pc := 151) mv_X0_52 ha rfl [.int n26, .int (nI 1)] (fun _ hr => ct_X9_at _ ha _ _ _ _ hr) ⟨Nat.le_of_ble_eq_true rfl, Nat.le_of_ble_eq_true rfl⟩ rfl (Nat.le_of_ble_eq_true rfl) rfl dX0_go_151 (fun r28 => ?_)
              refine x_iload C (pc := 154) dX0_go_154 rfl ?_
              refine x_icmp_ne C (pc := 156) (tgt := 197) dX0_go_156 (by decide) (fun _ => ?_) (fun _ => ?_)
              · skip
                refine x_aload_n C (pc := 159) dX0_go_159 rfl ?_
                refine x_getR C (pc := 160) fg_X0_18 dX0_go_160 ht ?_
                refine x_iload C (pc := 163) dX0_go_163 rfl ?_
                refine x_aload_n C (pc := 165) dX0_go_165 rfl ?_
                refine x_iload C (pc := 166) dX0_go_166 rfl ?_
                refine x_iconst C (pc := 168) dX0_go_168 kc_i_0 ?_
                refine x_callVi C (pc := 169) mv_X0_52 ha rfl [.int n26, .int (nI 0)] (fun _ hr => ct_X9_at _ ha _ _ _ _ hr) ⟨Nat.le_of_ble_eq_true rfl, Nat.le_of_ble_eq_true rfl⟩ rfl (Nat.le_of_ble_eq_true rfl) rfl dX0_go_169 (fun r29 => ?_)
                refine x_aload_n C (pc := 172) dX0_go_172 rfl ?_
                refine x_iload C (pc := 173) dX0_go_173 rfl ?_
                refine x_iconst C (pc := 175) dX0_go_175 kc_i_2 ?_
                refine x_callVi C (pc := 176) mv_X0_52 ha rfl [.int n26, .int (nI 2)] (fun _ hr => ct_X9_at _ ha _ _ _ _ hr) ⟨Nat.le_of_ble_eq_true rfl, Nat.le_of_ble_eq_true rfl⟩ rfl (Nat.le_of_ble_eq_true rfl) rfl dX0_go_176 (fun r30 => ?_)
                refine x_iload C (pc := 179) dX0_go_179 rfl ?_
                refine x_callSi C (pc := 181) ms_X0_55 [.int r29, .int r30, .int n25] (fun _ hr => ct_X5_takenOf _ _ _ _ _ hr) ⟨Nat.le_of_ble_eq_true rfl, Nat.le_of_ble_eq_true rfl⟩ rfl (Nat.le_of_ble_eq_true rfl) rfl dX0_go_181 (fun r31 => ?_)
                refine x_iastn C (pc := 184) dX0_go_184 (lkd_0_2 ht) (fun s32 => ?_)
                refine x_iload C (pc := 185) dX0_go_185 rfl ?_
                refine x_aload_n C (pc := 187) dX0_go_187 rfl ?_
                refine x_getR C (pc := 188) fg_X0_18 dX0_go_188 ht ?_
                refine x_iload C (pc := 191) dX0_go_191 rfl ?_
                refine x_iald C (pc := 193) dX0_go_193 (lkd_0_2 ht) (fun _ => ?_)
                refine x_isub C (pc := 194) dX0_go_194 ?_
                refine x_istore C (pc := 195) (L' := fun i33 => [some (.ref t), some (.ref a), some (.int b), some (.int c), some (.int d), some (.int i1), some (.int e12), some (.int i33), some (.int n17), some (.int i20), some (.int i23), some (.int n26)]) dX0_go_195 (by decide) (fun _ => rfl) (fun i33 => ?_)
                exact Xo.done (fun h => Yx.weak (lw_s (lw_s (lw_s (lw_s (lw_s (lw_s (lw_s (lw_s (lw_s (lw_s (lw_s (lw_s lw_0)))))))))))) h)
              · skip
                exact Xo.done (fun h => Yx.weak (lw_s (lw_s (lw_s (lw_s (lw_s (lw_s (lw_s (lw_s (lw_s (lw_s (lw_s (lw_s lw_0)))))))))))) h)
            · skip
              exact Xo.done (fun h => Yx.weak (lw_s (lw_s (lw_s (lw_s (lw_s (lw_s (lw_s (lw_s (lw_s (lw_s (lw_s (lw_s lw_0)))))))))))) h)
          refine x_iinc C (pc := 197) (L' := fun i36 => [some (.ref t), some (.ref a), some (.int b), some (.int c), some (.int d), some (.int i1), some (.int e12), some (.int j34), some (.int n17), some (.int i20), some (.int i23), some (.int i36)]) dX0_go_197 rfl kc_i_1 (by decide) (fun _ => rfl) (fun i36 => ?_)
          refine x_goto C (pc := 200) (tgt := 130) dX0_go_200 (by decide) ?_
          exact Xo.done (fun h => Yx.weak (lw_s (lw_s (lw_s (lw_s (lw_s (lw_s (lw_s (lw_s (lw_s (lw_s (lw_s (lw_s lw_0)))))))))))) h)
      refine x_aload_n C (pc := 203) dX0_go_203 rfl ?_
      refine x_getR C (pc := 204) fg_X0_15 dX0_go_204 ht ?_
      refine x_iload C (pc := 207) dX0_go_207 rfl ?_
      refine x_iload C (pc := 209) dX0_go_209 rfl ?_
      refine x_iastn C (pc := 211) dX0_go_211 (lkd_0_1 ht) (fun s39 => ?_)
      refine x_iload C (pc := 212) dX0_go_212 rfl ?_
      refine x_iconst C (pc := 214) dX0_go_214 kc_i_1 ?_
      refine x_iadd C (pc := 215) dX0_go_215 ?_
      refine x_iload_n C (pc := 216) dX0_go_216 rfl ?_
      refine x_mmin C (pc := 217) ml_X0_49 tw_mns tw_mai tw_mnc ⟨Nat.le_of_ble_eq_true rfl, Nat.le_of_ble_eq_true rfl⟩ dX0_go_217 ?_
      refine x_istore C (pc := 220) (L' := fun i40 => [some (.ref t), some (.ref a), some (.int b), some (.int c), some (.int d), some (.int i1), some (.int e12), some (.int i40), some (.int n17), some (.int i20), none, none]) dX0_go_220 (by decide) (fun _ => rfl) (fun i40 => ?_)
      refine x_iinc C (pc := 222) (L' := fun i41 => [some (.ref t), some (.ref a), some (.int b), some (.int c), some (.int d), some (.int i1), some (.int e12), some (.int i40), some (.int i41), some (.int i20), none, none]) dX0_go_222 rfl kc_i_1 (by decide) (fun _ => rfl) (fun i41 => ?_)
      refine x_goto C (pc := 225) (tgt := 75) dX0_go_225 (by decide) ?_
      exact Xo.done (fun h => Yx.weak (lw_s (lw_s (lw_s (lw_s (lw_s (lw_s (lw_s (lw_s (lw_s (lw_n (lw_n (lw_n lw_0)))))))))))) h)
  exact x_vret dX0_go_228 (fun h => h)
theorem ct_X0_go (t : Nat) (ht : kd t = 0) (a : Nat) (ha : kd a = 7) (b : Int32) (c : Int32) (d : Int32) (s0 : SS) (r : SS) (h : FX0_go t a b c d s0 = some r) : CT 0 yX0_go cX0_go 12 none 2 46 [.ref t, .ref a, .int b, .int c, .int d] s0 none r :=
  ct_of (by decide +kernel) (Or.inl ⟨rfl, rfl⟩) (lx_args [.ref t, .ref a, .int b, .int c, .int d]) (lx_entry [.ref t, .ref a, .int b, .int c, .int d] (fun _ => Nat.le_of_ble_eq_true rfl)) (fun o C hR => Yx.weak (lw_s (lw_s (lw_s (lw_s (lw_s (lw_z (lw_z (lw_z (lw_z (lw_z (lw_z (lw_z lw_0)))))))))))) (bd_X0_go C t ht a ha b c d s0 r h hR))
def FX0_goInHour (t : Nat) (a : Nat) (b : Int32) (c : Int32) (s0 : SS) : Option (SS) :=
  bd (FJ9_floorMod_7cf53 b (nI 8) s0) (fun (r1 : Int32) => nm r1 (fun (i2 : Int32) => gd (inb i2 (ln (lk a 0))) (gd (inb i2 (ln (lk a 1))) (bd (FX0_go t (lk a 2) c (gI s0 (lk a 0) (Int32.toNatClampNeg i2)) (gI s0 (lk a 1) (Int32.toNatClampNeg i2)) s0) (fun (s3 : SS) => some (s3))))))
set_option maxRecDepth 100000 in
set_option maxHeartbeats 4000000 in
theorem bd_X0_goInHour {o : Om} (C : Cx o RX0 cX0_goInHour 5 none (rmx 3 77) 0) (t : Nat) (ht : kd t = 0) (a : Nat) (ha : kd a = 4) (b : Int32) (c : Int32) (s0 : SS) : Xo (FX0_goInHour t a b c s0) (fun r => RT o cX0_goInHour none r) (Yx o 0 [some (.ref t), some (.ref a), some (.int b), some (.int c), none] [] s0) := by
  unfold FX0_goInHour
  refine x_iload_n C (pc := 0) dX0_goInHour_0 rfl ?_
  refine x_bipush C (pc := 1) dX0_goInHour_1 kc_b_8 ?_
  refine x_callSi C (pc := 3) ms_X0_21 [.int b, .int (nI 8)] (fun _ hr => ct_J9_floorMod_7cf53 _ _ _ _ hr) ⟨Nat.le_of_ble_eq_true rfl, Nat.le_of_ble_eq_true rfl⟩ rfl (Nat.le_of_ble_eq_true rfl) rfl dX0_goInHour_3 (fun r1 => ?_)
  refine x_istore C (pc := 6) (L' := fun i2 => [some (.ref t), some (.ref a), some (.int b), some (.int c), some (.int i2)]) dX0_goInHour_6 (by decide) (fun _ => rfl) (fun i2 => ?_)
  refine x_aload_n C (pc := 8) dX0_goInHour_8 rfl ?_
  refine x_aload_n C (pc := 9) dX0_goInHour_9 rfl ?_
  refine x_getR C (pc := 10) fg_X0_27 dX0_goInHour_10 ha ?_
  refine x_iload_n C (pc := 13) dX0_goInHour_13 rfl ?_
  refine x_aload_n C (pc := 14) dX0_goInHour_14 rfl ?_
  refine x_getR C (pc := 15) fg_X0_33 dX0_goInHour_15 ha ?_
  refine x_iload C (pc := 18) dX0_goInHour_18 rfl ?_
  refine x_iald C (pc := 20) dX0_goInHour_20 (lkd_4_0 ha) (fun _ => ?_)
  refine x_aload_n C (pc := 21) dX0_goInHour_21 rfl ?_
  refine x_getR C (pc := 22) fg_X0_36 dX0_goInHour_22 ha ?_
  refine x_iload C (pc := 25) dX0_goInHour_25 rfl ?_
  refine x_iald C (pc := 27) dX0_goInHour_27 (lkd_4_1 ha) (fun _ => ?_)
  refine x_callVv C (pc := 28) mv_X0_39 ht rfl [.ref (lk a 2), .int c, .int (gI s0 (lk a 0) (Int32.toNatClampNeg i2)), .int (gI s0 (lk a 1) (Int32.toNatClampNeg i2))] (fun _ hr => ct_X0_go _ ht _ (lkd_4_2 ha) _ _ _ _ _ hr) ⟨Nat.le_of_ble_eq_true rfl, Nat.le_of_ble_eq_true rfl⟩ rfl (Nat.le_of_ble_eq_true rfl) rfl dX0_goInHour_28 (fun s3 => ?_)
  exact x_vret dX0_goInHour_31 (fun h => h)
theorem ct_X0_goInHour (t : Nat) (ht : kd t = 0) (a : Nat) (ha : kd a = 4) (b : Int32) (c : Int32) (s0 : SS) (r : SS) (h : FX0_goInHour t a b c s0 = some r) : CT 0 yX0_goInHour cX0_goInHour 5 none 3 77 [.ref t, .ref a, .int b, .int c] s0 none r :=
  ct_of (by decide +kernel) (Or.inl ⟨rfl, rfl⟩) (lx_args [.ref t, .ref a, .int b, .int c]) (lx_entry [.ref t, .ref a, .int b, .int c] (fun _ => Nat.le_of_ble_eq_true rfl)) (fun o C hR => Yx.weak (lw_s (lw_s (lw_s (lw_s (lw_z lw_0))))) (bd_X0_goInHour C t ht a ha b c s0 r h hR))
def FX11_within (a : Int32) (b : Int32) (c : Int32) (s0 : SS) : Option (Int32) :=
  if a < b then some ((nI 0)) else (if c < a then some ((nI 0)) else (some ((nI 1))))
set_option maxRecDepth 100000 in
set_option maxHeartbeats 4000000 in
theorem bd_X11_within {o : Om} (C : Cx o RX11 cX11_within 3 (some .boolean) (rmx 0 0) 0) (a : Int32) (b : Int32) (c : Int32) (s0 : SS) : Xo (FX11_within a b c s0) (fun r => zb r = true → RT o cX11_within (some (.int r)) s0) (Yx o 0 [some (.int a), some (.int b), some (.int c)] [] s0) := by
  unfold FX11_within
  refine x_iload_n C (pc := 0) dX11_within_0 rfl ?_
  refine x_iload_n C (pc := 1) dX11_within_1 rfl ?_
  refine x_icmp_lt C (pc := 2) (tgt := 14) dX11_within_2 (by decide) (fun _ => ?_) (fun _ => ?_)
  · skip
    refine x_iconst C (pc := 14) dX11_within_14 kc_i_0 ?_
    exact x_ret dX11_within_15 (fun h => h zb_0)
  · skip
    refine x_iload_n C (pc := 5) dX11_within_5 rfl ?_
    refine x_iload_n C (pc := 6) dX11_within_6 rfl ?_
    refine x_icmp_gt C (pc := 7) (tgt := 14) dX11_within_7 (by decide) (fun _ => ?_) (fun _ => ?_)
    · skip
      refine x_iconst C (pc := 14) dX11_within_14 kc_i_0 ?_
      exact x_ret dX11_within_15 (fun h => h zb_0)
    · skip
      refine x_iconst C (pc := 10) dX11_within_10 kc_i_1 ?_
      refine x_goto C (pc := 11) (tgt := 15) dX11_within_11 (by decide) ?_
      exact x_ret dX11_within_15 (fun h => h zb_1)
theorem ct_X11_within (a : Int32) (b : Int32) (c : Int32) (s0 : SS) (r : Int32) (h : FX11_within a b c s0 = some r) : CT 0 yX11_within cX11_within 3 (some .boolean) 0 0 [.int a, .int b, .int c] s0 (some (.int r)) s0 :=
  ct_ofz (by decide +kernel) rfl (lx_args [.int a, .int b, .int c]) (lx_entry [.int a, .int b, .int c] (fun _ => Nat.le_of_ble_eq_true rfl)) (fun o C hR => Yx.weak (lw_s (lw_s (lw_s lw_0))) (bd_X11_within C a b c s0 r h hR))
def FX0_takenBy (t : Nat) (a : Int32) (s0 : SS) : Option (Int32) :=
  bd (FX11_within a (nI 0) (nI 6) s0) (fun (r1 : Int32) => if r1 = 0 then some ((nI 0)) else (gd (inb a (ln (lk t 2))) (some ((gI s0 (lk t 2) (Int32.toNatClampNeg a))))))
set_option maxRecDepth 100000 in
set_option maxHeartbeats 4000000 in
theorem bd_X0_takenBy {o : Om} (C : Cx o RX0 cX0_takenBy 2 (some .int) (rmx 1 22) 0) (t : Nat) (ht : kd t = 0) (a : Int32) (s0 : SS) : Xo (FX0_takenBy t a s0) (fun r => RT o cX0_takenBy (some (.int r)) s0) (Yx o 0 [some (.ref t), some (.int a)] [] s0) := by
  unfold FX0_takenBy
  refine x_iload_n C (pc := 0) dX0_takenBy_0 rfl ?_
  refine x_iconst C (pc := 1) dX0_takenBy_1 kc_i_0 ?_
  refine x_bipush C (pc := 2) dX0_takenBy_2 kc_b_6 ?_
  refine x_callNi C (pc := 4) mn_X0_61 [.int a, .int (nI 0), .int (nI 6)] (fun _ hr => ct_X11_within _ _ _ _ _ hr) ⟨Nat.le_of_ble_eq_true rfl, Nat.le_of_ble_eq_true rfl⟩ rfl (Nat.le_of_ble_eq_true rfl) rfl dX0_takenBy_4 (fun r1 => ?_)
  refine x_if_eq C (pc := 7) (tgt := 19) dX0_takenBy_7 (by decide) (fun _ => ?_) (fun _ => ?_)
  · skip
    refine x_iconst C (pc := 19) dX0_takenBy_19 kc_i_0 ?_
    exact x_ret dX0_takenBy_20 (fun h => h)
  · skip
    refine x_aload_n C (pc := 10) dX0_takenBy_10 rfl ?_
    refine x_getR C (pc := 11) fg_X0_18 dX0_takenBy_11 ht ?_
    refine x_iload_n C (pc := 14) dX0_takenBy_14 rfl ?_
    refine x_iald C (pc := 15) dX0_takenBy_15 (lkd_0_2 ht) (fun _ => ?_)
    refine x_goto C (pc := 16) (tgt := 20) dX0_takenBy_16 (by decide) ?_
    exact x_ret dX0_takenBy_20 (fun h => h)
theorem ct_X0_takenBy (t : Nat) (ht : kd t = 0) (a : Int32) (s0 : SS) (r : Int32) (h : FX0_takenBy t a s0 = some r) : CT 0 yX0_takenBy cX0_takenBy 2 (some .int) 1 22 [.ref t, .int a] s0 (some (.int r)) s0 :=
  ct_of (by decide +kernel) (Or.inr (Or.inl ⟨_, rfl, _, rfl, rfl⟩)) (lx_args [.ref t, .int a]) (lx_entry [.ref t, .int a] (fun _ => Nat.le_of_ble_eq_true rfl)) (fun o C hR => Yx.weak (lw_s (lw_s lw_0)) (bd_X0_takenBy C t ht a s0 r h hR))
def FX5_rentOf (a : Int32) (b : Int32) (s0 : SS) : Option (Int32) :=
  nm ((nI 3) * b) (fun (i1 : Int32) => bd (if b < (nI 1) then some (i1) else (some ((i1 + (nI 1))))) (fun (j2 : Int32) => nm j2 (fun (i3 : Int32) => if a = (nI 0) then some (i1) else (if a = (nI 1) then some (i1) else (if a = (nI 2) then some (i3) else (if a = (nI 3) then some ((nI 0)) else (if a = (nI 4) then some (((nI 2) * i1)) else (if a = (nI 5) then some (i3) else (some ((nI 0)))))))))))
set_option maxRecDepth 100000 in
set_option maxHeartbeats 4000000 in
theorem bd_X5_rentOf {o : Om} (C : Cx o RX5 cX5_rentOf 4 (some .int) (rmx 0 0) 0) (a : Int32) (b : Int32) (s0 : SS) : Xo (FX5_rentOf a b s0) (fun r => RT o cX5_rentOf (some (.int r)) s0) (Yx o 0 [some (.int a), some (.int b), none, none] [] s0) := by
  unfold FX5_rentOf
  refine x_iconst C (pc := 0) dX5_rentOf_0 kc_i_3 ?_
  refine x_iload_n C (pc := 1) dX5_rentOf_1 rfl ?_
  refine x_imul C (pc := 2) dX5_rentOf_2 ?_
  refine x_istore_n C (pc := 3) (L' := fun i1 => [some (.int a), some (.int b), some (.int i1), none]) dX5_rentOf_3 (by decide) (fun _ => rfl) (fun i1 => ?_)
  refine x_iload_n C (pc := 4) dX5_rentOf_4 rfl ?_
  refine x_iconst C (pc := 5) dX5_rentOf_5 kc_i_1 ?_
  refine xb_1 (Z1 := fun j2 => Yx o 16 [some (.int a), none, some (.int i1), none] [.int j2] s0) ?_ (fun j2 => ?_)
  · skip
    refine x_icmp_lt C (pc := 6) (tgt := 15) dX5_rentOf_6 (by decide) (fun _ => ?_) (fun _ => ?_)
    · skip
      refine x_iload_n C (pc := 15) dX5_rentOf_15 rfl ?_
      exact Xo.done (fun h => Yx.weak (lw_s (lw_n (lw_s (lw_n lw_0)))) h)
    · skip
      refine x_iload_n C (pc := 9) dX5_rentOf_9 rfl ?_
      refine x_iconst C (pc := 10) dX5_rentOf_10 kc_i_1 ?_
      refine x_iadd C (pc := 11) dX5_rentOf_11 ?_
      refine x_goto C (pc := 12) (tgt := 16) dX5_rentOf_12 (by decide) ?_
      exact Xo.done (fun h => Yx.weak (lw_s (lw_n (lw_s (lw_n lw_0)))) h)
  refine x_istore_n C (pc := 16) (L' := fun i3 => [some (.int a), none, some (.int i1), some (.int i3)]) dX5_rentOf_16 (by decide) (fun _ => rfl) (fun i3 => ?_)
  refine x_iload_n C (pc := 17) dX5_rentOf_17 rfl ?_
  refine Xo.ite (fun hq4 => ?_) (fun hq4 => ?_)
  · refine x_tabI C (pc := 18) (tgt := 56) (off := 38) dX5_rentOf_18 hq4 (by decide +kernel) (by decide +kernel) (by decide +kernel) (by decide) ?_
    refine x_iload_n C (pc := 56) dX5_rentOf_56 rfl ?_
    exact x_ret dX5_rentOf_57 (fun h => h)
  refine Xo.ite (fun hq5 => ?_) (fun hq5 => ?_)
  · refine x_tabI C (pc := 18) (tgt := 58) (off := 40) dX5_rentOf_18 hq5 (by decide +kernel) (by decide +kernel) (by decide +kernel) (by decide) ?_
    refine x_iload_n C (pc := 58) dX5_rentOf_58 rfl ?_
    exact x_ret dX5_rentOf_59 (fun h => h)
  refine Xo.ite (fun hq6 => ?_) (fun hq6 => ?_)
  · refine x_tabI C (pc := 18) (tgt := 60) (off := 42) dX5_rentOf_18 hq6 (by decide +kernel) (by decide +kernel) (by decide +kernel) (by decide) ?_
    refine x_iload_n C (pc := 60) dX5_rentOf_60 rfl ?_
    exact x_ret dX5_rentOf_61 (fun h => h)
  refine Xo.ite (fun hq7 => ?_) (fun hq7 => ?_)
  · refine x_tabI C (pc := 18) (tgt := 62) (off := 44) dX5_rentOf_18 hq7 (by decide +kernel) (by decide +kernel) (by decide +kernel) (by decide) ?_
    refine x_iconst C (pc := 62) dX5_rentOf_62 kc_i_0 ?_
    exact x_ret dX5_rentOf_63 (fun h => h)
  refine Xo.ite (fun hq8 => ?_) (fun hq8 => ?_)
  · refine x_tabI C (pc := 18) (tgt := 64) (off := 46) dX5_rentOf_18 hq8 (by decide +kernel) (by decide +kernel) (by decide +kernel) (by decide) ?_
    refine x_iconst C (pc := 64) dX5_rentOf_64 kc_i_2 ?_
    refine x_iload_n C (pc := 65) dX5_rentOf_65 rfl ?_
    refine x_imul C (pc := 66) dX5_rentOf_66 ?_
    exact x_ret dX5_rentOf_67 (fun h => h)
  refine Xo.ite (fun hq9 => ?_) (fun hq9 => ?_)
  · refine x_tabI C (pc := 18) (tgt := 68) (off := 50) dX5_rentOf_18 hq9 (by decide +kernel) (by decide +kernel) (by decide +kernel) (by decide) ?_
    refine x_iload_n C (pc := 68) dX5_rentOf_68 rfl ?_
    exact x_ret dX5_rentOf_69 (fun h => h)
  have hT := tab_out (x := a) (lo := 0) (hi := 5) 6 (fun j hj => by
    rcases j with _ | j
    · exact lv_neT hq4 (by decide +kernel)
    rcases j with _ | j
    · exact lv_neT hq5 (by decide +kernel)
    rcases j with _ | j
    · exact lv_neT hq6 (by decide +kernel)
    rcases j with _ | j
    · exact lv_neT hq7 (by decide +kernel)
    rcases j with _ | j
    · exact lv_neT hq8 (by decide +kernel)
    rcases j with _ | j
    · exact lv_neT hq9 (by decide +kernel)
    exact absurd hj (by omega)) (by decide)
  refine x_tabO C (pc := 18) (tgt := 70) dX5_rentOf_18 hT (by decide) ?_
  refine x_iconst C (pc := 70) dX5_rentOf_70 kc_i_0 ?_
  exact x_ret dX5_rentOf_71 (fun h => h)
theorem ct_X5_rentOf (a : Int32) (b : Int32) (s0 : SS) (r : Int32) (h : FX5_rentOf a b s0 = some r) : CT 0 yX5_rentOf cX5_rentOf 4 (some .int) 0 0 [.int a, .int b] s0 (some (.int r)) s0 :=
  ct_of (by decide +kernel) (Or.inr (Or.inl ⟨_, rfl, _, rfl, rfl⟩)) (lx_args [.int a, .int b]) (lx_entry [.int a, .int b] (fun _ => Nat.le_of_ble_eq_true rfl)) (fun o C hR => Yx.weak (lw_s (lw_s (lw_z (lw_z lw_0)))) (bd_X5_rentOf C a b s0 r h hR))
def FX0_rentOf (t : Nat) (a : Nat) (b : Int32) (s0 : SS) : Option (Int32) :=
  bd (FX9_at a b (nI 0) s0) (fun (r1 : Int32) => bd (FX0_takenBy t b s0) (fun (r2 : Int32) => bd (FX5_rentOf r1 r2 s0) (fun (r3 : Int32) => some (r3))))
set_option maxRecDepth 100000 in
set_option maxHeartbeats 4000000 in
theorem bd_X0_rentOf {o : Om} (C : Cx o RX0 cX0_rentOf 3 (some .int) (rmx 2 43) 0) (t : Nat) (ht : kd t = 0) (a : Nat) (ha : kd a = 7) (b : Int32) (s0 : SS) : Xo (FX0_rentOf t a b s0) (fun r => RT o cX0_rentOf (some (.int r)) s0) (Yx o 0 [some (.ref t), some (.ref a), some (.int b)] [] s0) := by
  unfold FX0_rentOf
  refine x_aload_n C (pc := 0) dX0_rentOf_0 rfl ?_
  refine x_iload_n C (pc := 1) dX0_rentOf_1 rfl ?_
  refine x_iconst C (pc := 2) dX0_rentOf_2 kc_i_0 ?_
  refine x_callVi C (pc := 3) mv_X0_52 ha rfl [.int b, .int (nI 0)] (fun _ hr => ct_X9_at _ ha _ _ _ _ hr) ⟨Nat.le_of_ble_eq_true rfl, Nat.le_of_ble_eq_true rfl⟩ rfl (Nat.le_of_ble_eq_true rfl) rfl dX0_rentOf_3 (fun r1 => ?_)
  refine x_aload_n C (pc := 6) dX0_rentOf_6 rfl ?_
  refine x_iload_n C (pc := 7) dX0_rentOf_7 rfl ?_
  refine x_callVi C (pc := 8) mv_X0_69 ht rfl [.int b] (fun _ hr => ct_X0_takenBy _ ht _ _ _ hr) ⟨Nat.le_of_ble_eq_true rfl, Nat.le_of_ble_eq_true rfl⟩ rfl (Nat.le_of_ble_eq_true rfl) rfl dX0_rentOf_8 (fun r2 => ?_)
  refine x_callSi C (pc := 11) ms_X0_73 [.int r1, .int r2] (fun _ hr => ct_X5_rentOf _ _ _ _ hr) ⟨Nat.le_of_ble_eq_true rfl, Nat.le_of_ble_eq_true rfl⟩ rfl (Nat.le_of_ble_eq_true rfl) rfl dX0_rentOf_11 (fun r3 => ?_)
  exact x_ret dX0_rentOf_14 (fun h => h)
theorem ct_X0_rentOf (t : Nat) (ht : kd t = 0) (a : Nat) (ha : kd a = 7) (b : Int32) (s0 : SS) (r : Int32) (h : FX0_rentOf t a b s0 = some r) : CT 0 yX0_rentOf cX0_rentOf 3 (some .int) 2 43 [.ref t, .ref a, .int b] s0 (some (.int r)) s0 :=
  ct_of (by decide +kernel) (Or.inr (Or.inl ⟨_, rfl, _, rfl, rfl⟩)) (lx_args [.ref t, .ref a, .int b]) (lx_entry [.ref t, .ref a, .int b] (fun _ => Nat.le_of_ble_eq_true rfl)) (fun o C hR => Yx.weak (lw_s (lw_s (lw_s lw_0))) (bd_X0_rentOf C t ht a ha b s0 r h hR))
def FX0_takenByFirst (t : Nat) (a : Int32) (s0 : SS) : Option (Int32) :=
  nm (nI 0) (fun (i1 : Int32) => nm (nI 0) (fun (i2 : Int32) => bd (lp FUEL (u2 (fun (n3 : Int32) (n4 : Int32) => if a ≤ n4 then some (Sum.inr n3) else (bd (FX0_takenBy t n4 s0) (fun (r5 : Int32) => nm (n3 + r5) (fun (i6 : Int32) => nm (n4 + (nI 1)) (fun (i7 : Int32) => some (Sum.inl (i6, i7)))))))) (i1, i2)) (fun (e8 : Int32) => some (e8))))
set_option maxRecDepth 100000 in
set_option maxHeartbeats 4000000 in
theorem bd_X0_takenByFirst {o : Om} (C : Cx o RX0 cX0_takenByFirst 4 (some .int) (rmx 2 43) 0) (t : Nat) (ht : kd t = 0) (a : Int32) (s0 : SS) : Xo (FX0_takenByFirst t a s0) (fun r => RT o cX0_takenByFirst (some (.int r)) s0) (Yx o 0 [some (.ref t), some (.int a), none, none] [] s0) := by
  unfold FX0_takenByFirst
  refine x_iconst C (pc := 0) dX0_takenByFirst_0 kc_i_0 ?_
  refine x_istore_n C (pc := 1) (L' := fun i1 => [some (.ref t), some (.int a), some (.int i1), none]) dX0_takenByFirst_1 (by decide) (fun _ => rfl) (fun i1 => ?_)
  refine x_iconst C (pc := 2) dX0_takenByFirst_2 kc_i_0 ?_
  refine x_istore_n C (pc := 3) (L' := fun i2 => [some (.ref t), some (.int a), some (.int i1), some (.int i2)]) dX0_takenByFirst_3 (by decide) (fun _ => rfl) (fun i2 => ?_)
  refine xb_1 (Z1 := (fun e8 => Yx o 23 [none, none, some (.int e8), none] [] s0)) ?_ (fun e8 => ?_)
  · refine Xo.mono (Yx.weak (lw_s (lw_s (lw_s (lw_s lw_0))))) (x_lp2 (fr := fun n3 n4 => Yx o 4 [some (.ref t), some (.int a), some (.int n3), some (.int n4)] [] s0) _ _ (fun n3 n4 => ?_))
    refine x_iload_n C (pc := 4) dX0_takenByFirst_4 rfl ?_
    refine x_iload_n C (pc := 5) dX0_takenByFirst_5 rfl ?_
    refine x_icmp_ge C (pc := 6) (tgt := 23) dX0_takenByFirst_6 (by decide) (fun _ => ?_) (fun _ => ?_)
    · skip
      exact Xo.done (fun h => Yx.weak (lw_n (lw_n (lw_s (lw_n lw_0)))) h)
    · skip
      refine x_iload_n C (pc := 9) dX0_takenByFirst_9 rfl ?_
      refine x_aload_n C (pc := 10) dX0_takenByFirst_10 rfl ?_
      refine x_iload_n C (pc := 11) dX0_takenByFirst_11 rfl ?_
      refine x_callVi C (pc := 12) mv_X0_69 ht rfl [.int n4] (fun _ hr => ct_X0_takenBy _ ht _ _ _ hr) ⟨Nat.le_of_ble_eq_true rfl, Nat.le_of_ble_eq_true rfl⟩ rfl (Nat.le_of_ble_eq_true rfl) rfl dX0_takenByFirst_12 (fun r5 => ?_)
      refine x_iadd C (pc := 15) dX0_takenByFirst_15 ?_
      refine x_istore_n C (pc := 16) (L' := fun i6 => [some (.ref t), some (.int a), some (.int i6), some (.int n4)]) dX0_takenByFirst_16 (by decide) (fun _ => rfl) (fun i6 => ?_)
      refine x_iinc C (pc := 17) (L' := fun i7 => [some (.ref t), some (.int a), some (.int i6), some (.int i7)]) dX0_takenByFirst_17 rfl kc_i_1 (by decide) (fun _ => rfl) (fun i7 => ?_)
      refine x_goto C (pc := 20) (tgt := 4) dX0_takenByFirst_20 (by decide) ?_
      exact Xo.done (fun h => Yx.weak (lw_s (lw_s (lw_s (lw_s lw_0)))) h)
  refine x_iload_n C (pc := 23) dX0_takenByFirst_23 rfl ?_
  exact x_ret dX0_takenByFirst_24 (fun h => h)
theorem ct_X0_takenByFirst (t : Nat) (ht : kd t = 0) (a : Int32) (s0 : SS) (r : Int32) (h : FX0_takenByFirst t a s0 = some r) : CT 0 yX0_takenByFirst cX0_takenByFirst 4 (some .int) 2 43 [.ref t, .int a] s0 (some (.int r)) s0 :=
  ct_of (by decide +kernel) (Or.inr (Or.inl ⟨_, rfl, _, rfl, rfl⟩)) (lx_args [.ref t, .int a]) (lx_entry [.ref t, .int a] (fun _ => Nat.le_of_ble_eq_true rfl)) (fun o C hR => Yx.weak (lw_s (lw_s (lw_z (lw_z lw_0)))) (bd_X0_takenByFirst C t ht a s0 r h hR))
def FX11_isCell (a : Int32) (s0 : SS) : Option (Int32) :=
  bd (FX11_within a (nI 0) (nI 11) s0) (fun (r1 : Int32) => gd (zb r1) (some (r1)))
set_option maxRecDepth 100000 in
set_option maxHeartbeats 4000000 in
theorem bd_X11_isCell {o : Om} (C : Cx o RX11 cX11_isCell 1 (some .boolean) (rmx 1 22) 0) (a : Int32) (s0 : SS) : Xo (FX11_isCell a s0) (fun r => zb r = true → RT o cX11_isCell (some (.int r)) s0) (Yx o 0 [some (.int a)] [] s0) := by
  unfold FX11_isCell
  refine x_iload_n C (pc := 0) dX11_isCell_0 rfl ?_
  refine x_iconst C (pc := 1) dX11_isCell_1 kc_i_0 ?_
  refine x_bipush C (pc := 2) dX11_isCell_2 kc_b_11 ?_
  refine x_callSi C (pc := 4) ms_X11_92 [.int a, .int (nI 0), .int (nI 11)] (fun _ hr => ct_X11_within _ _ _ _ _ hr) ⟨Nat.le_of_ble_eq_true rfl, Nat.le_of_ble_eq_true rfl⟩ rfl (Nat.le_of_ble_eq_true rfl) rfl dX11_isCell_4 (fun r1 => ?_)
  refine Xo.gd (fun hz => ?_)
  exact x_ret dX11_isCell_7 (fun h => h hz)
theorem ct_X11_isCell (a : Int32) (s0 : SS) (r : Int32) (h : FX11_isCell a s0 = some r) : CT 0 yX11_isCell cX11_isCell 1 (some .boolean) 1 22 [.int a] s0 (some (.int r)) s0 :=
  ct_ofz (by decide +kernel) rfl (lx_args [.int a]) (lx_entry [.int a] (fun _ => Nat.le_of_ble_eq_true rfl)) (fun o C hR => Yx.weak (lw_s lw_0) (bd_X11_isCell C a s0 r h hR))
def FX0_leftBehind (t : Nat) (a : Int32) (s0 : SS) : Option (Int32) :=
  bd (FX11_isCell a s0) (fun (r1 : Int32) => if r1 = 0 then some ((nI 0)) else (gd (inb a (ln (lk t 1))) (some ((gI s0 (lk t 1) (Int32.toNatClampNeg a))))))
set_option maxRecDepth 100000 in
set_option maxHeartbeats 4000000 in
theorem bd_X0_leftBehind {o : Om} (C : Cx o RX0 cX0_leftBehind 2 (some .int) (rmx 2 42) 0) (t : Nat) (ht : kd t = 0) (a : Int32) (s0 : SS) : Xo (FX0_leftBehind t a s0) (fun r => RT o cX0_leftBehind (some (.int r)) s0) (Yx o 0 [some (.ref t), some (.int a)] [] s0) := by
  unfold FX0_leftBehind
  refine x_iload_n C (pc := 0) dX0_leftBehind_0 rfl ?_
  refine x_callNi C (pc := 1) mn_X0_65 [.int a] (fun _ hr => ct_X11_isCell _ _ _ hr) ⟨Nat.le_of_ble_eq_true rfl, Nat.le_of_ble_eq_true rfl⟩ rfl (Nat.le_of_ble_eq_true rfl) rfl dX0_leftBehind_1 (fun r1 => ?_)
  refine x_if_eq C (pc := 4) (tgt := 16) dX0_leftBehind_4 (by decide) (fun _ => ?_) (fun _ => ?_)
  · skip
    refine x_iconst C (pc := 16) dX0_leftBehind_16 kc_i_0 ?_
    exact x_ret dX0_leftBehind_17 (fun h => h)
  · skip
    refine x_aload_n C (pc := 7) dX0_leftBehind_7 rfl ?_
    refine x_getR C (pc := 8) fg_X0_15 dX0_leftBehind_8 ht ?_
    refine x_iload_n C (pc := 11) dX0_leftBehind_11 rfl ?_
    refine x_iald C (pc := 12) dX0_leftBehind_12 (lkd_0_1 ht) (fun _ => ?_)
    refine x_goto C (pc := 13) (tgt := 17) dX0_leftBehind_13 (by decide) ?_
    exact x_ret dX0_leftBehind_17 (fun h => h)
theorem ct_X0_leftBehind (t : Nat) (ht : kd t = 0) (a : Int32) (s0 : SS) (r : Int32) (h : FX0_leftBehind t a s0 = some r) : CT 0 yX0_leftBehind cX0_leftBehind 2 (some .int) 2 42 [.ref t, .int a] s0 (some (.int r)) s0 :=
  ct_of (by decide +kernel) (Or.inr (Or.inl ⟨_, rfl, _, rfl, rfl⟩)) (lx_args [.ref t, .int a]) (lx_entry [.ref t, .int a] (fun _ => Nat.le_of_ble_eq_true rfl)) (fun o C hR => Yx.weak (lw_s (lw_s lw_0)) (bd_X0_leftBehind C t ht a s0 r h hR))
def FX0_rentOfAll (t : Nat) (a : Nat) (s0 : SS) : Option (Int32) :=
  nm (nI 0) (fun (i1 : Int32) => nm (nI 0) (fun (i2 : Int32) => bd (lp FUEL (u2 (fun (n3 : Int32) (n4 : Int32) => if (gI s0 a 3) ≤ n4 then some (Sum.inr n3) else (bd (FX0_rentOf t a n4 s0) (fun (r5 : Int32) => nm (n3 + r5) (fun (i6 : Int32) => nm (n4 + (nI 1)) (fun (i7 : Int32) => some (Sum.inl (i6, i7)))))))) (i1, i2)) (fun (e8 : Int32) => some (e8))))
set_option maxRecDepth 100000 in
set_option maxHeartbeats 4000000 in
theorem bd_X0_rentOfAll {o : Om} (C : Cx o RX0 cX0_rentOfAll 4 (some .int) (rmx 3 65) 0) (t : Nat) (ht : kd t = 0) (a : Nat) (ha : kd a = 7) (s0 : SS) : Xo (FX0_rentOfAll t a s0) (fun r => RT o cX0_rentOfAll (some (.int r)) s0) (Yx o 0 [some (.ref t), some (.ref a), none, none] [] s0) := by
  unfold FX0_rentOfAll
  refine x_iconst C (pc := 0) dX0_rentOfAll_0 kc_i_0 ?_
  refine x_istore_n C (pc := 1) (L' := fun i1 => [some (.ref t), some (.ref a), some (.int i1), none]) dX0_rentOfAll_1 (by decide) (fun _ => rfl) (fun i1 => ?_)
  refine x_iconst C (pc := 2) dX0_rentOfAll_2 kc_i_0 ?_
  refine x_istore_n C (pc := 3) (L' := fun i2 => [some (.ref t), some (.ref a), some (.int i1), some (.int i2)]) dX0_rentOfAll_3 (by decide) (fun _ => rfl) (fun i2 => ?_)
  refine xb_1 (Z1 := (fun e8 => Yx o 27 [none, none, some (.int e8), none] [] s0)) ?_ (fun e8 => ?_)
  · refine Xo.mono (Yx.weak (lw_s (lw_s (lw_s (lw_s lw_0))))) (x_lp2 (fr := fun n3 n4 => Yx o 4 [some (.ref t), some (.ref a), some (.int n3), some (.int n4)] [] s0) _ _ (fun n3 n4 => ?_))
    refine x_iload_n C (pc := 4) dX0_rentOfAll_4 rfl ?_
    refine x_aload_n C (pc := 5) dX0_rentOfAll_5 rfl ?_
    refine x_getI C (pc := 6) fg_X0_43 dX0_rentOfAll_6 ha ?_
    refine x_icmp_ge C (pc := 9) (tgt := 27) dX0_rentOfAll_9 (by decide) (fun _ => ?_) (fun _ => ?_)
    · skip
      exact Xo.done (fun h => Yx.weak (lw_n (lw_n (lw_s (lw_n lw_0)))) h)
    · skip
      refine x_iload_n C (pc := 12) dX0_rentOfAll_12 rfl ?_
      refine x_aload_n C (pc := 13) dX0_rentOfAll_13 rfl ?_
      refine x_aload_n C (pc := 14) dX0_rentOfAll_14 rfl ?_
      refine x_iload_n C (pc := 15) dX0_rentOfAll_15 rfl ?_
      refine x_callVi C (pc := 16) mv_X0_76 ht rfl [.ref a, .int n4] (fun _ hr => ct_X0_rentOf _ ht _ ha _ _ _ hr) ⟨Nat.le_of_ble_eq_true rfl, Nat.le_of_ble_eq_true rfl⟩ rfl (Nat.le_of_ble_eq_true rfl) rfl dX0_rentOfAll_16 (fun r5 => ?_)
      refine x_iadd C (pc := 19) dX0_rentOfAll_19 ?_
      refine x_istore_n C (pc := 20) (L' := fun i6 => [some (.ref t), some (.ref a), some (.int i6), some (.int n4)]) dX0_rentOfAll_20 (by decide) (fun _ => rfl) (fun i6 => ?_)
      refine x_iinc C (pc := 21) (L' := fun i7 => [some (.ref t), some (.ref a), some (.int i6), some (.int i7)]) dX0_rentOfAll_21 rfl kc_i_1 (by decide) (fun _ => rfl) (fun i7 => ?_)
      refine x_goto C (pc := 24) (tgt := 4) dX0_rentOfAll_24 (by decide) ?_
      exact Xo.done (fun h => Yx.weak (lw_s (lw_s (lw_s (lw_s lw_0)))) h)
  refine x_iload_n C (pc := 27) dX0_rentOfAll_27 rfl ?_
  exact x_ret dX0_rentOfAll_28 (fun h => h)
theorem ct_X0_rentOfAll (t : Nat) (ht : kd t = 0) (a : Nat) (ha : kd a = 7) (s0 : SS) (r : Int32) (h : FX0_rentOfAll t a s0 = some r) : CT 0 yX0_rentOfAll cX0_rentOfAll 4 (some .int) 3 65 [.ref t, .ref a] s0 (some (.int r)) s0 :=
  ct_of (by decide +kernel) (Or.inr (Or.inl ⟨_, rfl, _, rfl, rfl⟩)) (lx_args [.ref t, .ref a]) (lx_entry [.ref t, .ref a] (fun _ => Nat.le_of_ble_eq_true rfl)) (fun o C hR => Yx.weak (lw_s (lw_s (lw_z (lw_z lw_0)))) (bd_X0_rentOfAll C t ht a ha s0 r h hR))
def FX1_fitsReadings (t : Nat) (a : Nat) (b : Int32) (s0 : SS) : Option (Int32 × SS) :=
  nm (nI 0) (fun (i1 : Int32) => bde (lp FUEL (u2 (fun (n2 : Int32) (s3 : SS) => if (gI s3 (lk a 4) 3) ≤ n2 then some (Sum.inr (Sum.inl s3)) else (bd (FX9_at (lk a 4) n2 (nI 0) s3) (fun (r4 : Int32) => bd (FX0_goInHour (lk t 0) a r4 b s3) (fun (s5 : SS) => bd (FX9_at (lk a 4) n2 (nI 1) s5) (fun (r6 : Int32) => bd (FX0_leftBehind (lk t 0) r6 s5) (fun (r7 : Int32) => bd (FX9_at (lk a 4) n2 (nI 2) s5) (fun (r8 : Int32) => if r7 = r8 then nm (n2 + (nI 1)) (fun (i9 : Int32) => some (Sum.inl (i9, s5))) else (some (Sum.inr (Sum.inr (((nI 0), s5))))))))))))) (i1, s0)) (fun (s10 : SS) => some (((nI 1), s10))))
set_option maxRecDepth 100000 in
set_option maxHeartbeats 4000000 in
theorem bd_X1_fitsReadings {o : Om} (C : Cx o RX1 cX1_fitsReadings 4 (some .boolean) (rmx 4 101) 0) (t : Nat) (ht : kd t = 1) (a : Nat) (ha : kd a = 4) (b : Int32) (s0 : SS) : Xo (FX1_fitsReadings t a b s0) (fun r => zb r.1 = true → RT o cX1_fitsReadings (some (.int r.1)) r.2) (Yx o 0 [some (.ref t), some (.ref a), some (.int b), none] [] s0) := by
  unfold FX1_fitsReadings
  refine x_iconst C (pc := 0) dX1_fitsReadings_0 kc_i_0 ?_
  refine x_istore_n C (pc := 1) (L' := fun i1 => [some (.ref t), some (.ref a), some (.int b), some (.int i1)]) dX1_fitsReadings_1 (by decide) (fun _ => rfl) (fun i1 => ?_)
  refine xe_1 (Z1 := (fun s10 => Yx o 67 [none, none, none, none] [] s10)) ?_ (fun s10 => ?_)
  · refine Xo.mono (Yx.weak (lw_s (lw_s (lw_s (lw_s lw_0))))) (x_lp2 (fr := fun n2 s3 => Yx o 2 [some (.ref t), some (.ref a), some (.int b), some (.int n2)] [] s3) _ _ (fun n2 s3 => ?_))
    refine x_iload_n C (pc := 2) dX1_fitsReadings_2 rfl ?_
    refine x_aload_n C (pc := 3) dX1_fitsReadings_3 rfl ?_
    refine x_getR C (pc := 4) fg_X1_44 dX1_fitsReadings_4 ha ?_
    refine x_getI C (pc := 7) fg_X1_35 dX1_fitsReadings_7 (lkd_4_4 ha) ?_
    refine x_icmp_ge C (pc := 10) (tgt := 67) dX1_fitsReadings_10 (by decide) (fun _ => ?_) (fun _ => ?_)
    · skip
      exact Xo.done (fun h => Yx.weak (lw_n (lw_n (lw_n (lw_n lw_0)))) h)
    · skip
      refine x_aload_n C (pc := 13) dX1_fitsReadings_13 rfl ?_
      refine x_getR C (pc := 14) fg_X1_15 dX1_fitsReadings_14 ht ?_
      refine x_aload_n C (pc := 17) dX1_fitsReadings_17 rfl ?_
      refine x_aload_n C (pc := 18) dX1_fitsReadings_18 rfl ?_
      refine x_getR C (pc := 19) fg_X1_44 dX1_fitsReadings_19 ha ?_
      refine x_iload_n C (pc := 22) dX1_fitsReadings_22 rfl ?_
      refine x_iconst C (pc := 23) dX1_fitsReadings_23 kc_i_0 ?_
      refine x_callVi C (pc := 24) mv_X1_47 (lkd_4_4 ha) rfl [.int n2, .int (nI 0)] (fun _ hr => ct_X9_at _ (lkd_4_4 ha) _ _ _ _ hr) ⟨Nat.le_of_ble_eq_true rfl, Nat.le_of_ble_eq_true rfl⟩ rfl (Nat.le_of_ble_eq_true rfl) rfl dX1_fitsReadings_24 (fun r4 => ?_)
      refine x_iload_n C (pc := 27) dX1_fitsReadings_27 rfl ?_
      refine x_callVv C (pc := 28) mv_X1_51 (lkd_1_0 ht) rfl [.ref a, .int r4, .int b] (fun _ hr => ct_X0_goInHour _ (lkd_1_0 ht) _ ha _ _ _ _ hr) ⟨Nat.le_of_ble_eq_true rfl, Nat.le_of_ble_eq_true rfl⟩ rfl (Nat.le_of_ble_eq_true rfl) rfl dX1_fitsReadings_28 (fun s5 => ?_)
      refine x_aload_n C (pc := 31) dX1_fitsReadings_31 rfl ?_
      refine x_getR C (pc := 32) fg_X1_15 dX1_fitsReadings_32 ht ?_
      refine x_aload_n C (pc := 35) dX1_fitsReadings_35 rfl ?_
      refine x_getR C (pc := 36) fg_X1_44 dX1_fitsReadings_36 ha ?_
      refine x_iload_n C (pc := 39) dX1_fitsReadings_39 rfl ?_
      refine x_iconst C (pc := 40) dX1_fitsReadings_40 kc_i_1 ?_
      refine x_callVi C (pc := 41) mv_X1_47 (lkd_4_4 ha) rfl [.int n2, .int (nI 1)] (fun _ hr => ct_X9_at _ (lkd_4_4 ha) _ _ _ _ hr) ⟨Nat.le_of_ble_eq_true rfl, Nat.le_of_ble_eq_true rfl⟩ rfl (Nat.le_of_ble_eq_true rfl) rfl dX1_fitsReadings_41 (fun r6 => ?_)
      refine x_callVi C (pc := 44) mv_X1_57 (lkd_1_0 ht) rfl [.int r6] (fun _ hr => ct_X0_leftBehind _ (lkd_1_0 ht) _ _ _ hr) ⟨Nat.le_of_ble_eq_true rfl, Nat.le_of_ble_eq_true rfl⟩ rfl (Nat.le_of_ble_eq_true rfl) rfl dX1_fitsReadings_44 (fun r7 => ?_)
      refine x_aload_n C (pc := 47) dX1_fitsReadings_47 rfl ?_
      refine x_getR C (pc := 48) fg_X1_44 dX1_fitsReadings_48 ha ?_
      refine x_iload_n C (pc := 51) dX1_fitsReadings_51 rfl ?_
      refine x_iconst C (pc := 52) dX1_fitsReadings_52 kc_i_2 ?_
      refine x_callVi C (pc := 53) mv_X1_47 (lkd_4_4 ha) rfl [.int n2, .int (nI 2)] (fun _ hr => ct_X9_at _ (lkd_4_4 ha) _ _ _ _ hr) ⟨Nat.le_of_ble_eq_true rfl, Nat.le_of_ble_eq_true rfl⟩ rfl (Nat.le_of_ble_eq_true rfl) rfl dX1_fitsReadings_53 (fun r8 => ?_)
      refine x_icmp_eq C (pc := 56) (tgt := 61) dX1_fitsReadings_56 (by decide) (fun _ => ?_) (fun _ => ?_)
      · skip
        refine x_iinc C (pc := 61) (L' := fun i9 => [some (.ref t), some (.ref a), some (.int b), some (.int i9)]) dX1_fitsReadings_61 rfl kc_i_1 (by decide) (fun _ => rfl) (fun i9 => ?_)
        refine x_goto C (pc := 64) (tgt := 2) dX1_fitsReadings_64 (by decide) ?_
        exact Xo.done (fun h => Yx.weak (lw_s (lw_s (lw_s (lw_s lw_0)))) h)
      · skip
        refine x_iconst C (pc := 59) dX1_fitsReadings_59 kc_i_0 ?_
        exact x_ret dX1_fitsReadings_60 (fun h => h zb_0)
  refine x_iconst C (pc := 67) dX1_fitsReadings_67 kc_i_1 ?_
  exact x_ret dX1_fitsReadings_68 (fun h => h zb_1)
theorem ct_X1_fitsReadings (t : Nat) (ht : kd t = 1) (a : Nat) (ha : kd a = 4) (b : Int32) (s0 : SS) (r : Int32) (s2 : SS) (h : FX1_fitsReadings t a b s0 = some (r, s2)) : CT 0 yX1_fitsReadings cX1_fitsReadings 4 (some .boolean) 4 101 [.ref t, .ref a, .int b] s0 (some (.int r)) s2 :=
  ct_ofz (by decide +kernel) rfl (lx_args [.ref t, .ref a, .int b]) (lx_entry [.ref t, .ref a, .int b] (fun _ => Nat.le_of_ble_eq_true rfl)) (fun o C hR => Yx.weak (lw_s (lw_s (lw_s (lw_z lw_0)))) (bd_X1_fitsReadings C t ht a ha b s0 (r, s2) h hR))
def FX1_findSets (t : Nat) (a : Nat) (s0 : SS) : Option (SS) :=
  nm (pI s0 t 2 (nI 0)) (fun (s1 : SS) => nm (pI s1 t 3 (-1 : Int32)) (fun (s2 : SS) => nm (pI s2 t 4 (nI 0)) (fun (s3 : SS) => nm (nI 0) (fun (i4 : Int32) => bd (lp FUEL (u2 (fun (n5 : Int32) (s6 : SS) => if ((nI 1) <<< ((gI s6 (lk a 2) 3) &&& 31)) ≤ n5 then some (Sum.inr s6) else (bd2 (FX1_fitsReadings t a n5 s6) (fun (r7 : Int32) (s8 : SS) => bd (if r7 = 0 then some (s8) else (nm (pI s8 t 2 ((gI s8 t 2) + (nI 1))) (fun (s9 : SS) => nm (pI s9 t 3 ((gI s9 t 3) &&& n5)) (fun (s10 : SS) => nm (pI s10 t 4 ((gI s10 t 4) ||| n5)) (fun (s11 : SS) => some (s11)))))) (fun (s12 : SS) => nm (n5 + (nI 1)) (fun (i13 : Int32) => some (Sum.inl (i13, s12)))))))) (i4, s3)) (fun (s14 : SS) => some (s14))))))
set_option maxRecDepth 100000 in
set_option maxHeartbeats 4000000 in
theorem bd_X1_findSets {o : Om} (C : Cx o RX1 cX1_findSets 3 none (rmx 5 124) 0) (t : Nat) (ht : kd t = 1) (a : Nat) (ha : kd a = 4) (s0 : SS) : Xo (FX1_findSets t a s0) (fun r => RT o cX1_findSets none r) (Yx o 0 [some (.ref t), some (.ref a), none] [] s0) := by
  unfold FX1_findSets
  refine x_aload_n C (pc := 0) dX1_findSets_0 rfl ?_
  refine x_iconst C (pc := 1) dX1_findSets_1 kc_i_0 ?_
  refine x_putIn C (pc := 2) fp_X1_19 dX1_findSets_2 ht (fun s1 => ?_)
  refine x_aload_n C (pc := 5) dX1_findSets_5 rfl ?_
  refine x_iconst C (pc := 6) dX1_findSets_6 kc_i_m1 ?_
  refine x_putIn C (pc := 7) fp_X1_23 dX1_findSets_7 ht (fun s2 => ?_)
  refine x_aload_n C (pc := 10) dX1_findSets_10 rfl ?_
  refine x_iconst C (pc := 11) dX1_findSets_11 kc_i_0 ?_
  refine x_putIn C (pc := 12) fp_X1_26 dX1_findSets_12 ht (fun s3 => ?_)
  refine x_iconst C (pc := 15) dX1_findSets_15 kc_i_0 ?_
  refine x_istore_n C (pc := 16) (L' := fun i4 => [some (.ref t), some (.ref a), some (.int i4)]) dX1_findSets_16 (by decide) (fun _ => rfl) (fun i4 => ?_)
  refine xb_1 (Z1 := (fun s14 => Yx o 75 [none, none, none] [] s14)) ?_ (fun s14 => ?_)
  · refine Xo.mono (Yx.weak (lw_s (lw_s (lw_s lw_0)))) (x_lp2 (fr := fun n5 s6 => Yx o 17 [some (.ref t), some (.ref a), some (.int n5)] [] s6) _ _ (fun n5 s6 => ?_))
    refine x_iload_n C (pc := 17) dX1_findSets_17 rfl ?_
    refine x_iconst C (pc := 18) dX1_findSets_18 kc_i_1 ?_
    refine x_aload_n C (pc := 19) dX1_findSets_19 rfl ?_
    refine x_getR C (pc := 20) fg_X1_29 dX1_findSets_20 ha ?_
    refine x_getI C (pc := 23) fg_X1_35 dX1_findSets_23 (lkd_4_2 ha) ?_
    refine x_ishl C (pc := 26) dX1_findSets_26 ?_
    refine x_icmp_ge C (pc := 27) (tgt := 75) dX1_findSets_27 (by decide) (fun _ => ?_) (fun _ => ?_)
    · skip
      exact Xo.done (fun h => Yx.weak (lw_n (lw_n (lw_n lw_0))) h)
    · skip
      refine x_aload_n C (pc := 30) dX1_findSets_30 rfl ?_
      refine x_aload_n C (pc := 31) dX1_findSets_31 rfl ?_
      refine x_iload_n C (pc := 32) dX1_findSets_32 rfl ?_
      refine x_callVim C (pc := 33) mv_X1_40 ht rfl [.ref a, .int n5] (fun _ _ hr => ct_X1_fitsReadings _ ht _ ha _ _ _ _ hr) ⟨Nat.le_of_ble_eq_true rfl, Nat.le_of_ble_eq_true rfl⟩ rfl (Nat.le_of_ble_eq_true rfl) rfl dX1_findSets_33 (fun r7 s8 => ?_)
      refine xb_1 (Z1 := fun s12 => Yx o 69 [some (.ref t), some (.ref a), some (.int n5)] [] s12) ?_ (fun s12 => ?_)
      · skip
        refine x_if_eq C (pc := 36) (tgt := 69) dX1_findSets_36 (by decide) (fun _ => ?_) (fun _ => ?_)
        · skip
          exact Xo.done (fun h => Yx.weak (lw_s (lw_s (lw_s lw_0))) h)
        · skip
          refine x_aload_n C (pc := 39) dX1_findSets_39 rfl ?_
          refine x_dup C (pc := 40) dX1_findSets_40 rfl ?_
          refine x_getI C (pc := 41) fg_X1_19 dX1_findSets_41 ht ?_
          refine x_iconst C (pc := 44) dX1_findSets_44 kc_i_1 ?_
          refine x_iadd C (pc := 45) dX1_findSets_45 ?_
          refine x_putIn C (pc := 46) fp_X1_19 dX1_findSets_46 ht (fun s9 => ?_)
          refine x_aload_n C (pc := 49) dX1_findSets_49 rfl ?_
          refine x_dup C (pc := 50) dX1_findSets_50 rfl ?_
          refine x_getI C (pc := 51) fg_X1_23 dX1_findSets_51 ht ?_
          refine x_iload_n C (pc := 54) dX1_findSets_54 rfl ?_
          refine x_iand C (pc := 55) dX1_findSets_55 ?_
          refine x_putIn C (pc := 56) fp_X1_23 dX1_findSets_56 ht (fun s10 => ?_)
          refine x_aload_n C (pc := 59) dX1_findSets_59 rfl ?_
          refine x_dup C (pc := 60) dX1_findSets_60 rfl ?_
          refine x_getI C (pc := 61) fg_X1_26 dX1_findSets_61 ht ?_
          refine x_iload_n C (pc := 64) dX1_findSets_64 rfl ?_
          refine x_ior C (pc := 65) dX1_findSets_65 ?_
          refine x_putIn C (pc := 66) fp_X1_26 dX1_findSets_66 ht (fun s11 => ?_)
          exact Xo.done (fun h => Yx.weak (lw_s (lw_s (lw_s lw_0))) h)
      refine x_iinc C (pc := 69) (L' := fun i13 => [some (.ref t), some (.ref a), some (.int i13)]) dX1_findSets_69 rfl kc_i_1 (by decide) (fun _ => rfl) (fun i13 => ?_)
      refine x_goto C (pc := 72) (tgt := 17) dX1_findSets_72 (by decide) ?_
      exact Xo.done (fun h => Yx.weak (lw_s (lw_s (lw_s lw_0))) h)
  exact x_vret dX1_findSets_75 (fun h => h)
theorem ct_X1_findSets (t : Nat) (ht : kd t = 1) (a : Nat) (ha : kd a = 4) (s0 : SS) (r : SS) (h : FX1_findSets t a s0 = some r) : CT 0 yX1_findSets cX1_findSets 3 none 5 124 [.ref t, .ref a] s0 none r :=
  ct_of (by decide +kernel) (Or.inl ⟨rfl, rfl⟩) (lx_args [.ref t, .ref a]) (lx_entry [.ref t, .ref a] (fun _ => Nat.le_of_ble_eq_true rfl)) (fun o C hR => Yx.weak (lw_s (lw_s (lw_z lw_0))) (bd_X1_findSets C t ht a ha s0 r h hR))
def FX1_fitsNotes (a : Nat) (b : Int32) (c : Int32) (s0 : SS) : Option (Int32) :=
  nm (nI 0) (fun (i1 : Int32) => bde (lp FUEL (fun (n2 : Int32) => if (gI s0 a 3) ≤ n2 then some (Sum.inr (Sum.inl ())) else (bd (FX9_at a n2 (nI 0) s0) (fun (r3 : Int32) => if r3 = b then bd (FX9_at a n2 (nI 1) s0) (fun (r4 : Int32) => bd (FX9_at a n2 (nI 2) s0) (fun (r5 : Int32) => bd (FX5_takenOf c r4 r5 s0) (fun (r6 : Int32) => nm r6 (fun (i7 : Int32) => bd (FX9_at a n2 (nI 3) s0) (fun (r8 : Int32) => if i7 = r8 then bd (FX5_rentOf c i7 s0) (fun (r9 : Int32) => bd (FX9_at a n2 (nI 4) s0) (fun (r10 : Int32) => if r9 = r10 then nm (n2 + (nI 1)) (fun (i11 : Int32) => some (Sum.inl i11)) else (some (Sum.inr (Sum.inr ((nI 0))))))) else (some (Sum.inr (Sum.inr ((nI 0)))))))))) else (nm (n2 + (nI 1)) (fun (i12 : Int32) => some (Sum.inl i12)))))) i1) (fun (_ : Unit) => some ((nI 1))))
set_option maxRecDepth 100000 in
set_option maxHeartbeats 4000000 in
theorem bd_X1_fitsNotes {o : Om} (C : Cx o RX1 cX1_fitsNotes 5 (some .boolean) (rmx 2 46) 0) (a : Nat) (ha : kd a = 7) (b : Int32) (c : Int32) (s0 : SS) : Xo (FX1_fitsNotes a b c s0) (fun r => zb r = true → RT o cX1_fitsNotes (some (.int r)) s0) (Yx o 0 [some (.ref a), some (.int b), some (.int c), none, none] [] s0) := by
  unfold FX1_fitsNotes
  refine x_iconst C (pc := 0) dX1_fitsNotes_0 kc_i_0 ?_
  refine x_istore_n C (pc := 1) (L' := fun i1 => [some (.ref a), some (.int b), some (.int c), some (.int i1), none]) dX1_fitsNotes_1 (by decide) (fun _ => rfl) (fun i1 => ?_)
  refine xe_0 (Z1 := (fun (_ : Unit) => Yx o 72 [none, none, none, none, none] [] s0)) ?_ (fun _ => ?_)
  · refine Xo.mono (Yx.weak (lw_s (lw_s (lw_s (lw_s (lw_n lw_0)))))) (x_lp1 (fr := fun n2 => Yx o 2 [some (.ref a), some (.int b), some (.int c), some (.int n2), none] [] s0) _ (fun n2 => ?_))
    refine x_iload_n C (pc := 2) dX1_fitsNotes_2 rfl ?_
    refine x_aload_n C (pc := 3) dX1_fitsNotes_3 rfl ?_
    refine x_getI C (pc := 4) fg_X1_35 dX1_fitsNotes_4 ha ?_
    refine x_icmp_ge C (pc := 7) (tgt := 72) dX1_fitsNotes_7 (by decide) (fun _ => ?_) (fun _ => ?_)
    · skip
      exact Xo.done (fun h => Yx.weak (lw_n (lw_n (lw_n (lw_n (lw_n lw_0))))) h)
    · skip
      refine x_aload_n C (pc := 10) dX1_fitsNotes_10 rfl ?_
      refine x_iload_n C (pc := 11) dX1_fitsNotes_11 rfl ?_
      refine x_iconst C (pc := 12) dX1_fitsNotes_12 kc_i_0 ?_
      refine x_callVi C (pc := 13) mv_X1_47 ha rfl [.int n2, .int (nI 0)] (fun _ hr => ct_X9_at _ ha _ _ _ _ hr) ⟨Nat.le_of_ble_eq_true rfl, Nat.le_of_ble_eq_true rfl⟩ rfl (Nat.le_of_ble_eq_true rfl) rfl dX1_fitsNotes_13 (fun r3 => ?_)
      refine x_iload_n C (pc := 16) dX1_fitsNotes_16 rfl ?_
      refine x_icmp_ne C (pc := 17) (tgt := 66) dX1_fitsNotes_17 (by decide) (fun _ => ?_) (fun _ => ?_)
      · skip
        refine x_iload_n C (pc := 20) dX1_fitsNotes_20 rfl ?_
        refine x_aload_n C (pc := 21) dX1_fitsNotes_21 rfl ?_
        refine x_iload_n C (pc := 22) dX1_fitsNotes_22 rfl ?_
        refine x_iconst C (pc := 23) dX1_fitsNotes_23 kc_i_1 ?_
        refine x_callVi C (pc := 24) mv_X1_47 ha rfl [.int n2, .int (nI 1)] (fun _ hr => ct_X9_at _ ha _ _ _ _ hr) ⟨Nat.le_of_ble_eq_true rfl, Nat.le_of_ble_eq_true rfl⟩ rfl (Nat.le_of_ble_eq_true rfl) rfl dX1_fitsNotes_24 (fun r4 => ?_)
        refine x_aload_n C (pc := 27) dX1_fitsNotes_27 rfl ?_
        refine x_iload_n C (pc := 28) dX1_fitsNotes_28 rfl ?_
        refine x_iconst C (pc := 29) dX1_fitsNotes_29 kc_i_2 ?_
        refine x_callVi C (pc := 30) mv_X1_47 ha rfl [.int n2, .int (nI 2)] (fun _ hr => ct_X9_at _ ha _ _ _ _ hr) ⟨Nat.le_of_ble_eq_true rfl, Nat.le_of_ble_eq_true rfl⟩ rfl (Nat.le_of_ble_eq_true rfl) rfl dX1_fitsNotes_30 (fun r5 => ?_)
        refine x_callSi C (pc := 33) ms_X1_68 [.int c, .int r4, .int r5] (fun _ hr => ct_X5_takenOf _ _ _ _ _ hr) ⟨Nat.le_of_ble_eq_true rfl, Nat.le_of_ble_eq_true rfl⟩ rfl (Nat.le_of_ble_eq_true rfl) rfl dX1_fitsNotes_33 (fun r6 => ?_)
        refine x_istore C (pc := 36) (L' := fun i7 => [some (.ref a), some (.int b), some (.int c), some (.int n2), some (.int i7)]) dX1_fitsNotes_36 (by decide) (fun _ => rfl) (fun i7 => ?_)
        refine x_iload C (pc := 38) dX1_fitsNotes_38 rfl ?_
        refine x_aload_n C (pc := 40) dX1_fitsNotes_40 rfl ?_
        refine x_iload_n C (pc := 41) dX1_fitsNotes_41 rfl ?_
        refine x_iconst C (pc := 42) dX1_fitsNotes_42 kc_i_3 ?_
        refine x_callVi C (pc := 43) mv_X1_47 ha rfl [.int n2, .int (nI 3)] (fun _ hr => ct_X9_at _ ha _ _ _ _ hr) ⟨Nat.le_of_ble_eq_true rfl, Nat.le_of_ble_eq_true rfl⟩ rfl (Nat.le_of_ble_eq_true rfl) rfl dX1_fitsNotes_43 (fun r8 => ?_)
        refine x_icmp_ne C (pc := 46) (tgt := 64) dX1_fitsNotes_46 (by decide) (fun _ => ?_) (fun _ => ?_)
        · skip
          refine x_iload_n C (pc := 49) dX1_fitsNotes_49 rfl ?_
          refine x_iload C (pc := 50) dX1_fitsNotes_50 rfl ?_
          refine x_callSi C (pc := 52) ms_X1_74 [.int c, .int i7] (fun _ hr => ct_X5_rentOf _ _ _ _ hr) ⟨Nat.le_of_ble_eq_true rfl, Nat.le_of_ble_eq_true rfl⟩ rfl (Nat.le_of_ble_eq_true rfl) rfl dX1_fitsNotes_52 (fun r9 => ?_)
          refine x_aload_n C (pc := 55) dX1_fitsNotes_55 rfl ?_
          refine x_iload_n C (pc := 56) dX1_fitsNotes_56 rfl ?_
          refine x_iconst C (pc := 57) dX1_fitsNotes_57 kc_i_4 ?_
          refine x_callVi C (pc := 58) mv_X1_47 ha rfl [.int n2, .int (nI 4)] (fun _ hr => ct_X9_at _ ha _ _ _ _ hr) ⟨Nat.le_of_ble_eq_true rfl, Nat.le_of_ble_eq_true rfl⟩ rfl (Nat.le_of_ble_eq_true rfl) rfl dX1_fitsNotes_58 (fun r10 => ?_)
          refine x_icmp_eq C (pc := 61) (tgt := 66) dX1_fitsNotes_61 (by decide) (fun _ => ?_) (fun _ => ?_)
          · skip
            refine x_iinc C (pc := 66) (L' := fun i11 => [some (.ref a), some (.int b), some (.int c), some (.int i11), some (.int i7)]) dX1_fitsNotes_66 rfl kc_i_1 (by decide) (fun _ => rfl) (fun i11 => ?_)
            refine x_goto C (pc := 69) (tgt := 2) dX1_fitsNotes_69 (by decide) ?_
            exact Xo.done (fun h => Yx.weak (lw_s (lw_s (lw_s (lw_s (lw_n lw_0))))) h)
          · skip
            refine x_iconst C (pc := 64) dX1_fitsNotes_64 kc_i_0 ?_
            exact x_ret dX1_fitsNotes_65 (fun h => h zb_0)
        · skip
          refine x_iconst C (pc := 64) dX1_fitsNotes_64 kc_i_0 ?_
          exact x_ret dX1_fitsNotes_65 (fun h => h zb_0)
      · skip
        refine x_iinc C (pc := 66) (L' := fun i12 => [some (.ref a), some (.int b), some (.int c), some (.int i12), none]) dX1_fitsNotes_66 rfl kc_i_1 (by decide) (fun _ => rfl) (fun i12 => ?_)
        refine x_goto C (pc := 69) (tgt := 2) dX1_fitsNotes_69 (by decide) ?_
        exact Xo.done (fun h => Yx.weak (lw_s (lw_s (lw_s (lw_s (lw_n lw_0))))) h)
  refine x_iconst C (pc := 72) dX1_fitsNotes_72 kc_i_1 ?_
  exact x_ret dX1_fitsNotes_73 (fun h => h zb_1)
theorem ct_X1_fitsNotes (a : Nat) (ha : kd a = 7) (b : Int32) (c : Int32) (s0 : SS) (r : Int32) (h : FX1_fitsNotes a b c s0 = some r) : CT 0 yX1_fitsNotes cX1_fitsNotes 5 (some .boolean) 2 46 [.ref a, .int b, .int c] s0 (some (.int r)) s0 :=
  ct_ofz (by decide +kernel) rfl (lx_args [.ref a, .int b, .int c]) (lx_entry [.ref a, .int b, .int c] (fun _ => Nat.le_of_ble_eq_true rfl)) (fun o C hR => Yx.weak (lw_s (lw_s (lw_s (lw_z (lw_z lw_0))))) (bd_X1_fitsNotes C a ha b c s0 r h hR))
def FX1_userKinds (t : Nat) (a : Nat) (b : Int32) (s0 : SS) : Option (Int32) :=
  nm (nI 0) (fun (i1 : Int32) => nm (nI 0) (fun (i2 : Int32) => bd (lp FUEL (u2 (fun (n3 : Int32) (n4 : Int32) => if (nI 6) ≤ n4 then some (Sum.inr n3) else (bd (FX1_fitsNotes (lk a 5) b n4 s0) (fun (r5 : Int32) => bd (if r5 = 0 then some (n3) else (nm (n3 ||| ((nI 1) <<< (n4 &&& 31))) (fun (i6 : Int32) => some (i6)))) (fun (j7 : Int32) => nm (n4 + (nI 1)) (fun (i8 : Int32) => some (Sum.inl (j7, i8)))))))) (i1, i2)) (fun (e9 : Int32) => some (e9))))
set_option maxRecDepth 100000 in
set_option maxHeartbeats 4000000 in
theorem bd_X1_userKinds {o : Om} (C : Cx o RX1 cX1_userKinds 5 (some .int) (rmx 3 70) 0) (t : Nat) (ht : kd t = 1) (a : Nat) (ha : kd a = 4) (b : Int32) (s0 : SS) : Xo (FX1_userKinds t a b s0) (fun r => RT o cX1_userKinds (some (.int r)) s0) (Yx o 0 [some (.ref t), some (.ref a), some (.int b), none, none] [] s0) := by
  unfold FX1_userKinds
  refine x_iconst C (pc := 0) dX1_userKinds_0 kc_i_0 ?_
  refine x_istore_n C (pc := 1) (L' := fun i1 => [some (.ref t), some (.ref a), some (.int b), some (.int i1), none]) dX1_userKinds_1 (by decide) (fun _ => rfl) (fun i1 => ?_)
  refine x_iconst C (pc := 2) dX1_userKinds_2 kc_i_0 ?_
  refine x_istore C (pc := 3) (L' := fun i2 => [some (.ref t), some (.ref a), some (.int b), some (.int i1), some (.int i2)]) dX1_userKinds_3 (by decide) (fun _ => rfl) (fun i2 => ?_)
  refine xb_1 (Z1 := (fun e9 => Yx o 38 [none, none, none, some (.int e9), none] [] s0)) ?_ (fun e9 => ?_)
  · refine Xo.mono (Yx.weak (lw_n (lw_s (lw_s (lw_s (lw_s lw_0)))))) (x_lp2 (fr := fun n3 n4 => Yx o 5 [none, some (.ref a), some (.int b), some (.int n3), some (.int n4)] [] s0) _ _ (fun n3 n4 => ?_))
    refine x_iload C (pc := 5) dX1_userKinds_5 rfl ?_
    refine x_bipush C (pc := 7) dX1_userKinds_7 kc_b_6 ?_
    refine x_icmp_ge C (pc := 9) (tgt := 38) dX1_userKinds_9 (by decide) (fun _ => ?_) (fun _ => ?_)
    · skip
      exact Xo.done (fun h => Yx.weak (lw_n (lw_n (lw_n (lw_s (lw_n lw_0))))) h)
    · skip
      refine x_aload_n C (pc := 12) dX1_userKinds_12 rfl ?_
      refine x_getR C (pc := 13) fg_X1_61 dX1_userKinds_13 ha ?_
      refine x_iload_n C (pc := 16) dX1_userKinds_16 rfl ?_
      refine x_iload C (pc := 17) dX1_userKinds_17 rfl ?_
      refine x_callSi C (pc := 19) ms_X1_64 [.ref (lk a 5), .int b, .int n4] (fun _ hr => ct_X1_fitsNotes _ (lkd_4_5 ha) _ _ _ _ hr) ⟨Nat.le_of_ble_eq_true rfl, Nat.le_of_ble_eq_true rfl⟩ rfl (Nat.le_of_ble_eq_true rfl) rfl dX1_userKinds_19 (fun r5 => ?_)
      refine xb_1 (Z1 := fun j7 => Yx o 32 [none, some (.ref a), some (.int b), some (.int j7), some (.int n4)] [] s0) ?_ (fun j7 => ?_)
      · skip
        refine x_if_eq C (pc := 22) (tgt := 32) dX1_userKinds_22 (by decide) (fun _ => ?_) (fun _ => ?_)
        · skip
          exact Xo.done (fun h => Yx.weak (lw_n (lw_s (lw_s (lw_s (lw_s lw_0))))) h)
        · skip
          refine x_iload_n C (pc := 25) dX1_userKinds_25 rfl ?_
          refine x_iconst C (pc := 26) dX1_userKinds_26 kc_i_1 ?_
          refine x_iload C (pc := 27) dX1_userKinds_27 rfl ?_
          refine x_ishl C (pc := 29) dX1_userKinds_29 ?_
          refine x_ior C (pc := 30) dX1_userKinds_30 ?_
          refine x_istore_n C (pc := 31) (L' := fun i6 => [none, some (.ref a), some (.int b), some (.int i6), some (.int n4)]) dX1_userKinds_31 (by decide) (fun _ => rfl) (fun i6 => ?_)
          exact Xo.done (fun h => Yx.weak (lw_n (lw_s (lw_s (lw_s (lw_s lw_0))))) h)
      refine x_iinc C (pc := 32) (L' := fun i8 => [none, some (.ref a), some (.int b), some (.int j7), some (.int i8)]) dX1_userKinds_32 rfl kc_i_1 (by decide) (fun _ => rfl) (fun i8 => ?_)
      refine x_goto C (pc := 35) (tgt := 5) dX1_userKinds_35 (by decide) ?_
      exact Xo.done (fun h => Yx.weak (lw_n (lw_s (lw_s (lw_s (lw_s lw_0))))) h)
  refine x_iload_n C (pc := 38) dX1_userKinds_38 rfl ?_
  exact x_ret dX1_userKinds_39 (fun h => h)
theorem ct_X1_userKinds (t : Nat) (ht : kd t = 1) (a : Nat) (ha : kd a = 4) (b : Int32) (s0 : SS) (r : Int32) (h : FX1_userKinds t a b s0 = some r) : CT 0 yX1_userKinds cX1_userKinds 5 (some .int) 3 70 [.ref t, .ref a, .int b] s0 (some (.int r)) s0 :=
  ct_of (by decide +kernel) (Or.inr (Or.inl ⟨_, rfl, _, rfl, rfl⟩)) (lx_args [.ref t, .ref a, .int b]) (lx_entry [.ref t, .ref a, .int b] (fun _ => Nat.le_of_ble_eq_true rfl)) (fun o C hR => Yx.weak (lw_s (lw_s (lw_s (lw_z (lw_z lw_0))))) (bd_X1_userKinds C t ht a ha b s0 r h hR))
def FX1_mostAlike (t : Nat) (a : Int32) (s0 : SS) : Option (Int32) :=
  nm (nI 0) (fun (i1 : Int32) => nm (nI 0) (fun (i2 : Int32) => bd (lp FUEL (u2 (fun (n3 : Int32) (n4 : Int32) => if (nI 6) ≤ n4 then some (Sum.inr n3) else (nm (nI 0) (fun (i5 : Int32) => nm (nI 0) (fun (i6 : Int32) => bd (lp FUEL (u2 (fun (n7 : Int32) (n8 : Int32) => if (nI 6) ≤ n8 then some (Sum.inr n7) else (bd (if (((a >>> (n4 &&& 31)) &&& (a >>> (n8 &&& 31))) &&& (nI 1)) = (nI 1) then gd (inb n4 (ln (lk t 1))) (gd (inb n8 (ln (lk t 1))) (if (gI s0 (lk t 1) (Int32.toNatClampNeg n4)) = (gI s0 (lk t 1) (Int32.toNatClampNeg n8)) then nm (n7 + (nI 1)) (fun (i9 : Int32) => some (i9)) else (some (n7)))) else (some (n7))) (fun (j10 : Int32) => nm (n8 + (nI 1)) (fun (i11 : Int32) => some (Sum.inl (j10, i11))))))) (i5, i6)) (fun (e12 : Int32) => nm (imax n3 e12) (fun (i13 : Int32) => nm (n4 + (nI 1)) (fun (i14 : Int32) => some (Sum.inl (i13, i14)))))))))) (i1, i2)) (fun (e15 : Int32) => some (e15))))
set_option maxRecDepth 100000 in
set_option maxHeartbeats 4000000 in
theorem bd_X1_mostAlike {o : Om} (C : Cx o RX1 cX1_mostAlike 6 (some .int) (rmx 1 21) 0) (t : Nat) (ht : kd t = 1) (a : Int32) (s0 : SS) : Xo (FX1_mostAlike t a s0) (fun r => RT o cX1_mostAlike (some (.int r)) s0) (Yx o 0 [some (.ref t), some (.int a), none, none, none, none] [] s0) := by
  unfold FX1_mostAlike
  refine x_iconst C (pc := 0) dX1_mostAlike_0 kc_i_0 ?_
  refine x_istore_n C (pc := 1) (L' := fun i1 => [some (.ref t), some (.int a), some (.int i1), none, none, none]) dX1_mostAlike_1 (by decide) (fun _ => rfl) (fun i1 => ?_)
  refine x_iconst C (pc := 2) dX1_mostAlike_2 kc_i_0 ?_
  refine x_istore_n C (pc := 3) (L' := fun i2 => [some (.ref t), some (.int a), some (.int i1), some (.int i2), none, none]) dX1_mostAlike_3 (by decide) (fun _ => rfl) (fun i2 => ?_)
  refine xb_1 (Z1 := (fun e15 => Yx o 75 [none, none, some (.int e15), none, none, none] [] s0)) ?_ (fun e15 => ?_)
  · refine Xo.mono (Yx.weak (lw_s (lw_s (lw_s (lw_s (lw_n (lw_n lw_0))))))) (x_lp2 (fr := fun n3 n4 => Yx o 4 [some (.ref t), some (.int a), some (.int n3), some (.int n4), none, none] [] s0) _ _ (fun n3 n4 => ?_))
    refine x_iload_n C (pc := 4) dX1_mostAlike_4 rfl ?_
    refine x_bipush C (pc := 5) dX1_mostAlike_5 kc_b_6 ?_
    refine x_icmp_ge C (pc := 7) (tgt := 75) dX1_mostAlike_7 (by decide) (fun _ => ?_) (fun _ => ?_)
    · skip
      exact Xo.done (fun h => Yx.weak (lw_n (lw_n (lw_s (lw_n (lw_n (lw_n lw_0)))))) h)
    · skip
      refine x_iconst C (pc := 10) dX1_mostAlike_10 kc_i_0 ?_
      refine x_istore C (pc := 11) (L' := fun i5 => [some (.ref t), some (.int a), some (.int n3), some (.int n4), some (.int i5), none]) dX1_mostAlike_11 (by decide) (fun _ => rfl) (fun i5 => ?_)
      refine x_iconst C (pc := 13) dX1_mostAlike_13 kc_i_0 ?_
      refine x_istore C (pc := 14) (L' := fun i6 => [some (.ref t), some (.int a), some (.int n3), some (.int n4), some (.int i5), some (.int i6)]) dX1_mostAlike_14 (by decide) (fun _ => rfl) (fun i6 => ?_)
      refine xb_1 (Z1 := (fun e12 => Yx o 62 [some (.ref t), some (.int a), some (.int n3), some (.int n4), some (.int e12), none] [] s0)) ?_ (fun e12 => ?_)
      · refine Xo.mono (Yx.weak (lw_s (lw_s (lw_s (lw_s (lw_s (lw_s lw_0))))))) (x_lp2 (fr := fun n7 n8 => Yx o 16 [some (.ref t), some (.int a), some (.int n3), some (.int n4), some (.int n7), some (.int n8)] [] s0) _ _ (fun n7 n8 => ?_))
        refine x_iload C (pc := 16) dX1_mostAlike_16 rfl ?_
        refine x_bipush C (pc := 18) dX1_mostAlike_18 kc_b_6 ?_
        refine x_icmp_ge C (pc := 20) (tgt := 62) dX1_mostAlike_20 (by decide) (fun _ => ?_) (fun _ => ?_)
        · skip
          exact Xo.done (fun h => Yx.weak (lw_s (lw_s (lw_s (lw_s (lw_s (lw_n lw_0)))))) h)
        · skip
          refine x_iload_n C (pc := 23) dX1_mostAlike_23 rfl ?_
          refine x_iload_n C (pc := 24) dX1_mostAlike_24 rfl ?_
          refine x_ishr C (pc := 25) dX1_mostAlike_25 ?_
          refine x_iload_n C (pc := 26) dX1_mostAlike_26 rfl ?_
          refine x_iload C (pc := 27) dX1_mostAlike_27 rfl ?_
          refine x_ishr C (pc := 29) dX1_mostAlike_29 ?_
          refine x_iand C (pc := 30) dX1_mostAlike_30 ?_
          refine x_iconst C (pc := 31) dX1_mostAlike_31 kc_i_1 ?_
          refine x_iand C (pc := 32) dX1_mostAlike_32 ?_
          refine x_iconst C (pc := 33) dX1_mostAlike_33 kc_i_1 ?_
          refine xb_1 (Z1 := fun j10 => Yx o 56 [some (.ref t), some (.int a), some (.int n3), some (.int n4), some (.int j10), some (.int n8)] [] s0) ?_ (fun j10 => ?_)
          · skip
            refine x_icmp_ne C (pc := 34) (tgt := 56) dX1_mostAlike_34 (by decide) (fun _ => ?_) (fun _ => ?_)
            · skip
              refine x_aload_n C (pc := 37) dX1_mostAlike_37 rfl ?_
              refine x_getR C (pc := 38) fg_X1_9 dX1_mostAlike_38 ht ?_
              refine x_iload_n C (pc := 41) dX1_mostAlike_41 rfl ?_
              refine x_iald C (pc := 42) dX1_mostAlike_42 (lkd_1_1 ht) (fun _ => ?_)
              refine x_aload_n C (pc := 43) dX1_mostAlike_43 rfl ?_
              refine x_getR C (pc := 44) fg_X1_9 dX1_mostAlike_44 ht ?_
              refine x_iload C (pc := 47) dX1_mostAlike_47 rfl ?_
              refine x_iald C (pc := 49) dX1_mostAlike_49 (lkd_1_1 ht) (fun _ => ?_)
              refine x_icmp_ne C (pc := 50) (tgt := 56) dX1_mostAlike_50 (by decide) (fun _ => ?_) (fun _ => ?_)
              · skip
                refine x_iinc C (pc := 53) (L' := fun i9 => [some (.ref t), some (.int a), some (.int n3), some (.int n4), some (.int i9), some (.int n8)]) dX1_mostAlike_53 rfl kc_i_1 (by decide) (fun _ => rfl) (fun i9 => ?_)
                exact Xo.done (fun h => Yx.weak (lw_s (lw_s (lw_s (lw_s (lw_s (lw_s lw_0)))))) h)
              · skip
                exact Xo.done (fun h => Yx.weak (lw_s (lw_s (lw_s (lw_s (lw_s (lw_s lw_0)))))) h)
            · skip
              exact Xo.done (fun h => Yx.weak (lw_s (lw_s (lw_s (lw_s (lw_s (lw_s lw_0)))))) h)
          refine x_iinc C (pc := 56) (L' := fun i11 => [some (.ref t), some (.int a), some (.int n3), some (.int n4), some (.int j10), some (.int i11)]) dX1_mostAlike_56 rfl kc_i_1 (by decide) (fun _ => rfl) (fun i11 => ?_)
          refine x_goto C (pc := 59) (tgt := 16) dX1_mostAlike_59 (by decide) ?_
          exact Xo.done (fun h => Yx.weak (lw_s (lw_s (lw_s (lw_s (lw_s (lw_s lw_0)))))) h)
      refine x_iload_n C (pc := 62) dX1_mostAlike_62 rfl ?_
      refine x_iload C (pc := 63) dX1_mostAlike_63 rfl ?_
      refine x_mmax C (pc := 65) ml_X1_96 tw_mxs tw_mai tw_mxc ⟨Nat.le_of_ble_eq_true rfl, Nat.le_of_ble_eq_true rfl⟩ dX1_mostAlike_65 ?_
      refine x_istore_n C (pc := 68) (L' := fun i13 => [some (.ref t), some (.int a), some (.int i13), some (.int n4), some (.int e12), none]) dX1_mostAlike_68 (by decide) (fun _ => rfl) (fun i13 => ?_)
      refine x_iinc C (pc := 69) (L' := fun i14 => [some (.ref t), some (.int a), some (.int i13), some (.int i14), some (.int e12), none]) dX1_mostAlike_69 rfl kc_i_1 (by decide) (fun _ => rfl) (fun i14 => ?_)
      refine x_goto C (pc := 72) (tgt := 4) dX1_mostAlike_72 (by decide) ?_
      exact Xo.done (fun h => Yx.weak (lw_s (lw_s (lw_s (lw_s (lw_n (lw_n lw_0)))))) h)
  refine x_iload_n C (pc := 75) dX1_mostAlike_75 rfl ?_
  exact x_ret dX1_mostAlike_76 (fun h => h)
theorem ct_X1_mostAlike (t : Nat) (ht : kd t = 1) (a : Int32) (s0 : SS) (r : Int32) (h : FX1_mostAlike t a s0 = some r) : CT 0 yX1_mostAlike cX1_mostAlike 6 (some .int) 1 21 [.ref t, .int a] s0 (some (.int r)) s0 :=
  ct_of (by decide +kernel) (Or.inr (Or.inl ⟨_, rfl, _, rfl, rfl⟩)) (lx_args [.ref t, .int a]) (lx_entry [.ref t, .int a] (fun _ => Nat.le_of_ble_eq_true rfl)) (fun o C hR => Yx.weak (lw_s (lw_s (lw_z (lw_z (lw_z (lw_z lw_0)))))) (bd_X1_mostAlike C t ht a s0 r h hR))
def FX1_nextWind (t : Nat) (a : Nat) (b : Int32) (s0 : SS) : Option (Int32 × SS) :=
  bd (FX1_userKinds t a b s0) (fun (r1 : Int32) => nm r1 (fun (i2 : Int32) => bd (FX9_at (lk a 2) b (nI 2) s0) (fun (r3 : Int32) => nm r3 (fun (i4 : Int32) => nm (nI 7) (fun (i5 : Int32) => nm (-1 : Int32) (fun (i6 : Int32) => nm (nI 0) (fun (i7 : Int32) => bd (lp FUEL (u4 (fun (n8 : Int32) (n9 : Int32) (n10 : Int32) (s11 : SS) => if (nI 20) < n10 then some (Sum.inr (n9, s11)) else (if i2 = 0 then some (Sum.inr (n9, s11)) else (nm (nI 0) (fun (i12 : Int32) => bd (lp FUEL (u2 (fun (n13 : Int32) (s14 : SS) => if (nI 6) ≤ n13 then some (Sum.inr s14) else (bd (FX5_takenOf n13 i4 n10 s14) (fun (r15 : Int32) => nm r15 (fun (i16 : Int32) => bd (FX5_rentOf n13 i16 s14) (fun (r17 : Int32) => gd (inb n13 (ln (lk t 1))) (nm (pI s14 (lk t 1) (Int32.toNatClampNeg n13) (((nI 1000) * i16) + r17)) (fun (s18 : SS) => nm (n13 + (nI 1)) (fun (i19 : Int32) => some (Sum.inl (i19, s18))))))))))) (i12, s11)) (fun (s20 : SS) => bd (FX1_mostAlike t i2 s20) (fun (r21 : Int32) => nm r21 (fun (i22 : Int32) => bd (if n8 ≤ i22 then some ((n8, n9)) else (nm i22 (fun (i23 : Int32) => nm n10 (fun (i24 : Int32) => some ((i23, i24)))))) (u2 (fun (j25 : Int32) (j26 : Int32) => nm (n10 + (nI 1)) (fun (i27 : Int32) => some (Sum.inl (j25, j26, i27, s20))))))))))))) (i5, i6, i7, s0)) (u2 (fun (e28 : Int32) (s29 : SS) => some ((e28, s29)))))))))))
set_option maxRecDepth 100000 in
set_option maxHeartbeats 4000000 in
theorem bd_X1_nextWind {o : Om} (C : Cx o RX1 cX1_nextWind 10 (some .int) (rmx 4 94) 0) (t : Nat) (ht : kd t = 1) (a : Nat) (ha : kd a = 4) (b : Int32) (s0 : SS) : Xo (FX1_nextWind t a b s0) (fun r => RT o cX1_nextWind (some (.int r.1)) r.2) (Yx o 0 [some (.ref t), some (.ref a), some (.int b), none, none, none, none, none, none, none] [] s0) := by
  unfold FX1_nextWind
  refine x_aload_n C (pc := 0) dX1_nextWind_0 rfl ?_
  refine x_aload_n C (pc := 1) dX1_nextWind_1 rfl ?_
  refine x_iload_n C (pc := 2) dX1_nextWind_2 rfl ?_
  refine x_callVi C (pc := 3) mv_X1_77 ht rfl [.ref a, .int b] (fun _ hr => ct_X1_userKinds _ ht _ ha _ _ _ hr) ⟨Nat.le_of_ble_eq_true rfl, Nat.le_of_ble_eq_true rfl⟩ rfl (Nat.le_of_ble_eq_true rfl) rfl dX1_nextWind_3 (fun r1 => ?_)
  refine x_istore_n C (pc := 6) (L' := fun i2 => [some (.ref t), some (.ref a), some (.int b), some (.int i2), none, none, none, none, none, none]) dX1_nextWind_6 (by decide) (fun _ => rfl) (fun i2 => ?_)
  refine x_aload_n C (pc := 7) dX1_nextWind_7 rfl ?_
  refine x_getR C (pc := 8) fg_X1_29 dX1_nextWind_8 ha ?_
  refine x_iload_n C (pc := 11) dX1_nextWind_11 rfl ?_
  refine x_iconst C (pc := 12) dX1_nextWind_12 kc_i_2 ?_
  refine x_callVi C (pc := 13) mv_X1_47 (lkd_4_2 ha) rfl [.int b, .int (nI 2)] (fun _ hr => ct_X9_at _ (lkd_4_2 ha) _ _ _ _ hr) ⟨Nat.le_of_ble_eq_true rfl, Nat.le_of_ble_eq_true rfl⟩ rfl (Nat.le_of_ble_eq_true rfl) rfl dX1_nextWind_13 (fun r3 => ?_)
  refine x_istore C (pc := 16) (L' := fun i4 => [some (.ref t), some (.ref a), some (.int b), some (.int i2), some (.int i4), none, none, none, none, none]) dX1_nextWind_16 (by decide) (fun _ => rfl) (fun i4 => ?_)
  refine x_bipush C (pc := 18) dX1_nextWind_18 kc_b_7 ?_
  refine x_istore C (pc := 20) (L' := fun i5 => [some (.ref t), some (.ref a), some (.int b), some (.int i2), some (.int i4), some (.int i5), none, none, none, none]) dX1_nextWind_20 (by decide) (fun _ => rfl) (fun i5 => ?_)
  refine x_iconst C (pc := 22) dX1_nextWind_22 kc_i_m1 ?_
  refine x_istore C (pc := 23) (L' := fun i6 => [some (.ref t), some (.ref a), some (.int b), some (.int i2), some (.int i4), some (.int i5), some (.int i6), none, none, none]) dX1_nextWind_23 (by decide) (fun _ => rfl) (fun i6 => ?_)
  refine x_iconst C (pc := 25) dX1_nextWind_25 kc_i_0 ?_
  refine x_istore C (pc := 26) (L' := fun i7 => [some (.ref t), some (.ref a), some (.int b), some (.int i2), some (.int i4), some (.int i5), some (.int i6), some (.int i7), none, none]) dX1_nextWind_26 (by decide) (fun _ => rfl) (fun i7 => ?_)
  refine xb_2 (Z1 := (fun e28 s29 => Yx o 115 [none, none, none, none, none, none, some (.int e28), none, none, none] [] s29)) ?_ (fun e28 s29 => ?_)
  · refine Xo.mono (Yx.weak (lw_s (lw_n (lw_n (lw_s (lw_s (lw_s (lw_s (lw_s (lw_n (lw_n lw_0))))))))))) (x_lp4 (fr := fun n8 n9 n10 s11 => Yx o 28 [some (.ref t), none, none, some (.int i2), some (.int i4), some (.int n8), some (.int n9), some (.int n10), none, none] [] s11) _ _ _ _ (fun n8 n9 n10 s11 => ?_))
    refine x_iload C (pc := 28) dX1_nextWind_28 rfl ?_
    refine x_bipush C (pc := 30) dX1_nextWind_30 kc_b_20 ?_
    refine x_icmp_gt C (pc := 32) (tgt := 115) dX1_nextWind_32 (by decide) (fun _ => ?_) (fun _ => ?_)
    · skip
      exact Xo.done (fun h => Yx.weak (lw_n (lw_n (lw_n (lw_n (lw_n (lw_n (lw_s (lw_n (lw_n (lw_n lw_0)))))))))) h)
    · skip
      refine x_iload_n C (pc := 35) dX1_nextWind_35 rfl ?_
      refine x_if_eq C (pc := 36) (tgt := 115) dX1_nextWind_36 (by decide) (fun _ => ?_) (fun _ => ?_)
      · skip
        exact Xo.done (fun h => Yx.weak (lw_n (lw_n (lw_n (lw_n (lw_n (lw_n (lw_s (lw_n (lw_n (lw_n lw_0)))))))))) h)
      · skip
        refine x_iconst C (pc := 39) dX1_nextWind_39 kc_i_0 ?_
        refine x_istore C (pc := 40) (L' := fun i12 => [some (.ref t), none, none, some (.int i2), some (.int i4), some (.int n8), some (.int n9), some (.int n10), some (.int i12), none]) dX1_nextWind_40 (by decide) (fun _ => rfl) (fun i12 => ?_)
        refine xb_1 (Z1 := (fun s20 => Yx o 87 [some (.ref t), none, none, some (.int i2), some (.int i4), some (.int n8), some (.int n9), some (.int n10), none, none] [] s20)) ?_ (fun s20 => ?_)
        · refine Xo.mono (Yx.weak (lw_s (lw_n (lw_n (lw_s (lw_s (lw_s (lw_s (lw_s (lw_s (lw_n lw_0))))))))))) (x_lp2 (fr := fun n13 s14 => Yx o 42 [some (.ref t), none, none, some (.int i2), some (.int i4), some (.int n8), some (.int n9), some (.int n10), some (.int n13), none] [] s14) _ _ (fun n13 s14 => ?_))
          refine x_iload C (pc := 42) dX1_nextWind_42 rfl ?_
          refine x_bipush C (pc := 44) dX1_nextWind_44 kc_b_6 ?_
          refine x_icmp_ge C (pc := 46) (tgt := 87) dX1_nextWind_46 (by decide) (fun _ => ?_) (fun _ => ?_)
          · skip
            exact Xo.done (fun h => Yx.weak (lw_s (lw_n (lw_n (lw_s (lw_s (lw_s (lw_s (lw_s (lw_n (lw_n lw_0)))))))))) h)
          · skip
            refine x_iload C (pc := 49) dX1_nextWind_49 rfl ?_
            refine x_iload C (pc := 51) dX1_nextWind_51 rfl ?_
            refine x_iload C (pc := 53) dX1_nextWind_53 rfl ?_
            refine x_callSi C (pc := 55) ms_X1_68 [.int n13, .int i4, .int n10] (fun _ hr => ct_X5_takenOf _ _ _ _ _ hr) ⟨Nat.le_of_ble_eq_true rfl, Nat.le_of_ble_eq_true rfl⟩ rfl (Nat.le_of_ble_eq_true rfl) rfl dX1_nextWind_55 (fun r15 => ?_)
            refine x_istore C (pc := 58) (L' := fun i16 => [some (.ref t), none, none, some (.int i2), some (.int i4), some (.int n8), some (.int n9), some (.int n10), some (.int n13), some (.int i16)]) dX1_nextWind_58 (by decide) (fun _ => rfl) (fun i16 => ?_)
            refine x_aload_n C (pc := 60) dX1_nextWind_60 rfl ?_
            refine x_getR C (pc := 61) fg_X1_9 dX1_nextWind_61 ht ?_
            refine x_iload C (pc := 64) dX1_nextWind_64 rfl ?_
            refine x_sipush C (pc := 66) dX1_nextWind_66 kc_s_1000 ?_
            refine x_iload C (pc := 69) dX1_nextWind_69 rfl ?_
            refine x_imul C (pc := 71) dX1_nextWind_71 ?_
            refine x_iload C (pc := 72) dX1_nextWind_72 rfl ?_
            refine x_iload C (pc := 74) dX1_nextWind_74 rfl ?_
            refine x_callSi C (pc := 76) ms_X1_74 [.int n13, .int i16] (fun _ hr => ct_X5_rentOf _ _ _ _ hr) ⟨Nat.le_of_ble_eq_true rfl, Nat.le_of_ble_eq_true rfl⟩ rfl (Nat.le_of_ble_eq_true rfl) rfl dX1_nextWind_76 (fun r17 => ?_)
            refine x_iadd C (pc := 79) dX1_nextWind_79 ?_
            refine x_iastn C (pc := 80) dX1_nextWind_80 (lkd_1_1 ht) (fun s18 => ?_)
            refine x_iinc C (pc := 81) (L' := fun i19 => [some (.ref t), none, none, some (.int i2), some (.int i4), some (.int n8), some (.int n9), some (.int n10), some (.int i19), some (.int i16)]) dX1_nextWind_81 rfl kc_i_1 (by decide) (fun _ => rfl) (fun i19 => ?_)
            refine x_goto C (pc := 84) (tgt := 42) dX1_nextWind_84 (by decide) ?_
            exact Xo.done (fun h => Yx.weak (lw_s (lw_n (lw_n (lw_s (lw_s (lw_s (lw_s (lw_s (lw_s (lw_n lw_0)))))))))) h)
        refine x_aload_n C (pc := 87) dX1_nextWind_87 rfl ?_
        refine x_iload_n C (pc := 88) dX1_nextWind_88 rfl ?_
        refine x_callVi C (pc := 89) mv_X1_81 ht rfl [.int i2] (fun _ hr => ct_X1_mostAlike _ ht _ _ _ hr) ⟨Nat.le_of_ble_eq_true rfl, Nat.le_of_ble_eq_true rfl⟩ rfl (Nat.le_of_ble_eq_true rfl) rfl dX1_nextWind_89 (fun r21 => ?_)
        refine x_istore C (pc := 92) (L' := fun i22 => [some (.ref t), none, none, some (.int i2), some (.int i4), some (.int n8), some (.int n9), some (.int n10), some (.int i22), none]) dX1_nextWind_92 (by decide) (fun _ => rfl) (fun i22 => ?_)
        refine x_iload C (pc := 94) dX1_nextWind_94 rfl ?_
        refine x_iload C (pc := 96) dX1_nextWind_96 rfl ?_
        refine xb_2 (Z1 := fun j25 j26 => Yx o 109 [some (.ref t), none, none, some (.int i2), some (.int i4), some (.int j25), some (.int j26), some (.int n10), none, none] [] s20) ?_ (fun j25 j26 => ?_)
        · skip
          refine x_icmp_ge C (pc := 98) (tgt := 109) dX1_nextWind_98 (by decide) (fun _ => ?_) (fun _ => ?_)
          · skip
            exact Xo.done (fun h => Yx.weak (lw_s (lw_n (lw_n (lw_s (lw_s (lw_s (lw_s (lw_s (lw_n (lw_n lw_0)))))))))) h)
          · skip
            refine x_iload C (pc := 101) dX1_nextWind_101 rfl ?_
            refine x_istore C (pc := 103) (L' := fun i23 => [some (.ref t), none, none, some (.int i2), some (.int i4), some (.int i23), some (.int n9), some (.int n10), some (.int i22), none]) dX1_nextWind_103 (by decide) (fun _ => rfl) (fun i23 => ?_)
            refine x_iload C (pc := 105) dX1_nextWind_105 rfl ?_
            refine x_istore C (pc := 107) (L' := fun i24 => [some (.ref t), none, none, some (.int i2), some (.int i4), some (.int i23), some (.int i24), some (.int n10), some (.int i22), none]) dX1_nextWind_107 (by decide) (fun _ => rfl) (fun i24 => ?_)
            exact Xo.done (fun h => Yx.weak (lw_s (lw_n (lw_n (lw_s (lw_s (lw_s (lw_s (lw_s (lw_n (lw_n lw_0)))))))))) h)
        refine x_iinc C (pc := 109) (L' := fun i27 => [some (.ref t), none, none, some (.int i2), some (.int i4), some (.int j25), some (.int j26), some (.int i27), none, none]) dX1_nextWind_109 rfl kc_i_1 (by decide) (fun _ => rfl) (fun i27 => ?_)
        refine x_goto C (pc := 112) (tgt := 28) dX1_nextWind_112 (by decide) ?_
        exact Xo.done (fun h => Yx.weak (lw_s (lw_n (lw_n (lw_s (lw_s (lw_s (lw_s (lw_s (lw_n (lw_n lw_0)))))))))) h)
  refine x_iload C (pc := 115) dX1_nextWind_115 rfl ?_
  exact x_ret dX1_nextWind_117 (fun h => h)
theorem ct_X1_nextWind (t : Nat) (ht : kd t = 1) (a : Nat) (ha : kd a = 4) (b : Int32) (s0 : SS) (r : Int32) (s2 : SS) (h : FX1_nextWind t a b s0 = some (r, s2)) : CT 0 yX1_nextWind cX1_nextWind 10 (some .int) 4 94 [.ref t, .ref a, .int b] s0 (some (.int r)) s2 :=
  ct_of (by decide +kernel) (Or.inr (Or.inl ⟨_, rfl, _, rfl, rfl⟩)) (lx_args [.ref t, .ref a, .int b]) (lx_entry [.ref t, .ref a, .int b] (fun _ => Nat.le_of_ble_eq_true rfl)) (fun o C hR => Yx.weak (lw_s (lw_s (lw_s (lw_z (lw_z (lw_z (lw_z (lw_z (lw_z (lw_z lw_0)))))))))) (bd_X1_nextWind C t ht a ha b s0 (r, s2) h hR))
def FX5_awardOf (a : Int32) (b : Int32) (c : Int32) (s0 : SS) : Option (Int32) :=
  nm ((nI 2) * b) (fun (i1 : Int32) => nm (b + c) (fun (i2 : Int32) => if a = (nI 0) then some (b) else (if a = (nI 1) then some (i1) else (if a = (nI 2) then some (i2) else (if a = (nI 3) then some (((b + (nI 1)) / (nI 2))) else (if a = (nI 4) then if (nI 8) ≤ c then some (((nI 2) * i2)) else (some ((nI 0))) else (if a = (nI 5) then some ((imin i1 (nI 40))) else (some ((nI 0))))))))))
set_option maxRecDepth 100000 in
set_option maxHeartbeats 4000000 in
theorem bd_X5_awardOf {o : Om} (C : Cx o RX5 cX5_awardOf 5 (some .int) (rmx 1 21) 0) (a : Int32) (b : Int32) (c : Int32) (s0 : SS) : Xo (FX5_awardOf a b c s0) (fun r => RT o cX5_awardOf (some (.int r)) s0) (Yx o 0 [some (.int a), some (.int b), some (.int c), none, none] [] s0) := by
  unfold FX5_awardOf
  refine x_iconst C (pc := 0) dX5_awardOf_0 kc_i_2 ?_
  refine x_iload_n C (pc := 1) dX5_awardOf_1 rfl ?_
  refine x_imul C (pc := 2) dX5_awardOf_2 ?_
  refine x_istore_n C (pc := 3) (L' := fun i1 => [some (.int a), some (.int b), some (.int c), some (.int i1), none]) dX5_awardOf_3 (by decide) (fun _ => rfl) (fun i1 => ?_)
  refine x_iload_n C (pc := 4) dX5_awardOf_4 rfl ?_
  refine x_iload_n C (pc := 5) dX5_awardOf_5 rfl ?_
  refine x_iadd C (pc := 6) dX5_awardOf_6 ?_
  refine x_istore C (pc := 7) (L' := fun i2 => [some (.int a), some (.int b), some (.int c), some (.int i1), some (.int i2)]) dX5_awardOf_7 (by decide) (fun _ => rfl) (fun i2 => ?_)
  refine x_iload_n C (pc := 9) dX5_awardOf_9 rfl ?_
  refine Xo.ite (fun hq3 => ?_) (fun hq3 => ?_)
  · refine x_tabI C (pc := 10) (tgt := 48) (off := 38) dX5_awardOf_10 hq3 (by decide +kernel) (by decide +kernel) (by decide +kernel) (by decide) ?_
    refine x_iload_n C (pc := 48) dX5_awardOf_48 rfl ?_
    exact x_ret dX5_awardOf_49 (fun h => h)
  refine Xo.ite (fun hq4 => ?_) (fun hq4 => ?_)
  · refine x_tabI C (pc := 10) (tgt := 50) (off := 40) dX5_awardOf_10 hq4 (by decide +kernel) (by decide +kernel) (by decide +kernel) (by decide) ?_
    refine x_iload_n C (pc := 50) dX5_awardOf_50 rfl ?_
    exact x_ret dX5_awardOf_51 (fun h => h)
  refine Xo.ite (fun hq5 => ?_) (fun hq5 => ?_)
  · refine x_tabI C (pc := 10) (tgt := 52) (off := 42) dX5_awardOf_10 hq5 (by decide +kernel) (by decide +kernel) (by decide +kernel) (by decide) ?_
    refine x_iload C (pc := 52) dX5_awardOf_52 rfl ?_
    exact x_ret dX5_awardOf_54 (fun h => h)
  refine Xo.ite (fun hq6 => ?_) (fun hq6 => ?_)
  · refine x_tabI C (pc := 10) (tgt := 55) (off := 45) dX5_awardOf_10 hq6 (by decide +kernel) (by decide +kernel) (by decide +kernel) (by decide) ?_
    refine x_iload_n C (pc := 55) dX5_awardOf_55 rfl ?_
    refine x_iconst C (pc := 56) dX5_awardOf_56 kc_i_1 ?_
    refine x_iadd C (pc := 57) dX5_awardOf_57 ?_
    refine x_iconst C (pc := 58) dX5_awardOf_58 kc_i_2 ?_
    refine x_idiv C (pc := 59) dX5_awardOf_59 (by decide +kernel) ?_
    exact x_ret dX5_awardOf_60 (fun h => h)
  refine Xo.ite (fun hq7 => ?_) (fun hq7 => ?_)
  · refine x_tabI C (pc := 10) (tgt := 61) (off := 51) dX5_awardOf_10 hq7 (by decide +kernel) (by decide +kernel) (by decide +kernel) (by decide) ?_
    refine x_iload_n C (pc := 61) dX5_awardOf_61 rfl ?_
    refine x_bipush C (pc := 62) dX5_awardOf_62 kc_b_8 ?_
    refine x_icmp_ge C (pc := 64) (tgt := 71) dX5_awardOf_64 (by decide) (fun _ => ?_) (fun _ => ?_)
    · skip
      refine x_iconst C (pc := 71) dX5_awardOf_71 kc_i_2 ?_
      refine x_iload C (pc := 72) dX5_awardOf_72 rfl ?_
      refine x_imul C (pc := 74) dX5_awardOf_74 ?_
      exact x_ret dX5_awardOf_75 (fun h => h)
    · skip
      refine x_iconst C (pc := 67) dX5_awardOf_67 kc_i_0 ?_
      refine x_goto C (pc := 68) (tgt := 75) dX5_awardOf_68 (by decide) ?_
      exact x_ret dX5_awardOf_75 (fun h => h)
  refine Xo.ite (fun hq8 => ?_) (fun hq8 => ?_)
  · refine x_tabI C (pc := 10) (tgt := 76) (off := 66) dX5_awardOf_10 hq8 (by decide +kernel) (by decide +kernel) (by decide +kernel) (by decide) ?_
    refine x_iload_n C (pc := 76) dX5_awardOf_76 rfl ?_
    refine x_bipush C (pc := 77) dX5_awardOf_77 kc_b_40 ?_
    refine x_mmin C (pc := 79) ml_X5_7 tw_mns tw_mai tw_mnc ⟨Nat.le_of_ble_eq_true rfl, Nat.le_of_ble_eq_true rfl⟩ dX5_awardOf_79 ?_
    exact x_ret dX5_awardOf_82 (fun h => h)
  have hT := tab_out (x := a) (lo := 0) (hi := 5) 6 (fun j hj => by
    rcases j with _ | j
    · exact lv_neT hq3 (by decide +kernel)
    rcases j with _ | j
    · exact lv_neT hq4 (by decide +kernel)
    rcases j with _ | j
    · exact lv_neT hq5 (by decide +kernel)
    rcases j with _ | j
    · exact lv_neT hq6 (by decide +kernel)
    rcases j with _ | j
    · exact lv_neT hq7 (by decide +kernel)
    rcases j with _ | j
    · exact lv_neT hq8 (by decide +kernel)
    exact absurd hj (by omega)) (by decide)
  refine x_tabO C (pc := 10) (tgt := 83) dX5_awardOf_10 hT (by decide) ?_
  refine x_iconst C (pc := 83) dX5_awardOf_83 kc_i_0 ?_
  exact x_ret dX5_awardOf_84 (fun h => h)
theorem ct_X5_awardOf (a : Int32) (b : Int32) (c : Int32) (s0 : SS) (r : Int32) (h : FX5_awardOf a b c s0 = some r) : CT 0 yX5_awardOf cX5_awardOf 5 (some .int) 1 21 [.int a, .int b, .int c] s0 (some (.int r)) s0 :=
  ct_of (by decide +kernel) (Or.inr (Or.inl ⟨_, rfl, _, rfl, rfl⟩)) (lx_args [.int a, .int b, .int c]) (lx_entry [.int a, .int b, .int c] (fun _ => Nat.le_of_ble_eq_true rfl)) (fun o C hR => Yx.weak (lw_s (lw_s (lw_s (lw_z (lw_z lw_0))))) (bd_X5_awardOf C a b c s0 r h hR))
def FX1_fitsMarks (a : Nat) (b : Int32) (c : Int32) (s0 : SS) : Option (Int32) :=
  nm (nI 0) (fun (i1 : Int32) => bde (lp FUEL (fun (n2 : Int32) => if (gI s0 a 3) ≤ n2 then some (Sum.inr (Sum.inl ())) else (bd (FX9_at a n2 (nI 0) s0) (fun (r3 : Int32) => if r3 = b then bd (FX9_at a n2 (nI 1) s0) (fun (r4 : Int32) => bd (FX9_at a n2 (nI 2) s0) (fun (r5 : Int32) => bd (FX5_awardOf c r4 r5 s0) (fun (r6 : Int32) => nm r6 (fun (i7 : Int32) => bd (FX9_at a n2 (nI 3) s0) (fun (r8 : Int32) => if i7 = r8 then nm (n2 + (nI 1)) (fun (i9 : Int32) => some (Sum.inl i9)) else (some (Sum.inr (Sum.inr ((nI 0)))))))))) else (nm (n2 + (nI 1)) (fun (i10 : Int32) => some (Sum.inl i10)))))) i1) (fun (_ : Unit) => some ((nI 1))))
set_option maxRecDepth 100000 in
set_option maxHeartbeats 4000000 in
theorem bd_X1_fitsMarks {o : Om} (C : Cx o RX1 cX1_fitsMarks 5 (some .boolean) (rmx 2 45) 0) (a : Nat) (ha : kd a = 7) (b : Int32) (c : Int32) (s0 : SS) : Xo (FX1_fitsMarks a b c s0) (fun r => zb r = true → RT o cX1_fitsMarks (some (.int r)) s0) (Yx o 0 [some (.ref a), some (.int b), some (.int c), none, none] [] s0) := by
  unfold FX1_fitsMarks
  refine x_iconst C (pc := 0) dX1_fitsMarks_0 kc_i_0 ?_
  refine x_istore_n C (pc := 1) (L' := fun i1 => [some (.ref a), some (.int b), some (.int c), some (.int i1), none]) dX1_fitsMarks_1 (by decide) (fun _ => rfl) (fun i1 => ?_)
  refine xe_0 (Z1 := (fun (_ : Unit) => Yx o 57 [none, none, none, none, none] [] s0)) ?_ (fun _ => ?_)
  · refine Xo.mono (Yx.weak (lw_s (lw_s (lw_s (lw_s (lw_n lw_0)))))) (x_lp1 (fr := fun n2 => Yx o 2 [some (.ref a), some (.int b), some (.int c), some (.int n2), none] [] s0) _ (fun n2 => ?_))
    refine x_iload_n C (pc := 2) dX1_fitsMarks_2 rfl ?_
    refine x_aload_n C (pc := 3) dX1_fitsMarks_3 rfl ?_
    refine x_getI C (pc := 4) fg_X1_35 dX1_fitsMarks_4 ha ?_
    refine x_icmp_ge C (pc := 7) (tgt := 57) dX1_fitsMarks_7 (by decide) (fun _ => ?_) (fun _ => ?_)
    · skip
      exact Xo.done (fun h => Yx.weak (lw_n (lw_n (lw_n (lw_n (lw_n lw_0))))) h)
    · skip
      refine x_aload_n C (pc := 10) dX1_fitsMarks_10 rfl ?_
      refine x_iload_n C (pc := 11) dX1_fitsMarks_11 rfl ?_
      refine x_iconst C (pc := 12) dX1_fitsMarks_12 kc_i_0 ?_
      refine x_callVi C (pc := 13) mv_X1_47 ha rfl [.int n2, .int (nI 0)] (fun _ hr => ct_X9_at _ ha _ _ _ _ hr) ⟨Nat.le_of_ble_eq_true rfl, Nat.le_of_ble_eq_true rfl⟩ rfl (Nat.le_of_ble_eq_true rfl) rfl dX1_fitsMarks_13 (fun r3 => ?_)
      refine x_iload_n C (pc := 16) dX1_fitsMarks_16 rfl ?_
      refine x_icmp_ne C (pc := 17) (tgt := 51) dX1_fitsMarks_17 (by decide) (fun _ => ?_) (fun _ => ?_)
      · skip
        refine x_iload_n C (pc := 20) dX1_fitsMarks_20 rfl ?_
        refine x_aload_n C (pc := 21) dX1_fitsMarks_21 rfl ?_
        refine x_iload_n C (pc := 22) dX1_fitsMarks_22 rfl ?_
        refine x_iconst C (pc := 23) dX1_fitsMarks_23 kc_i_1 ?_
        refine x_callVi C (pc := 24) mv_X1_47 ha rfl [.int n2, .int (nI 1)] (fun _ hr => ct_X9_at _ ha _ _ _ _ hr) ⟨Nat.le_of_ble_eq_true rfl, Nat.le_of_ble_eq_true rfl⟩ rfl (Nat.le_of_ble_eq_true rfl) rfl dX1_fitsMarks_24 (fun r4 => ?_)
        refine x_aload_n C (pc := 27) dX1_fitsMarks_27 rfl ?_
        refine x_iload_n C (pc := 28) dX1_fitsMarks_28 rfl ?_
        refine x_iconst C (pc := 29) dX1_fitsMarks_29 kc_i_2 ?_
        refine x_callVi C (pc := 30) mv_X1_47 ha rfl [.int n2, .int (nI 2)] (fun _ hr => ct_X9_at _ ha _ _ _ _ hr) ⟨Nat.le_of_ble_eq_true rfl, Nat.le_of_ble_eq_true rfl⟩ rfl (Nat.le_of_ble_eq_true rfl) rfl dX1_fitsMarks_30 (fun r5 => ?_)
        refine x_callSi C (pc := 33) ms_X1_90 [.int c, .int r4, .int r5] (fun _ hr => ct_X5_awardOf _ _ _ _ _ hr) ⟨Nat.le_of_ble_eq_true rfl, Nat.le_of_ble_eq_true rfl⟩ rfl (Nat.le_of_ble_eq_true rfl) rfl dX1_fitsMarks_33 (fun r6 => ?_)
        refine x_istore C (pc := 36) (L' := fun i7 => [some (.ref a), some (.int b), some (.int c), some (.int n2), some (.int i7)]) dX1_fitsMarks_36 (by decide) (fun _ => rfl) (fun i7 => ?_)
        refine x_iload C (pc := 38) dX1_fitsMarks_38 rfl ?_
        refine x_aload_n C (pc := 40) dX1_fitsMarks_40 rfl ?_
        refine x_iload_n C (pc := 41) dX1_fitsMarks_41 rfl ?_
        refine x_iconst C (pc := 42) dX1_fitsMarks_42 kc_i_3 ?_
        refine x_callVi C (pc := 43) mv_X1_47 ha rfl [.int n2, .int (nI 3)] (fun _ hr => ct_X9_at _ ha _ _ _ _ hr) ⟨Nat.le_of_ble_eq_true rfl, Nat.le_of_ble_eq_true rfl⟩ rfl (Nat.le_of_ble_eq_true rfl) rfl dX1_fitsMarks_43 (fun r8 => ?_)
        refine x_icmp_eq C (pc := 46) (tgt := 51) dX1_fitsMarks_46 (by decide) (fun _ => ?_) (fun _ => ?_)
        · skip
          refine x_iinc C (pc := 51) (L' := fun i9 => [some (.ref a), some (.int b), some (.int c), some (.int i9), some (.int i7)]) dX1_fitsMarks_51 rfl kc_i_1 (by decide) (fun _ => rfl) (fun i9 => ?_)
          refine x_goto C (pc := 54) (tgt := 2) dX1_fitsMarks_54 (by decide) ?_
          exact Xo.done (fun h => Yx.weak (lw_s (lw_s (lw_s (lw_s (lw_n lw_0))))) h)
        · skip
          refine x_iconst C (pc := 49) dX1_fitsMarks_49 kc_i_0 ?_
          exact x_ret dX1_fitsMarks_50 (fun h => h zb_0)
      · skip
        refine x_iinc C (pc := 51) (L' := fun i10 => [some (.ref a), some (.int b), some (.int c), some (.int i10), none]) dX1_fitsMarks_51 rfl kc_i_1 (by decide) (fun _ => rfl) (fun i10 => ?_)
        refine x_goto C (pc := 54) (tgt := 2) dX1_fitsMarks_54 (by decide) ?_
        exact Xo.done (fun h => Yx.weak (lw_s (lw_s (lw_s (lw_s (lw_n lw_0))))) h)
  refine x_iconst C (pc := 57) dX1_fitsMarks_57 kc_i_1 ?_
  exact x_ret dX1_fitsMarks_58 (fun h => h zb_1)
theorem ct_X1_fitsMarks (a : Nat) (ha : kd a = 7) (b : Int32) (c : Int32) (s0 : SS) (r : Int32) (h : FX1_fitsMarks a b c s0 = some r) : CT 0 yX1_fitsMarks cX1_fitsMarks 5 (some .boolean) 2 45 [.ref a, .int b, .int c] s0 (some (.int r)) s0 :=
  ct_ofz (by decide +kernel) rfl (lx_args [.ref a, .int b, .int c]) (lx_entry [.ref a, .int b, .int c] (fun _ => Nat.le_of_ble_eq_true rfl)) (fun o C hR => Yx.weak (lw_s (lw_s (lw_s (lw_z (lw_z lw_0))))) (bd_X1_fitsMarks C a ha b c s0 r h hR))
def FX1_suitKinds (t : Nat) (a : Nat) (b : Int32) (s0 : SS) : Option (Int32) :=
  nm (nI 0) (fun (i1 : Int32) => nm (nI 0) (fun (i2 : Int32) => bd (lp FUEL (u2 (fun (n3 : Int32) (n4 : Int32) => if (nI 6) ≤ n4 then some (Sum.inr n3) else (bd (FX1_fitsMarks (lk a 6) b n4 s0) (fun (r5 : Int32) => bd (if r5 = 0 then some (n3) else (nm (n3 ||| ((nI 1) <<< (n4 &&& 31))) (fun (i6 : Int32) => some (i6)))) (fun (j7 : Int32) => nm (n4 + (nI 1)) (fun (i8 : Int32) => some (Sum.inl (j7, i8)))))))) (i1, i2)) (fun (e9 : Int32) => some (e9))))
set_option maxRecDepth 100000 in
set_option maxHeartbeats 4000000 in
theorem bd_X1_suitKinds {o : Om} (C : Cx o RX1 cX1_suitKinds 5 (some .int) (rmx 3 69) 0) (t : Nat) (ht : kd t = 1) (a : Nat) (ha : kd a = 4) (b : Int32) (s0 : SS) : Xo (FX1_suitKinds t a b s0) (fun r => RT o cX1_suitKinds (some (.int r)) s0) (Yx o 0 [some (.ref t), some (.ref a), some (.int b), none, none] [] s0) := by
  unfold FX1_suitKinds
  refine x_iconst C (pc := 0) dX1_suitKinds_0 kc_i_0 ?_
  refine x_istore_n C (pc := 1) (L' := fun i1 => [some (.ref t), some (.ref a), some (.int b), some (.int i1), none]) dX1_suitKinds_1 (by decide) (fun _ => rfl) (fun i1 => ?_)
  refine x_iconst C (pc := 2) dX1_suitKinds_2 kc_i_0 ?_
  refine x_istore C (pc := 3) (L' := fun i2 => [some (.ref t), some (.ref a), some (.int b), some (.int i1), some (.int i2)]) dX1_suitKinds_3 (by decide) (fun _ => rfl) (fun i2 => ?_)
  refine xb_1 (Z1 := (fun e9 => Yx o 38 [none, none, none, some (.int e9), none] [] s0)) ?_ (fun e9 => ?_)
  · refine Xo.mono (Yx.weak (lw_n (lw_s (lw_s (lw_s (lw_s lw_0)))))) (x_lp2 (fr := fun n3 n4 => Yx o 5 [none, some (.ref a), some (.int b), some (.int n3), some (.int n4)] [] s0) _ _ (fun n3 n4 => ?_))
    refine x_iload C (pc := 5) dX1_suitKinds_5 rfl ?_
    refine x_bipush C (pc := 7) dX1_suitKinds_7 kc_b_6 ?_
    refine x_icmp_ge C (pc := 9) (tgt := 38) dX1_suitKinds_9 (by decide) (fun _ => ?_) (fun _ => ?_)
    · skip
      exact Xo.done (fun h => Yx.weak (lw_n (lw_n (lw_n (lw_s (lw_n lw_0))))) h)
    · skip
      refine x_aload_n C (pc := 12) dX1_suitKinds_12 rfl ?_
      refine x_getR C (pc := 13) fg_X1_84 dX1_suitKinds_13 ha ?_
      refine x_iload_n C (pc := 16) dX1_suitKinds_16 rfl ?_
      refine x_iload C (pc := 17) dX1_suitKinds_17 rfl ?_
      refine x_callSi C (pc := 19) ms_X1_87 [.ref (lk a 6), .int b, .int n4] (fun _ hr => ct_X1_fitsMarks _ (lkd_4_6 ha) _ _ _ _ hr) ⟨Nat.le_of_ble_eq_true rfl, Nat.le_of_ble_eq_true rfl⟩ rfl (Nat.le_of_ble_eq_true rfl) rfl dX1_suitKinds_19 (fun r5 => ?_)
      refine xb_1 (Z1 := fun j7 => Yx o 32 [none, some (.ref a), some (.int b), some (.int j7), some (.int n4)] [] s0) ?_ (fun j7 => ?_)
      · skip
        refine x_if_eq C (pc := 22) (tgt := 32) dX1_suitKinds_22 (by decide) (fun _ => ?_) (fun _ => ?_)
        · skip
          exact Xo.done (fun h => Yx.weak (lw_n (lw_s (lw_s (lw_s (lw_s lw_0))))) h)
        · skip
          refine x_iload_n C (pc := 25) dX1_suitKinds_25 rfl ?_
          refine x_iconst C (pc := 26) dX1_suitKinds_26 kc_i_1 ?_
          refine x_iload C (pc := 27) dX1_suitKinds_27 rfl ?_
          refine x_ishl C (pc := 29) dX1_suitKinds_29 ?_
          refine x_ior C (pc := 30) dX1_suitKinds_30 ?_
          refine x_istore_n C (pc := 31) (L' := fun i6 => [none, some (.ref a), some (.int b), some (.int i6), some (.int n4)]) dX1_suitKinds_31 (by decide) (fun _ => rfl) (fun i6 => ?_)
          exact Xo.done (fun h => Yx.weak (lw_n (lw_s (lw_s (lw_s (lw_s lw_0))))) h)
      refine x_iinc C (pc := 32) (L' := fun i8 => [none, some (.ref a), some (.int b), some (.int j7), some (.int i8)]) dX1_suitKinds_32 rfl kc_i_1 (by decide) (fun _ => rfl) (fun i8 => ?_)
      refine x_goto C (pc := 35) (tgt := 5) dX1_suitKinds_35 (by decide) ?_
      exact Xo.done (fun h => Yx.weak (lw_n (lw_s (lw_s (lw_s (lw_s lw_0))))) h)
  refine x_iload_n C (pc := 38) dX1_suitKinds_38 rfl ?_
  exact x_ret dX1_suitKinds_39 (fun h => h)
theorem ct_X1_suitKinds (t : Nat) (ht : kd t = 1) (a : Nat) (ha : kd a = 4) (b : Int32) (s0 : SS) (r : Int32) (h : FX1_suitKinds t a b s0 = some r) : CT 0 yX1_suitKinds cX1_suitKinds 5 (some .int) 3 69 [.ref t, .ref a, .int b] s0 (some (.int r)) s0 :=
  ct_of (by decide +kernel) (Or.inr (Or.inl ⟨_, rfl, _, rfl, rfl⟩)) (lx_args [.ref t, .ref a, .int b]) (lx_entry [.ref t, .ref a, .int b] (fun _ => Nat.le_of_ble_eq_true rfl)) (fun o C hR => Yx.weak (lw_s (lw_s (lw_s (lw_z (lw_z lw_0))))) (bd_X1_suitKinds C t ht a ha b s0 r h hR))
def FX1_nextTry (t : Nat) (a : Nat) (b : Int32) (s0 : SS) : Option (Int32 × SS) :=
  bd (FX1_suitKinds t a b s0) (fun (r1 : Int32) => nm r1 (fun (i2 : Int32) => nm (nI 7) (fun (i3 : Int32) => nm (-1 : Int32) (fun (i4 : Int32) => nm (nI 0) (fun (i5 : Int32) => bd (lp FUEL (u4 (fun (n6 : Int32) (n7 : Int32) (n8 : Int32) (s9 : SS) => if (nI 310) ≤ n8 then some (Sum.inr (n7, s9)) else (if i2 = 0 then some (Sum.inr (n7, s9)) else (nm (nI 0) (fun (i10 : Int32) => bd (lp FUEL (u2 (fun (n11 : Int32) (s12 : SS) => if (nI 6) ≤ n11 then some (Sum.inr s12) else (bd (FX5_awardOf n11 (n8 / (nI 10)) (n8 - n8 / (nI 10) * (nI 10)) s12) (fun (r13 : Int32) => gd (inb n11 (ln (lk t 1))) (nm (pI s12 (lk t 1) (Int32.toNatClampNeg n11) r13) (fun (s14 : SS) => nm (n11 + (nI 1)) (fun (i15 : Int32) => some (Sum.inl (i15, s14))))))))) (i10, s9)) (fun (s16 : SS) => bd (FX1_mostAlike t i2 s16) (fun (r17 : Int32) => nm r17 (fun (i18 : Int32) => bd (if n6 ≤ i18 then some ((n6, n7)) else (nm i18 (fun (i19 : Int32) => nm n8 (fun (i20 : Int32) => some ((i19, i20)))))) (u2 (fun (j21 : Int32) (j22 : Int32) => nm (n8 + (nI 1)) (fun (i23 : Int32) => some (Sum.inl (j21, j22, i23, s16))))))))))))) (i3, i4, i5, s0)) (u2 (fun (e24 : Int32) (s25 : SS) => some ((e24, s25)))))))))
set_option maxRecDepth 100000 in
set_option maxHeartbeats 4000000 in
theorem bd_X1_nextTry {o : Om} (C : Cx o RX1 cX1_nextTry 8 (some .int) (rmx 4 93) 0) (t : Nat) (ht : kd t = 1) (a : Nat) (ha : kd a = 4) (b : Int32) (s0 : SS) : Xo (FX1_nextTry t a b s0) (fun r => RT o cX1_nextTry (some (.int r.1)) r.2) (Yx o 0 [some (.ref t), some (.ref a), some (.int b), none, none, none, none, none] [] s0) := by
  unfold FX1_nextTry
  refine x_aload_n C (pc := 0) dX1_nextTry_0 rfl ?_
  refine x_aload_n C (pc := 1) dX1_nextTry_1 rfl ?_
  refine x_iload_n C (pc := 2) dX1_nextTry_2 rfl ?_
  refine x_callVi C (pc := 3) mv_X1_93 ht rfl [.ref a, .int b] (fun _ hr => ct_X1_suitKinds _ ht _ ha _ _ _ hr) ⟨Nat.le_of_ble_eq_true rfl, Nat.le_of_ble_eq_true rfl⟩ rfl (Nat.le_of_ble_eq_true rfl) rfl dX1_nextTry_3 (fun r1 => ?_)
  refine x_istore_n C (pc := 6) (L' := fun i2 => [some (.ref t), some (.ref a), some (.int b), some (.int i2), none, none, none, none]) dX1_nextTry_6 (by decide) (fun _ => rfl) (fun i2 => ?_)
  refine x_bipush C (pc := 7) dX1_nextTry_7 kc_b_7 ?_
  refine x_istore C (pc := 9) (L' := fun i3 => [some (.ref t), some (.ref a), some (.int b), some (.int i2), some (.int i3), none, none, none]) dX1_nextTry_9 (by decide) (fun _ => rfl) (fun i3 => ?_)
  refine x_iconst C (pc := 11) dX1_nextTry_11 kc_i_m1 ?_
  refine x_istore C (pc := 12) (L' := fun i4 => [some (.ref t), some (.ref a), some (.int b), some (.int i2), some (.int i3), some (.int i4), none, none]) dX1_nextTry_12 (by decide) (fun _ => rfl) (fun i4 => ?_)
  refine x_iconst C (pc := 14) dX1_nextTry_14 kc_i_0 ?_
  refine x_istore C (pc := 15) (L' := fun i5 => [some (.ref t), some (.ref a), some (.int b), some (.int i2), some (.int i3), some (.int i4), some (.int i5), none]) dX1_nextTry_15 (by decide) (fun _ => rfl) (fun i5 => ?_)
  refine xb_2 (Z1 := (fun e24 s25 => Yx o 95 [none, none, none, none, none, some (.int e24), none, none] [] s25)) ?_ (fun e24 s25 => ?_)
  · refine Xo.mono (Yx.weak (lw_s (lw_n (lw_n (lw_s (lw_s (lw_s (lw_s (lw_n lw_0))))))))) (x_lp4 (fr := fun n6 n7 n8 s9 => Yx o 17 [some (.ref t), none, none, some (.int i2), some (.int n6), some (.int n7), some (.int n8), none] [] s9) _ _ _ _ (fun n6 n7 n8 s9 => ?_))
    refine x_iload C (pc := 17) dX1_nextTry_17 rfl ?_
    refine x_sipush C (pc := 19) dX1_nextTry_19 kc_s_310 ?_
    refine x_icmp_ge C (pc := 22) (tgt := 95) dX1_nextTry_22 (by decide) (fun _ => ?_) (fun _ => ?_)
    · skip
      exact Xo.done (fun h => Yx.weak (lw_n (lw_n (lw_n (lw_n (lw_n (lw_s (lw_n (lw_n lw_0)))))))) h)
    · skip
      refine x_iload_n C (pc := 25) dX1_nextTry_25 rfl ?_
      refine x_if_eq C (pc := 26) (tgt := 95) dX1_nextTry_26 (by decide) (fun _ => ?_) (fun _ => ?_)
      · skip
        exact Xo.done (fun h => Yx.weak (lw_n (lw_n (lw_n (lw_n (lw_n (lw_s (lw_n (lw_n lw_0)))))))) h)
      · skip
        refine x_iconst C (pc := 29) dX1_nextTry_29 kc_i_0 ?_
        refine x_istore C (pc := 30) (L' := fun i10 => [some (.ref t), none, none, some (.int i2), some (.int n6), some (.int n7), some (.int n8), some (.int i10)]) dX1_nextTry_30 (by decide) (fun _ => rfl) (fun i10 => ?_)
        refine xb_1 (Z1 := (fun s16 => Yx o 67 [some (.ref t), none, none, some (.int i2), some (.int n6), some (.int n7), some (.int n8), none] [] s16)) ?_ (fun s16 => ?_)
        · refine Xo.mono (Yx.weak (lw_s (lw_n (lw_n (lw_s (lw_s (lw_s (lw_s (lw_s lw_0))))))))) (x_lp2 (fr := fun n11 s12 => Yx o 32 [some (.ref t), none, none, some (.int i2), some (.int n6), some (.int n7), some (.int n8), some (.int n11)] [] s12) _ _ (fun n11 s12 => ?_))
          refine x_iload C (pc := 32) dX1_nextTry_32 rfl ?_
          refine x_bipush C (pc := 34) dX1_nextTry_34 kc_b_6 ?_
          refine x_icmp_ge C (pc := 36) (tgt := 67) dX1_nextTry_36 (by decide) (fun _ => ?_) (fun _ => ?_)
          · skip
            exact Xo.done (fun h => Yx.weak (lw_s (lw_n (lw_n (lw_s (lw_s (lw_s (lw_s (lw_n lw_0)))))))) h)
          · skip
            refine x_aload_n C (pc := 39) dX1_nextTry_39 rfl ?_
            refine x_getR C (pc := 40) fg_X1_9 dX1_nextTry_40 ht ?_
            refine x_iload C (pc := 43) dX1_nextTry_43 rfl ?_
            refine x_iload C (pc := 45) dX1_nextTry_45 rfl ?_
            refine x_iload C (pc := 47) dX1_nextTry_47 rfl ?_
            refine x_bipush C (pc := 49) dX1_nextTry_49 kc_b_10 ?_
            refine x_idiv C (pc := 51) dX1_nextTry_51 (by decide +kernel) ?_
            refine x_iload C (pc := 52) dX1_nextTry_52 rfl ?_
            refine x_bipush C (pc := 54) dX1_nextTry_54 kc_b_10 ?_
            refine x_irem C (pc := 56) dX1_nextTry_56 (by decide +kernel) ?_
            refine x_callSi C (pc := 57) ms_X1_90 [.int n11, .int (n8 / (nI 10)), .int (n8 - n8 / (nI 10) * (nI 10))] (fun _ hr => ct_X5_awardOf _ _ _ _ _ hr) ⟨Nat.le_of_ble_eq_true rfl, Nat.le_of_ble_eq_true rfl⟩ rfl (Nat.le_of_ble_eq_true rfl) rfl dX1_nextTry_57 (fun r13 => ?_)
            refine x_iastn C (pc := 60) dX1_nextTry_60 (lkd_1_1 ht) (fun s14 => ?_)
            refine x_iinc C (pc := 61) (L' := fun i15 => [some (.ref t), none, none, some (.int i2), some (.int n6), some (.int n7), some (.int n8), some (.int i15)]) dX1_nextTry_61 rfl kc_i_1 (by decide) (fun _ => rfl) (fun i15 => ?_)
            refine x_goto C (pc := 64) (tgt := 32) dX1_nextTry_64 (by decide) ?_
            exact Xo.done (fun h => Yx.weak (lw_s (lw_n (lw_n (lw_s (lw_s (lw_s (lw_s (lw_s lw_0)))))))) h)
        refine x_aload_n C (pc := 67) dX1_nextTry_67 rfl ?_
        refine x_iload_n C (pc := 68) dX1_nextTry_68 rfl ?_
        refine x_callVi C (pc := 69) mv_X1_81 ht rfl [.int i2] (fun _ hr => ct_X1_mostAlike _ ht _ _ _ hr) ⟨Nat.le_of_ble_eq_true rfl, Nat.le_of_ble_eq_true rfl⟩ rfl (Nat.le_of_ble_eq_true rfl) rfl dX1_nextTry_69 (fun r17 => ?_)
        refine x_istore C (pc := 72) (L' := fun i18 => [some (.ref t), none, none, some (.int i2), some (.int n6), some (.int n7), some (.int n8), some (.int i18)]) dX1_nextTry_72 (by decide) (fun _ => rfl) (fun i18 => ?_)
        refine x_iload C (pc := 74) dX1_nextTry_74 rfl ?_
        refine x_iload C (pc := 76) dX1_nextTry_76 rfl ?_
        refine xb_2 (Z1 := fun j21 j22 => Yx o 89 [some (.ref t), none, none, some (.int i2), some (.int j21), some (.int j22), some (.int n8), none] [] s16) ?_ (fun j21 j22 => ?_)
        · skip
          refine x_icmp_ge C (pc := 78) (tgt := 89) dX1_nextTry_78 (by decide) (fun _ => ?_) (fun _ => ?_)
          · skip
            exact Xo.done (fun h => Yx.weak (lw_s (lw_n (lw_n (lw_s (lw_s (lw_s (lw_s (lw_n lw_0)))))))) h)
          · skip
            refine x_iload C (pc := 81) dX1_nextTry_81 rfl ?_
            refine x_istore C (pc := 83) (L' := fun i19 => [some (.ref t), none, none, some (.int i2), some (.int i19), some (.int n7), some (.int n8), some (.int i18)]) dX1_nextTry_83 (by decide) (fun _ => rfl) (fun i19 => ?_)
            refine x_iload C (pc := 85) dX1_nextTry_85 rfl ?_
            refine x_istore C (pc := 87) (L' := fun i20 => [some (.ref t), none, none, some (.int i2), some (.int i19), some (.int i20), some (.int n8), some (.int i18)]) dX1_nextTry_87 (by decide) (fun _ => rfl) (fun i20 => ?_)
            exact Xo.done (fun h => Yx.weak (lw_s (lw_n (lw_n (lw_s (lw_s (lw_s (lw_s (lw_n lw_0)))))))) h)
        refine x_iinc C (pc := 89) (L' := fun i23 => [some (.ref t), none, none, some (.int i2), some (.int j21), some (.int j22), some (.int i23), none]) dX1_nextTry_89 rfl kc_i_1 (by decide) (fun _ => rfl) (fun i23 => ?_)
        refine x_goto C (pc := 92) (tgt := 17) dX1_nextTry_92 (by decide) ?_
        exact Xo.done (fun h => Yx.weak (lw_s (lw_n (lw_n (lw_s (lw_s (lw_s (lw_s (lw_n lw_0)))))))) h)
  refine x_iload C (pc := 95) dX1_nextTry_95 rfl ?_
  exact x_ret dX1_nextTry_97 (fun h => h)
theorem ct_X1_nextTry (t : Nat) (ht : kd t = 1) (a : Nat) (ha : kd a = 4) (b : Int32) (s0 : SS) (r : Int32) (s2 : SS) (h : FX1_nextTry t a b s0 = some (r, s2)) : CT 0 yX1_nextTry cX1_nextTry 8 (some .int) 4 93 [.ref t, .ref a, .int b] s0 (some (.int r)) s2 :=
  ct_of (by decide +kernel) (Or.inr (Or.inl ⟨_, rfl, _, rfl, rfl⟩)) (lx_args [.ref t, .ref a, .int b]) (lx_entry [.ref t, .ref a, .int b] (fun _ => Nat.le_of_ble_eq_true rfl)) (fun o C hR => Yx.weak (lw_s (lw_s (lw_s (lw_z (lw_z (lw_z (lw_z (lw_z lw_0)))))))) (bd_X1_nextTry C t ht a ha b s0 (r, s2) h hR))
def FX4_duesOf (t : Nat) (a : Int32) (s0 : SS) : Option (Int32) :=
  bd (FX9_at (lk t 2) a (nI 3) s0) (fun (r1 : Int32) => some (r1))
set_option maxRecDepth 100000 in
set_option maxHeartbeats 4000000 in
theorem bd_X4_duesOf {o : Om} (C : Cx o RX4 cX4_duesOf 2 (some .int) (rmx 1 22) 0) (t : Nat) (ht : kd t = 4) (a : Int32) (s0 : SS) : Xo (FX4_duesOf t a s0) (fun r => RT o cX4_duesOf (some (.int r)) s0) (Yx o 0 [some (.ref t), some (.int a)] [] s0) := by
  unfold FX4_duesOf
  refine x_aload_n C (pc := 0) dX4_duesOf_0 rfl ?_
  refine x_getR C (pc := 1) fg_X4_23 dX4_duesOf_1 ht ?_
  refine x_iload_n C (pc := 4) dX4_duesOf_4 rfl ?_
  refine x_iconst C (pc := 5) dX4_duesOf_5 kc_i_3 ?_
  refine x_callVi C (pc := 6) mv_X4_87 (lkd_4_2 ht) rfl [.int a, .int (nI 3)] (fun _ hr => ct_X9_at _ (lkd_4_2 ht) _ _ _ _ hr) ⟨Nat.le_of_ble_eq_true rfl, Nat.le_of_ble_eq_true rfl⟩ rfl (Nat.le_of_ble_eq_true rfl) rfl dX4_duesOf_6 (fun r1 => ?_)
  exact x_ret dX4_duesOf_9 (fun h => h)
theorem ct_X4_duesOf (t : Nat) (ht : kd t = 4) (a : Int32) (s0 : SS) (r : Int32) (h : FX4_duesOf t a s0 = some r) : CT 0 yX4_duesOf cX4_duesOf 2 (some .int) 1 22 [.ref t, .int a] s0 (some (.int r)) s0 :=
  ct_of (by decide +kernel) (Or.inr (Or.inl ⟨_, rfl, _, rfl, rfl⟩)) (lx_args [.ref t, .int a]) (lx_entry [.ref t, .int a] (fun _ => Nat.le_of_ble_eq_true rfl)) (fun o C hR => Yx.weak (lw_s (lw_s lw_0)) (bd_X4_duesOf C t ht a s0 r h hR))
def FX2_duesBehind (t : Nat) (a : Nat) (b : Int32) (c : Int32) (s0 : SS) : Option (Int32 × SS) :=
  bd (FX4_duesOf a b s0) (fun (r1 : Int32) => nm r1 (fun (i2 : Int32) => nm (nI 0) (fun (i3 : Int32) => bd (lp FUEL (u3 (fun (n4 : Int32) (n5 : Int32) (s6 : SS) => if c ≤ n5 then some (Sum.inr (n4, s6)) else (bd (FX0_goInHour (lk t 0) a ((gI s6 a 8) + n5) (nI 127) s6) (fun (s7 : SS) => bd (FX0_rentOf (lk t 0) (lk a 2) b s7) (fun (r8 : Int32) => nm (n4 + r8) (fun (i9 : Int32) => nm (n5 + (nI 1)) (fun (i10 : Int32) => some (Sum.inl (i9, i10, s7))))))))) (i2, i3, s0)) (u2 (fun (e11 : Int32) (s12 : SS) => some ((e11, s12)))))))
set_option maxRecDepth 100000 in
set_option maxHeartbeats 4000000 in
theorem bd_X2_duesBehind {o : Om} (C : Cx o RX2 cX2_duesBehind 6 (some .int) (rmx 4 101) 0) (t : Nat) (ht : kd t = 2) (a : Nat) (ha : kd a = 4) (b : Int32) (c : Int32) (s0 : SS) : Xo (FX2_duesBehind t a b c s0) (fun r => RT o cX2_duesBehind (some (.int r.1)) r.2) (Yx o 0 [some (.ref t), some (.ref a), some (.int b), some (.int c), none, none] [] s0) := by
  unfold FX2_duesBehind
  refine x_aload_n C (pc := 0) dX2_duesBehind_0 rfl ?_
  refine x_iload_n C (pc := 1) dX2_duesBehind_1 rfl ?_
  refine x_callVi C (pc := 2) mv_X2_28 ha rfl [.int b] (fun _ hr => ct_X4_duesOf _ ha _ _ _ hr) ⟨Nat.le_of_ble_eq_true rfl, Nat.le_of_ble_eq_true rfl⟩ rfl (Nat.le_of_ble_eq_true rfl) rfl dX2_duesBehind_2 (fun r1 => ?_)
  refine x_istore C (pc := 5) (L' := fun i2 => [some (.ref t), some (.ref a), some (.int b), some (.int c), some (.int i2), none]) dX2_duesBehind_5 (by decide) (fun _ => rfl) (fun i2 => ?_)
  refine x_iconst C (pc := 7) dX2_duesBehind_7 kc_i_0 ?_
  refine x_istore C (pc := 8) (L' := fun i3 => [some (.ref t), some (.ref a), some (.int b), some (.int c), some (.int i2), some (.int i3)]) dX2_duesBehind_8 (by decide) (fun _ => rfl) (fun i3 => ?_)
  refine xb_2 (Z1 := (fun e11 s12 => Yx o 56 [none, none, none, none, some (.int e11), none] [] s12)) ?_ (fun e11 s12 => ?_)
  · refine Xo.mono (Yx.weak (lw_s (lw_s (lw_s (lw_s (lw_s (lw_s lw_0))))))) (x_lp3 (fr := fun n4 n5 s6 => Yx o 10 [some (.ref t), some (.ref a), some (.int b), some (.int c), some (.int n4), some (.int n5)] [] s6) _ _ _ (fun n4 n5 s6 => ?_))
    refine x_iload C (pc := 10) dX2_duesBehind_10 rfl ?_
    refine x_iload_n C (pc := 12) dX2_duesBehind_12 rfl ?_
    refine x_icmp_ge C (pc := 13) (tgt := 56) dX2_duesBehind_13 (by decide) (fun _ => ?_) (fun _ => ?_)
    · skip
      exact Xo.done (fun h => Yx.weak (lw_n (lw_n (lw_n (lw_n (lw_s (lw_n lw_0)))))) h)
    · skip
      refine x_aload_n C (pc := 16) dX2_duesBehind_16 rfl ?_
      refine x_getR C (pc := 17) fg_X2_24 dX2_duesBehind_17 ht ?_
      refine x_aload_n C (pc := 20) dX2_duesBehind_20 rfl ?_
      refine x_aload_n C (pc := 21) dX2_duesBehind_21 rfl ?_
      refine x_getI C (pc := 22) fg_X2_34 dX2_duesBehind_22 ha ?_
      refine x_iload C (pc := 25) dX2_duesBehind_25 rfl ?_
      refine x_iadd C (pc := 27) dX2_duesBehind_27 ?_
      refine x_bipush C (pc := 28) dX2_duesBehind_28 kc_b_127 ?_
      refine x_callVv C (pc := 30) mv_X2_38 (lkd_2_0 ht) rfl [.ref a, .int ((gI s6 a 8) + n5), .int (nI 127)] (fun _ hr => ct_X0_goInHour _ (lkd_2_0 ht) _ ha _ _ _ _ hr) ⟨Nat.le_of_ble_eq_true rfl, Nat.le_of_ble_eq_true rfl⟩ rfl (Nat.le_of_ble_eq_true rfl) rfl dX2_duesBehind_30 (fun s7 => ?_)
      refine x_iload C (pc := 33) dX2_duesBehind_33 rfl ?_
      refine x_aload_n C (pc := 35) dX2_duesBehind_35 rfl ?_
      refine x_getR C (pc := 36) fg_X2_24 dX2_duesBehind_36 ht ?_
      refine x_aload_n C (pc := 39) dX2_duesBehind_39 rfl ?_
      refine x_getR C (pc := 40) fg_X2_44 dX2_duesBehind_40 ha ?_
      refine x_iload_n C (pc := 43) dX2_duesBehind_43 rfl ?_
      refine x_callVi C (pc := 44) mv_X2_47 (lkd_2_0 ht) rfl [.ref (lk a 2), .int b] (fun _ hr => ct_X0_rentOf _ (lkd_2_0 ht) _ (lkd_4_2 ha) _ _ _ hr) ⟨Nat.le_of_ble_eq_true rfl, Nat.le_of_ble_eq_true rfl⟩ rfl (Nat.le_of_ble_eq_true rfl) rfl dX2_duesBehind_44 (fun r8 => ?_)
      refine x_iadd C (pc := 47) dX2_duesBehind_47 ?_
      refine x_istore C (pc := 48) (L' := fun i9 => [some (.ref t), some (.ref a), some (.int b), some (.int c), some (.int i9), some (.int n5)]) dX2_duesBehind_48 (by decide) (fun _ => rfl) (fun i9 => ?_)
      refine x_iinc C (pc := 50) (L' := fun i10 => [some (.ref t), some (.ref a), some (.int b), some (.int c), some (.int i9), some (.int i10)]) dX2_duesBehind_50 rfl kc_i_1 (by decide) (fun _ => rfl) (fun i10 => ?_)
      refine x_goto C (pc := 53) (tgt := 10) dX2_duesBehind_53 (by decide) ?_
      exact Xo.done (fun h => Yx.weak (lw_s (lw_s (lw_s (lw_s (lw_s (lw_s lw_0)))))) h)
  refine x_iload C (pc := 56) dX2_duesBehind_56 rfl ?_
  exact x_ret dX2_duesBehind_58 (fun h => h)
theorem ct_X2_duesBehind (t : Nat) (ht : kd t = 2) (a : Nat) (ha : kd a = 4) (b : Int32) (c : Int32) (s0 : SS) (r : Int32) (s2 : SS) (h : FX2_duesBehind t a b c s0 = some (r, s2)) : CT 0 yX2_duesBehind cX2_duesBehind 6 (some .int) 4 101 [.ref t, .ref a, .int b, .int c] s0 (some (.int r)) s2 :=
  ct_of (by decide +kernel) (Or.inr (Or.inl ⟨_, rfl, _, rfl, rfl⟩)) (lx_args [.ref t, .ref a, .int b, .int c]) (lx_entry [.ref t, .ref a, .int b, .int c] (fun _ => Nat.le_of_ble_eq_true rfl)) (fun o C hR => Yx.weak (lw_s (lw_s (lw_s (lw_s (lw_z (lw_z lw_0)))))) (bd_X2_duesBehind C t ht a ha b c s0 (r, s2) h hR))
def FX2_firstCalm (t : Nat) (a : Nat) (b : Int32) (s0 : SS) : Option (Int32 × SS) :=
  nm (nI 0) (fun (i1 : Int32) => bde (lp FUEL (u2 (fun (n2 : Int32) (s3 : SS) => if (nI 23) < n2 then some (Sum.inr (Sum.inl s3)) else (bd (FX0_goInHour (lk t 0) a ((gI s3 a 8) + n2) (nI 127) s3) (fun (s4 : SS) => bd (FX0_takenBy (lk t 0) b s4) (fun (r5 : Int32) => if r5 = 0 then some (Sum.inr (Sum.inr ((n2, s4)))) else (nm (n2 + (nI 1)) (fun (i6 : Int32) => some (Sum.inl (i6, s4))))))))) (i1, s0)) (fun (s7 : SS) => some (((-1 : Int32), s7))))
set_option maxRecDepth 100000 in
set_option maxHeartbeats 4000000 in
theorem bd_X2_firstCalm {o : Om} (C : Cx o RX2 cX2_firstCalm 4 (some .int) (rmx 4 101) 0) (t : Nat) (ht : kd t = 2) (a : Nat) (ha : kd a = 4) (b : Int32) (s0 : SS) : Xo (FX2_firstCalm t a b s0) (fun r => RT o cX2_firstCalm (some (.int r.1)) r.2) (Yx o 0 [some (.ref t), some (.ref a), some (.int b), none] [] s0) := by
  unfold FX2_firstCalm
  refine x_iconst C (pc := 0) dX2_firstCalm_0 kc_i_0 ?_
  refine x_istore_n C (pc := 1) (L' := fun i1 => [some (.ref t), some (.ref a), some (.int b), some (.int i1)]) dX2_firstCalm_1 (by decide) (fun _ => rfl) (fun i1 => ?_)
  refine xe_1 (Z1 := (fun s7 => Yx o 43 [none, none, none, none] [] s7)) ?_ (fun s7 => ?_)
  · refine Xo.mono (Yx.weak (lw_s (lw_s (lw_s (lw_s lw_0))))) (x_lp2 (fr := fun n2 s3 => Yx o 2 [some (.ref t), some (.ref a), some (.int b), some (.int n2)] [] s3) _ _ (fun n2 s3 => ?_))
    refine x_iload_n C (pc := 2) dX2_firstCalm_2 rfl ?_
    refine x_bipush C (pc := 3) dX2_firstCalm_3 kc_b_23 ?_
    refine x_icmp_gt C (pc := 5) (tgt := 43) dX2_firstCalm_5 (by decide) (fun _ => ?_) (fun _ => ?_)
    · skip
      exact Xo.done (fun h => Yx.weak (lw_n (lw_n (lw_n (lw_n lw_0)))) h)
    · skip
      refine x_aload_n C (pc := 8) dX2_firstCalm_8 rfl ?_
      refine x_getR C (pc := 9) fg_X2_24 dX2_firstCalm_9 ht ?_
      refine x_aload_n C (pc := 12) dX2_firstCalm_12 rfl ?_
      refine x_aload_n C (pc := 13) dX2_firstCalm_13 rfl ?_
      refine x_getI C (pc := 14) fg_X2_34 dX2_firstCalm_14 ha ?_
      refine x_iload_n C (pc := 17) dX2_firstCalm_17 rfl ?_
      refine x_iadd C (pc := 18) dX2_firstCalm_18 ?_
      refine x_bipush C (pc := 19) dX2_firstCalm_19 kc_b_127 ?_
      refine x_callVv C (pc := 21) mv_X2_38 (lkd_2_0 ht) rfl [.ref a, .int ((gI s3 a 8) + n2), .int (nI 127)] (fun _ hr => ct_X0_goInHour _ (lkd_2_0 ht) _ ha _ _ _ _ hr) ⟨Nat.le_of_ble_eq_true rfl, Nat.le_of_ble_eq_true rfl⟩ rfl (Nat.le_of_ble_eq_true rfl) rfl dX2_firstCalm_21 (fun s4 => ?_)
      refine x_aload_n C (pc := 24) dX2_firstCalm_24 rfl ?_
      refine x_getR C (pc := 25) fg_X2_24 dX2_firstCalm_25 ht ?_
      refine x_iload_n C (pc := 28) dX2_firstCalm_28 rfl ?_
      refine x_callVi C (pc := 29) mv_X2_51 (lkd_2_0 ht) rfl [.int b] (fun _ hr => ct_X0_takenBy _ (lkd_2_0 ht) _ _ _ hr) ⟨Nat.le_of_ble_eq_true rfl, Nat.le_of_ble_eq_true rfl⟩ rfl (Nat.le_of_ble_eq_true rfl) rfl dX2_firstCalm_29 (fun r5 => ?_)
      refine x_if_ne C (pc := 32) (tgt := 37) dX2_firstCalm_32 (by decide) (fun _ => ?_) (fun _ => ?_)
      · skip
        refine x_iload_n C (pc := 35) dX2_firstCalm_35 rfl ?_
        exact x_ret dX2_firstCalm_36 (fun h => h)
      · skip
        refine x_iinc C (pc := 37) (L' := fun i6 => [some (.ref t), some (.ref a), some (.int b), some (.int i6)]) dX2_firstCalm_37 rfl kc_i_1 (by decide) (fun _ => rfl) (fun i6 => ?_)
        refine x_goto C (pc := 40) (tgt := 2) dX2_firstCalm_40 (by decide) ?_
        exact Xo.done (fun h => Yx.weak (lw_s (lw_s (lw_s (lw_s lw_0)))) h)
  refine x_iconst C (pc := 43) dX2_firstCalm_43 kc_i_m1 ?_
  exact x_ret dX2_firstCalm_44 (fun h => h)
theorem ct_X2_firstCalm (t : Nat) (ht : kd t = 2) (a : Nat) (ha : kd a = 4) (b : Int32) (s0 : SS) (r : Int32) (s2 : SS) (h : FX2_firstCalm t a b s0 = some (r, s2)) : CT 0 yX2_firstCalm cX2_firstCalm 4 (some .int) 4 101 [.ref t, .ref a, .int b] s0 (some (.int r)) s2 :=
  ct_of (by decide +kernel) (Or.inr (Or.inl ⟨_, rfl, _, rfl, rfl⟩)) (lx_args [.ref t, .ref a, .int b]) (lx_entry [.ref t, .ref a, .int b] (fun _ => Nat.le_of_ble_eq_true rfl)) (fun o C hR => Yx.weak (lw_s (lw_s (lw_s (lw_z lw_0)))) (bd_X2_firstCalm C t ht a ha b s0 (r, s2) h hR))
def FX2_takenInDay (t : Nat) (a : Nat) (b : Nat) (c : Int32) (d : Int32) (s0 : SS) : Option (Int32 × SS) :=
  nm (nI 0) (fun (i1 : Int32) => nm (nI 0) (fun (i2 : Int32) => bd (lp FUEL (u3 (fun (n3 : Int32) (n4 : Int32) (s5 : SS) => if (nI 8) ≤ n4 then some (Sum.inr (n3, s5)) else (gd (inb n4 (ln (lk a 0))) (gd (inb n4 (ln (lk a 1))) (bd (FX0_go (lk t 0) b c (gI s5 (lk a 0) (Int32.toNatClampNeg n4)) (gI s5 (lk a 1) (Int32.toNatClampNeg n4)) s5) (fun (s6 : SS) => bd (FX0_takenByFirst (lk t 0) d s6) (fun (r7 : Int32) => nm (n3 + r7) (fun (i8 : Int32) => nm (n4 + (nI 1)) (fun (i9 : Int32) => some (Sum.inl (i8, i9, s6))))))))))) (i1, i2, s0)) (u2 (fun (e10 : Int32) (s11 : SS) => some ((e10, s11))))))
set_option maxRecDepth 100000 in
set_option maxHeartbeats 4000000 in
theorem bd_X2_takenInDay {o : Om} (C : Cx o RX2 cX2_takenInDay 7 (some .int) (rmx 3 77) 0) (t : Nat) (ht : kd t = 2) (a : Nat) (ha : kd a = 4) (b : Nat) (hb : kd b = 7) (c : Int32) (d : Int32) (s0 : SS) : Xo (FX2_takenInDay t a b c d s0) (fun r => RT o cX2_takenInDay (some (.int r.1)) r.2) (Yx o 0 [some (.ref t), some (.ref a), some (.ref b), some (.int c), some (.int d), none, none] [] s0) := by
  unfold FX2_takenInDay
  refine x_iconst C (pc := 0) dX2_takenInDay_0 kc_i_0 ?_
  refine x_istore C (pc := 1) (L' := fun i1 => [some (.ref t), some (.ref a), some (.ref b), some (.int c), some (.int d), some (.int i1), none]) dX2_takenInDay_1 (by decide) (fun _ => rfl) (fun i1 => ?_)
  refine x_iconst C (pc := 3) dX2_takenInDay_3 kc_i_0 ?_
  refine x_istore C (pc := 4) (L' := fun i2 => [some (.ref t), some (.ref a), some (.ref b), some (.int c), some (.int d), some (.int i1), some (.int i2)]) dX2_takenInDay_4 (by decide) (fun _ => rfl) (fun i2 => ?_)
  refine xb_2 (Z1 := (fun e10 s11 => Yx o 56 [none, none, none, none, none, some (.int e10), none] [] s11)) ?_ (fun e10 s11 => ?_)
  · refine Xo.mono (Yx.weak (lw_s (lw_s (lw_s (lw_s (lw_s (lw_s (lw_s lw_0)))))))) (x_lp3 (fr := fun n3 n4 s5 => Yx o 6 [some (.ref t), some (.ref a), some (.ref b), some (.int c), some (.int d), some (.int n3), some (.int n4)] [] s5) _ _ _ (fun n3 n4 s5 => ?_))
    refine x_iload C (pc := 6) dX2_takenInDay_6 rfl ?_
    refine x_bipush C (pc := 8) dX2_takenInDay_8 kc_b_8 ?_
    refine x_icmp_ge C (pc := 10) (tgt := 56) dX2_takenInDay_10 (by decide) (fun _ => ?_) (fun _ => ?_)
    · skip
      exact Xo.done (fun h => Yx.weak (lw_n (lw_n (lw_n (lw_n (lw_n (lw_s (lw_n lw_0))))))) h)
    · skip
      refine x_aload_n C (pc := 13) dX2_takenInDay_13 rfl ?_
      refine x_getR C (pc := 14) fg_X2_24 dX2_takenInDay_14 ht ?_
      refine x_aload_n C (pc := 17) dX2_takenInDay_17 rfl ?_
      refine x_iload_n C (pc := 18) dX2_takenInDay_18 rfl ?_
      refine x_aload_n C (pc := 19) dX2_takenInDay_19 rfl ?_
      refine x_getR C (pc := 20) fg_X2_96 dX2_takenInDay_20 ha ?_
      refine x_iload C (pc := 23) dX2_takenInDay_23 rfl ?_
      refine x_iald C (pc := 25) dX2_takenInDay_25 (lkd_4_0 ha) (fun _ => ?_)
      refine x_aload_n C (pc := 26) dX2_takenInDay_26 rfl ?_
      refine x_getR C (pc := 27) fg_X2_99 dX2_takenInDay_27 ha ?_
      refine x_iload C (pc := 30) dX2_takenInDay_30 rfl ?_
      refine x_iald C (pc := 32) dX2_takenInDay_32 (lkd_4_1 ha) (fun _ => ?_)
      refine x_callVv C (pc := 33) mv_X2_102 (lkd_2_0 ht) rfl [.ref b, .int c, .int (gI s5 (lk a 0) (Int32.toNatClampNeg n4)), .int (gI s5 (lk a 1) (Int32.toNatClampNeg n4))] (fun _ hr => ct_X0_go _ (lkd_2_0 ht) _ hb _ _ _ _ _ hr) ⟨Nat.le_of_ble_eq_true rfl, Nat.le_of_ble_eq_true rfl⟩ rfl (Nat.le_of_ble_eq_true rfl) rfl dX2_takenInDay_33 (fun s6 => ?_)
      refine x_iload C (pc := 36) dX2_takenInDay_36 rfl ?_
      refine x_aload_n C (pc := 38) dX2_takenInDay_38 rfl ?_
      refine x_getR C (pc := 39) fg_X2_24 dX2_takenInDay_39 ht ?_
      refine x_iload C (pc := 42) dX2_takenInDay_42 rfl ?_
      refine x_callVi C (pc := 44) mv_X2_106 (lkd_2_0 ht) rfl [.int d] (fun _ hr => ct_X0_takenByFirst _ (lkd_2_0 ht) _ _ _ hr) ⟨Nat.le_of_ble_eq_true rfl, Nat.le_of_ble_eq_true rfl⟩ rfl (Nat.le_of_ble_eq_true rfl) rfl dX2_takenInDay_44 (fun r7 => ?_)
      refine x_iadd C (pc := 47) dX2_takenInDay_47 ?_
      refine x_istore C (pc := 48) (L' := fun i8 => [some (.ref t), some (.ref a), some (.ref b), some (.int c), some (.int d), some (.int i8), some (.int n4)]) dX2_takenInDay_48 (by decide) (fun _ => rfl) (fun i8 => ?_)
      refine x_iinc C (pc := 50) (L' := fun i9 => [some (.ref t), some (.ref a), some (.ref b), some (.int c), some (.int d), some (.int i8), some (.int i9)]) dX2_takenInDay_50 rfl kc_i_1 (by decide) (fun _ => rfl) (fun i9 => ?_)
      refine x_goto C (pc := 53) (tgt := 6) dX2_takenInDay_53 (by decide) ?_
      exact Xo.done (fun h => Yx.weak (lw_s (lw_s (lw_s (lw_s (lw_s (lw_s (lw_s lw_0))))))) h)
  refine x_iload C (pc := 56) dX2_takenInDay_56 rfl ?_
  exact x_ret dX2_takenInDay_58 (fun h => h)
theorem ct_X2_takenInDay (t : Nat) (ht : kd t = 2) (a : Nat) (ha : kd a = 4) (b : Nat) (hb : kd b = 7) (c : Int32) (d : Int32) (s0 : SS) (r : Int32) (s2 : SS) (h : FX2_takenInDay t a b c d s0 = some (r, s2)) : CT 0 yX2_takenInDay cX2_takenInDay 7 (some .int) 3 77 [.ref t, .ref a, .ref b, .int c, .int d] s0 (some (.int r)) s2 :=
  ct_of (by decide +kernel) (Or.inr (Or.inl ⟨_, rfl, _, rfl, rfl⟩)) (lx_args [.ref t, .ref a, .ref b, .int c, .int d]) (lx_entry [.ref t, .ref a, .ref b, .int c, .int d] (fun _ => Nat.le_of_ble_eq_true rfl)) (fun o C hR => Yx.weak (lw_s (lw_s (lw_s (lw_s (lw_s (lw_z (lw_z lw_0))))))) (bd_X2_takenInDay C t ht a ha b hb c d s0 (r, s2) h hR))
def FX9_copyFrom (t : Nat) (a : Nat) (s0 : SS) : Option (SS) :=
  if (nI (ln (lk a 2))) = (nI (ln (lk t 2))) then gd (cpok (nI 0) (nI 0) (nI (ln (lk t 2))) (ln (lk a 2)) (ln (lk t 2))) (nm (pA s0 (lk t 2) (va_cpy (gI s0 (lk a 2)) (gI s0 (lk t 2)) (Int32.toNatClampNeg (nI 0)) (Int32.toNatClampNeg (nI 0)) (Int32.toNatClampNeg (nI (ln (lk t 2)))))) (fun (s1 : SS) => nm (pI s1 t 3 (gI s1 a 3)) (fun (s2 : SS) => some (s2)))) else (some (s0))
set_option maxRecDepth 100000 in
set_option maxHeartbeats 4000000 in
theorem bd_X9_copyFrom {o : Om} (C : Cx o RX9 cX9_copyFrom 2 none (rmx 1 18) 0) (t : Nat) (ht : kd t = 7) (a : Nat) (ha : kd a = 7) (s0 : SS) : Xo (FX9_copyFrom t a s0) (fun r => RT o cX9_copyFrom none r) (Yx o 0 [some (.ref t), some (.ref a)] [] s0) := by
  unfold FX9_copyFrom
  refine x_aload_n C (pc := 0) dX9_copyFrom_0 rfl ?_
  refine x_getR C (pc := 1) fg_X9_18 dX9_copyFrom_1 ha ?_
  refine x_alen C (pc := 4) dX9_copyFrom_4 (lkd_7_2 ha) ?_
  refine x_aload_n C (pc := 5) dX9_copyFrom_5 rfl ?_
  refine x_getR C (pc := 6) fg_X9_18 dX9_copyFrom_6 ht ?_
  refine x_alen C (pc := 9) dX9_copyFrom_9 (lkd_7_2 ht) ?_
  refine x_icmp_ne C (pc := 10) (tgt := 39) dX9_copyFrom_10 (by decide) (fun _ => ?_) (fun _ => ?_)
  · skip
    refine x_aload_n C (pc := 13) dX9_copyFrom_13 rfl ?_
    refine x_getR C (pc := 14) fg_X9_18 dX9_copyFrom_14 ha ?_
    refine x_iconst C (pc := 17) dX9_copyFrom_17 kc_i_0 ?_
    refine x_aload_n C (pc := 18) dX9_copyFrom_18 rfl ?_
    refine x_getR C (pc := 19) fg_X9_18 dX9_copyFrom_19 ht ?_
    refine x_iconst C (pc := 22) dX9_copyFrom_22 kc_i_0 ?_
    refine x_aload_n C (pc := 23) dX9_copyFrom_23 rfl ?_
    refine x_getR C (pc := 24) fg_X9_18 dX9_copyFrom_24 ht ?_
    refine x_alen C (pc := 27) dX9_copyFrom_27 (lkd_7_2 ht) ?_
    refine x_acopyn C (pc := 28) ml_X9_33 tw_acn tw_acs tw_aci ⟨Nat.le_of_ble_eq_true rfl, Nat.le_of_ble_eq_true rfl⟩ dX9_copyFrom_28 (lkd_7_2 ha) (lkd_7_2 ht) (fun s1 => ?_)
    refine x_aload_n C (pc := 31) dX9_copyFrom_31 rfl ?_
    refine x_aload_n C (pc := 32) dX9_copyFrom_32 rfl ?_
    refine x_getI C (pc := 33) fg_X9_22 dX9_copyFrom_33 ha ?_
    refine x_putIn C (pc := 36) fp_X9_22 dX9_copyFrom_36 ht (fun s2 => ?_)
    exact x_vret dX9_copyFrom_39 (fun h => h)
  · skip
    exact x_vret dX9_copyFrom_39 (fun h => h)
theorem ct_X9_copyFrom (t : Nat) (ht : kd t = 7) (a : Nat) (ha : kd a = 7) (s0 : SS) (r : SS) (h : FX9_copyFrom t a s0 = some r) : CT 0 yX9_copyFrom cX9_copyFrom 2 none 1 18 [.ref t, .ref a] s0 none r :=
  ct_of (by decide +kernel) (Or.inl ⟨rfl, rfl⟩) (lx_args [.ref t, .ref a]) (lx_entry [.ref t, .ref a] (fun _ => Nat.le_of_ble_eq_true rfl)) (fun o C hR => Yx.weak (lw_s (lw_s lw_0)) (bd_X9_copyFrom C t ht a ha s0 r h hR))
def FX9_isFull (t : Nat) (s0 : SS) : Option (Int32) :=
  if (gI s0 t 3) < (gI s0 t 1) then some ((nI 0)) else (some ((nI 1)))
set_option maxRecDepth 100000 in
set_option maxHeartbeats 4000000 in
theorem bd_X9_isFull {o : Om} (C : Cx o RX9 cX9_isFull 1 (some .boolean) (rmx 0 0) 0) (t : Nat) (ht : kd t = 7) (s0 : SS) : Xo (FX9_isFull t s0) (fun r => zb r = true → RT o cX9_isFull (some (.int r)) s0) (Yx o 0 [some (.ref t)] [] s0) := by
  unfold FX9_isFull
  refine x_aload_n C (pc := 0) dX9_isFull_0 rfl ?_
  refine x_getI C (pc := 1) fg_X9_22 dX9_isFull_1 ht ?_
  refine x_aload_n C (pc := 4) dX9_isFull_4 rfl ?_
  refine x_getI C (pc := 5) fg_X9_9 dX9_isFull_5 ht ?_
  refine x_icmp_lt C (pc := 8) (tgt := 15) dX9_isFull_8 (by decide) (fun _ => ?_) (fun _ => ?_)
  · skip
    refine x_iconst C (pc := 15) dX9_isFull_15 kc_i_0 ?_
    exact x_ret dX9_isFull_16 (fun h => h zb_0)
  · skip
    refine x_iconst C (pc := 11) dX9_isFull_11 kc_i_1 ?_
    refine x_goto C (pc := 12) (tgt := 16) dX9_isFull_12 (by decide) ?_
    exact x_ret dX9_isFull_16 (fun h => h zb_1)
theorem ct_X9_isFull (t : Nat) (ht : kd t = 7) (s0 : SS) (r : Int32) (h : FX9_isFull t s0 = some r) : CT 0 yX9_isFull cX9_isFull 1 (some .boolean) 0 0 [.ref t] s0 (some (.int r)) s0 :=
  ct_ofz (by decide +kernel) rfl (lx_args [.ref t]) (lx_entry [.ref t] (fun _ => Nat.le_of_ble_eq_true rfl)) (fun o C hR => Yx.weak (lw_s lw_0) (bd_X9_isFull C t ht s0 r h hR))
def FX9_put (t : Nat) (a : Int32) (b : Int32) (c : Int32) (s0 : SS) : Option (SS) :=
  if a < 0 then some (s0) else (if (gI s0 t 3) ≤ a then some (s0) else (if b < 0 then some (s0) else (if (gI s0 t 0) ≤ b then some (s0) else (gd (inb ((a * (gI s0 t 0)) + b) (ln (lk t 2))) (nm (pI s0 (lk t 2) (Int32.toNatClampNeg ((a * (gI s0 t 0)) + b)) c) (fun (s1 : SS) => some (s1)))))))
set_option maxRecDepth 100000 in
set_option maxHeartbeats 4000000 in
theorem bd_X9_put {o : Om} (C : Cx o RX9 cX9_put 4 none (rmx 0 0) 0) (t : Nat) (ht : kd t = 7) (a : Int32) (b : Int32) (c : Int32) (s0 : SS) : Xo (FX9_put t a b c s0) (fun r => RT o cX9_put none r) (Yx o 0 [some (.ref t), some (.int a), some (.int b), some (.int c)] [] s0) := by
  unfold FX9_put
  refine x_iload_n C (pc := 0) dX9_put_0 rfl ?_
  refine x_if_lt C (pc := 1) (tgt := 38) dX9_put_1 (by decide) (fun _ => ?_) (fun _ => ?_)
  · skip
    exact x_vret dX9_put_38 (fun h => h)
  · skip
    refine x_iload_n C (pc := 4) dX9_put_4 rfl ?_
    refine x_aload_n C (pc := 5) dX9_put_5 rfl ?_
    refine x_getI C (pc := 6) fg_X9_22 dX9_put_6 ht ?_
    refine x_icmp_ge C (pc := 9) (tgt := 38) dX9_put_9 (by decide) (fun _ => ?_) (fun _ => ?_)
    · skip
      exact x_vret dX9_put_38 (fun h => h)
    · skip
      refine x_iload_n C (pc := 12) dX9_put_12 rfl ?_
      refine x_if_lt C (pc := 13) (tgt := 38) dX9_put_13 (by decide) (fun _ => ?_) (fun _ => ?_)
      · skip
        exact x_vret dX9_put_38 (fun h => h)
      · skip
        refine x_iload_n C (pc := 16) dX9_put_16 rfl ?_
        refine x_aload_n C (pc := 17) dX9_put_17 rfl ?_
        refine x_getI C (pc := 18) fg_X9_15 dX9_put_18 ht ?_
        refine x_icmp_ge C (pc := 21) (tgt := 38) dX9_put_21 (by decide) (fun _ => ?_) (fun _ => ?_)
        · skip
          exact x_vret dX9_put_38 (fun h => h)
        · skip
          refine x_aload_n C (pc := 24) dX9_put_24 rfl ?_
          refine x_getR C (pc := 25) fg_X9_18 dX9_put_25 ht ?_
          refine x_iload_n C (pc := 28) dX9_put_28 rfl ?_
          refine x_aload_n C (pc := 29) dX9_put_29 rfl ?_
          refine x_getI C (pc := 30) fg_X9_15 dX9_put_30 ht ?_
          refine x_imul C (pc := 33) dX9_put_33 ?_
          refine x_iload_n C (pc := 34) dX9_put_34 rfl ?_
          refine x_iadd C (pc := 35) dX9_put_35 ?_
          refine x_iload_n C (pc := 36) dX9_put_36 rfl ?_
          refine x_iastn C (pc := 37) dX9_put_37 (lkd_7_2 ht) (fun s1 => ?_)
          exact x_vret dX9_put_38 (fun h => h)
theorem ct_X9_put (t : Nat) (ht : kd t = 7) (a : Int32) (b : Int32) (c : Int32) (s0 : SS) (r : SS) (h : FX9_put t a b c s0 = some r) : CT 0 yX9_put cX9_put 4 none 0 0 [.ref t, .int a, .int b, .int c] s0 none r :=
  ct_of (by decide +kernel) (Or.inl ⟨rfl, rfl⟩) (lx_args [.ref t, .int a, .int b, .int c]) (lx_entry [.ref t, .int a, .int b, .int c] (fun _ => Nat.le_of_ble_eq_true rfl)) (fun o C hR => Yx.weak (lw_s (lw_s (lw_s (lw_s lw_0)))) (bd_X9_put C t ht a b c s0 r h hR))
def FX9_open (t : Nat) (s0 : SS) : Option (Int32 × SS) :=
  bd (FX9_isFull t s0) (fun (r1 : Int32) => if r1 = 0 then nm (gI s0 t 3) (fun (i2 : Int32) => nm (pI s0 t 3 ((gI s0 t 3) + (nI 1))) (fun (s3 : SS) => nm (nI 0) (fun (i4 : Int32) => bd (lp FUEL (u2 (fun (n5 : Int32) (s6 : SS) => if (gI s6 t 0) ≤ n5 then some (Sum.inr s6) else (bd (FX9_put t i2 n5 (nI 0) s6) (fun (s7 : SS) => nm (n5 + (nI 1)) (fun (i8 : Int32) => some (Sum.inl (i8, s7))))))) (i4, s3)) (fun (s9 : SS) => some ((i2, s9)))))) else (some (((-1 : Int32), s0))))
set_option maxRecDepth 100000 in
set_option maxHeartbeats 4000000 in
theorem bd_X9_open {o : Om} (C : Cx o RX9 cX9_open 3 (some .int) (rmx 1 23) 0) (t : Nat) (ht : kd t = 7) (s0 : SS) : Xo (FX9_open t s0) (fun r => RT o cX9_open (some (.int r.1)) r.2) (Yx o 0 [some (.ref t), none, none] [] s0) := by
  unfold FX9_open
  refine x_aload_n C (pc := 0) dX9_open_0 rfl ?_
  refine x_callVi C (pc := 1) mv_X9_25 ht rfl [] (fun _ hr => ct_X9_isFull _ ht _ _ hr) ⟨Nat.le_of_ble_eq_true rfl, Nat.le_of_ble_eq_true rfl⟩ rfl (Nat.le_of_ble_eq_true rfl) rfl dX9_open_1 (fun r1 => ?_)
  refine x_if_eq C (pc := 4) (tgt := 9) dX9_open_4 (by decide) (fun _ => ?_) (fun _ => ?_)
  · skip
    refine x_aload_n C (pc := 9) dX9_open_9 rfl ?_
    refine x_getI C (pc := 10) fg_X9_22 dX9_open_10 ht ?_
    refine x_istore_n C (pc := 13) (L' := fun i2 => [some (.ref t), some (.int i2), none]) dX9_open_13 (by decide) (fun _ => rfl) (fun i2 => ?_)
    refine x_aload_n C (pc := 14) dX9_open_14 rfl ?_
    refine x_dup C (pc := 15) dX9_open_15 rfl ?_
    refine x_getI C (pc := 16) fg_X9_22 dX9_open_16 ht ?_
    refine x_iconst C (pc := 19) dX9_open_19 kc_i_1 ?_
    refine x_iadd C (pc := 20) dX9_open_20 ?_
    refine x_putIn C (pc := 21) fp_X9_22 dX9_open_21 ht (fun s3 => ?_)
    refine x_iconst C (pc := 24) dX9_open_24 kc_i_0 ?_
    refine x_istore_n C (pc := 25) (L' := fun i4 => [some (.ref t), some (.int i2), some (.int i4)]) dX9_open_25 (by decide) (fun _ => rfl) (fun i4 => ?_)
    refine xb_1 (Z1 := (fun s9 => Yx o 47 [none, some (.int i2), none] [] s9)) ?_ (fun s9 => ?_)
    · refine Xo.mono (Yx.weak (lw_s (lw_s (lw_s lw_0)))) (x_lp2 (fr := fun n5 s6 => Yx o 26 [some (.ref t), some (.int i2), some (.int n5)] [] s6) _ _ (fun n5 s6 => ?_))
      refine x_iload_n C (pc := 26) dX9_open_26 rfl ?_
      refine x_aload_n C (pc := 27) dX9_open_27 rfl ?_
      refine x_getI C (pc := 28) fg_X9_15 dX9_open_28 ht ?_
      refine x_icmp_ge C (pc := 31) (tgt := 47) dX9_open_31 (by decide) (fun _ => ?_) (fun _ => ?_)
      · skip
        exact Xo.done (fun h => Yx.weak (lw_n (lw_s (lw_n lw_0))) h)
      · skip
        refine x_aload_n C (pc := 34) dX9_open_34 rfl ?_
        refine x_iload_n C (pc := 35) dX9_open_35 rfl ?_
        refine x_iload_n C (pc := 36) dX9_open_36 rfl ?_
        refine x_iconst C (pc := 37) dX9_open_37 kc_i_0 ?_
        refine x_callVv C (pc := 38) mv_X9_29 ht rfl [.int i2, .int n5, .int (nI 0)] (fun _ hr => ct_X9_put _ ht _ _ _ _ _ hr) ⟨Nat.le_of_ble_eq_true rfl, Nat.le_of_ble_eq_true rfl⟩ rfl (Nat.le_of_ble_eq_true rfl) rfl dX9_open_38 (fun s7 => ?_)
        refine x_iinc C (pc := 41) (L' := fun i8 => [some (.ref t), some (.int i2), some (.int i8)]) dX9_open_41 rfl kc_i_1 (by decide) (fun _ => rfl) (fun i8 => ?_)
        refine x_goto C (pc := 44) (tgt := 26) dX9_open_44 (by decide) ?_
        exact Xo.done (fun h => Yx.weak (lw_s (lw_s (lw_s lw_0))) h)
    refine x_iload_n C (pc := 47) dX9_open_47 rfl ?_
    exact x_ret dX9_open_48 (fun h => h)
  · skip
    refine x_iconst C (pc := 7) dX9_open_7 kc_i_m1 ?_
    exact x_ret dX9_open_8 (fun h => h)
theorem ct_X9_open (t : Nat) (ht : kd t = 7) (s0 : SS) (r : Int32) (s2 : SS) (h : FX9_open t s0 = some (r, s2)) : CT 0 yX9_open cX9_open 3 (some .int) 1 23 [.ref t] s0 (some (.int r)) s2 :=
  ct_of (by decide +kernel) (Or.inr (Or.inl ⟨_, rfl, _, rfl, rfl⟩)) (lx_args [.ref t]) (lx_entry [.ref t] (fun _ => Nat.le_of_ble_eq_true rfl)) (fun o C hR => Yx.weak (lw_s (lw_z (lw_z lw_0))) (bd_X9_open C t ht s0 (r, s2) h hR))
def FX2_findPlace (t : Nat) (a : Nat) (b : Int32) (c : Int32) (s0 : SS) : Option (SS) :=
  nm (gI s0 (lk a 2) 3) (fun (i1 : Int32) => bd2 (FX2_takenInDay t a (lk a 2) (nI 127) i1 s0) (fun (r2 : Int32) (s3 : SS) => nm r2 (fun (i4 : Int32) => bd (FX9_copyFrom (lk t 1) (lk a 2) s3) (fun (s5 : SS) => bd2 (FX9_open (lk t 1) s5) (fun (r6 : Int32) (s7 : SS) => nm r6 (fun (i8 : Int32) => bd (FX9_put (lk t 1) i8 (nI 0) b s7) (fun (s9 : SS) => bd (FX9_put (lk t 1) i8 (nI 2) c s9) (fun (s10 : SS) => nm (nI 0) (fun (i11 : Int32) => bd (lp FUEL (u2 (fun (n12 : Int32) (s13 : SS) => if (nI 12) ≤ n12 then some (Sum.inr s13) else (bd (FX9_put (lk t 1) i8 (nI 1) n12 s13) (fun (s14 : SS) => bd2 (FX2_takenInDay t a (lk t 1) (nI 127) i1 s14) (fun (r15 : Int32) (s16 : SS) => nm (imax (i4 - r15) (nI 0)) (fun (i17 : Int32) => bd (if n12 = 0 then nm (pI s16 t 3 n12) (fun (s18 : SS) => nm (pI s18 t 4 i17) (fun (s19 : SS) => some (s19))) else (if (gI s16 t 4) ≤ i17 then some (s16) else (nm (pI s16 t 3 n12) (fun (s20 : SS) => nm (pI s20 t 4 i17) (fun (s21 : SS) => some (s21)))))) (fun (s22 : SS) => nm (n12 + (nI 1)) (fun (i23 : Int32) => some (Sum.inl (i23, s22)))))))))) (i11, s10)) (fun (s24 : SS) => some (s24)))))))))))
set_option maxRecDepth 100000 in
set_option maxHeartbeats 4000000 in
theorem bd_X2_findPlace {o : Om} (C : Cx o RX2 cX2_findPlace 9 none (rmx 4 103) 0) (t : Nat) (ht : kd t = 2) (a : Nat) (ha : kd a = 4) (b : Int32) (c : Int32) (s0 : SS) : Xo (FX2_findPlace t a b c s0) (fun r => RT o cX2_findPlace none r) (Yx o 0 [some (.ref t), some (.ref a), some (.int b), some (.int c), none, none, none, none, none] [] s0) := by
  unfold FX2_findPlace
  refine x_aload_n C (pc := 0) dX2_findPlace_0 rfl ?_
  refine x_getR C (pc := 1) fg_X2_44 dX2_findPlace_1 ha ?_
  refine x_getI C (pc := 4) fg_X2_54 dX2_findPlace_4 (lkd_4_2 ha) ?_
  refine x_istore C (pc := 7) (L' := fun i1 => [some (.ref t), some (.ref a), some (.int b), some (.int c), some (.int i1), none, none, none, none]) dX2_findPlace_7 (by decide) (fun _ => rfl) (fun i1 => ?_)
  refine x_aload_n C (pc := 9) dX2_findPlace_9 rfl ?_
  refine x_aload_n C (pc := 10) dX2_findPlace_10 rfl ?_
  refine x_aload_n C (pc := 11) dX2_findPlace_11 rfl ?_
  refine x_getR C (pc := 12) fg_X2_44 dX2_findPlace_12 ha ?_
  refine x_bipush C (pc := 15) dX2_findPlace_15 kc_b_127 ?_
  refine x_iload C (pc := 17) dX2_findPlace_17 rfl ?_
  refine x_callVim C (pc := 19) mv_X2_57 ht rfl [.ref a, .ref (lk a 2), .int (nI 127), .int i1] (fun _ _ hr => ct_X2_takenInDay _ ht _ ha _ (lkd_4_2 ha) _ _ _ _ _ hr) ⟨Nat.le_of_ble_eq_true rfl, Nat.le_of_ble_eq_true rfl⟩ rfl (Nat.le_of_ble_eq_true rfl) rfl dX2_findPlace_19 (fun r2 s3 => ?_)
  refine x_istore C (pc := 22) (L' := fun i4 => [some (.ref t), some (.ref a), some (.int b), some (.int c), some (.int i1), some (.int i4), none, none, none]) dX2_findPlace_22 (by decide) (fun _ => rfl) (fun i4 => ?_)
  refine x_aload_n C (pc := 24) dX2_findPlace_24 rfl ?_
  refine x_getR C (pc := 25) fg_X2_14 dX2_findPlace_25 ht ?_
  refine x_aload_n C (pc := 28) dX2_findPlace_28 rfl ?_
  refine x_getR C (pc := 29) fg_X2_44 dX2_findPlace_29 ha ?_
  refine x_callVv C (pc := 32) mv_X2_61 (lkd_2_1 ht) rfl [.ref (lk a 2)] (fun _ hr => ct_X9_copyFrom _ (lkd_2_1 ht) _ (lkd_4_2 ha) _ _ hr) ⟨Nat.le_of_ble_eq_true rfl, Nat.le_of_ble_eq_true rfl⟩ rfl (Nat.le_of_ble_eq_true rfl) rfl dX2_findPlace_32 (fun s5 => ?_)
  refine x_aload_n C (pc := 35) dX2_findPlace_35 rfl ?_
  refine x_getR C (pc := 36) fg_X2_14 dX2_findPlace_36 ht ?_
  refine x_callVim C (pc := 39) mv_X2_65 (lkd_2_1 ht) rfl [] (fun _ _ hr => ct_X9_open _ (lkd_2_1 ht) _ _ _ hr) ⟨Nat.le_of_ble_eq_true rfl, Nat.le_of_ble_eq_true rfl⟩ rfl (Nat.le_of_ble_eq_true rfl) rfl dX2_findPlace_39 (fun r6 s7 => ?_)
  refine x_istore C (pc := 42) (L' := fun i8 => [some (.ref t), some (.ref a), some (.int b), some (.int c), some (.int i1), some (.int i4), some (.int i8), none, none]) dX2_findPlace_42 (by decide) (fun _ => rfl) (fun i8 => ?_)
  refine x_aload_n C (pc := 44) dX2_findPlace_44 rfl ?_
  refine x_getR C (pc := 45) fg_X2_14 dX2_findPlace_45 ht ?_
  refine x_iload C (pc := 48) dX2_findPlace_48 rfl ?_
  refine x_iconst C (pc := 50) dX2_findPlace_50 kc_i_0 ?_
  refine x_iload_n C (pc := 51) dX2_findPlace_51 rfl ?_
  refine x_callVv C (pc := 52) mv_X2_69 (lkd_2_1 ht) rfl [.int i8, .int (nI 0), .int b] (fun _ hr => ct_X9_put _ (lkd_2_1 ht) _ _ _ _ _ hr) ⟨Nat.le_of_ble_eq_true rfl, Nat.le_of_ble_eq_true rfl⟩ rfl (Nat.le_of_ble_eq_true rfl) rfl dX2_findPlace_52 (fun s9 => ?_)
  refine x_aload_n C (pc := 55) dX2_findPlace_55 rfl ?_
  refine x_getR C (pc := 56) fg_X2_14 dX2_findPlace_56 ht ?_
  refine x_iload C (pc := 59) dX2_findPlace_59 rfl ?_
  refine x_iconst C (pc := 61) dX2_findPlace_61 kc_i_2 ?_
  refine x_iload_n C (pc := 62) dX2_findPlace_62 rfl ?_
  refine x_callVv C (pc := 63) mv_X2_69 (lkd_2_1 ht) rfl [.int i8, .int (nI 2), .int c] (fun _ hr => ct_X9_put _ (lkd_2_1 ht) _ _ _ _ _ hr) ⟨Nat.le_of_ble_eq_true rfl, Nat.le_of_ble_eq_true rfl⟩ rfl (Nat.le_of_ble_eq_true rfl) rfl dX2_findPlace_63 (fun s10 => ?_)
  refine x_iconst C (pc := 66) dX2_findPlace_66 kc_i_0 ?_
  refine x_istore C (pc := 67) (L' := fun i11 => [some (.ref t), some (.ref a), some (.int b), some (.int c), some (.int i1), some (.int i4), some (.int i8), some (.int i11), none]) dX2_findPlace_67 (by decide) (fun _ => rfl) (fun i11 => ?_)
  refine xb_1 (Z1 := (fun s24 => Yx o 142 [none, none, none, none, none, none, none, none, none] [] s24)) ?_ (fun s24 => ?_)
  · refine Xo.mono (Yx.weak (lw_s (lw_s (lw_n (lw_n (lw_s (lw_s (lw_s (lw_s (lw_n lw_0)))))))))) (x_lp2 (fr := fun n12 s13 => Yx o 69 [some (.ref t), some (.ref a), none, none, some (.int i1), some (.int i4), some (.int i8), some (.int n12), none] [] s13) _ _ (fun n12 s13 => ?_))
    refine x_iload C (pc := 69) dX2_findPlace_69 rfl ?_
    refine x_bipush C (pc := 71) dX2_findPlace_71 kc_b_12 ?_
    refine x_icmp_ge C (pc := 73) (tgt := 142) dX2_findPlace_73 (by decide) (fun _ => ?_) (fun _ => ?_)
    · skip
      exact Xo.done (fun h => Yx.weak (lw_n (lw_n (lw_n (lw_n (lw_n (lw_n (lw_n (lw_n (lw_n lw_0))))))))) h)
    · skip
      refine x_aload_n C (pc := 76) dX2_findPlace_76 rfl ?_
      refine x_getR C (pc := 77) fg_X2_14 dX2_findPlace_77 ht ?_
      refine x_iload C (pc := 80) dX2_findPlace_80 rfl ?_
      refine x_iconst C (pc := 82) dX2_findPlace_82 kc_i_1 ?_
      refine x_iload C (pc := 83) dX2_findPlace_83 rfl ?_
      refine x_callVv C (pc := 85) mv_X2_69 (lkd_2_1 ht) rfl [.int i8, .int (nI 1), .int n12] (fun _ hr => ct_X9_put _ (lkd_2_1 ht) _ _ _ _ _ hr) ⟨Nat.le_of_ble_eq_true rfl, Nat.le_of_ble_eq_true rfl⟩ rfl (Nat.le_of_ble_eq_true rfl) rfl dX2_findPlace_85 (fun s14 => ?_)
      refine x_iload C (pc := 88) dX2_findPlace_88 rfl ?_
      refine x_aload_n C (pc := 90) dX2_findPlace_90 rfl ?_
      refine x_aload_n C (pc := 91) dX2_findPlace_91 rfl ?_
      refine x_aload_n C (pc := 92) dX2_findPlace_92 rfl ?_
      refine x_getR C (pc := 93) fg_X2_14 dX2_findPlace_93 ht ?_
      refine x_bipush C (pc := 96) dX2_findPlace_96 kc_b_127 ?_
      refine x_iload C (pc := 98) dX2_findPlace_98 rfl ?_
      refine x_callVim C (pc := 100) mv_X2_57 ht rfl [.ref a, .ref (lk t 1), .int (nI 127), .int i1] (fun _ _ hr => ct_X2_takenInDay _ ht _ ha _ (lkd_2_1 ht) _ _ _ _ _ hr) ⟨Nat.le_of_ble_eq_true rfl, Nat.le_of_ble_eq_true rfl⟩ rfl (Nat.le_of_ble_eq_true rfl) rfl dX2_findPlace_100 (fun r15 s16 => ?_)
      refine x_isub C (pc := 103) dX2_findPlace_103 ?_
      refine x_iconst C (pc := 104) dX2_findPlace_104 kc_i_0 ?_
      refine x_mmax C (pc := 105) ml_X2_73 tw_mxs tw_mai tw_mxc ⟨Nat.le_of_ble_eq_true rfl, Nat.le_of_ble_eq_true rfl⟩ dX2_findPlace_105 ?_
      refine x_istore C (pc := 108) (L' := fun i17 => [some (.ref t), some (.ref a), none, none, some (.int i1), some (.int i4), some (.int i8), some (.int n12), some (.int i17)]) dX2_findPlace_108 (by decide) (fun _ => rfl) (fun i17 => ?_)
      refine x_iload C (pc := 110) dX2_findPlace_110 rfl ?_
      refine xb_1 (Z1 := fun s22 => Yx o 136 [some (.ref t), some (.ref a), none, none, some (.int i1), some (.int i4), some (.int i8), some (.int n12), none] [] s22) ?_ (fun s22 => ?_)
      · skip
        refine x_if_eq C (pc := 112) (tgt := 124) dX2_findPlace_112 (by decide) (fun _ => ?_) (fun _ => ?_)
        · skip
          refine x_aload_n C (pc := 124) dX2_findPlace_124 rfl ?_
          refine x_iload C (pc := 125) dX2_findPlace_125 rfl ?_
          refine x_putIn C (pc := 127) fp_X2_82 dX2_findPlace_127 ht (fun s18 => ?_)
          refine x_aload_n C (pc := 130) dX2_findPlace_130 rfl ?_
          refine x_iload C (pc := 131) dX2_findPlace_131 rfl ?_
          refine x_putIn C (pc := 133) fp_X2_79 dX2_findPlace_133 ht (fun s19 => ?_)
          exact Xo.done (fun h => Yx.weak (lw_s (lw_s (lw_n (lw_n (lw_s (lw_s (lw_s (lw_s (lw_n lw_0))))))))) h)
        · skip
          refine x_iload C (pc := 115) dX2_findPlace_115 rfl ?_
          refine x_aload_n C (pc := 117) dX2_findPlace_117 rfl ?_
          refine x_getI C (pc := 118) fg_X2_79 dX2_findPlace_118 ht ?_
          refine x_icmp_ge C (pc := 121) (tgt := 136) dX2_findPlace_121 (by decide) (fun _ => ?_) (fun _ => ?_)
          · skip
            exact Xo.done (fun h => Yx.weak (lw_s (lw_s (lw_n (lw_n (lw_s (lw_s (lw_s (lw_s (lw_n lw_0))))))))) h)
          · skip
            refine x_aload_n C (pc := 124) dX2_findPlace_124 rfl ?_
            refine x_iload C (pc := 125) dX2_findPlace_125 rfl ?_
            refine x_putIn C (pc := 127) fp_X2_82 dX2_findPlace_127 ht (fun s20 => ?_)
            refine x_aload_n C (pc := 130) dX2_findPlace_130 rfl ?_
            refine x_iload C (pc := 131) dX2_findPlace_131 rfl ?_
            refine x_putIn C (pc := 133) fp_X2_79 dX2_findPlace_133 ht (fun s21 => ?_)
            exact Xo.done (fun h => Yx.weak (lw_s (lw_s (lw_n (lw_n (lw_s (lw_s (lw_s (lw_s (lw_n lw_0))))))))) h)
      refine x_iinc C (pc := 136) (L' := fun i23 => [some (.ref t), some (.ref a), none, none, some (.int i1), some (.int i4), some (.int i8), some (.int i23), none]) dX2_findPlace_136 rfl kc_i_1 (by decide) (fun _ => rfl) (fun i23 => ?_)
      refine x_goto C (pc := 139) (tgt := 69) dX2_findPlace_139 (by decide) ?_
      exact Xo.done (fun h => Yx.weak (lw_s (lw_s (lw_n (lw_n (lw_s (lw_s (lw_s (lw_s (lw_n lw_0))))))))) h)
  exact x_vret dX2_findPlace_142 (fun h => h)
theorem ct_X2_findPlace (t : Nat) (ht : kd t = 2) (a : Nat) (ha : kd a = 4) (b : Int32) (c : Int32) (s0 : SS) (r : SS) (h : FX2_findPlace t a b c s0 = some r) : CT 0 yX2_findPlace cX2_findPlace 9 none 4 103 [.ref t, .ref a, .int b, .int c] s0 none r :=
  ct_of (by decide +kernel) (Or.inl ⟨rfl, rfl⟩) (lx_args [.ref t, .ref a, .int b, .int c]) (lx_entry [.ref t, .ref a, .int b, .int c] (fun _ => Nat.le_of_ble_eq_true rfl)) (fun o C hR => Yx.weak (lw_s (lw_s (lw_s (lw_s (lw_z (lw_z (lw_z (lw_z (lw_z lw_0))))))))) (bd_X2_findPlace C t ht a ha b c s0 r h hR))
def FX11_factorial (a : Int32) (s0 : SS) : Option (Int32) :=
  bd (FX11_within a (nI 0) ((nI 8) - (nI 1)) s0) (fun (r1 : Int32) => if r1 = 0 then some ((nI 1)) else (gd (inb a 8) (some ((([1, 1, 2, 6, 24, 120, 720, 5040] : List Int32).getD (Int32.toNatClampNeg a) 0)))))
set_option maxRecDepth 100000 in
set_option maxHeartbeats 4000000 in
theorem bd_X11_factorial {o : Om} (C : Cx o RX11 cX11_factorial 1 (some .int) (rmx 1 22) 0) (a : Int32) (s0 : SS) : Xo (FX11_factorial a s0) (fun r => RT o cX11_factorial (some (.int r)) s0) (Yx o 0 [some (.int a)] [] s0) := by
  unfold FX11_factorial
  refine x_iload_n C (pc := 0) dX11_factorial_0 rfl ?_
  refine x_iconst C (pc := 1) dX11_factorial_1 kc_i_0 ?_
  refine x_fac C (pc := 2) fs_X11_345 dX11_factorial_2 ?_
  refine x_facL C (pc := 5) dX11_factorial_5 ?_
  refine x_iconst C (pc := 6) dX11_factorial_6 kc_i_1 ?_
  refine x_isub C (pc := 7) dX11_factorial_7 ?_
  refine x_callSi C (pc := 8) ms_X11_92 [.int a, .int (nI 0), .int ((nI 8) - (nI 1))] (fun _ hr => ct_X11_within _ _ _ _ _ hr) ⟨Nat.le_of_ble_eq_true rfl, Nat.le_of_ble_eq_true rfl⟩ rfl (Nat.le_of_ble_eq_true rfl) rfl dX11_factorial_8 (fun r1 => ?_)
  refine x_if_eq C (pc := 11) (tgt := 22) dX11_factorial_11 (by decide) (fun _ => ?_) (fun _ => ?_)
  · skip
    refine x_iconst C (pc := 22) dX11_factorial_22 kc_i_1 ?_
    exact x_ret dX11_factorial_23 (fun h => h)
  · skip
    refine x_fac C (pc := 14) fs_X11_345 dX11_factorial_14 ?_
    refine x_iload_n C (pc := 17) dX11_factorial_17 rfl ?_
    refine x_facR C (pc := 18) dX11_factorial_18 (fun _ => ?_)
    refine x_goto C (pc := 19) (tgt := 23) dX11_factorial_19 (by decide) ?_
    exact x_ret dX11_factorial_23 (fun h => h)
theorem ct_X11_factorial (a : Int32) (s0 : SS) (r : Int32) (h : FX11_factorial a s0 = some r) : CT 0 yX11_factorial cX11_factorial 1 (some .int) 1 22 [.int a] s0 (some (.int r)) s0 :=
  ct_of (by decide +kernel) (Or.inr (Or.inl ⟨_, rfl, _, rfl, rfl⟩)) (lx_args [.int a]) (lx_entry [.int a] (fun _ => Nat.le_of_ble_eq_true rfl)) (fun o C hR => Yx.weak (lw_s lw_0) (bd_X11_factorial C a s0 r h hR))
def FX2_sumOverOrders (t : Nat) (a : Nat) (b : Int32) (s0 : SS) : Option (Int64 × SS) :=
  nm (gI s0 (lk a 2) 3) (fun (i1 : Int32) => nm (imin ((nI 1) <<< (i1 &&& 31)) (nI (ln (lk t 2)))) (fun (i2 : Int32) => nm (nI 0) (fun (i3 : Int32) => bd (lp FUEL (u2 (fun (n4 : Int32) (s5 : SS) => if i2 ≤ n4 then some (Sum.inr s5) else (bd2 (FX2_takenInDay t a (lk a 2) n4 i1 s5) (fun (r6 : Int32) (s7 : SS) => gd (inb n4 (ln (lk t 2))) (nm (pI s7 (lk t 2) (Int32.toNatClampNeg n4) r6) (fun (s8 : SS) => nm (n4 + (nI 1)) (fun (i9 : Int32) => some (Sum.inl (i9, s8))))))))) (i3, s0)) (fun (s10 : SS) => nm (lN 0) (fun (l11 : Int64) => nm (nI 0) (fun (i12 : Int32) => bd (lp FUEL (u2 (fun (m13 : Int64) (n14 : Int32) => if i2 ≤ n14 then some (Sum.inr m13) else (nm (n14 ||| ((nI 1) <<< (b &&& 31))) (fun (i15 : Int32) => bd (if i15 = n14 then some (m13) else (if i2 ≤ i15 then some (m13) else (bd (FJ6_bitCount_0f7a4 n14 s10) (fun (r16 : Int32) => nm r16 (fun (i17 : Int32) => bd (FX11_factorial i17 s10) (fun (r18 : Int32) => bd (FX11_factorial ((i1 - (nI 1)) - i17) s10) (fun (r19 : Int32) => nm ((Int32.toInt64 r18) * (Int32.toInt64 r19)) (fun (l20 : Int64) => gd (inb i15 (ln (lk t 2))) (gd (inb n14 (ln (lk t 2))) (nm (m13 + (l20 * (Int32.toInt64 ((gI s10 (lk t 2) (Int32.toNatClampNeg i15)) - (gI s10 (lk t 2) (Int32.toNatClampNeg n14)))))) (fun (l21 : Int64) => some (l21)))))))))))) (fun (k22 : Int64) => nm (n14 + (nI 1)) (fun (i23 : Int32) => some (Sum.inl (k22, i23)))))))) (l11, i12)) (fun (f24 : Int64) => some ((f24, s10)))))))))
set_option maxRecDepth 100000 in
set_option maxHeartbeats 4000000 in
theorem bd_X2_sumOverOrders {o : Om} (C : Cx o RX2 cX2_sumOverOrders 12 (some .long) (rmx 4 103) 0) (t : Nat) (ht : kd t = 2) (a : Nat) (ha : kd a = 4) (b : Int32) (s0 : SS) : Xo (FX2_sumOverOrders t a b s0) (fun r => RT o cX2_sumOverOrders (some (.long r.1)) r.2) (Yx o 0 [some (.ref t), some (.ref a), some (.int b), none, none, none, none, none, none, none, none, none] [] s0) := by
  unfold FX2_sumOverOrders
  refine x_aload_n C (pc := 0) dX2_sumOverOrders_0 rfl ?_
  refine x_getR C (pc := 1) fg_X2_44 dX2_sumOverOrders_1 ha ?_
  refine x_getI C (pc := 4) fg_X2_54 dX2_sumOverOrders_4 (lkd_4_2 ha) ?_
  refine x_istore_n C (pc := 7) (L' := fun i1 => [some (.ref t), some (.ref a), some (.int b), some (.int i1), none, none, none, none, none, none, none, none]) dX2_sumOverOrders_7 (by decide) (fun _ => rfl) (fun i1 => ?_)
  refine x_iconst C (pc := 8) dX2_sumOverOrders_8 kc_i_1 ?_
  refine x_iload_n C (pc := 9) dX2_sumOverOrders_9 rfl ?_
  refine x_ishl C (pc := 10) dX2_sumOverOrders_10 ?_
  refine x_aload_n C (pc := 11) dX2_sumOverOrders_11 rfl ?_
  refine x_getR C (pc := 12) fg_X2_20 dX2_sumOverOrders_12 ht ?_
  refine x_alen C (pc := 15) dX2_sumOverOrders_15 (lkd_2_2 ht) ?_
  refine x_mmin C (pc := 16) ml_X2_85 tw_mns tw_mai tw_mnc ⟨Nat.le_of_ble_eq_true rfl, Nat.le_of_ble_eq_true rfl⟩ dX2_sumOverOrders_16 ?_
  refine x_istore C (pc := 19) (L' := fun i2 => [some (.ref t), some (.ref a), some (.int b), some (.int i1), some (.int i2), none, none, none, none, none, none, none]) dX2_sumOverOrders_19 (by decide) (fun _ => rfl) (fun i2 => ?_)
  refine x_iconst C (pc := 21) dX2_sumOverOrders_21 kc_i_0 ?_
  refine x_istore C (pc := 22) (L' := fun i3 => [some (.ref t), some (.ref a), some (.int b), some (.int i1), some (.int i2), some (.int i3), none, none, none, none, none, none]) dX2_sumOverOrders_22 (by decide) (fun _ => rfl) (fun i3 => ?_)
  refine xb_1 (Z1 := (fun s10 => Yx o 56 [some (.ref t), none, some (.int b), some (.int i1), some (.int i2), none, none, none, none, none, none, none] [] s10)) ?_ (fun s10 => ?_)
  · refine Xo.mono (Yx.weak (lw_s (lw_s (lw_s (lw_s (lw_s (lw_s (lw_n (lw_n (lw_n (lw_n (lw_n (lw_n lw_0))))))))))))) (x_lp2 (fr := fun n4 s5 => Yx o 24 [some (.ref t), some (.ref a), some (.int b), some (.int i1), some (.int i2), some (.int n4), none, none, none, none, none, none] [] s5) _ _ (fun n4 s5 => ?_))
    refine x_iload C (pc := 24) dX2_sumOverOrders_24 rfl ?_
    refine x_iload C (pc := 26) dX2_sumOverOrders_26 rfl ?_
    refine x_icmp_ge C (pc := 28) (tgt := 56) dX2_sumOverOrders_28 (by decide) (fun _ => ?_) (fun _ => ?_)
    · skip
      exact Xo.done (fun h => Yx.weak (lw_s (lw_n (lw_s (lw_s (lw_s (lw_n (lw_n (lw_n (lw_n (lw_n (lw_n (lw_n lw_0)))))))))))) h)
    · skip
      refine x_aload_n C (pc := 31) dX2_sumOverOrders_31 rfl ?_
      refine x_getR C (pc := 32) fg_X2_20 dX2_sumOverOrders_32 ht ?_
      refine x_iload C (pc := 35) dX2_sumOverOrders_35 rfl ?_
      refine x_aload_n C (pc := 37) dX2_sumOverOrders_37 rfl ?_
      refine x_aload_n C (pc := 38) dX2_sumOverOrders_38 rfl ?_
      refine x_aload_n C (pc := 39) dX2_sumOverOrders_39 rfl ?_
      refine x_getR C (pc := 40) fg_X2_44 dX2_sumOverOrders_40 ha ?_
      refine x_iload C (pc := 43) dX2_sumOverOrders_43 rfl ?_
      refine x_iload_n C (pc := 45) dX2_sumOverOrders_45 rfl ?_
      refine x_callVim C (pc := 46) mv_X2_57 ht rfl [.ref a, .ref (lk a 2), .int n4, .int i1] (fun _ _ hr => ct_X2_takenInDay _ ht _ ha _ (lkd_4_2 ha) _ _ _ _ _ hr) ⟨Nat.le_of_ble_eq_true rfl, Nat.le_of_ble_eq_true rfl⟩ rfl (Nat.le_of_ble_eq_true rfl) rfl dX2_sumOverOrders_46 (fun r6 s7 => ?_)
      refine x_iastn C (pc := 49) dX2_sumOverOrders_49 (lkd_2_2 ht) (fun s8 => ?_)
      refine x_iinc C (pc := 50) (L' := fun i9 => [some (.ref t), some (.ref a), some (.int b), some (.int i1), some (.int i2), some (.int i9), none, none, none, none, none, none]) dX2_sumOverOrders_50 rfl kc_i_1 (by decide) (fun _ => rfl) (fun i9 => ?_)
      refine x_goto C (pc := 53) (tgt := 24) dX2_sumOverOrders_53 (by decide) ?_
      exact Xo.done (fun h => Yx.weak (lw_s (lw_s (lw_s (lw_s (lw_s (lw_s (lw_n (lw_n (lw_n (lw_n (lw_n (lw_n lw_0)))))))))))) h)
  refine x_lconst C (pc := 56) dX2_sumOverOrders_56 (v := lN 0) rfl ?_
  refine x_lstore C (pc := 57) (L' := fun l11 => [some (.ref t), none, some (.int b), some (.int i1), some (.int i2), some (.long l11), none, none, none, none, none, none]) dX2_sumOverOrders_57 (by decide) (fun _ => rfl) (fun l11 => ?_)
  refine x_iconst C (pc := 59) dX2_sumOverOrders_59 kc_i_0 ?_
  refine x_istore C (pc := 60) (L' := fun i12 => [some (.ref t), none, some (.int b), some (.int i1), some (.int i2), some (.long l11), none, some (.int i12), none, none, none, none]) dX2_sumOverOrders_60 (by decide) (fun _ => rfl) (fun i12 => ?_)
  refine xb_1 (Z1 := (fun f24 => Yx o 147 [none, none, none, none, none, some (.long f24), none, none, none, none, none, none] [] s10)) ?_ (fun f24 => ?_)
  · refine Xo.mono (Yx.weak (lw_s (lw_n (lw_s (lw_s (lw_s (lw_s (lw_n (lw_s (lw_n (lw_n (lw_n (lw_n lw_0))))))))))))) (x_lp2 (fr := fun m13 n14 => Yx o 62 [some (.ref t), none, some (.int b), some (.int i1), some (.int i2), some (.long m13), none, some (.int n14), none, none, none, none] [] s10) _ _ (fun m13 n14 => ?_))
    refine x_iload C (pc := 62) dX2_sumOverOrders_62 rfl ?_
    refine x_iload C (pc := 64) dX2_sumOverOrders_64 rfl ?_
    refine x_icmp_ge C (pc := 66) (tgt := 147) dX2_sumOverOrders_66 (by decide) (fun _ => ?_) (fun _ => ?_)
    · skip
      exact Xo.done (fun h => Yx.weak (lw_n (lw_n (lw_n (lw_n (lw_n (lw_s (lw_n (lw_n (lw_n (lw_n (lw_n (lw_n lw_0)))))))))))) h)
    · skip
      refine x_iload C (pc := 69) dX2_sumOverOrders_69 rfl ?_
      refine x_iconst C (pc := 71) dX2_sumOverOrders_71 kc_i_1 ?_
      refine x_iload_n C (pc := 72) dX2_sumOverOrders_72 rfl ?_
      refine x_ishl C (pc := 73) dX2_sumOverOrders_73 ?_
      refine x_ior C (pc := 74) dX2_sumOverOrders_74 ?_
      refine x_istore C (pc := 75) (L' := fun i15 => [some (.ref t), none, some (.int b), some (.int i1), some (.int i2), some (.long m13), none, some (.int n14), some (.int i15), none, none, none]) dX2_sumOverOrders_75 (by decide) (fun _ => rfl) (fun i15 => ?_)
      refine x_iload C (pc := 77) dX2_sumOverOrders_77 rfl ?_
      refine x_iload C (pc := 79) dX2_sumOverOrders_79 rfl ?_
      refine xb_1 (Z1 := fun k22 => Yx o 141 [some (.ref t), none, some (.int b), some (.int i1), some (.int i2), some (.long k22), none, some (.int n14), none, none, none, none] [] s10) ?_ (fun k22 => ?_)
      · skip
        refine x_icmp_eq C (pc := 81) (tgt := 141) dX2_sumOverOrders_81 (by decide) (fun _ => ?_) (fun _ => ?_)
        · skip
          exact Xo.done (fun h => Yx.weak (lw_s (lw_n (lw_s (lw_s (lw_s (lw_s (lw_n (lw_s (lw_n (lw_n (lw_n (lw_n lw_0)))))))))))) h)
        · skip
          refine x_iload C (pc := 84) dX2_sumOverOrders_84 rfl ?_
          refine x_iload C (pc := 86) dX2_sumOverOrders_86 rfl ?_
          refine x_icmp_ge C (pc := 88) (tgt := 141) dX2_sumOverOrders_88 (by decide) (fun _ => ?_) (fun _ => ?_)
          · skip
            exact Xo.done (fun h => Yx.weak (lw_s (lw_n (lw_s (lw_s (lw_s (lw_s (lw_n (lw_s (lw_n (lw_n (lw_n (lw_n lw_0)))))))))))) h)
          · skip
            refine x_iload C (pc := 91) dX2_sumOverOrders_91 rfl ?_
            refine x_callSi C (pc := 93) ms_X2_88 [.int n14] (fun _ hr => ct_J6_bitCount_0f7a4 _ _ _ hr) ⟨Nat.le_of_ble_eq_true rfl, Nat.le_of_ble_eq_true rfl⟩ rfl (Nat.le_of_ble_eq_true rfl) rfl dX2_sumOverOrders_93 (fun r16 => ?_)
            refine x_istore C (pc := 96) (L' := fun i17 => [some (.ref t), none, some (.int b), some (.int i1), some (.int i2), some (.long m13), none, some (.int n14), some (.int i15), some (.int i17), none, none]) dX2_sumOverOrders_96 (by decide) (fun _ => rfl) (fun i17 => ?_)
            refine x_iload C (pc := 98) dX2_sumOverOrders_98 rfl ?_
            refine x_callNi C (pc := 100) mn_X2_93 [.int i17] (fun _ hr => ct_X11_factorial _ _ _ hr) ⟨Nat.le_of_ble_eq_true rfl, Nat.le_of_ble_eq_true rfl⟩ rfl (Nat.le_of_ble_eq_true rfl) rfl dX2_sumOverOrders_100 (fun r18 => ?_)
            refine x_i2l C (pc := 103) dX2_sumOverOrders_103 ?_
            refine x_iload_n C (pc := 104) dX2_sumOverOrders_104 rfl ?_
            refine x_iconst C (pc := 105) dX2_sumOverOrders_105 kc_i_1 ?_
            refine x_isub C (pc := 106) dX2_sumOverOrders_106 ?_
            refine x_iload C (pc := 107) dX2_sumOverOrders_107 rfl ?_
            refine x_isub C (pc := 109) dX2_sumOverOrders_109 ?_
            refine x_callNi C (pc := 110) mn_X2_93 [.int ((i1 - (nI 1)) - i17)] (fun _ hr => ct_X11_factorial _ _ _ hr) ⟨Nat.le_of_ble_eq_true rfl, Nat.le_of_ble_eq_true rfl⟩ rfl (Nat.le_of_ble_eq_true rfl) rfl dX2_sumOverOrders_110 (fun r19 => ?_)
            refine x_i2l C (pc := 113) dX2_sumOverOrders_113 ?_
            refine x_lmul C (pc := 114) dX2_sumOverOrders_114 ?_
            refine x_lstore C (pc := 115) (L' := fun l20 => [some (.ref t), none, some (.int b), some (.int i1), some (.int i2), some (.long m13), none, some (.int n14), some (.int i15), some (.int i17), some (.long l20), none]) dX2_sumOverOrders_115 (by decide) (fun _ => rfl) (fun l20 => ?_)
            refine x_lload C (pc := 117) dX2_sumOverOrders_117 rfl ?_
            refine x_lload C (pc := 119) dX2_sumOverOrders_119 rfl ?_
            refine x_aload_n C (pc := 121) dX2_sumOverOrders_121 rfl ?_
            refine x_getR C (pc := 122) fg_X2_20 dX2_sumOverOrders_122 ht ?_
            refine x_iload C (pc := 125) dX2_sumOverOrders_125 rfl ?_
            refine x_iald C (pc := 127) dX2_sumOverOrders_127 (lkd_2_2 ht) (fun _ => ?_)
            refine x_aload_n C (pc := 128) dX2_sumOverOrders_128 rfl ?_
            refine x_getR C (pc := 129) fg_X2_20 dX2_sumOverOrders_129 ht ?_
            refine x_iload C (pc := 132) dX2_sumOverOrders_132 rfl ?_
            refine x_iald C (pc := 134) dX2_sumOverOrders_134 (lkd_2_2 ht) (fun _ => ?_)
            refine x_isub C (pc := 135) dX2_sumOverOrders_135 ?_
            refine x_i2l C (pc := 136) dX2_sumOverOrders_136 ?_
            refine x_lmul C (pc := 137) dX2_sumOverOrders_137 ?_
            refine x_ladd C (pc := 138) dX2_sumOverOrders_138 ?_
            refine x_lstore C (pc := 139) (L' := fun l21 => [some (.ref t), none, some (.int b), some (.int i1), some (.int i2), some (.long l21), none, some (.int n14), some (.int i15), some (.int i17), some (.long l20), none]) dX2_sumOverOrders_139 (by decide) (fun _ => rfl) (fun l21 => ?_)
            exact Xo.done (fun h => Yx.weak (lw_s (lw_n (lw_s (lw_s (lw_s (lw_s (lw_n (lw_s (lw_n (lw_n (lw_n (lw_n lw_0)))))))))))) h)
      refine x_iinc C (pc := 141) (L' := fun i23 => [some (.ref t), none, some (.int b), some (.int i1), some (.int i2), some (.long k22), none, some (.int i23), none, none, none, none]) dX2_sumOverOrders_141 rfl kc_i_1 (by decide) (fun _ => rfl) (fun i23 => ?_)
      refine x_goto C (pc := 144) (tgt := 62) dX2_sumOverOrders_144 (by decide) ?_
      exact Xo.done (fun h => Yx.weak (lw_s (lw_n (lw_s (lw_s (lw_s (lw_s (lw_n (lw_s (lw_n (lw_n (lw_n (lw_n lw_0)))))))))))) h)
  refine x_lload C (pc := 147) dX2_sumOverOrders_147 rfl ?_
  exact x_lret dX2_sumOverOrders_149 (fun h => h)
theorem ct_X2_sumOverOrders (t : Nat) (ht : kd t = 2) (a : Nat) (ha : kd a = 4) (b : Int32) (s0 : SS) (r : Int64) (s2 : SS) (h : FX2_sumOverOrders t a b s0 = some (r, s2)) : CT 0 yX2_sumOverOrders cX2_sumOverOrders 12 (some .long) 4 103 [.ref t, .ref a, .int b] s0 (some (.long r)) s2 :=
  ct_of (by decide +kernel) (Or.inr (Or.inr ⟨_, rfl, rfl⟩)) (lx_args [.ref t, .ref a, .int b]) (lx_entry [.ref t, .ref a, .int b] (fun _ => Nat.le_of_ble_eq_true rfl)) (fun o C hR => Yx.weak (lw_s (lw_s (lw_s (lw_z (lw_z (lw_z (lw_z (lw_z (lw_z (lw_z (lw_z (lw_z lw_0)))))))))))) (bd_X2_sumOverOrders C t ht a ha b s0 (r, s2) h hR))
def FX2_takenInNext (t : Nat) (a : Nat) (b : Int32) (c : Int32) (s0 : SS) : Option (Int32 × SS) :=
  nm (nI 0) (fun (i1 : Int32) => nm (nI 0) (fun (i2 : Int32) => bd (lp FUEL (u3 (fun (n3 : Int32) (n4 : Int32) (s5 : SS) => if c ≤ n4 then some (Sum.inr (n3, s5)) else (bd (FX0_goInHour (lk t 0) a ((gI s5 a 8) + n4) (nI 127) s5) (fun (s6 : SS) => bd (FX0_takenBy (lk t 0) b s6) (fun (r7 : Int32) => nm (n3 + r7) (fun (i8 : Int32) => nm (n4 + (nI 1)) (fun (i9 : Int32) => some (Sum.inl (i8, i9, s6))))))))) (i1, i2, s0)) (u2 (fun (e10 : Int32) (s11 : SS) => some ((e10, s11))))))
set_option maxRecDepth 100000 in
set_option maxHeartbeats 4000000 in
theorem bd_X2_takenInNext {o : Om} (C : Cx o RX2 cX2_takenInNext 6 (some .int) (rmx 4 101) 0) (t : Nat) (ht : kd t = 2) (a : Nat) (ha : kd a = 4) (b : Int32) (c : Int32) (s0 : SS) : Xo (FX2_takenInNext t a b c s0) (fun r => RT o cX2_takenInNext (some (.int r.1)) r.2) (Yx o 0 [some (.ref t), some (.ref a), some (.int b), some (.int c), none, none] [] s0) := by
  unfold FX2_takenInNext
  refine x_iconst C (pc := 0) dX2_takenInNext_0 kc_i_0 ?_
  refine x_istore C (pc := 1) (L' := fun i1 => [some (.ref t), some (.ref a), some (.int b), some (.int c), some (.int i1), none]) dX2_takenInNext_1 (by decide) (fun _ => rfl) (fun i1 => ?_)
  refine x_iconst C (pc := 3) dX2_takenInNext_3 kc_i_0 ?_
  refine x_istore C (pc := 4) (L' := fun i2 => [some (.ref t), some (.ref a), some (.int b), some (.int c), some (.int i1), some (.int i2)]) dX2_takenInNext_4 (by decide) (fun _ => rfl) (fun i2 => ?_)
  refine xb_2 (Z1 := (fun e10 s11 => Yx o 48 [none, none, none, none, some (.int e10), none] [] s11)) ?_ (fun e10 s11 => ?_)
  · refine Xo.mono (Yx.weak (lw_s (lw_s (lw_s (lw_s (lw_s (lw_s lw_0))))))) (x_lp3 (fr := fun n3 n4 s5 => Yx o 6 [some (.ref t), some (.ref a), some (.int b), some (.int c), some (.int n3), some (.int n4)] [] s5) _ _ _ (fun n3 n4 s5 => ?_))
    refine x_iload C (pc := 6) dX2_takenInNext_6 rfl ?_
    refine x_iload_n C (pc := 8) dX2_takenInNext_8 rfl ?_
    refine x_icmp_ge C (pc := 9) (tgt := 48) dX2_takenInNext_9 (by decide) (fun _ => ?_) (fun _ => ?_)
    · skip
      exact Xo.done (fun h => Yx.weak (lw_n (lw_n (lw_n (lw_n (lw_s (lw_n lw_0)))))) h)
    · skip
      refine x_aload_n C (pc := 12) dX2_takenInNext_12 rfl ?_
      refine x_getR C (pc := 13) fg_X2_24 dX2_takenInNext_13 ht ?_
      refine x_aload_n C (pc := 16) dX2_takenInNext_16 rfl ?_
      refine x_aload_n C (pc := 17) dX2_takenInNext_17 rfl ?_
      refine x_getI C (pc := 18) fg_X2_34 dX2_takenInNext_18 ha ?_
      refine x_iload C (pc := 21) dX2_takenInNext_21 rfl ?_
      refine x_iadd C (pc := 23) dX2_takenInNext_23 ?_
      refine x_bipush C (pc := 24) dX2_takenInNext_24 kc_b_127 ?_
      refine x_callVv C (pc := 26) mv_X2_38 (lkd_2_0 ht) rfl [.ref a, .int ((gI s5 a 8) + n4), .int (nI 127)] (fun _ hr => ct_X0_goInHour _ (lkd_2_0 ht) _ ha _ _ _ _ hr) ⟨Nat.le_of_ble_eq_true rfl, Nat.le_of_ble_eq_true rfl⟩ rfl (Nat.le_of_ble_eq_true rfl) rfl dX2_takenInNext_26 (fun s6 => ?_)
      refine x_iload C (pc := 29) dX2_takenInNext_29 rfl ?_
      refine x_aload_n C (pc := 31) dX2_takenInNext_31 rfl ?_
      refine x_getR C (pc := 32) fg_X2_24 dX2_takenInNext_32 ht ?_
      refine x_iload_n C (pc := 35) dX2_takenInNext_35 rfl ?_
      refine x_callVi C (pc := 36) mv_X2_51 (lkd_2_0 ht) rfl [.int b] (fun _ hr => ct_X0_takenBy _ (lkd_2_0 ht) _ _ _ hr) ⟨Nat.le_of_ble_eq_true rfl, Nat.le_of_ble_eq_true rfl⟩ rfl (Nat.le_of_ble_eq_true rfl) rfl dX2_takenInNext_36 (fun r7 => ?_)
      refine x_iadd C (pc := 39) dX2_takenInNext_39 ?_
      refine x_istore C (pc := 40) (L' := fun i8 => [some (.ref t), some (.ref a), some (.int b), some (.int c), some (.int i8), some (.int n4)]) dX2_takenInNext_40 (by decide) (fun _ => rfl) (fun i8 => ?_)
      refine x_iinc C (pc := 42) (L' := fun i9 => [some (.ref t), some (.ref a), some (.int b), some (.int c), some (.int i8), some (.int i9)]) dX2_takenInNext_42 rfl kc_i_1 (by decide) (fun _ => rfl) (fun i9 => ?_)
      refine x_goto C (pc := 45) (tgt := 6) dX2_takenInNext_45 (by decide) ?_
      exact Xo.done (fun h => Yx.weak (lw_s (lw_s (lw_s (lw_s (lw_s (lw_s lw_0)))))) h)
  refine x_iload C (pc := 48) dX2_takenInNext_48 rfl ?_
  exact x_ret dX2_takenInNext_50 (fun h => h)
theorem ct_X2_takenInNext (t : Nat) (ht : kd t = 2) (a : Nat) (ha : kd a = 4) (b : Int32) (c : Int32) (s0 : SS) (r : Int32) (s2 : SS) (h : FX2_takenInNext t a b c s0 = some (r, s2)) : CT 0 yX2_takenInNext cX2_takenInNext 6 (some .int) 4 101 [.ref t, .ref a, .int b, .int c] s0 (some (.int r)) s2 :=
  ct_of (by decide +kernel) (Or.inr (Or.inl ⟨_, rfl, _, rfl, rfl⟩)) (lx_args [.ref t, .ref a, .int b, .int c]) (lx_entry [.ref t, .ref a, .int b, .int c] (fun _ => Nat.le_of_ble_eq_true rfl)) (fun o C hR => Yx.weak (lw_s (lw_s (lw_s (lw_s (lw_z (lw_z lw_0)))))) (bd_X2_takenInNext C t ht a ha b c s0 (r, s2) h hR))
def FX2_rentBySeed (t : Nat) (a : Nat) (b : Int32) (c : Int32) (s0 : SS) : Option (Int32 × SS) :=
  nm (Int32.toInt64 b) (fun (l1 : Int64) => nm (nI 0) (fun (i2 : Int32) => nm (nI 0) (fun (i3 : Int32) => bd (lp FUEL (u4 (fun (m4 : Int64) (n5 : Int32) (n6 : Int32) (s7 : SS) => if c ≤ n6 then some (Sum.inr (n5, s7)) else (nm (((m4 * (1103515245 : Int64)) + (12345 : Int64)) - ((m4 * (1103515245 : Int64)) + (12345 : Int64)) / (2147483648 : Int64) * (2147483648 : Int64)) (fun (l8 : Int64) => nm (Int64.toInt32 ((l8 / (65536 : Int64)) - (l8 / (65536 : Int64)) / (21 : Int64) * (21 : Int64))) (fun (i9 : Int32) => nm (Int64.toInt32 ((l8 / (1048576 : Int64)) - (l8 / (1048576 : Int64)) / (2 : Int64) * (2 : Int64))) (fun (i10 : Int32) => bd (FX0_go (lk t 0) (lk a 2) (nI 127) i9 i10 s7) (fun (s11 : SS) => bd (FX0_rentOfAll (lk t 0) (lk a 2) s11) (fun (r12 : Int32) => nm (n5 + r12) (fun (i13 : Int32) => nm (n6 + (nI 1)) (fun (i14 : Int32) => some (Sum.inl (l8, i13, i14, s11)))))))))))) (l1, i2, i3, s0)) (u2 (fun (e15 : Int32) (s16 : SS) => some ((e15, s16)))))))
set_option maxRecDepth 100000 in
set_option maxHeartbeats 4000000 in
theorem bd_X2_rentBySeed {o : Om} (C : Cx o RX2 cX2_rentBySeed 10 (some .int) (rmx 4 88) 0) (t : Nat) (ht : kd t = 2) (a : Nat) (ha : kd a = 4) (b : Int32) (c : Int32) (s0 : SS) : Xo (FX2_rentBySeed t a b c s0) (fun r => RT o cX2_rentBySeed (some (.int r.1)) r.2) (Yx o 0 [some (.ref t), some (.ref a), some (.int b), some (.int c), none, none, none, none, none, none] [] s0) := by
  unfold FX2_rentBySeed
  refine x_iload_n C (pc := 0) dX2_rentBySeed_0 rfl ?_
  refine x_i2l C (pc := 1) dX2_rentBySeed_1 ?_
  refine x_lstore C (pc := 2) (L' := fun l1 => [some (.ref t), some (.ref a), some (.int b), some (.int c), some (.long l1), none, none, none, none, none]) dX2_rentBySeed_2 (by decide) (fun _ => rfl) (fun l1 => ?_)
  refine x_iconst C (pc := 4) dX2_rentBySeed_4 kc_i_0 ?_
  refine x_istore C (pc := 5) (L' := fun i2 => [some (.ref t), some (.ref a), some (.int b), some (.int c), some (.long l1), none, some (.int i2), none, none, none]) dX2_rentBySeed_5 (by decide) (fun _ => rfl) (fun i2 => ?_)
  refine x_iconst C (pc := 7) dX2_rentBySeed_7 kc_i_0 ?_
  refine x_istore C (pc := 8) (L' := fun i3 => [some (.ref t), some (.ref a), some (.int b), some (.int c), some (.long l1), none, some (.int i2), some (.int i3), none, none]) dX2_rentBySeed_8 (by decide) (fun _ => rfl) (fun i3 => ?_)
  refine xb_2 (Z1 := (fun e15 s16 => Yx o 97 [none, none, none, none, none, none, some (.int e15), none, none, none] [] s16)) ?_ (fun e15 s16 => ?_)
  · refine Xo.mono (Yx.weak (lw_s (lw_s (lw_n (lw_s (lw_s (lw_n (lw_s (lw_s (lw_n (lw_n lw_0))))))))))) (x_lp4 (fr := fun m4 n5 n6 s7 => Yx o 10 [some (.ref t), some (.ref a), none, some (.int c), some (.long m4), none, some (.int n5), some (.int n6), none, none] [] s7) _ _ _ _ (fun m4 n5 n6 s7 => ?_))
    refine x_iload C (pc := 10) dX2_rentBySeed_10 rfl ?_
    refine x_iload_n C (pc := 12) dX2_rentBySeed_12 rfl ?_
    refine x_icmp_ge C (pc := 13) (tgt := 97) dX2_rentBySeed_13 (by decide) (fun _ => ?_) (fun _ => ?_)
    · skip
      exact Xo.done (fun h => Yx.weak (lw_n (lw_n (lw_n (lw_n (lw_n (lw_n (lw_s (lw_n (lw_n (lw_n lw_0)))))))))) h)
    · skip
      refine x_lload C (pc := 16) dX2_rentBySeed_16 rfl ?_
      refine x_ldc2 C (pc := 18) dX2_rentBySeed_18 cl_X2_109 ?_
      refine x_lmul C (pc := 21) dX2_rentBySeed_21 ?_
      refine x_ldc2 C (pc := 22) dX2_rentBySeed_22 cl_X2_111 ?_
      refine x_ladd C (pc := 25) dX2_rentBySeed_25 ?_
      refine x_ldc2 C (pc := 26) dX2_rentBySeed_26 cl_X2_113 ?_
      refine x_lrem C (pc := 29) dX2_rentBySeed_29 (by decide +kernel) ?_
      refine x_lstore C (pc := 30) (L' := fun l8 => [some (.ref t), some (.ref a), none, some (.int c), some (.long l8), none, some (.int n5), some (.int n6), none, none]) dX2_rentBySeed_30 (by decide) (fun _ => rfl) (fun l8 => ?_)
      refine x_lload C (pc := 32) dX2_rentBySeed_32 rfl ?_
      refine x_ldc2 C (pc := 34) dX2_rentBySeed_34 cl_X2_115 ?_
      refine x_ldiv C (pc := 37) dX2_rentBySeed_37 (by decide +kernel) ?_
      refine x_ldc2 C (pc := 38) dX2_rentBySeed_38 cl_X2_117 ?_
      refine x_lrem C (pc := 41) dX2_rentBySeed_41 (by decide +kernel) ?_
      refine x_l2i C (pc := 42) dX2_rentBySeed_42 ?_
      refine x_istore C (pc := 43) (L' := fun i9 => [some (.ref t), some (.ref a), none, some (.int c), some (.long l8), none, some (.int n5), some (.int n6), some (.int i9), none]) dX2_rentBySeed_43 (by decide) (fun _ => rfl) (fun i9 => ?_)
      refine x_lload C (pc := 45) dX2_rentBySeed_45 rfl ?_
      refine x_ldc2 C (pc := 47) dX2_rentBySeed_47 cl_X2_119 ?_
      refine x_ldiv C (pc := 50) dX2_rentBySeed_50 (by decide +kernel) ?_
      refine x_ldc2 C (pc := 51) dX2_rentBySeed_51 cl_X2_121 ?_
      refine x_lrem C (pc := 54) dX2_rentBySeed_54 (by decide +kernel) ?_
      refine x_l2i C (pc := 55) dX2_rentBySeed_55 ?_
      refine x_istore C (pc := 56) (L' := fun i10 => [some (.ref t), some (.ref a), none, some (.int c), some (.long l8), none, some (.int n5), some (.int n6), some (.int i9), some (.int i10)]) dX2_rentBySeed_56 (by decide) (fun _ => rfl) (fun i10 => ?_)
      refine x_aload_n C (pc := 58) dX2_rentBySeed_58 rfl ?_
      refine x_getR C (pc := 59) fg_X2_24 dX2_rentBySeed_59 ht ?_
      refine x_aload_n C (pc := 62) dX2_rentBySeed_62 rfl ?_
      refine x_getR C (pc := 63) fg_X2_44 dX2_rentBySeed_63 ha ?_
      refine x_bipush C (pc := 66) dX2_rentBySeed_66 kc_b_127 ?_
      refine x_iload C (pc := 68) dX2_rentBySeed_68 rfl ?_
      refine x_iload C (pc := 70) dX2_rentBySeed_70 rfl ?_
      refine x_callVv C (pc := 72) mv_X2_102 (lkd_2_0 ht) rfl [.ref (lk a 2), .int (nI 127), .int i9, .int i10] (fun _ hr => ct_X0_go _ (lkd_2_0 ht) _ (lkd_4_2 ha) _ _ _ _ _ hr) ⟨Nat.le_of_ble_eq_true rfl, Nat.le_of_ble_eq_true rfl⟩ rfl (Nat.le_of_ble_eq_true rfl) rfl dX2_rentBySeed_72 (fun s11 => ?_)
      refine x_iload C (pc := 75) dX2_rentBySeed_75 rfl ?_
      refine x_aload_n C (pc := 77) dX2_rentBySeed_77 rfl ?_
      refine x_getR C (pc := 78) fg_X2_24 dX2_rentBySeed_78 ht ?_
      refine x_aload_n C (pc := 81) dX2_rentBySeed_81 rfl ?_
      refine x_getR C (pc := 82) fg_X2_44 dX2_rentBySeed_82 ha ?_
      refine x_callVi C (pc := 85) mv_X2_123 (lkd_2_0 ht) rfl [.ref (lk a 2)] (fun _ hr => ct_X0_rentOfAll _ (lkd_2_0 ht) _ (lkd_4_2 ha) _ _ hr) ⟨Nat.le_of_ble_eq_true rfl, Nat.le_of_ble_eq_true rfl⟩ rfl (Nat.le_of_ble_eq_true rfl) rfl dX2_rentBySeed_85 (fun r12 => ?_)
      refine x_iadd C (pc := 88) dX2_rentBySeed_88 ?_
      refine x_istore C (pc := 89) (L' := fun i13 => [some (.ref t), some (.ref a), none, some (.int c), some (.long l8), none, some (.int i13), some (.int n6), some (.int i9), some (.int i10)]) dX2_rentBySeed_89 (by decide) (fun _ => rfl) (fun i13 => ?_)
      refine x_iinc C (pc := 91) (L' := fun i14 => [some (.ref t), some (.ref a), none, some (.int c), some (.long l8), none, some (.int i13), some (.int i14), some (.int i9), some (.int i10)]) dX2_rentBySeed_91 rfl kc_i_1 (by decide) (fun _ => rfl) (fun i14 => ?_)
      refine x_goto C (pc := 94) (tgt := 10) dX2_rentBySeed_94 (by decide) ?_
      exact Xo.done (fun h => Yx.weak (lw_s (lw_s (lw_n (lw_s (lw_s (lw_n (lw_s (lw_s (lw_n (lw_n lw_0)))))))))) h)
  refine x_iload C (pc := 97) dX2_rentBySeed_97 rfl ?_
  exact x_ret dX2_rentBySeed_99 (fun h => h)
theorem ct_X2_rentBySeed (t : Nat) (ht : kd t = 2) (a : Nat) (ha : kd a = 4) (b : Int32) (c : Int32) (s0 : SS) (r : Int32) (s2 : SS) (h : FX2_rentBySeed t a b c s0 = some (r, s2)) : CT 0 yX2_rentBySeed cX2_rentBySeed 10 (some .int) 4 88 [.ref t, .ref a, .int b, .int c] s0 (some (.int r)) s2 :=
  ct_of (by decide +kernel) (Or.inr (Or.inl ⟨_, rfl, _, rfl, rfl⟩)) (lx_args [.ref t, .ref a, .int b, .int c]) (lx_entry [.ref t, .ref a, .int b, .int c] (fun _ => Nat.le_of_ble_eq_true rfl)) (fun o C hR => Yx.weak (lw_s (lw_s (lw_s (lw_s (lw_z (lw_z (lw_z (lw_z (lw_z (lw_z lw_0)))))))))) (bd_X2_rentBySeed C t ht a ha b c s0 (r, s2) h hR))
def FX3_greatestDivisor (a : Int64) (b : Int64) (s0 : SS) : Option (Int64) :=
  nm a (fun (l1 : Int64) => nm b (fun (l2 : Int64) => nm (nI 0) (fun (i3 : Int32) => bd (lp FUEL (u3 (fun (m4 : Int64) (m5 : Int64) (n6 : Int32) => if (nI 100) ≤ n6 then some (Sum.inr m4) else (if (lg_cmp m5 (lN 0)) = 0 then some (Sum.inr m4) else (gd (decide (¬ m5 = 0)) (nm (m4 - m4 / m5 * m5) (fun (l7 : Int64) => nm m5 (fun (l8 : Int64) => nm l7 (fun (l9 : Int64) => nm (n6 + (nI 1)) (fun (i10 : Int32) => some (Sum.inl (l8, l9, i10))))))))))) (l1, l2, i3)) (fun (f11 : Int64) => some (f11)))))
set_option maxRecDepth 100000 in
set_option maxHeartbeats 4000000 in
theorem bd_X3_greatestDivisor {o : Om} (C : Cx o RX3 cX3_greatestDivisor 11 (some .long) (rmx 0 0) 0) (a : Int64) (b : Int64) (s0 : SS) : Xo (FX3_greatestDivisor a b s0) (fun r => RT o cX3_greatestDivisor (some (.long r)) s0) (Yx o 0 [some (.long a), none, some (.long b), none, none, none, none, none, none, none, none] [] s0) := by
  unfold FX3_greatestDivisor
  refine x_lload_n C (pc := 0) dX3_greatestDivisor_0 rfl ?_
  refine x_lstore C (pc := 1) (L' := fun l1 => [some (.long a), none, some (.long b), none, some (.long l1), none, none, none, none, none, none]) dX3_greatestDivisor_1 (by decide) (fun _ => rfl) (fun l1 => ?_)
  refine x_lload_n C (pc := 3) dX3_greatestDivisor_3 rfl ?_
  refine x_lstore C (pc := 4) (L' := fun l2 => [some (.long a), none, some (.long b), none, some (.long l1), none, some (.long l2), none, none, none, none]) dX3_greatestDivisor_4 (by decide) (fun _ => rfl) (fun l2 => ?_)
  refine x_iconst C (pc := 6) dX3_greatestDivisor_6 kc_i_0 ?_
  refine x_istore C (pc := 7) (L' := fun i3 => [some (.long a), none, some (.long b), none, some (.long l1), none, some (.long l2), none, some (.int i3), none, none]) dX3_greatestDivisor_7 (by decide) (fun _ => rfl) (fun i3 => ?_)
  refine xb_1 (Z1 := (fun f11 => Yx o 44 [none, none, none, none, some (.long f11), none, none, none, none, none, none] [] s0)) ?_ (fun f11 => ?_)
  · refine Xo.mono (Yx.weak (lw_n (lw_n (lw_n (lw_n (lw_s (lw_n (lw_s (lw_n (lw_s (lw_n (lw_n lw_0)))))))))))) (x_lp3 (fr := fun m4 m5 n6 => Yx o 9 [none, none, none, none, some (.long m4), none, some (.long m5), none, some (.int n6), none, none] [] s0) _ _ _ (fun m4 m5 n6 => ?_))
    refine x_iload C (pc := 9) dX3_greatestDivisor_9 rfl ?_
    refine x_bipush C (pc := 11) dX3_greatestDivisor_11 kc_b_100 ?_
    refine x_icmp_ge C (pc := 13) (tgt := 44) dX3_greatestDivisor_13 (by decide) (fun _ => ?_) (fun _ => ?_)
    · skip
      exact Xo.done (fun h => Yx.weak (lw_n (lw_n (lw_n (lw_n (lw_s (lw_n (lw_n (lw_n (lw_n (lw_n (lw_n lw_0))))))))))) h)
    · skip
      refine x_lload C (pc := 16) dX3_greatestDivisor_16 rfl ?_
      refine x_lconst C (pc := 18) dX3_greatestDivisor_18 (v := lN 0) rfl ?_
      refine x_lcmp C (pc := 19) dX3_greatestDivisor_19 ?_
      refine x_if_eq C (pc := 20) (tgt := 44) dX3_greatestDivisor_20 (by decide) (fun _ => ?_) (fun _ => ?_)
      · skip
        exact Xo.done (fun h => Yx.weak (lw_n (lw_n (lw_n (lw_n (lw_s (lw_n (lw_n (lw_n (lw_n (lw_n (lw_n lw_0))))))))))) h)
      · skip
        refine x_lload C (pc := 23) dX3_greatestDivisor_23 rfl ?_
        refine x_lload C (pc := 25) dX3_greatestDivisor_25 rfl ?_
        refine Xo.gd (fun hz => ?_)
        refine x_lrem C (pc := 27) dX3_greatestDivisor_27 (of_decide_eq_true hz) ?_
        refine x_lstore C (pc := 28) (L' := fun l7 => [none, none, none, none, some (.long m4), none, some (.long m5), none, some (.int n6), some (.long l7), none]) dX3_greatestDivisor_28 (by decide) (fun _ => rfl) (fun l7 => ?_)
        refine x_lload C (pc := 30) dX3_greatestDivisor_30 rfl ?_
        refine x_lstore C (pc := 32) (L' := fun l8 => [none, none, none, none, some (.long l8), none, some (.long m5), none, some (.int n6), some (.long l7), none]) dX3_greatestDivisor_32 (by decide) (fun _ => rfl) (fun l8 => ?_)
        refine x_lload C (pc := 34) dX3_greatestDivisor_34 rfl ?_
        refine x_lstore C (pc := 36) (L' := fun l9 => [none, none, none, none, some (.long l8), none, some (.long l9), none, some (.int n6), some (.long l7), none]) dX3_greatestDivisor_36 (by decide) (fun _ => rfl) (fun l9 => ?_)
        refine x_iinc C (pc := 38) (L' := fun i10 => [none, none, none, none, some (.long l8), none, some (.long l9), none, some (.int i10), some (.long l7), none]) dX3_greatestDivisor_38 rfl kc_i_1 (by decide) (fun _ => rfl) (fun i10 => ?_)
        refine x_goto C (pc := 41) (tgt := 9) dX3_greatestDivisor_41 (by decide) ?_
        exact Xo.done (fun h => Yx.weak (lw_n (lw_n (lw_n (lw_n (lw_s (lw_n (lw_s (lw_n (lw_s (lw_n (lw_n lw_0))))))))))) h)
  refine x_lload C (pc := 44) dX3_greatestDivisor_44 rfl ?_
  exact x_lret dX3_greatestDivisor_46 (fun h => h)
theorem ct_X3_greatestDivisor (a : Int64) (b : Int64) (s0 : SS) (r : Int64) (h : FX3_greatestDivisor a b s0 = some r) : CT 0 yX3_greatestDivisor cX3_greatestDivisor 11 (some .long) 0 0 [.long a, .long b] s0 (some (.long r)) s0 :=
  ct_of (by decide +kernel) (Or.inr (Or.inr ⟨_, rfl, rfl⟩)) (lx_args [.long a, .long b]) (lx_entry [.long a, .long b] (fun _ => Nat.le_of_ble_eq_true rfl)) (fun o C hR => Yx.weak (lw_s (lw_s (lw_s (lw_s (lw_z (lw_z (lw_z (lw_z (lw_z (lw_z (lw_z lw_0))))))))))) (bd_X3_greatestDivisor C a b s0 r h hR))
def FX3_set (t : Nat) (a : Int64) (b : Int64) (s0 : SS) : Option (SS) :=
  bd (FX3_greatestDivisor (labs a) b s0) (fun (r1 : Int64) => nm r1 (fun (l2 : Int64) => if (lg_cmp l2 (lN 0)) ≤ 0 then some (s0) else (gd (decide (¬ l2 = 0)) (nm (pL s0 t 0 (a / l2)) (fun (s3 : SS) => gd (decide (¬ l2 = 0)) (nm (pL s3 t 1 (b / l2)) (fun (s4 : SS) => some (s4))))))))
set_option maxRecDepth 100000 in
set_option maxHeartbeats 4000000 in
theorem bd_X3_set {o : Om} (C : Cx o RX3 cX3_set 7 none (rmx 1 30) 0) (t : Nat) (ht : kd t = 3) (a : Int64) (b : Int64) (s0 : SS) : Xo (FX3_set t a b s0) (fun r => RT o cX3_set none r) (Yx o 0 [some (.ref t), some (.long a), none, some (.long b), none, none, none] [] s0) := by
  unfold FX3_set
  refine x_lload_n C (pc := 0) dX3_set_0 rfl ?_
  refine x_labs C (pc := 1) ml_X3_16 tw_mas tw_mai tw_mac ⟨Nat.le_of_ble_eq_true rfl, Nat.le_of_ble_eq_true rfl⟩ dX3_set_1 ?_
  refine x_lload_n C (pc := 4) dX3_set_4 rfl ?_
  refine x_callSl C (pc := 5) ms_X3_22 [.long (labs a), .long b] (fun _ hr => ct_X3_greatestDivisor _ _ _ _ hr) ⟨Nat.le_of_ble_eq_true rfl, Nat.le_of_ble_eq_true rfl⟩ rfl (Nat.le_of_ble_eq_true rfl) rfl dX3_set_5 (fun r1 => ?_)
  refine x_lstore C (pc := 8) (L' := fun l2 => [some (.ref t), some (.long a), none, some (.long b), none, some (.long l2), none]) dX3_set_8 (by decide) (fun _ => rfl) (fun l2 => ?_)
  refine x_lload C (pc := 10) dX3_set_10 rfl ?_
  refine x_lconst C (pc := 12) dX3_set_12 (v := lN 0) rfl ?_
  refine x_lcmp C (pc := 13) dX3_set_13 ?_
  refine x_if_le C (pc := 14) (tgt := 33) dX3_set_14 (by decide) (fun _ => ?_) (fun _ => ?_)
  · skip
    exact x_vret dX3_set_33 (fun h => h)
  · skip
    refine x_aload_n C (pc := 17) dX3_set_17 rfl ?_
    refine x_lload_n C (pc := 18) dX3_set_18 rfl ?_
    refine x_lload C (pc := 19) dX3_set_19 rfl ?_
    refine Xo.gd (fun hz => ?_)
    refine x_ldiv C (pc := 21) dX3_set_21 (of_decide_eq_true hz) ?_
    refine x_putLn C (pc := 22) fp_X3_7 dX3_set_22 ht (fun s3 => ?_)
    refine x_aload_n C (pc := 25) dX3_set_25 rfl ?_
    refine x_lload_n C (pc := 26) dX3_set_26 rfl ?_
    refine x_lload C (pc := 27) dX3_set_27 rfl ?_
    refine Xo.gd (fun hz => ?_)
    refine x_ldiv C (pc := 29) dX3_set_29 (of_decide_eq_true hz) ?_
    refine x_putLn C (pc := 30) fp_X3_13 dX3_set_30 ht (fun s4 => ?_)
    exact x_vret dX3_set_33 (fun h => h)
theorem ct_X3_set (t : Nat) (ht : kd t = 3) (a : Int64) (b : Int64) (s0 : SS) (r : SS) (h : FX3_set t a b s0 = some r) : CT 0 yX3_set cX3_set 7 none 1 30 [.ref t, .long a, .long b] s0 none r :=
  ct_of (by decide +kernel) (Or.inl ⟨rfl, rfl⟩) (lx_args [.ref t, .long a, .long b]) (lx_entry [.ref t, .long a, .long b] (fun _ => Nat.le_of_ble_eq_true rfl)) (fun o C hR => Yx.weak (lw_s (lw_s (lw_s (lw_s (lw_s (lw_z (lw_z lw_0))))))) (bd_X3_set C t ht a b s0 r h hR))
def FX9_empty (t : Nat) (s0 : SS) : Option (Int32 × SS) :=
  nm (gI s0 t 3) (fun (i1 : Int32) => nm (pI s0 t 3 (nI 0)) (fun (s2 : SS) => some ((i1, s2))))
set_option maxRecDepth 100000 in
set_option maxHeartbeats 4000000 in
theorem bd_X9_empty {o : Om} (C : Cx o RX9 cX9_empty 2 (some .int) (rmx 0 0) 0) (t : Nat) (ht : kd t = 7) (s0 : SS) : Xo (FX9_empty t s0) (fun r => RT o cX9_empty (some (.int r.1)) r.2) (Yx o 0 [some (.ref t), none] [] s0) := by
  unfold FX9_empty
  refine x_aload_n C (pc := 0) dX9_empty_0 rfl ?_
  refine x_getI C (pc := 1) fg_X9_22 dX9_empty_1 ht ?_
  refine x_istore_n C (pc := 4) (L' := fun i1 => [some (.ref t), some (.int i1)]) dX9_empty_4 (by decide) (fun _ => rfl) (fun i1 => ?_)
  refine x_aload_n C (pc := 5) dX9_empty_5 rfl ?_
  refine x_iconst C (pc := 6) dX9_empty_6 kc_i_0 ?_
  refine x_putIn C (pc := 7) fp_X9_22 dX9_empty_7 ht (fun s2 => ?_)
  refine x_iload_n C (pc := 10) dX9_empty_10 rfl ?_
  exact x_ret dX9_empty_11 (fun h => h)
theorem ct_X9_empty (t : Nat) (ht : kd t = 7) (s0 : SS) (r : Int32) (s2 : SS) (h : FX9_empty t s0 = some (r, s2)) : CT 0 yX9_empty cX9_empty 2 (some .int) 0 0 [.ref t] s0 (some (.int r)) s2 :=
  ct_of (by decide +kernel) (Or.inr (Or.inl ⟨_, rfl, _, rfl, rfl⟩)) (lx_args [.ref t]) (lx_entry [.ref t] (fun _ => Nat.le_of_ble_eq_true rfl)) (fun o C hR => Yx.weak (lw_s (lw_z lw_0)) (bd_X9_empty C t ht s0 (r, s2) h hR))
def FX4_reset (t : Nat) (s0 : SS) : Option (SS) :=
  nm (nI 0) (fun (i1 : Int32) => bd (lp FUEL (u2 (fun (n2 : Int32) (s3 : SS) => if (nI 8) ≤ n2 then some (Sum.inr s3) else (gd (inb n2 (ln (lk t 0))) (nm (pI s3 (lk t 0) (Int32.toNatClampNeg n2) (nI 0)) (fun (s4 : SS) => gd (inb n2 (ln (lk t 1))) (nm (pI s4 (lk t 1) (Int32.toNatClampNeg n2) (nI 0)) (fun (s5 : SS) => nm (n2 + (nI 1)) (fun (i6 : Int32) => some (Sum.inl (i6, s5)))))))))) (i1, s0)) (fun (s7 : SS) => bd2 (FX9_empty (lk t 2) s7) (fun (r8 : Int32) (s9 : SS) => bd2 (FX9_empty (lk t 3) s9) (fun (r10 : Int32) (s11 : SS) => bd2 (FX9_empty (lk t 4) s11) (fun (r12 : Int32) (s13 : SS) => bd2 (FX9_empty (lk t 5) s13) (fun (r14 : Int32) (s15 : SS) => bd2 (FX9_empty (lk t 6) s15) (fun (r16 : Int32) (s17 : SS) => bd2 (FX9_empty (lk t 7) s17) (fun (r18 : Int32) (s19 : SS) => nm (pI s19 t 8 (nI 0)) (fun (s20 : SS) => nm (pI s20 t 9 (nI 0)) (fun (s21 : SS) => some (s21)))))))))))
set_option maxRecDepth 100000 in
set_option maxHeartbeats 4000000 in
theorem bd_X4_reset {o : Om} (C : Cx o RX4 cX4_reset 2 none (rmx 1 21) 0) (t : Nat) (ht : kd t = 4) (s0 : SS) : Xo (FX4_reset t s0) (fun r => RT o cX4_reset none r) (Yx o 0 [some (.ref t), none] [] s0) := by
  unfold FX4_reset
  refine x_iconst C (pc := 0) dX4_reset_0 kc_i_0 ?_
  refine x_istore_n C (pc := 1) (L' := fun i1 => [some (.ref t), some (.int i1)]) dX4_reset_1 (by decide) (fun _ => rfl) (fun i1 => ?_)
  refine xb_1 (Z1 := (fun s7 => Yx o 28 [some (.ref t), none] [] s7)) ?_ (fun s7 => ?_)
  · refine Xo.mono (Yx.weak (lw_s (lw_s lw_0))) (x_lp2 (fr := fun n2 s3 => Yx o 2 [some (.ref t), some (.int n2)] [] s3) _ _ (fun n2 s3 => ?_))
    refine x_iload_n C (pc := 2) dX4_reset_2 rfl ?_
    refine x_bipush C (pc := 3) dX4_reset_3 kc_b_8 ?_
    refine x_icmp_ge C (pc := 5) (tgt := 28) dX4_reset_5 (by decide) (fun _ => ?_) (fun _ => ?_)
    · skip
      exact Xo.done (fun h => Yx.weak (lw_s (lw_n lw_0)) h)
    · skip
      refine x_aload_n C (pc := 8) dX4_reset_8 rfl ?_
      refine x_getR C (pc := 9) fg_X4_9 dX4_reset_9 ht ?_
      refine x_iload_n C (pc := 12) dX4_reset_12 rfl ?_
      refine x_iconst C (pc := 13) dX4_reset_13 kc_i_0 ?_
      refine x_iastn C (pc := 14) dX4_reset_14 (lkd_4_0 ht) (fun s4 => ?_)
      refine x_aload_n C (pc := 15) dX4_reset_15 rfl ?_
      refine x_getR C (pc := 16) fg_X4_15 dX4_reset_16 ht ?_
      refine x_iload_n C (pc := 19) dX4_reset_19 rfl ?_
      refine x_iconst C (pc := 20) dX4_reset_20 kc_i_0 ?_
      refine x_iastn C (pc := 21) dX4_reset_21 (lkd_4_1 ht) (fun s5 => ?_)
      refine x_iinc C (pc := 22) (L' := fun i6 => [some (.ref t), some (.int i6)]) dX4_reset_22 rfl kc_i_1 (by decide) (fun _ => rfl) (fun i6 => ?_)
      refine x_goto C (pc := 25) (tgt := 2) dX4_reset_25 (by decide) ?_
      exact Xo.done (fun h => Yx.weak (lw_s (lw_s lw_0)) h)
  refine x_aload_n C (pc := 28) dX4_reset_28 rfl ?_
  refine x_getR C (pc := 29) fg_X4_23 dX4_reset_29 ht ?_
  refine x_callVim C (pc := 32) mv_X4_42 (lkd_4_2 ht) rfl [] (fun _ _ hr => ct_X9_empty _ (lkd_4_2 ht) _ _ _ hr) ⟨Nat.le_of_ble_eq_true rfl, Nat.le_of_ble_eq_true rfl⟩ rfl (Nat.le_of_ble_eq_true rfl) rfl dX4_reset_32 (fun r8 s9 => ?_)
  refine x_pop C (pc := 35) dX4_reset_35 rfl ?_
  refine x_aload_n C (pc := 36) dX4_reset_36 rfl ?_
  refine x_getR C (pc := 37) fg_X4_27 dX4_reset_37 ht ?_
  refine x_callVim C (pc := 40) mv_X4_42 (lkd_4_3 ht) rfl [] (fun _ _ hr => ct_X9_empty _ (lkd_4_3 ht) _ _ _ hr) ⟨Nat.le_of_ble_eq_true rfl, Nat.le_of_ble_eq_true rfl⟩ rfl (Nat.le_of_ble_eq_true rfl) rfl dX4_reset_40 (fun r10 s11 => ?_)
  refine x_pop C (pc := 43) dX4_reset_43 rfl ?_
  refine x_aload_n C (pc := 44) dX4_reset_44 rfl ?_
  refine x_getR C (pc := 45) fg_X4_30 dX4_reset_45 ht ?_
  refine x_callVim C (pc := 48) mv_X4_42 (lkd_4_4 ht) rfl [] (fun _ _ hr => ct_X9_empty _ (lkd_4_4 ht) _ _ _ hr) ⟨Nat.le_of_ble_eq_true rfl, Nat.le_of_ble_eq_true rfl⟩ rfl (Nat.le_of_ble_eq_true rfl) rfl dX4_reset_48 (fun r12 s13 => ?_)
  refine x_pop C (pc := 51) dX4_reset_51 rfl ?_
  refine x_aload_n C (pc := 52) dX4_reset_52 rfl ?_
  refine x_getR C (pc := 53) fg_X4_33 dX4_reset_53 ht ?_
  refine x_callVim C (pc := 56) mv_X4_42 (lkd_4_5 ht) rfl [] (fun _ _ hr => ct_X9_empty _ (lkd_4_5 ht) _ _ _ hr) ⟨Nat.le_of_ble_eq_true rfl, Nat.le_of_ble_eq_true rfl⟩ rfl (Nat.le_of_ble_eq_true rfl) rfl dX4_reset_56 (fun r14 s15 => ?_)
  refine x_pop C (pc := 59) dX4_reset_59 rfl ?_
  refine x_aload_n C (pc := 60) dX4_reset_60 rfl ?_
  refine x_getR C (pc := 61) fg_X4_36 dX4_reset_61 ht ?_
  refine x_callVim C (pc := 64) mv_X4_42 (lkd_4_6 ht) rfl [] (fun _ _ hr => ct_X9_empty _ (lkd_4_6 ht) _ _ _ hr) ⟨Nat.le_of_ble_eq_true rfl, Nat.le_of_ble_eq_true rfl⟩ rfl (Nat.le_of_ble_eq_true rfl) rfl dX4_reset_64 (fun r16 s17 => ?_)
  refine x_pop C (pc := 67) dX4_reset_67 rfl ?_
  refine x_aload_n C (pc := 68) dX4_reset_68 rfl ?_
  refine x_getR C (pc := 69) fg_X4_39 dX4_reset_69 ht ?_
  refine x_callVim C (pc := 72) mv_X4_42 (lkd_4_7 ht) rfl [] (fun _ _ hr => ct_X9_empty _ (lkd_4_7 ht) _ _ _ hr) ⟨Nat.le_of_ble_eq_true rfl, Nat.le_of_ble_eq_true rfl⟩ rfl (Nat.le_of_ble_eq_true rfl) rfl dX4_reset_72 (fun r18 s19 => ?_)
  refine x_pop C (pc := 75) dX4_reset_75 rfl ?_
  refine x_aload_n C (pc := 76) dX4_reset_76 rfl ?_
  refine x_iconst C (pc := 77) dX4_reset_77 kc_i_0 ?_
  refine x_putIn C (pc := 78) fp_X4_46 dX4_reset_78 ht (fun s20 => ?_)
  refine x_aload_n C (pc := 81) dX4_reset_81 rfl ?_
  refine x_iconst C (pc := 82) dX4_reset_82 kc_i_0 ?_
  refine x_putIn C (pc := 83) fp_X4_50 dX4_reset_83 ht (fun s21 => ?_)
  exact x_vret dX4_reset_86 (fun h => h)
theorem ct_X4_reset (t : Nat) (ht : kd t = 4) (s0 : SS) (r : SS) (h : FX4_reset t s0 = some r) : CT 0 yX4_reset cX4_reset 2 none 1 21 [.ref t] s0 none r :=
  ct_of (by decide +kernel) (Or.inl ⟨rfl, rfl⟩) (lx_args [.ref t]) (lx_entry [.ref t] (fun _ => Nat.le_of_ble_eq_true rfl)) (fun o C hR => Yx.weak (lw_s (lw_z lw_0)) (bd_X4_reset C t ht s0 r h hR))
def FX11_isHourOfDay (a : Int32) (s0 : SS) : Option (Int32) :=
  bd (FX11_within a (nI 0) (nI 7) s0) (fun (r1 : Int32) => gd (zb r1) (some (r1)))
set_option maxRecDepth 100000 in
set_option maxHeartbeats 4000000 in
theorem bd_X11_isHourOfDay {o : Om} (C : Cx o RX11 cX11_isHourOfDay 1 (some .boolean) (rmx 1 22) 0) (a : Int32) (s0 : SS) : Xo (FX11_isHourOfDay a s0) (fun r => zb r = true → RT o cX11_isHourOfDay (some (.int r)) s0) (Yx o 0 [some (.int a)] [] s0) := by
  unfold FX11_isHourOfDay
  refine x_iload_n C (pc := 0) dX11_isHourOfDay_0 rfl ?_
  refine x_iconst C (pc := 1) dX11_isHourOfDay_1 kc_i_0 ?_
  refine x_bipush C (pc := 2) dX11_isHourOfDay_2 kc_b_7 ?_
  refine x_callSi C (pc := 4) ms_X11_92 [.int a, .int (nI 0), .int (nI 7)] (fun _ hr => ct_X11_within _ _ _ _ _ hr) ⟨Nat.le_of_ble_eq_true rfl, Nat.le_of_ble_eq_true rfl⟩ rfl (Nat.le_of_ble_eq_true rfl) rfl dX11_isHourOfDay_4 (fun r1 => ?_)
  refine Xo.gd (fun hz => ?_)
  exact x_ret dX11_isHourOfDay_7 (fun h => h hz)
theorem ct_X11_isHourOfDay (a : Int32) (s0 : SS) (r : Int32) (h : FX11_isHourOfDay a s0 = some r) : CT 0 yX11_isHourOfDay cX11_isHourOfDay 1 (some .boolean) 1 22 [.int a] s0 (some (.int r)) s0 :=
  ct_ofz (by decide +kernel) rfl (lx_args [.int a]) (lx_entry [.int a] (fun _ => Nat.le_of_ble_eq_true rfl)) (fun o C hR => Yx.weak (lw_s lw_0) (bd_X11_isHourOfDay C a s0 r h hR))
def FX4_tellWind (t : Nat) (a : Int32) (b : Int32) (c : Int32) (s0 : SS) : Option (SS) :=
  bd (FX11_isHourOfDay a s0) (fun (r1 : Int32) => bd (if r1 = 0 then some (s0) else (gd (inb a (ln (lk t 0))) (nm (pI s0 (lk t 0) (Int32.toNatClampNeg a) b) (fun (s2 : SS) => gd (inb a (ln (lk t 1))) (nm (pI s2 (lk t 1) (Int32.toNatClampNeg a) c) (fun (s3 : SS) => some (s3))))))) (fun (s4 : SS) => bd2 (FX9_empty (lk t 7) s4) (fun (r5 : Int32) (s6 : SS) => some (s6))))
set_option maxRecDepth 100000 in
set_option maxHeartbeats 4000000 in
theorem bd_X4_tellWind {o : Om} (C : Cx o RX4 cX4_tellWind 4 none (rmx 2 42) 0) (t : Nat) (ht : kd t = 4) (a : Int32) (b : Int32) (c : Int32) (s0 : SS) : Xo (FX4_tellWind t a b c s0) (fun r => RT o cX4_tellWind none r) (Yx o 0 [some (.ref t), some (.int a), some (.int b), some (.int c)] [] s0) := by
  unfold FX4_tellWind
  refine x_iload_n C (pc := 0) dX4_tellWind_0 rfl ?_
  refine x_callNi C (pc := 1) mn_X4_63 [.int a] (fun _ hr => ct_X11_isHourOfDay _ _ _ hr) ⟨Nat.le_of_ble_eq_true rfl, Nat.le_of_ble_eq_true rfl⟩ rfl (Nat.le_of_ble_eq_true rfl) rfl dX4_tellWind_1 (fun r1 => ?_)
  refine xb_1 (Z1 := fun s4 => Yx o 21 [some (.ref t), none, none, none] [] s4) ?_ (fun s4 => ?_)
  · skip
    refine x_if_eq C (pc := 4) (tgt := 21) dX4_tellWind_4 (by decide) (fun _ => ?_) (fun _ => ?_)
    · skip
      exact Xo.done (fun h => Yx.weak (lw_s (lw_n (lw_n (lw_n lw_0)))) h)
    · skip
      refine x_aload_n C (pc := 7) dX4_tellWind_7 rfl ?_
      refine x_getR C (pc := 8) fg_X4_9 dX4_tellWind_8 ht ?_
      refine x_iload_n C (pc := 11) dX4_tellWind_11 rfl ?_
      refine x_iload_n C (pc := 12) dX4_tellWind_12 rfl ?_
      refine x_iastn C (pc := 13) dX4_tellWind_13 (lkd_4_0 ht) (fun s2 => ?_)
      refine x_aload_n C (pc := 14) dX4_tellWind_14 rfl ?_
      refine x_getR C (pc := 15) fg_X4_15 dX4_tellWind_15 ht ?_
      refine x_iload_n C (pc := 18) dX4_tellWind_18 rfl ?_
      refine x_iload_n C (pc := 19) dX4_tellWind_19 rfl ?_
      refine x_iastn C (pc := 20) dX4_tellWind_20 (lkd_4_1 ht) (fun s3 => ?_)
      exact Xo.done (fun h => Yx.weak (lw_s (lw_n (lw_n (lw_n lw_0)))) h)
  refine x_aload_n C (pc := 21) dX4_tellWind_21 rfl ?_
  refine x_getR C (pc := 22) fg_X4_39 dX4_tellWind_22 ht ?_
  refine x_callVim C (pc := 25) mv_X4_42 (lkd_4_7 ht) rfl [] (fun _ _ hr => ct_X9_empty _ (lkd_4_7 ht) _ _ _ hr) ⟨Nat.le_of_ble_eq_true rfl, Nat.le_of_ble_eq_true rfl⟩ rfl (Nat.le_of_ble_eq_true rfl) rfl dX4_tellWind_25 (fun r5 s6 => ?_)
  refine x_pop C (pc := 28) dX4_tellWind_28 rfl ?_
  exact x_vret dX4_tellWind_29 (fun h => h)
theorem ct_X4_tellWind (t : Nat) (ht : kd t = 4) (a : Int32) (b : Int32) (c : Int32) (s0 : SS) (r : SS) (h : FX4_tellWind t a b c s0 = some r) : CT 0 yX4_tellWind cX4_tellWind 4 none 2 42 [.ref t, .int a, .int b, .int c] s0 none r :=
  ct_of (by decide +kernel) (Or.inl ⟨rfl, rfl⟩) (lx_args [.ref t, .int a, .int b, .int c]) (lx_entry [.ref t, .int a, .int b, .int c] (fun _ => Nat.le_of_ble_eq_true rfl)) (fun o C hR => Yx.weak (lw_s (lw_s (lw_s (lw_s lw_0)))) (bd_X4_tellWind C t ht a b c s0 r h hR))
def FX4_addUser (t : Nat) (a : Int32) (b : Int32) (c : Int32) (s0 : SS) : Option (Int32 × SS) :=
  bd2 (FX9_open (lk t 2) s0) (fun (r1 : Int32) (s2 : SS) => nm r1 (fun (i3 : Int32) => bd (FX9_put (lk t 2) i3 (nI 0) a s2) (fun (s4 : SS) => bd (FX9_put (lk t 2) i3 (nI 1) b s4) (fun (s5 : SS) => bd (FX9_put (lk t 2) i3 (nI 2) c s5) (fun (s6 : SS) => bd2 (FX9_empty (lk t 7) s6) (fun (r7 : Int32) (s8 : SS) => some ((i3, s8))))))))
set_option maxRecDepth 100000 in
set_option maxHeartbeats 4000000 in
theorem bd_X4_addUser {o : Om} (C : Cx o RX4 cX4_addUser 5 (some .int) (rmx 2 45) 0) (t : Nat) (ht : kd t = 4) (a : Int32) (b : Int32) (c : Int32) (s0 : SS) : Xo (FX4_addUser t a b c s0) (fun r => RT o cX4_addUser (some (.int r.1)) r.2) (Yx o 0 [some (.ref t), some (.int a), some (.int b), some (.int c), none] [] s0) := by
  unfold FX4_addUser
  refine x_aload_n C (pc := 0) dX4_addUser_0 rfl ?_
  refine x_getR C (pc := 1) fg_X4_23 dX4_addUser_1 ht ?_
  refine x_callVim C (pc := 4) mv_X4_67 (lkd_4_2 ht) rfl [] (fun _ _ hr => ct_X9_open _ (lkd_4_2 ht) _ _ _ hr) ⟨Nat.le_of_ble_eq_true rfl, Nat.le_of_ble_eq_true rfl⟩ rfl (Nat.le_of_ble_eq_true rfl) rfl dX4_addUser_4 (fun r1 s2 => ?_)
  refine x_istore C (pc := 7) (L' := fun i3 => [some (.ref t), some (.int a), some (.int b), some (.int c), some (.int i3)]) dX4_addUser_7 (by decide) (fun _ => rfl) (fun i3 => ?_)
  refine x_aload_n C (pc := 9) dX4_addUser_9 rfl ?_
  refine x_getR C (pc := 10) fg_X4_23 dX4_addUser_10 ht ?_
  refine x_iload C (pc := 13) dX4_addUser_13 rfl ?_
  refine x_iconst C (pc := 15) dX4_addUser_15 kc_i_0 ?_
  refine x_iload_n C (pc := 16) dX4_addUser_16 rfl ?_
  refine x_callVv C (pc := 17) mv_X4_70 (lkd_4_2 ht) rfl [.int i3, .int (nI 0), .int a] (fun _ hr => ct_X9_put _ (lkd_4_2 ht) _ _ _ _ _ hr) ⟨Nat.le_of_ble_eq_true rfl, Nat.le_of_ble_eq_true rfl⟩ rfl (Nat.le_of_ble_eq_true rfl) rfl dX4_addUser_17 (fun s4 => ?_)
  refine x_aload_n C (pc := 20) dX4_addUser_20 rfl ?_
  refine x_getR C (pc := 21) fg_X4_23 dX4_addUser_21 ht ?_
  refine x_iload C (pc := 24) dX4_addUser_24 rfl ?_
  refine x_iconst C (pc := 26) dX4_addUser_26 kc_i_1 ?_
  refine x_iload_n C (pc := 27) dX4_addUser_27 rfl ?_
  refine x_callVv C (pc := 28) mv_X4_70 (lkd_4_2 ht) rfl [.int i3, .int (nI 1), .int b] (fun _ hr => ct_X9_put _ (lkd_4_2 ht) _ _ _ _ _ hr) ⟨Nat.le_of_ble_eq_true rfl, Nat.le_of_ble_eq_true rfl⟩ rfl (Nat.le_of_ble_eq_true rfl) rfl dX4_addUser_28 (fun s5 => ?_)
  refine x_aload_n C (pc := 31) dX4_addUser_31 rfl ?_
  refine x_getR C (pc := 32) fg_X4_23 dX4_addUser_32 ht ?_
  refine x_iload C (pc := 35) dX4_addUser_35 rfl ?_
  refine x_iconst C (pc := 37) dX4_addUser_37 kc_i_2 ?_
  refine x_iload_n C (pc := 38) dX4_addUser_38 rfl ?_
  refine x_callVv C (pc := 39) mv_X4_70 (lkd_4_2 ht) rfl [.int i3, .int (nI 2), .int c] (fun _ hr => ct_X9_put _ (lkd_4_2 ht) _ _ _ _ _ hr) ⟨Nat.le_of_ble_eq_true rfl, Nat.le_of_ble_eq_true rfl⟩ rfl (Nat.le_of_ble_eq_true rfl) rfl dX4_addUser_39 (fun s6 => ?_)
  refine x_aload_n C (pc := 42) dX4_addUser_42 rfl ?_
  refine x_getR C (pc := 43) fg_X4_39 dX4_addUser_43 ht ?_
  refine x_callVim C (pc := 46) mv_X4_42 (lkd_4_7 ht) rfl [] (fun _ _ hr => ct_X9_empty _ (lkd_4_7 ht) _ _ _ hr) ⟨Nat.le_of_ble_eq_true rfl, Nat.le_of_ble_eq_true rfl⟩ rfl (Nat.le_of_ble_eq_true rfl) rfl dX4_addUser_46 (fun r7 s8 => ?_)
  refine x_pop C (pc := 49) dX4_addUser_49 rfl ?_
  refine x_iload C (pc := 50) dX4_addUser_50 rfl ?_
  exact x_ret dX4_addUser_52 (fun h => h)
theorem ct_X4_addUser (t : Nat) (ht : kd t = 4) (a : Int32) (b : Int32) (c : Int32) (s0 : SS) (r : Int32) (s2 : SS) (h : FX4_addUser t a b c s0 = some (r, s2)) : CT 0 yX4_addUser cX4_addUser 5 (some .int) 2 45 [.ref t, .int a, .int b, .int c] s0 (some (.int r)) s2 :=
  ct_of (by decide +kernel) (Or.inr (Or.inl ⟨_, rfl, _, rfl, rfl⟩)) (lx_args [.ref t, .int a, .int b, .int c]) (lx_entry [.ref t, .int a, .int b, .int c] (fun _ => Nat.le_of_ble_eq_true rfl)) (fun o C hR => Yx.weak (lw_s (lw_s (lw_s (lw_s (lw_z lw_0))))) (bd_X4_addUser C t ht a b c s0 (r, s2) h hR))
def FX4_fileSuit (t : Nat) (a : Int32) (b : Int32) (s0 : SS) : Option (Int32 × SS) :=
  bd2 (FX9_open (lk t 3) s0) (fun (r1 : Int32) (s2 : SS) => nm r1 (fun (i3 : Int32) => bd (FX9_put (lk t 3) i3 (nI 0) a s2) (fun (s4 : SS) => bd (FX9_put (lk t 3) i3 (nI 1) b s4) (fun (s5 : SS) => bd (FX9_put (lk t 3) i3 (nI 2) (gI s5 t 8) s5) (fun (s6 : SS) => some ((i3, s6)))))))
set_option maxRecDepth 100000 in
set_option maxHeartbeats 4000000 in
theorem bd_X4_fileSuit {o : Om} (C : Cx o RX4 cX4_fileSuit 4 (some .int) (rmx 2 45) 0) (t : Nat) (ht : kd t = 4) (a : Int32) (b : Int32) (s0 : SS) : Xo (FX4_fileSuit t a b s0) (fun r => RT o cX4_fileSuit (some (.int r.1)) r.2) (Yx o 0 [some (.ref t), some (.int a), some (.int b), none] [] s0) := by
  unfold FX4_fileSuit
  refine x_aload_n C (pc := 0) dX4_fileSuit_0 rfl ?_
  refine x_getR C (pc := 1) fg_X4_27 dX4_fileSuit_1 ht ?_
  refine x_callVim C (pc := 4) mv_X4_67 (lkd_4_3 ht) rfl [] (fun _ _ hr => ct_X9_open _ (lkd_4_3 ht) _ _ _ hr) ⟨Nat.le_of_ble_eq_true rfl, Nat.le_of_ble_eq_true rfl⟩ rfl (Nat.le_of_ble_eq_true rfl) rfl dX4_fileSuit_4 (fun r1 s2 => ?_)
  refine x_istore_n C (pc := 7) (L' := fun i3 => [some (.ref t), some (.int a), some (.int b), some (.int i3)]) dX4_fileSuit_7 (by decide) (fun _ => rfl) (fun i3 => ?_)
  refine x_aload_n C (pc := 8) dX4_fileSuit_8 rfl ?_
  refine x_getR C (pc := 9) fg_X4_27 dX4_fileSuit_9 ht ?_
  refine x_iload_n C (pc := 12) dX4_fileSuit_12 rfl ?_
  refine x_iconst C (pc := 13) dX4_fileSuit_13 kc_i_0 ?_
  refine x_iload_n C (pc := 14) dX4_fileSuit_14 rfl ?_
  refine x_callVv C (pc := 15) mv_X4_70 (lkd_4_3 ht) rfl [.int i3, .int (nI 0), .int a] (fun _ hr => ct_X9_put _ (lkd_4_3 ht) _ _ _ _ _ hr) ⟨Nat.le_of_ble_eq_true rfl, Nat.le_of_ble_eq_true rfl⟩ rfl (Nat.le_of_ble_eq_true rfl) rfl dX4_fileSuit_15 (fun s4 => ?_)
  refine x_aload_n C (pc := 18) dX4_fileSuit_18 rfl ?_
  refine x_getR C (pc := 19) fg_X4_27 dX4_fileSuit_19 ht ?_
  refine x_iload_n C (pc := 22) dX4_fileSuit_22 rfl ?_
  refine x_iconst C (pc := 23) dX4_fileSuit_23 kc_i_1 ?_
  refine x_iload_n C (pc := 24) dX4_fileSuit_24 rfl ?_
  refine x_callVv C (pc := 25) mv_X4_70 (lkd_4_3 ht) rfl [.int i3, .int (nI 1), .int b] (fun _ hr => ct_X9_put _ (lkd_4_3 ht) _ _ _ _ _ hr) ⟨Nat.le_of_ble_eq_true rfl, Nat.le_of_ble_eq_true rfl⟩ rfl (Nat.le_of_ble_eq_true rfl) rfl dX4_fileSuit_25 (fun s5 => ?_)
  refine x_aload_n C (pc := 28) dX4_fileSuit_28 rfl ?_
  refine x_getR C (pc := 29) fg_X4_27 dX4_fileSuit_29 ht ?_
  refine x_iload_n C (pc := 32) dX4_fileSuit_32 rfl ?_
  refine x_iconst C (pc := 33) dX4_fileSuit_33 kc_i_2 ?_
  refine x_aload_n C (pc := 34) dX4_fileSuit_34 rfl ?_
  refine x_getI C (pc := 35) fg_X4_46 dX4_fileSuit_35 ht ?_
  refine x_callVv C (pc := 38) mv_X4_70 (lkd_4_3 ht) rfl [.int i3, .int (nI 2), .int (gI s5 t 8)] (fun _ hr => ct_X9_put _ (lkd_4_3 ht) _ _ _ _ _ hr) ⟨Nat.le_of_ble_eq_true rfl, Nat.le_of_ble_eq_true rfl⟩ rfl (Nat.le_of_ble_eq_true rfl) rfl dX4_fileSuit_38 (fun s6 => ?_)
  refine x_iload_n C (pc := 41) dX4_fileSuit_41 rfl ?_
  exact x_ret dX4_fileSuit_42 (fun h => h)
theorem ct_X4_fileSuit (t : Nat) (ht : kd t = 4) (a : Int32) (b : Int32) (s0 : SS) (r : Int32) (s2 : SS) (h : FX4_fileSuit t a b s0 = some (r, s2)) : CT 0 yX4_fileSuit cX4_fileSuit 4 (some .int) 2 45 [.ref t, .int a, .int b] s0 (some (.int r)) s2 :=
  ct_of (by decide +kernel) (Or.inr (Or.inl ⟨_, rfl, _, rfl, rfl⟩)) (lx_args [.ref t, .int a, .int b]) (lx_entry [.ref t, .int a, .int b] (fun _ => Nat.le_of_ble_eq_true rfl)) (fun o C hR => Yx.weak (lw_s (lw_s (lw_s (lw_z lw_0)))) (bd_X4_fileSuit C t ht a b s0 (r, s2) h hR))
def FX4_passHours (t : Nat) (a : Int32) (b : Nat) (s0 : SS) : Option (Int32 × SS) :=
  nm (nI 0) (fun (i1 : Int32) => nm (nI 0) (fun (i2 : Int32) => bd (lp FUEL (u3 (fun (n3 : Int32) (n4 : Int32) (s5 : SS) => if a ≤ n4 then some (Sum.inr (n3, s5)) else (if (nI 9999) ≤ (gI s5 t 8) then some (Sum.inr (n3, s5)) else (bd (FX0_goInHour b t (gI s5 t 8) (nI 127) s5) (fun (s6 : SS) => nm (nI 0) (fun (i7 : Int32) => bd (lp FUEL (u3 (fun (n8 : Int32) (n9 : Int32) (s10 : SS) => if (gI s10 (lk t 2) 3) ≤ n9 then some (Sum.inr (n8, s10)) else (bd (FX0_rentOf b (lk t 2) n9 s10) (fun (r11 : Int32) => nm r11 (fun (i12 : Int32) => bd (FX9_at (lk t 2) n9 (nI 3) s10) (fun (r13 : Int32) => bd (FX9_put (lk t 2) n9 (nI 3) (r13 + i12) s10) (fun (s14 : SS) => nm (n8 + i12) (fun (i15 : Int32) => nm (n9 + (nI 1)) (fun (i16 : Int32) => some (Sum.inl (i15, i16, s14))))))))))) (n3, i7, s6)) (u2 (fun (e17 : Int32) (s18 : SS) => nm (pI s18 t 8 ((gI s18 t 8) + (nI 1))) (fun (s19 : SS) => nm (n4 + (nI 1)) (fun (i20 : Int32) => some (Sum.inl (e17, i20, s19)))))))))))) (i1, i2, s0)) (u2 (fun (e21 : Int32) (s22 : SS) => some ((e21, s22))))))
set_option maxRecDepth 100000 in
set_option maxHeartbeats 4000000 in
theorem bd_X4_passHours {o : Om} (C : Cx o RX4 cX4_passHours 7 (some .int) (rmx 4 101) 0) (t : Nat) (ht : kd t = 4) (a : Int32) (b : Nat) (hb : kd b = 0) (s0 : SS) : Xo (FX4_passHours t a b s0) (fun r => RT o cX4_passHours (some (.int r.1)) r.2) (Yx o 0 [some (.ref t), some (.int a), some (.ref b), none, none, none, none] [] s0) := by
  unfold FX4_passHours
  refine x_iconst C (pc := 0) dX4_passHours_0 kc_i_0 ?_
  refine x_istore_n C (pc := 1) (L' := fun i1 => [some (.ref t), some (.int a), some (.ref b), some (.int i1), none, none, none]) dX4_passHours_1 (by decide) (fun _ => rfl) (fun i1 => ?_)
  refine x_iconst C (pc := 2) dX4_passHours_2 kc_i_0 ?_
  refine x_istore C (pc := 3) (L' := fun i2 => [some (.ref t), some (.int a), some (.ref b), some (.int i1), some (.int i2), none, none]) dX4_passHours_3 (by decide) (fun _ => rfl) (fun i2 => ?_)
  refine xb_2 (Z1 := (fun e21 s22 => Yx o 109 [none, none, none, some (.int e21), none, none, none] [] s22)) ?_ (fun e21 s22 => ?_)
  · refine Xo.mono (Yx.weak (lw_s (lw_s (lw_s (lw_s (lw_s (lw_n (lw_n lw_0)))))))) (x_lp3 (fr := fun n3 n4 s5 => Yx o 5 [some (.ref t), some (.int a), some (.ref b), some (.int n3), some (.int n4), none, none] [] s5) _ _ _ (fun n3 n4 s5 => ?_))
    refine x_iload C (pc := 5) dX4_passHours_5 rfl ?_
    refine x_iload_n C (pc := 7) dX4_passHours_7 rfl ?_
    refine x_icmp_ge C (pc := 8) (tgt := 109) dX4_passHours_8 (by decide) (fun _ => ?_) (fun _ => ?_)
    · skip
      exact Xo.done (fun h => Yx.weak (lw_n (lw_n (lw_n (lw_s (lw_n (lw_n (lw_n lw_0))))))) h)
    · skip
      refine x_aload_n C (pc := 11) dX4_passHours_11 rfl ?_
      refine x_getI C (pc := 12) fg_X4_46 dX4_passHours_12 ht ?_
      refine x_sipush C (pc := 15) dX4_passHours_15 kc_s_9999 ?_
      refine x_icmp_ge C (pc := 18) (tgt := 109) dX4_passHours_18 (by decide) (fun _ => ?_) (fun _ => ?_)
      · skip
        exact Xo.done (fun h => Yx.weak (lw_n (lw_n (lw_n (lw_s (lw_n (lw_n (lw_n lw_0))))))) h)
      · skip
        refine x_aload_n C (pc := 21) dX4_passHours_21 rfl ?_
        refine x_aload_n C (pc := 22) dX4_passHours_22 rfl ?_
        refine x_aload_n C (pc := 23) dX4_passHours_23 rfl ?_
        refine x_getI C (pc := 24) fg_X4_46 dX4_passHours_24 ht ?_
        refine x_bipush C (pc := 27) dX4_passHours_27 kc_b_127 ?_
        refine x_callVv C (pc := 29) mv_X4_77 hb rfl [.ref t, .int (gI s5 t 8), .int (nI 127)] (fun _ hr => ct_X0_goInHour _ hb _ ht _ _ _ _ hr) ⟨Nat.le_of_ble_eq_true rfl, Nat.le_of_ble_eq_true rfl⟩ rfl (Nat.le_of_ble_eq_true rfl) rfl dX4_passHours_29 (fun s6 => ?_)
        refine x_iconst C (pc := 32) dX4_passHours_32 kc_i_0 ?_
        refine x_istore C (pc := 33) (L' := fun i7 => [some (.ref t), some (.int a), some (.ref b), some (.int n3), some (.int n4), some (.int i7), none]) dX4_passHours_33 (by decide) (fun _ => rfl) (fun i7 => ?_)
        refine xb_2 (Z1 := (fun e17 s18 => Yx o 93 [some (.ref t), some (.int a), some (.ref b), some (.int e17), some (.int n4), none, none] [] s18)) ?_ (fun e17 s18 => ?_)
        · refine Xo.mono (Yx.weak (lw_s (lw_s (lw_s (lw_s (lw_s (lw_s (lw_n lw_0)))))))) (x_lp3 (fr := fun n8 n9 s10 => Yx o 35 [some (.ref t), some (.int a), some (.ref b), some (.int n8), some (.int n4), some (.int n9), none] [] s10) _ _ _ (fun n8 n9 s10 => ?_))
          refine x_iload C (pc := 35) dX4_passHours_35 rfl ?_
          refine x_aload_n C (pc := 37) dX4_passHours_37 rfl ?_
          refine x_getR C (pc := 38) fg_X4_23 dX4_passHours_38 ht ?_
          refine x_getI C (pc := 41) fg_X4_74 dX4_passHours_41 (lkd_4_2 ht) ?_
          refine x_icmp_ge C (pc := 44) (tgt := 93) dX4_passHours_44 (by decide) (fun _ => ?_) (fun _ => ?_)
          · skip
            exact Xo.done (fun h => Yx.weak (lw_s (lw_s (lw_s (lw_s (lw_s (lw_n (lw_n lw_0))))))) h)
          · skip
            refine x_aload_n C (pc := 47) dX4_passHours_47 rfl ?_
            refine x_aload_n C (pc := 48) dX4_passHours_48 rfl ?_
            refine x_getR C (pc := 49) fg_X4_23 dX4_passHours_49 ht ?_
            refine x_iload C (pc := 52) dX4_passHours_52 rfl ?_
            refine x_callVi C (pc := 54) mv_X4_83 hb rfl [.ref (lk t 2), .int n9] (fun _ hr => ct_X0_rentOf _ hb _ (lkd_4_2 ht) _ _ _ hr) ⟨Nat.le_of_ble_eq_true rfl, Nat.le_of_ble_eq_true rfl⟩ rfl (Nat.le_of_ble_eq_true rfl) rfl dX4_passHours_54 (fun r11 => ?_)
            refine x_istore C (pc := 57) (L' := fun i12 => [some (.ref t), some (.int a), some (.ref b), some (.int n8), some (.int n4), some (.int n9), some (.int i12)]) dX4_passHours_57 (by decide) (fun _ => rfl) (fun i12 => ?_)
            refine x_aload_n C (pc := 59) dX4_passHours_59 rfl ?_
            refine x_getR C (pc := 60) fg_X4_23 dX4_passHours_60 ht ?_
            refine x_iload C (pc := 63) dX4_passHours_63 rfl ?_
            refine x_iconst C (pc := 65) dX4_passHours_65 kc_i_3 ?_
            refine x_aload_n C (pc := 66) dX4_passHours_66 rfl ?_
            refine x_getR C (pc := 67) fg_X4_23 dX4_passHours_67 ht ?_
            refine x_iload C (pc := 70) dX4_passHours_70 rfl ?_
            refine x_iconst C (pc := 72) dX4_passHours_72 kc_i_3 ?_
            refine x_callVi C (pc := 73) mv_X4_87 (lkd_4_2 ht) rfl [.int n9, .int (nI 3)] (fun _ hr => ct_X9_at _ (lkd_4_2 ht) _ _ _ _ hr) ⟨Nat.le_of_ble_eq_true rfl, Nat.le_of_ble_eq_true rfl⟩ rfl (Nat.le_of_ble_eq_true rfl) rfl dX4_passHours_73 (fun r13 => ?_)
            refine x_iload C (pc := 76) dX4_passHours_76 rfl ?_
            refine x_iadd C (pc := 78) dX4_passHours_78 ?_
            refine x_callVv C (pc := 79) mv_X4_70 (lkd_4_2 ht) rfl [.int n9, .int (nI 3), .int (r13 + i12)] (fun _ hr => ct_X9_put _ (lkd_4_2 ht) _ _ _ _ _ hr) ⟨Nat.le_of_ble_eq_true rfl, Nat.le_of_ble_eq_true rfl⟩ rfl (Nat.le_of_ble_eq_true rfl) rfl dX4_passHours_79 (fun s14 => ?_)
            refine x_iload_n C (pc := 82) dX4_passHours_82 rfl ?_
            refine x_iload C (pc := 83) dX4_passHours_83 rfl ?_
            refine x_iadd C (pc := 85) dX4_passHours_85 ?_
            refine x_istore_n C (pc := 86) (L' := fun i15 => [some (.ref t), some (.int a), some (.ref b), some (.int i15), some (.int n4), some (.int n9), some (.int i12)]) dX4_passHours_86 (by decide) (fun _ => rfl) (fun i15 => ?_)
            refine x_iinc C (pc := 87) (L' := fun i16 => [some (.ref t), some (.int a), some (.ref b), some (.int i15), some (.int n4), some (.int i16), some (.int i12)]) dX4_passHours_87 rfl kc_i_1 (by decide) (fun _ => rfl) (fun i16 => ?_)
            refine x_goto C (pc := 90) (tgt := 35) dX4_passHours_90 (by decide) ?_
            exact Xo.done (fun h => Yx.weak (lw_s (lw_s (lw_s (lw_s (lw_s (lw_s (lw_n lw_0))))))) h)
        refine x_aload_n C (pc := 93) dX4_passHours_93 rfl ?_
        refine x_dup C (pc := 94) dX4_passHours_94 rfl ?_
        refine x_getI C (pc := 95) fg_X4_46 dX4_passHours_95 ht ?_
        refine x_iconst C (pc := 98) dX4_passHours_98 kc_i_1 ?_
        refine x_iadd C (pc := 99) dX4_passHours_99 ?_
        refine x_putIn C (pc := 100) fp_X4_46 dX4_passHours_100 ht (fun s19 => ?_)
        refine x_iinc C (pc := 103) (L' := fun i20 => [some (.ref t), some (.int a), some (.ref b), some (.int e17), some (.int i20), none, none]) dX4_passHours_103 rfl kc_i_1 (by decide) (fun _ => rfl) (fun i20 => ?_)
        refine x_goto C (pc := 106) (tgt := 5) dX4_passHours_106 (by decide) ?_
        exact Xo.done (fun h => Yx.weak (lw_s (lw_s (lw_s (lw_s (lw_s (lw_n (lw_n lw_0))))))) h)
  refine x_iload_n C (pc := 109) dX4_passHours_109 rfl ?_
  exact x_ret dX4_passHours_110 (fun h => h)
theorem ct_X4_passHours (t : Nat) (ht : kd t = 4) (a : Int32) (b : Nat) (hb : kd b = 0) (s0 : SS) (r : Int32) (s2 : SS) (h : FX4_passHours t a b s0 = some (r, s2)) : CT 0 yX4_passHours cX4_passHours 7 (some .int) 4 101 [.ref t, .int a, .ref b] s0 (some (.int r)) s2 :=
  ct_of (by decide +kernel) (Or.inr (Or.inl ⟨_, rfl, _, rfl, rfl⟩)) (lx_args [.ref t, .int a, .ref b]) (lx_entry [.ref t, .int a, .ref b] (fun _ => Nat.le_of_ble_eq_true rfl)) (fun o C hR => Yx.weak (lw_s (lw_s (lw_s (lw_z (lw_z (lw_z (lw_z lw_0))))))) (bd_X4_passHours C t ht a b hb s0 (r, s2) h hR))
def FX4_copyFrom (t : Nat) (a : Nat) (s0 : SS) : Option (SS) :=
  gd (cpok (nI 0) (nI 0) (nI 8) (ln (lk a 0)) (ln (lk t 0))) (nm (pA s0 (lk t 0) (va_cpy (gI s0 (lk a 0)) (gI s0 (lk t 0)) (Int32.toNatClampNeg (nI 0)) (Int32.toNatClampNeg (nI 0)) (Int32.toNatClampNeg (nI 8)))) (fun (s1 : SS) => gd (cpok (nI 0) (nI 0) (nI 8) (ln (lk a 1)) (ln (lk t 1))) (nm (pA s1 (lk t 1) (va_cpy (gI s1 (lk a 1)) (gI s1 (lk t 1)) (Int32.toNatClampNeg (nI 0)) (Int32.toNatClampNeg (nI 0)) (Int32.toNatClampNeg (nI 8)))) (fun (s2 : SS) => bd (FX9_copyFrom (lk t 2) (lk a 2) s2) (fun (s3 : SS) => bd (FX9_copyFrom (lk t 3) (lk a 3) s3) (fun (s4 : SS) => bd (FX9_copyFrom (lk t 4) (lk a 4) s4) (fun (s5 : SS) => bd (FX9_copyFrom (lk t 5) (lk a 5) s5) (fun (s6 : SS) => bd (FX9_copyFrom (lk t 6) (lk a 6) s6) (fun (s7 : SS) => bd (FX9_copyFrom (lk t 7) (lk a 7) s7) (fun (s8 : SS) => nm (pI s8 t 8 (gI s8 a 8)) (fun (s9 : SS) => nm (pI s9 t 9 (gI s9 a 9)) (fun (s10 : SS) => some (s10)))))))))))))
set_option maxRecDepth 100000 in
set_option maxHeartbeats 4000000 in
theorem bd_X4_copyFrom {o : Om} (C : Cx o RX4 cX4_copyFrom 2 none (rmx 2 39) 0) (t : Nat) (ht : kd t = 4) (a : Nat) (ha : kd a = 4) (s0 : SS) : Xo (FX4_copyFrom t a s0) (fun r => RT o cX4_copyFrom none r) (Yx o 0 [some (.ref t), some (.ref a)] [] s0) := by
  unfold FX4_copyFrom
  refine x_aload_n C (pc := 0) dX4_copyFrom_0 rfl ?_
  refine x_getR C (pc := 1) fg_X4_9 dX4_copyFrom_1 ha ?_
  refine x_iconst C (pc := 4) dX4_copyFrom_4 kc_i_0 ?_
  refine x_aload_n C (pc := 5) dX4_copyFrom_5 rfl ?_
  refine x_getR C (pc := 6) fg_X4_9 dX4_copyFrom_6 ht ?_
  refine x_iconst C (pc := 9) dX4_copyFrom_9 kc_i_0 ?_
  refine x_bipush C (pc := 10) dX4_copyFrom_10 kc_b_8 ?_
  refine x_acopyn C (pc := 12) ml_X4_53 tw_acn tw_acs tw_aci ⟨Nat.le_of_ble_eq_true rfl, Nat.le_of_ble_eq_true rfl⟩ dX4_copyFrom_12 (lkd_4_0 ha) (lkd_4_0 ht) (fun s1 => ?_)
  refine x_aload_n C (pc := 15) dX4_copyFrom_15 rfl ?_
  refine x_getR C (pc := 16) fg_X4_15 dX4_copyFrom_16 ha ?_
  refine x_iconst C (pc := 19) dX4_copyFrom_19 kc_i_0 ?_
  refine x_aload_n C (pc := 20) dX4_copyFrom_20 rfl ?_
  refine x_getR C (pc := 21) fg_X4_15 dX4_copyFrom_21 ht ?_
  refine x_iconst C (pc := 24) dX4_copyFrom_24 kc_i_0 ?_
  refine x_bipush C (pc := 25) dX4_copyFrom_25 kc_b_8 ?_
  refine x_acopyn C (pc := 27) ml_X4_53 tw_acn tw_acs tw_aci ⟨Nat.le_of_ble_eq_true rfl, Nat.le_of_ble_eq_true rfl⟩ dX4_copyFrom_27 (lkd_4_1 ha) (lkd_4_1 ht) (fun s2 => ?_)
  refine x_aload_n C (pc := 30) dX4_copyFrom_30 rfl ?_
  refine x_getR C (pc := 31) fg_X4_23 dX4_copyFrom_31 ht ?_
  refine x_aload_n C (pc := 34) dX4_copyFrom_34 rfl ?_
  refine x_getR C (pc := 35) fg_X4_23 dX4_copyFrom_35 ha ?_
  refine x_callVv C (pc := 38) mv_X4_59 (lkd_4_2 ht) rfl [.ref (lk a 2)] (fun _ hr => ct_X9_copyFrom _ (lkd_4_2 ht) _ (lkd_4_2 ha) _ _ hr) ⟨Nat.le_of_ble_eq_true rfl, Nat.le_of_ble_eq_true rfl⟩ rfl (Nat.le_of_ble_eq_true rfl) rfl dX4_copyFrom_38 (fun s3 => ?_)
  refine x_aload_n C (pc := 41) dX4_copyFrom_41 rfl ?_
  refine x_getR C (pc := 42) fg_X4_27 dX4_copyFrom_42 ht ?_
  refine x_aload_n C (pc := 45) dX4_copyFrom_45 rfl ?_
  refine x_getR C (pc := 46) fg_X4_27 dX4_copyFrom_46 ha ?_
  refine x_callVv C (pc := 49) mv_X4_59 (lkd_4_3 ht) rfl [.ref (lk a 3)] (fun _ hr => ct_X9_copyFrom _ (lkd_4_3 ht) _ (lkd_4_3 ha) _ _ hr) ⟨Nat.le_of_ble_eq_true rfl, Nat.le_of_ble_eq_true rfl⟩ rfl (Nat.le_of_ble_eq_true rfl) rfl dX4_copyFrom_49 (fun s4 => ?_)
  refine x_aload_n C (pc := 52) dX4_copyFrom_52 rfl ?_
  refine x_getR C (pc := 53) fg_X4_30 dX4_copyFrom_53 ht ?_
  refine x_aload_n C (pc := 56) dX4_copyFrom_56 rfl ?_
  refine x_getR C (pc := 57) fg_X4_30 dX4_copyFrom_57 ha ?_
  refine x_callVv C (pc := 60) mv_X4_59 (lkd_4_4 ht) rfl [.ref (lk a 4)] (fun _ hr => ct_X9_copyFrom _ (lkd_4_4 ht) _ (lkd_4_4 ha) _ _ hr) ⟨Nat.le_of_ble_eq_true rfl, Nat.le_of_ble_eq_true rfl⟩ rfl (Nat.le_of_ble_eq_true rfl) rfl dX4_copyFrom_60 (fun s5 => ?_)
  refine x_aload_n C (pc := 63) dX4_copyFrom_63 rfl ?_
  refine x_getR C (pc := 64) fg_X4_33 dX4_copyFrom_64 ht ?_
  refine x_aload_n C (pc := 67) dX4_copyFrom_67 rfl ?_
  refine x_getR C (pc := 68) fg_X4_33 dX4_copyFrom_68 ha ?_
  refine x_callVv C (pc := 71) mv_X4_59 (lkd_4_5 ht) rfl [.ref (lk a 5)] (fun _ hr => ct_X9_copyFrom _ (lkd_4_5 ht) _ (lkd_4_5 ha) _ _ hr) ⟨Nat.le_of_ble_eq_true rfl, Nat.le_of_ble_eq_true rfl⟩ rfl (Nat.le_of_ble_eq_true rfl) rfl dX4_copyFrom_71 (fun s6 => ?_)
  refine x_aload_n C (pc := 74) dX4_copyFrom_74 rfl ?_
  refine x_getR C (pc := 75) fg_X4_36 dX4_copyFrom_75 ht ?_
  refine x_aload_n C (pc := 78) dX4_copyFrom_78 rfl ?_
  refine x_getR C (pc := 79) fg_X4_36 dX4_copyFrom_79 ha ?_
  refine x_callVv C (pc := 82) mv_X4_59 (lkd_4_6 ht) rfl [.ref (lk a 6)] (fun _ hr => ct_X9_copyFrom _ (lkd_4_6 ht) _ (lkd_4_6 ha) _ _ hr) ⟨Nat.le_of_ble_eq_true rfl, Nat.le_of_ble_eq_true rfl⟩ rfl (Nat.le_of_ble_eq_true rfl) rfl dX4_copyFrom_82 (fun s7 => ?_)
  refine x_aload_n C (pc := 85) dX4_copyFrom_85 rfl ?_
  refine x_getR C (pc := 86) fg_X4_39 dX4_copyFrom_86 ht ?_
  refine x_aload_n C (pc := 89) dX4_copyFrom_89 rfl ?_
  refine x_getR C (pc := 90) fg_X4_39 dX4_copyFrom_90 ha ?_
  refine x_callVv C (pc := 93) mv_X4_59 (lkd_4_7 ht) rfl [.ref (lk a 7)] (fun _ hr => ct_X9_copyFrom _ (lkd_4_7 ht) _ (lkd_4_7 ha) _ _ hr) ⟨Nat.le_of_ble_eq_true rfl, Nat.le_of_ble_eq_true rfl⟩ rfl (Nat.le_of_ble_eq_true rfl) rfl dX4_copyFrom_93 (fun s8 => ?_)
  refine x_aload_n C (pc := 96) dX4_copyFrom_96 rfl ?_
  refine x_aload_n C (pc := 97) dX4_copyFrom_97 rfl ?_
  refine x_getI C (pc := 98) fg_X4_46 dX4_copyFrom_98 ha ?_
  refine x_putIn C (pc := 101) fp_X4_46 dX4_copyFrom_101 ht (fun s9 => ?_)
  refine x_aload_n C (pc := 104) dX4_copyFrom_104 rfl ?_
  refine x_aload_n C (pc := 105) dX4_copyFrom_105 rfl ?_
  refine x_getI C (pc := 106) fg_X4_50 dX4_copyFrom_106 ha ?_
  refine x_putIn C (pc := 109) fp_X4_50 dX4_copyFrom_109 ht (fun s10 => ?_)
  exact x_vret dX4_copyFrom_112 (fun h => h)
theorem ct_X4_copyFrom (t : Nat) (ht : kd t = 4) (a : Nat) (ha : kd a = 4) (s0 : SS) (r : SS) (h : FX4_copyFrom t a s0 = some r) : CT 0 yX4_copyFrom cX4_copyFrom 2 none 2 39 [.ref t, .ref a] s0 none r :=
  ct_of (by decide +kernel) (Or.inl ⟨rfl, rfl⟩) (lx_args [.ref t, .ref a]) (lx_entry [.ref t, .ref a] (fun _ => Nat.le_of_ble_eq_true rfl)) (fun o C hR => Yx.weak (lw_s (lw_s lw_0)) (bd_X4_copyFrom C t ht a ha s0 r h hR))
def FX9_dropFirst (t : Nat) (s0 : SS) : Option (SS) :=
  if (gI s0 t 3) ≤ 0 then some (s0) else (gd (cpok (gI s0 t 0) (nI 0) (((gI s0 t 3) - (nI 1)) * (gI s0 t 0)) (ln (lk t 2)) (ln (lk t 2))) (nm (pA s0 (lk t 2) (va_cpy (gI s0 (lk t 2)) (gI s0 (lk t 2)) (Int32.toNatClampNeg (gI s0 t 0)) (Int32.toNatClampNeg (nI 0)) (Int32.toNatClampNeg (((gI s0 t 3) - (nI 1)) * (gI s0 t 0))))) (fun (s1 : SS) => nm (pI s1 t 3 ((gI s1 t 3) - (nI 1))) (fun (s2 : SS) => some (s2)))))
set_option maxRecDepth 100000 in
set_option maxHeartbeats 4000000 in
theorem bd_X9_dropFirst {o : Om} (C : Cx o RX9 cX9_dropFirst 1 none (rmx 1 18) 0) (t : Nat) (ht : kd t = 7) (s0 : SS) : Xo (FX9_dropFirst t s0) (fun r => RT o cX9_dropFirst none r) (Yx o 0 [some (.ref t)] [] s0) := by
  unfold FX9_dropFirst
  refine x_aload_n C (pc := 0) dX9_dropFirst_0 rfl ?_
  refine x_getI C (pc := 1) fg_X9_22 dX9_dropFirst_1 ht ?_
  refine x_if_le C (pc := 4) (tgt := 44) dX9_dropFirst_4 (by decide) (fun _ => ?_) (fun _ => ?_)
  · skip
    exact x_vret dX9_dropFirst_44 (fun h => h)
  · skip
    refine x_aload_n C (pc := 7) dX9_dropFirst_7 rfl ?_
    refine x_getR C (pc := 8) fg_X9_18 dX9_dropFirst_8 ht ?_
    refine x_aload_n C (pc := 11) dX9_dropFirst_11 rfl ?_
    refine x_getI C (pc := 12) fg_X9_15 dX9_dropFirst_12 ht ?_
    refine x_aload_n C (pc := 15) dX9_dropFirst_15 rfl ?_
    refine x_getR C (pc := 16) fg_X9_18 dX9_dropFirst_16 ht ?_
    refine x_iconst C (pc := 19) dX9_dropFirst_19 kc_i_0 ?_
    refine x_aload_n C (pc := 20) dX9_dropFirst_20 rfl ?_
    refine x_getI C (pc := 21) fg_X9_22 dX9_dropFirst_21 ht ?_
    refine x_iconst C (pc := 24) dX9_dropFirst_24 kc_i_1 ?_
    refine x_isub C (pc := 25) dX9_dropFirst_25 ?_
    refine x_aload_n C (pc := 26) dX9_dropFirst_26 rfl ?_
    refine x_getI C (pc := 27) fg_X9_15 dX9_dropFirst_27 ht ?_
    refine x_imul C (pc := 30) dX9_dropFirst_30 ?_
    refine x_acopyn C (pc := 31) ml_X9_33 tw_acn tw_acs tw_aci ⟨Nat.le_of_ble_eq_true rfl, Nat.le_of_ble_eq_true rfl⟩ dX9_dropFirst_31 (lkd_7_2 ht) (lkd_7_2 ht) (fun s1 => ?_)
    refine x_aload_n C (pc := 34) dX9_dropFirst_34 rfl ?_
    refine x_dup C (pc := 35) dX9_dropFirst_35 rfl ?_
    refine x_getI C (pc := 36) fg_X9_22 dX9_dropFirst_36 ht ?_
    refine x_iconst C (pc := 39) dX9_dropFirst_39 kc_i_1 ?_
    refine x_isub C (pc := 40) dX9_dropFirst_40 ?_
    refine x_putIn C (pc := 41) fp_X9_22 dX9_dropFirst_41 ht (fun s2 => ?_)
    exact x_vret dX9_dropFirst_44 (fun h => h)
theorem ct_X9_dropFirst (t : Nat) (ht : kd t = 7) (s0 : SS) (r : SS) (h : FX9_dropFirst t s0 = some r) : CT 0 yX9_dropFirst cX9_dropFirst 1 none 1 18 [.ref t] s0 none r :=
  ct_of (by decide +kernel) (Or.inl ⟨rfl, rfl⟩) (lx_args [.ref t]) (lx_entry [.ref t] (fun _ => Nat.le_of_ble_eq_true rfl)) (fun o C hR => Yx.weak (lw_s lw_0) (bd_X9_dropFirst C t ht s0 r h hR))
def FX4_remember (t : Nat) (s0 : SS) : Option (SS) :=
  bd (FX9_isFull (lk t 7) s0) (fun (r1 : Int32) => bd (if r1 = 0 then some (s0) else (bd (FX9_dropFirst (lk t 7) s0) (fun (s2 : SS) => some (s2)))) (fun (s3 : SS) => bd2 (FX9_open (lk t 7) s3) (fun (r4 : Int32) (s5 : SS) => nm r4 (fun (i6 : Int32) => bd (FX9_put (lk t 7) i6 (nI 0) (gI s5 t 8) s5) (fun (s7 : SS) => bd (FX9_put (lk t 7) i6 (nI 1) (gI s7 t 9) s7) (fun (s8 : SS) => bd (FX9_put (lk t 7) i6 (nI 2) (gI s8 (lk t 3) 3) s8) (fun (s9 : SS) => nm (nI 0) (fun (i10 : Int32) => bd (lp FUEL (u2 (fun (n11 : Int32) (s12 : SS) => if (gI s12 (lk t 2) 3) ≤ n11 then some (Sum.inr s12) else (bd (FX4_duesOf t n11 s12) (fun (r13 : Int32) => bd (FX9_put (lk t 7) i6 ((nI 3) + n11) r13 s12) (fun (s14 : SS) => nm (n11 + (nI 1)) (fun (i15 : Int32) => some (Sum.inl (i15, s14)))))))) (i10, s9)) (fun (s16 : SS) => nm (nI 0) (fun (i17 : Int32) => bd (lp FUEL (u2 (fun (n18 : Int32) (s19 : SS) => if (gI s19 (lk t 3) 3) ≤ n18 then some (Sum.inr s19) else (bd (FX9_at (lk t 3) n18 (nI 3) s19) (fun (r20 : Int32) => bd (FX9_put (lk t 7) i6 ((nI 10) + n18) r20 s19) (fun (s21 : SS) => nm (n18 + (nI 1)) (fun (i22 : Int32) => some (Sum.inl (i22, s21)))))))) (i17, s16)) (fun (s23 : SS) => some (s23))))))))))))
set_option maxRecDepth 100000 in
set_option maxHeartbeats 4000000 in
theorem bd_X4_remember {o : Om} (C : Cx o RX4 cX4_remember 3 none (rmx 2 45) 0) (t : Nat) (ht : kd t = 4) (s0 : SS) : Xo (FX4_remember t s0) (fun r => RT o cX4_remember none r) (Yx o 0 [some (.ref t), none, none] [] s0) := by
  unfold FX4_remember
  refine x_aload_n C (pc := 0) dX4_remember_0 rfl ?_
  refine x_getR C (pc := 1) fg_X4_39 dX4_remember_1 ht ?_
  refine x_callVi C (pc := 4) mv_X4_107 (lkd_4_7 ht) rfl [] (fun _ hr => ct_X9_isFull _ (lkd_4_7 ht) _ _ hr) ⟨Nat.le_of_ble_eq_true rfl, Nat.le_of_ble_eq_true rfl⟩ rfl (Nat.le_of_ble_eq_true rfl) rfl dX4_remember_4 (fun r1 => ?_)
  refine xb_1 (Z1 := fun s3 => Yx o 17 [some (.ref t), none, none] [] s3) ?_ (fun s3 => ?_)
  · skip
    refine x_if_eq C (pc := 7) (tgt := 17) dX4_remember_7 (by decide) (fun _ => ?_) (fun _ => ?_)
    · skip
      exact Xo.done (fun h => Yx.weak (lw_s (lw_n (lw_n lw_0))) h)
    · skip
      refine x_aload_n C (pc := 10) dX4_remember_10 rfl ?_
      refine x_getR C (pc := 11) fg_X4_39 dX4_remember_11 ht ?_
      refine x_callVv C (pc := 14) mv_X4_111 (lkd_4_7 ht) rfl [] (fun _ hr => ct_X9_dropFirst _ (lkd_4_7 ht) _ _ hr) ⟨Nat.le_of_ble_eq_true rfl, Nat.le_of_ble_eq_true rfl⟩ rfl (Nat.le_of_ble_eq_true rfl) rfl dX4_remember_14 (fun s2 => ?_)
      exact Xo.done (fun h => Yx.weak (lw_s (lw_n (lw_n lw_0))) h)
  refine x_aload_n C (pc := 17) dX4_remember_17 rfl ?_
  refine x_getR C (pc := 18) fg_X4_39 dX4_remember_18 ht ?_
  refine x_callVim C (pc := 21) mv_X4_67 (lkd_4_7 ht) rfl [] (fun _ _ hr => ct_X9_open _ (lkd_4_7 ht) _ _ _ hr) ⟨Nat.le_of_ble_eq_true rfl, Nat.le_of_ble_eq_true rfl⟩ rfl (Nat.le_of_ble_eq_true rfl) rfl dX4_remember_21 (fun r4 s5 => ?_)
  refine x_istore_n C (pc := 24) (L' := fun i6 => [some (.ref t), some (.int i6), none]) dX4_remember_24 (by decide) (fun _ => rfl) (fun i6 => ?_)
  refine x_aload_n C (pc := 25) dX4_remember_25 rfl ?_
  refine x_getR C (pc := 26) fg_X4_39 dX4_remember_26 ht ?_
  refine x_iload_n C (pc := 29) dX4_remember_29 rfl ?_
  refine x_iconst C (pc := 30) dX4_remember_30 kc_i_0 ?_
  refine x_aload_n C (pc := 31) dX4_remember_31 rfl ?_
  refine x_getI C (pc := 32) fg_X4_46 dX4_remember_32 ht ?_
  refine x_callVv C (pc := 35) mv_X4_70 (lkd_4_7 ht) rfl [.int i6, .int (nI 0), .int (gI s5 t 8)] (fun _ hr => ct_X9_put _ (lkd_4_7 ht) _ _ _ _ _ hr) ⟨Nat.le_of_ble_eq_true rfl, Nat.le_of_ble_eq_true rfl⟩ rfl (Nat.le_of_ble_eq_true rfl) rfl dX4_remember_35 (fun s7 => ?_)
  refine x_aload_n C (pc := 38) dX4_remember_38 rfl ?_
  refine x_getR C (pc := 39) fg_X4_39 dX4_remember_39 ht ?_
  refine x_iload_n C (pc := 42) dX4_remember_42 rfl ?_
  refine x_iconst C (pc := 43) dX4_remember_43 kc_i_1 ?_
  refine x_aload_n C (pc := 44) dX4_remember_44 rfl ?_
  refine x_getI C (pc := 45) fg_X4_50 dX4_remember_45 ht ?_
  refine x_callVv C (pc := 48) mv_X4_70 (lkd_4_7 ht) rfl [.int i6, .int (nI 1), .int (gI s7 t 9)] (fun _ hr => ct_X9_put _ (lkd_4_7 ht) _ _ _ _ _ hr) ⟨Nat.le_of_ble_eq_true rfl, Nat.le_of_ble_eq_true rfl⟩ rfl (Nat.le_of_ble_eq_true rfl) rfl dX4_remember_48 (fun s8 => ?_)
  refine x_aload_n C (pc := 51) dX4_remember_51 rfl ?_
  refine x_getR C (pc := 52) fg_X4_39 dX4_remember_52 ht ?_
  refine x_iload_n C (pc := 55) dX4_remember_55 rfl ?_
  refine x_iconst C (pc := 56) dX4_remember_56 kc_i_2 ?_
  refine x_aload_n C (pc := 57) dX4_remember_57 rfl ?_
  refine x_getR C (pc := 58) fg_X4_27 dX4_remember_58 ht ?_
  refine x_getI C (pc := 61) fg_X4_74 dX4_remember_61 (lkd_4_3 ht) ?_
  refine x_callVv C (pc := 64) mv_X4_70 (lkd_4_7 ht) rfl [.int i6, .int (nI 2), .int (gI s8 (lk t 3) 3)] (fun _ hr => ct_X9_put _ (lkd_4_7 ht) _ _ _ _ _ hr) ⟨Nat.le_of_ble_eq_true rfl, Nat.le_of_ble_eq_true rfl⟩ rfl (Nat.le_of_ble_eq_true rfl) rfl dX4_remember_64 (fun s9 => ?_)
  refine x_iconst C (pc := 67) dX4_remember_67 kc_i_0 ?_
  refine x_istore_n C (pc := 68) (L' := fun i10 => [some (.ref t), some (.int i6), some (.int i10)]) dX4_remember_68 (by decide) (fun _ => rfl) (fun i10 => ?_)
  refine xb_1 (Z1 := (fun s16 => Yx o 102 [some (.ref t), some (.int i6), none] [] s16)) ?_ (fun s16 => ?_)
  · refine Xo.mono (Yx.weak (lw_s (lw_s (lw_s lw_0)))) (x_lp2 (fr := fun n11 s12 => Yx o 69 [some (.ref t), some (.int i6), some (.int n11)] [] s12) _ _ (fun n11 s12 => ?_))
    refine x_iload_n C (pc := 69) dX4_remember_69 rfl ?_
    refine x_aload_n C (pc := 70) dX4_remember_70 rfl ?_
    refine x_getR C (pc := 71) fg_X4_23 dX4_remember_71 ht ?_
    refine x_getI C (pc := 74) fg_X4_74 dX4_remember_74 (lkd_4_2 ht) ?_
    refine x_icmp_ge C (pc := 77) (tgt := 102) dX4_remember_77 (by decide) (fun _ => ?_) (fun _ => ?_)
    · skip
      exact Xo.done (fun h => Yx.weak (lw_s (lw_s (lw_n lw_0))) h)
    · skip
      refine x_aload_n C (pc := 80) dX4_remember_80 rfl ?_
      refine x_getR C (pc := 81) fg_X4_39 dX4_remember_81 ht ?_
      refine x_iload_n C (pc := 84) dX4_remember_84 rfl ?_
      refine x_iconst C (pc := 85) dX4_remember_85 kc_i_3 ?_
      refine x_iload_n C (pc := 86) dX4_remember_86 rfl ?_
      refine x_iadd C (pc := 87) dX4_remember_87 ?_
      refine x_aload_n C (pc := 88) dX4_remember_88 rfl ?_
      refine x_iload_n C (pc := 89) dX4_remember_89 rfl ?_
      refine x_callVi C (pc := 90) mv_X4_98 ht rfl [.int n11] (fun _ hr => ct_X4_duesOf _ ht _ _ _ hr) ⟨Nat.le_of_ble_eq_true rfl, Nat.le_of_ble_eq_true rfl⟩ rfl (Nat.le_of_ble_eq_true rfl) rfl dX4_remember_90 (fun r13 => ?_)
      refine x_callVv C (pc := 93) mv_X4_70 (lkd_4_7 ht) rfl [.int i6, .int ((nI 3) + n11), .int r13] (fun _ hr => ct_X9_put _ (lkd_4_7 ht) _ _ _ _ _ hr) ⟨Nat.le_of_ble_eq_true rfl, Nat.le_of_ble_eq_true rfl⟩ rfl (Nat.le_of_ble_eq_true rfl) rfl dX4_remember_93 (fun s14 => ?_)
      refine x_iinc C (pc := 96) (L' := fun i15 => [some (.ref t), some (.int i6), some (.int i15)]) dX4_remember_96 rfl kc_i_1 (by decide) (fun _ => rfl) (fun i15 => ?_)
      refine x_goto C (pc := 99) (tgt := 69) dX4_remember_99 (by decide) ?_
      exact Xo.done (fun h => Yx.weak (lw_s (lw_s (lw_s lw_0))) h)
  refine x_iconst C (pc := 102) dX4_remember_102 kc_i_0 ?_
  refine x_istore_n C (pc := 103) (L' := fun i17 => [some (.ref t), some (.int i6), some (.int i17)]) dX4_remember_103 (by decide) (fun _ => rfl) (fun i17 => ?_)
  refine xb_1 (Z1 := (fun s23 => Yx o 142 [none, none, none] [] s23)) ?_ (fun s23 => ?_)
  · refine Xo.mono (Yx.weak (lw_s (lw_s (lw_s lw_0)))) (x_lp2 (fr := fun n18 s19 => Yx o 104 [some (.ref t), some (.int i6), some (.int n18)] [] s19) _ _ (fun n18 s19 => ?_))
    refine x_iload_n C (pc := 104) dX4_remember_104 rfl ?_
    refine x_aload_n C (pc := 105) dX4_remember_105 rfl ?_
    refine x_getR C (pc := 106) fg_X4_27 dX4_remember_106 ht ?_
    refine x_getI C (pc := 109) fg_X4_74 dX4_remember_109 (lkd_4_3 ht) ?_
    refine x_icmp_ge C (pc := 112) (tgt := 142) dX4_remember_112 (by decide) (fun _ => ?_) (fun _ => ?_)
    · skip
      exact Xo.done (fun h => Yx.weak (lw_n (lw_n (lw_n lw_0))) h)
    · skip
      refine x_aload_n C (pc := 115) dX4_remember_115 rfl ?_
      refine x_getR C (pc := 116) fg_X4_39 dX4_remember_116 ht ?_
      refine x_iload_n C (pc := 119) dX4_remember_119 rfl ?_
      refine x_bipush C (pc := 120) dX4_remember_120 kc_b_10 ?_
      refine x_iload_n C (pc := 122) dX4_remember_122 rfl ?_
      refine x_iadd C (pc := 123) dX4_remember_123 ?_
      refine x_aload_n C (pc := 124) dX4_remember_124 rfl ?_
      refine x_getR C (pc := 125) fg_X4_27 dX4_remember_125 ht ?_
      refine x_iload_n C (pc := 128) dX4_remember_128 rfl ?_
      refine x_iconst C (pc := 129) dX4_remember_129 kc_i_3 ?_
      refine x_callVi C (pc := 130) mv_X4_87 (lkd_4_3 ht) rfl [.int n18, .int (nI 3)] (fun _ hr => ct_X9_at _ (lkd_4_3 ht) _ _ _ _ hr) ⟨Nat.le_of_ble_eq_true rfl, Nat.le_of_ble_eq_true rfl⟩ rfl (Nat.le_of_ble_eq_true rfl) rfl dX4_remember_130 (fun r20 => ?_)
      refine x_callVv C (pc := 133) mv_X4_70 (lkd_4_7 ht) rfl [.int i6, .int ((nI 10) + n18), .int r20] (fun _ hr => ct_X9_put _ (lkd_4_7 ht) _ _ _ _ _ hr) ⟨Nat.le_of_ble_eq_true rfl, Nat.le_of_ble_eq_true rfl⟩ rfl (Nat.le_of_ble_eq_true rfl) rfl dX4_remember_133 (fun s21 => ?_)
      refine x_iinc C (pc := 136) (L' := fun i22 => [some (.ref t), some (.int i6), some (.int i22)]) dX4_remember_136 rfl kc_i_1 (by decide) (fun _ => rfl) (fun i22 => ?_)
      refine x_goto C (pc := 139) (tgt := 104) dX4_remember_139 (by decide) ?_
      exact Xo.done (fun h => Yx.weak (lw_s (lw_s (lw_s lw_0))) h)
  exact x_vret dX4_remember_142 (fun h => h)
theorem ct_X4_remember (t : Nat) (ht : kd t = 4) (s0 : SS) (r : SS) (h : FX4_remember t s0 = some r) : CT 0 yX4_remember cX4_remember 3 none 2 45 [.ref t] s0 none r :=
  ct_of (by decide +kernel) (Or.inl ⟨rfl, rfl⟩) (lx_args [.ref t]) (lx_entry [.ref t] (fun _ => Nat.le_of_ble_eq_true rfl)) (fun o C hR => Yx.weak (lw_s (lw_z (lw_z lw_0))) (bd_X4_remember C t ht s0 r h hR))
def FX4_isHeard (t : Nat) (a : Int32) (s0 : SS) : Option (Int32) :=
  bd (FX9_at (lk t 3) a (nI 3) s0) (fun (r1 : Int32) => if r1 = (nI 1) then some ((nI 1)) else (some ((nI 0))))
set_option maxRecDepth 100000 in
set_option maxHeartbeats 4000000 in
theorem bd_X4_isHeard {o : Om} (C : Cx o RX4 cX4_isHeard 2 (some .boolean) (rmx 1 22) 0) (t : Nat) (ht : kd t = 4) (a : Int32) (s0 : SS) : Xo (FX4_isHeard t a s0) (fun r => zb r = true → RT o cX4_isHeard (some (.int r)) s0) (Yx o 0 [some (.ref t), some (.int a)] [] s0) := by
  unfold FX4_isHeard
  refine x_aload_n C (pc := 0) dX4_isHeard_0 rfl ?_
  refine x_getR C (pc := 1) fg_X4_27 dX4_isHeard_1 ht ?_
  refine x_iload_n C (pc := 4) dX4_isHeard_4 rfl ?_
  refine x_iconst C (pc := 5) dX4_isHeard_5 kc_i_3 ?_
  refine x_callVi C (pc := 6) mv_X4_87 (lkd_4_3 ht) rfl [.int a, .int (nI 3)] (fun _ hr => ct_X9_at _ (lkd_4_3 ht) _ _ _ _ hr) ⟨Nat.le_of_ble_eq_true rfl, Nat.le_of_ble_eq_true rfl⟩ rfl (Nat.le_of_ble_eq_true rfl) rfl dX4_isHeard_6 (fun r1 => ?_)
  refine x_iconst C (pc := 9) dX4_isHeard_9 kc_i_1 ?_
  refine x_icmp_ne C (pc := 10) (tgt := 17) dX4_isHeard_10 (by decide) (fun _ => ?_) (fun _ => ?_)
  · skip
    refine x_iconst C (pc := 13) dX4_isHeard_13 kc_i_1 ?_
    refine x_goto C (pc := 14) (tgt := 18) dX4_isHeard_14 (by decide) ?_
    exact x_ret dX4_isHeard_18 (fun h => h zb_1)
  · skip
    refine x_iconst C (pc := 17) dX4_isHeard_17 kc_i_0 ?_
    exact x_ret dX4_isHeard_18 (fun h => h zb_0)
theorem ct_X4_isHeard (t : Nat) (ht : kd t = 4) (a : Int32) (s0 : SS) (r : Int32) (h : FX4_isHeard t a s0 = some r) : CT 0 yX4_isHeard cX4_isHeard 2 (some .boolean) 1 22 [.ref t, .int a] s0 (some (.int r)) s0 :=
  ct_ofz (by decide +kernel) rfl (lx_args [.ref t, .int a]) (lx_entry [.ref t, .int a] (fun _ => Nat.le_of_ble_eq_true rfl)) (fun o C hR => Yx.weak (lw_s (lw_s lw_0)) (bd_X4_isHeard C t ht a s0 r h hR))
def FX4_awardNow (t : Nat) (a : Int32) (s0 : SS) : Option (Int32) :=
  bd (FX4_isHeard t a s0) (fun (r1 : Int32) => if r1 = 0 then bd (FX9_at (lk t 3) a (nI 0) s0) (fun (r2 : Int32) => bd (FX9_at (lk t 3) a (nI 1) s0) (fun (r3 : Int32) => bd (FX4_duesOf t r3 s0) (fun (r4 : Int32) => bd (FX9_at (lk t 3) a (nI 2) s0) (fun (r5 : Int32) => bd (FX5_awardOf r2 r4 ((gI s0 t 8) - r5) s0) (fun (r6 : Int32) => some (r6)))))) else (some ((nI 0))))
set_option maxRecDepth 100000 in
set_option maxHeartbeats 4000000 in
theorem bd_X4_awardNow {o : Om} (C : Cx o RX4 cX4_awardNow 2 (some .int) (rmx 2 45) 0) (t : Nat) (ht : kd t = 4) (a : Int32) (s0 : SS) : Xo (FX4_awardNow t a s0) (fun r => RT o cX4_awardNow (some (.int r)) s0) (Yx o 0 [some (.ref t), some (.int a)] [] s0) := by
  unfold FX4_awardNow
  refine x_aload_n C (pc := 0) dX4_awardNow_0 rfl ?_
  refine x_iload_n C (pc := 1) dX4_awardNow_1 rfl ?_
  refine x_callVi C (pc := 2) mv_X4_95 ht rfl [.int a] (fun _ hr => ct_X4_isHeard _ ht _ _ _ hr) ⟨Nat.le_of_ble_eq_true rfl, Nat.le_of_ble_eq_true rfl⟩ rfl (Nat.le_of_ble_eq_true rfl) rfl dX4_awardNow_2 (fun r1 => ?_)
  refine x_if_eq C (pc := 5) (tgt := 10) dX4_awardNow_5 (by decide) (fun _ => ?_) (fun _ => ?_)
  · skip
    refine x_aload_n C (pc := 10) dX4_awardNow_10 rfl ?_
    refine x_getR C (pc := 11) fg_X4_27 dX4_awardNow_11 ht ?_
    refine x_iload_n C (pc := 14) dX4_awardNow_14 rfl ?_
    refine x_iconst C (pc := 15) dX4_awardNow_15 kc_i_0 ?_
    refine x_callVi C (pc := 16) mv_X4_87 (lkd_4_3 ht) rfl [.int a, .int (nI 0)] (fun _ hr => ct_X9_at _ (lkd_4_3 ht) _ _ _ _ hr) ⟨Nat.le_of_ble_eq_true rfl, Nat.le_of_ble_eq_true rfl⟩ rfl (Nat.le_of_ble_eq_true rfl) rfl dX4_awardNow_16 (fun r2 => ?_)
    refine x_aload_n C (pc := 19) dX4_awardNow_19 rfl ?_
    refine x_aload_n C (pc := 20) dX4_awardNow_20 rfl ?_
    refine x_getR C (pc := 21) fg_X4_27 dX4_awardNow_21 ht ?_
    refine x_iload_n C (pc := 24) dX4_awardNow_24 rfl ?_
    refine x_iconst C (pc := 25) dX4_awardNow_25 kc_i_1 ?_
    refine x_callVi C (pc := 26) mv_X4_87 (lkd_4_3 ht) rfl [.int a, .int (nI 1)] (fun _ hr => ct_X9_at _ (lkd_4_3 ht) _ _ _ _ hr) ⟨Nat.le_of_ble_eq_true rfl, Nat.le_of_ble_eq_true rfl⟩ rfl (Nat.le_of_ble_eq_true rfl) rfl dX4_awardNow_26 (fun r3 => ?_)
    refine x_callVi C (pc := 29) mv_X4_98 ht rfl [.int r3] (fun _ hr => ct_X4_duesOf _ ht _ _ _ hr) ⟨Nat.le_of_ble_eq_true rfl, Nat.le_of_ble_eq_true rfl⟩ rfl (Nat.le_of_ble_eq_true rfl) rfl dX4_awardNow_29 (fun r4 => ?_)
    refine x_aload_n C (pc := 32) dX4_awardNow_32 rfl ?_
    refine x_getI C (pc := 33) fg_X4_46 dX4_awardNow_33 ht ?_
    refine x_aload_n C (pc := 36) dX4_awardNow_36 rfl ?_
    refine x_getR C (pc := 37) fg_X4_27 dX4_awardNow_37 ht ?_
    refine x_iload_n C (pc := 40) dX4_awardNow_40 rfl ?_
    refine x_iconst C (pc := 41) dX4_awardNow_41 kc_i_2 ?_
    refine x_callVi C (pc := 42) mv_X4_87 (lkd_4_3 ht) rfl [.int a, .int (nI 2)] (fun _ hr => ct_X9_at _ (lkd_4_3 ht) _ _ _ _ hr) ⟨Nat.le_of_ble_eq_true rfl, Nat.le_of_ble_eq_true rfl⟩ rfl (Nat.le_of_ble_eq_true rfl) rfl dX4_awardNow_42 (fun r5 => ?_)
    refine x_isub C (pc := 45) dX4_awardNow_45 ?_
    refine x_callSi C (pc := 46) ms_X4_101 [.int r2, .int r4, .int ((gI s0 t 8) - r5)] (fun _ hr => ct_X5_awardOf _ _ _ _ _ hr) ⟨Nat.le_of_ble_eq_true rfl, Nat.le_of_ble_eq_true rfl⟩ rfl (Nat.le_of_ble_eq_true rfl) rfl dX4_awardNow_46 (fun r6 => ?_)
    exact x_ret dX4_awardNow_49 (fun h => h)
  · skip
    refine x_iconst C (pc := 8) dX4_awardNow_8 kc_i_0 ?_
    exact x_ret dX4_awardNow_9 (fun h => h)
theorem ct_X4_awardNow (t : Nat) (ht : kd t = 4) (a : Int32) (s0 : SS) (r : Int32) (h : FX4_awardNow t a s0 = some r) : CT 0 yX4_awardNow cX4_awardNow 2 (some .int) 2 45 [.ref t, .int a] s0 (some (.int r)) s0 :=
  ct_of (by decide +kernel) (Or.inr (Or.inl ⟨_, rfl, _, rfl, rfl⟩)) (lx_args [.ref t, .int a]) (lx_entry [.ref t, .int a] (fun _ => Nat.le_of_ble_eq_true rfl)) (fun o C hR => Yx.weak (lw_s (lw_s lw_0)) (bd_X4_awardNow C t ht a s0 r h hR))
def FX4_hearSuit (t : Nat) (a : Int32) (s0 : SS) : Option (Int32 × SS) :=
  bd (FX4_awardNow t a s0) (fun (r1 : Int32) => nm r1 (fun (i2 : Int32) => nm (pI s0 t 9 ((gI s0 t 9) + i2)) (fun (s3 : SS) => bd (FX9_at (lk t 3) a (nI 1) s3) (fun (r4 : Int32) => bd (FX9_put (lk t 2) r4 (nI 3) (nI 0) s3) (fun (s5 : SS) => bd (FX9_put (lk t 3) a (nI 3) (nI 1) s5) (fun (s6 : SS) => some ((i2, s6))))))))
set_option maxRecDepth 100000 in
set_option maxHeartbeats 4000000 in
theorem bd_X4_hearSuit {o : Om} (C : Cx o RX4 cX4_hearSuit 3 (some .int) (rmx 3 66) 0) (t : Nat) (ht : kd t = 4) (a : Int32) (s0 : SS) : Xo (FX4_hearSuit t a s0) (fun r => RT o cX4_hearSuit (some (.int r.1)) r.2) (Yx o 0 [some (.ref t), some (.int a), none] [] s0) := by
  unfold FX4_hearSuit
  refine x_aload_n C (pc := 0) dX4_hearSuit_0 rfl ?_
  refine x_iload_n C (pc := 1) dX4_hearSuit_1 rfl ?_
  refine x_callVi C (pc := 2) mv_X4_91 ht rfl [.int a] (fun _ hr => ct_X4_awardNow _ ht _ _ _ hr) ⟨Nat.le_of_ble_eq_true rfl, Nat.le_of_ble_eq_true rfl⟩ rfl (Nat.le_of_ble_eq_true rfl) rfl dX4_hearSuit_2 (fun r1 => ?_)
  refine x_istore_n C (pc := 5) (L' := fun i2 => [some (.ref t), some (.int a), some (.int i2)]) dX4_hearSuit_5 (by decide) (fun _ => rfl) (fun i2 => ?_)
  refine x_aload_n C (pc := 6) dX4_hearSuit_6 rfl ?_
  refine x_dup C (pc := 7) dX4_hearSuit_7 rfl ?_
  refine x_getI C (pc := 8) fg_X4_50 dX4_hearSuit_8 ht ?_
  refine x_iload_n C (pc := 11) dX4_hearSuit_11 rfl ?_
  refine x_iadd C (pc := 12) dX4_hearSuit_12 ?_
  refine x_putIn C (pc := 13) fp_X4_50 dX4_hearSuit_13 ht (fun s3 => ?_)
  refine x_aload_n C (pc := 16) dX4_hearSuit_16 rfl ?_
  refine x_getR C (pc := 17) fg_X4_23 dX4_hearSuit_17 ht ?_
  refine x_aload_n C (pc := 20) dX4_hearSuit_20 rfl ?_
  refine x_getR C (pc := 21) fg_X4_27 dX4_hearSuit_21 ht ?_
  refine x_iload_n C (pc := 24) dX4_hearSuit_24 rfl ?_
  refine x_iconst C (pc := 25) dX4_hearSuit_25 kc_i_1 ?_
  refine x_callVi C (pc := 26) mv_X4_87 (lkd_4_3 ht) rfl [.int a, .int (nI 1)] (fun _ hr => ct_X9_at _ (lkd_4_3 ht) _ _ _ _ hr) ⟨Nat.le_of_ble_eq_true rfl, Nat.le_of_ble_eq_true rfl⟩ rfl (Nat.le_of_ble_eq_true rfl) rfl dX4_hearSuit_26 (fun r4 => ?_)
  refine x_iconst C (pc := 29) dX4_hearSuit_29 kc_i_3 ?_
  refine x_iconst C (pc := 30) dX4_hearSuit_30 kc_i_0 ?_
  refine x_callVv C (pc := 31) mv_X4_70 (lkd_4_2 ht) rfl [.int r4, .int (nI 3), .int (nI 0)] (fun _ hr => ct_X9_put _ (lkd_4_2 ht) _ _ _ _ _ hr) ⟨Nat.le_of_ble_eq_true rfl, Nat.le_of_ble_eq_true rfl⟩ rfl (Nat.le_of_ble_eq_true rfl) rfl dX4_hearSuit_31 (fun s5 => ?_)
  refine x_aload_n C (pc := 34) dX4_hearSuit_34 rfl ?_
  refine x_getR C (pc := 35) fg_X4_27 dX4_hearSuit_35 ht ?_
  refine x_iload_n C (pc := 38) dX4_hearSuit_38 rfl ?_
  refine x_iconst C (pc := 39) dX4_hearSuit_39 kc_i_3 ?_
  refine x_iconst C (pc := 40) dX4_hearSuit_40 kc_i_1 ?_
  refine x_callVv C (pc := 41) mv_X4_70 (lkd_4_3 ht) rfl [.int a, .int (nI 3), .int (nI 1)] (fun _ hr => ct_X9_put _ (lkd_4_3 ht) _ _ _ _ _ hr) ⟨Nat.le_of_ble_eq_true rfl, Nat.le_of_ble_eq_true rfl⟩ rfl (Nat.le_of_ble_eq_true rfl) rfl dX4_hearSuit_41 (fun s6 => ?_)
  refine x_iload_n C (pc := 44) dX4_hearSuit_44 rfl ?_
  exact x_ret dX4_hearSuit_45 (fun h => h)
theorem ct_X4_hearSuit (t : Nat) (ht : kd t = 4) (a : Int32) (s0 : SS) (r : Int32) (s2 : SS) (h : FX4_hearSuit t a s0 = some (r, s2)) : CT 0 yX4_hearSuit cX4_hearSuit 3 (some .int) 3 66 [.ref t, .int a] s0 (some (.int r)) s2 :=
  ct_of (by decide +kernel) (Or.inr (Or.inl ⟨_, rfl, _, rfl, rfl⟩)) (lx_args [.ref t, .int a]) (lx_entry [.ref t, .int a] (fun _ => Nat.le_of_ble_eq_true rfl)) (fun o C hR => Yx.weak (lw_s (lw_s (lw_z lw_0))) (bd_X4_hearSuit C t ht a s0 (r, s2) h hR))
