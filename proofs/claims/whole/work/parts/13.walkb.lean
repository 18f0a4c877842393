def FX12_empty (a : Nat) (s0 : SS) : Option (SS) :=
  nm (nI 0) (fun (i1 : Int32) => bd (lp FUEL (u2 (fun (n2 : Int32) (s3 : SS) => if (nI 378) ≤ n2 then some (Sum.inr s3) else (gd (inb n2 (ln a)) (nm (pI s3 a (Int32.toNatClampNeg n2) (nI 0)) (fun (s4 : SS) => nm (n2 + (nI 1)) (fun (i5 : Int32) => some (Sum.inl (i5, s4)))))))) (i1, s0)) (fun (s6 : SS) => some (s6)))
set_option maxRecDepth 100000 in
set_option maxHeartbeats 4000000 in
theorem bd_X12_empty {o : Om} (C : Cx o RX12 cX12_empty 2 none (rmx 0 0) 1) (a : Nat) (ha : kd a = 21) (s0 : SS) : Xo (FX12_empty a s0) (fun r => RT o cX12_empty none r) (Yx o 0 [some (.ref a), none] [] s0) := by
  unfold FX12_empty
  refine x_iconst C (pc := 0) dX12_empty_0 kc_i_0 ?_
  refine x_istore_n C (pc := 1) (L' := fun i1 => [some (.ref a), some (.int i1)]) dX12_empty_1 (by decide) (fun _ => rfl) (fun i1 => ?_)
  refine xb_1 (Z1 := (fun s6 => Yx o 19 [none, none] [] s6)) ?_ (fun s6 => ?_)
  · refine Xo.mono (Yx.weak (lw_s (lw_s lw_0))) (x_lp2 (fr := fun n2 s3 => Yx o 2 [some (.ref a), some (.int n2)] [] s3) _ _ (fun n2 s3 => ?_))
    refine x_iload_n C (pc := 2) dX12_empty_2 rfl ?_
    refine x_sipush C (pc := 3) dX12_empty_3 kc_s_378 ?_
    refine x_icmp_ge C (pc := 6) (tgt := 19) dX12_empty_6 (by decide) (fun _ => ?_) (fun _ => ?_)
    · skip
      exact Xo.done (fun h => Yx.weak (lw_n (lw_n lw_0)) h)
    · skip
      refine x_aload_n C (pc := 9) dX12_empty_9 rfl ?_
      refine x_iload_n C (pc := 10) dX12_empty_10 rfl ?_
      refine x_iconst C (pc := 11) dX12_empty_11 kc_i_0 ?_
      refine x_iastn C (pc := 12) dX12_empty_12 ha (fun s4 => ?_)
      refine x_iinc C (pc := 13) (L' := fun i5 => [some (.ref a), some (.int i5)]) dX12_empty_13 rfl kc_i_1 (by decide) (fun _ => rfl) (fun i5 => ?_)
      refine x_goto C (pc := 16) (tgt := 2) dX12_empty_16 (by decide) ?_
      exact Xo.done (fun h => Yx.weak (lw_s (lw_s lw_0)) h)
  exact x_vret dX12_empty_19 (fun h => h)
theorem ct_X12_empty (a : Nat) (ha : kd a = 21) (s0 : SS) (r : SS) (h : FX12_empty a s0 = some r) : CT 1 yX12_empty cX12_empty 2 none 0 0 [.ref a] s0 none r :=
  ct_of (by decide +kernel) (Or.inl ⟨rfl, rfl⟩) (lx_args [.ref a]) (lx_entry [.ref a] (fun _ => Nat.le_of_ble_eq_true rfl)) (fun o C hR => Yx.weak (lw_s (lw_z lw_0)) (bd_X12_empty C a ha s0 r h hR))
def FX12_island (t : Nat) (s0 : SS) : Option (Int32 × SS) :=
  gd (inb (nI 16) (ln (lk t 0))) (nm (gI s0 (lk t 0) (Int32.toNatClampNeg (nI 16))) (fun (i1 : Int32) => bd (FX12_empty (lk t 0) s0) (fun (s2 : SS) => some ((i1, s2)))))
set_option maxRecDepth 100000 in
set_option maxHeartbeats 4000000 in
theorem bd_X12_island {o : Om} (C : Cx o RX12 cX12_island 2 (some .int) (rmx 1 21) 1) (t : Nat) (ht : kd t = 10) (s0 : SS) : Xo (FX12_island t s0) (fun r => RT o cX12_island (some (.int r.1)) r.2) (Yx o 0 [some (.ref t), none] [] s0) := by
  unfold FX12_island
  refine x_aload_n C (pc := 0) dX12_island_0 rfl ?_
  refine x_getR C (pc := 1) fg_X12_7 dX12_island_1 ht ?_
  refine x_bipush C (pc := 4) dX12_island_4 kc_b_16 ?_
  refine x_iald C (pc := 6) dX12_island_6 (lkd_10_0 ht) (fun _ => ?_)
  refine x_istore_n C (pc := 7) (L' := fun i1 => [some (.ref t), some (.int i1)]) dX12_island_7 (by decide) (fun _ => rfl) (fun i1 => ?_)
  refine x_aload_n C (pc := 8) dX12_island_8 rfl ?_
  refine x_getR C (pc := 9) fg_X12_7 dX12_island_9 ht ?_
  refine x_callSv C (pc := 12) ms_X12_93 [.ref (lk t 0)] (fun _ hr => ct_X12_empty _ (lkd_10_0 ht) _ _ hr) ⟨Nat.le_of_ble_eq_true rfl, Nat.le_of_ble_eq_true rfl⟩ rfl (Nat.le_of_ble_eq_true rfl) rfl dX12_island_12 (fun s2 => ?_)
  refine x_iload_n C (pc := 15) dX12_island_15 rfl ?_
  exact x_ret dX12_island_16 (fun h => h)
theorem ct_X12_island (t : Nat) (ht : kd t = 10) (s0 : SS) (r : Int32) (s2 : SS) (h : FX12_island t s0 = some (r, s2)) : CT 1 yX12_island cX12_island 2 (some .int) 1 21 [.ref t] s0 (some (.int r)) s2 :=
  ct_of (by decide +kernel) (Or.inr (Or.inl ⟨_, rfl, _, rfl, rfl⟩)) (lx_args [.ref t]) (lx_entry [.ref t] (fun _ => Nat.le_of_ble_eq_true rfl)) (fun o C hR => Yx.weak (lw_s (lw_z lw_0)) (bd_X12_island C t ht s0 (r, s2) h hR))
def FX12_in (a : Int64) (b : Int64) (c : Int64) (s0 : SS) : Option (Int32) :=
  if (lg_cmp a b) < 0 then some ((nI 0)) else (if 0 < (lg_cmp a c) then some ((nI 0)) else (some ((nI 1))))
set_option maxRecDepth 100000 in
set_option maxHeartbeats 4000000 in
theorem bd_X12_in {o : Om} (C : Cx o RX12 cX12_in 6 (some .boolean) (rmx 0 0) 1) (a : Int64) (b : Int64) (c : Int64) (s0 : SS) : Xo (FX12_in a b c s0) (fun r => zb r = true → RT o cX12_in (some (.int r)) s0) (Yx o 0 [some (.long a), none, some (.long b), none, some (.long c), none] [] s0) := by
  unfold FX12_in
  refine x_lload_n C (pc := 0) dX12_in_0 rfl ?_
  refine x_lload_n C (pc := 1) dX12_in_1 rfl ?_
  refine x_lcmp C (pc := 2) dX12_in_2 ?_
  refine x_if_lt C (pc := 3) (tgt := 17) dX12_in_3 (by decide) (fun _ => ?_) (fun _ => ?_)
  · skip
    refine x_iconst C (pc := 17) dX12_in_17 kc_i_0 ?_
    exact x_ret dX12_in_18 (fun h => h zb_0)
  · skip
    refine x_lload_n C (pc := 6) dX12_in_6 rfl ?_
    refine x_lload C (pc := 7) dX12_in_7 rfl ?_
    refine x_lcmp C (pc := 9) dX12_in_9 ?_
    refine x_if_gt C (pc := 10) (tgt := 17) dX12_in_10 (by decide) (fun _ => ?_) (fun _ => ?_)
    · skip
      refine x_iconst C (pc := 17) dX12_in_17 kc_i_0 ?_
      exact x_ret dX12_in_18 (fun h => h zb_0)
    · skip
      refine x_iconst C (pc := 13) dX12_in_13 kc_i_1 ?_
      refine x_goto C (pc := 14) (tgt := 18) dX12_in_14 (by decide) ?_
      exact x_ret dX12_in_18 (fun h => h zb_1)
theorem ct_X12_in (a : Int64) (b : Int64) (c : Int64) (s0 : SS) (r : Int32) (h : FX12_in a b c s0 = some r) : CT 1 yX12_in cX12_in 6 (some .boolean) 0 0 [.long a, .long b, .long c] s0 (some (.int r)) s0 :=
  ct_ofz (by decide +kernel) rfl (lx_args [.long a, .long b, .long c]) (lx_entry [.long a, .long b, .long c] (fun _ => Nat.le_of_ble_eq_true rfl)) (fun o C hR => Yx.weak (lw_s (lw_s (lw_s (lw_s (lw_s (lw_s lw_0)))))) (bd_X12_in C a b c s0 r h hR))
def FX12_bad (t : Nat) (s0 : SS) : Option (Int32 × SS) :=
  gd (inb (nI 0) (ln (lk t 6))) (gd (inb (nI 0) (ln (lk t 6))) (nm (pI s0 (lk t 6) (Int32.toNatClampNeg (nI 0)) ((gI s0 (lk t 6) (Int32.toNatClampNeg (nI 0))) + (nI 1))) (fun (s1 : SS) => some (((-2 : Int32), s1)))))
set_option maxRecDepth 100000 in
set_option maxHeartbeats 4000000 in
theorem bd_X12_bad {o : Om} (C : Cx o RX12 cX12_bad 1 (some .int) (rmx 0 0) 1) (t : Nat) (ht : kd t = 10) (s0 : SS) : Xo (FX12_bad t s0) (fun r => RT o cX12_bad (some (.int r.1)) r.2) (Yx o 0 [some (.ref t)] [] s0) := by
  unfold FX12_bad
  refine x_aload_n C (pc := 0) dX12_bad_0 rfl ?_
  refine x_getR C (pc := 1) fg_X12_27 dX12_bad_1 ht ?_
  refine x_iconst C (pc := 4) dX12_bad_4 kc_i_0 ?_
  refine x_dup2 C (pc := 5) dX12_bad_5 rfl rfl ?_
  refine x_iald C (pc := 6) dX12_bad_6 (lkd_10_6 ht) (fun _ => ?_)
  refine x_iconst C (pc := 7) dX12_bad_7 kc_i_1 ?_
  refine x_iadd C (pc := 8) dX12_bad_8 ?_
  refine x_iastn C (pc := 9) dX12_bad_9 (lkd_10_6 ht) (fun s1 => ?_)
  refine x_bipush C (pc := 10) dX12_bad_10 kc_b_m2 ?_
  exact x_ret dX12_bad_12 (fun h => h)
theorem ct_X12_bad (t : Nat) (ht : kd t = 10) (s0 : SS) (r : Int32) (s2 : SS) (h : FX12_bad t s0 = some (r, s2)) : CT 1 yX12_bad cX12_bad 1 (some .int) 0 0 [.ref t] s0 (some (.int r)) s2 :=
  ct_of (by decide +kernel) (Or.inr (Or.inl ⟨_, rfl, _, rfl, rfl⟩)) (lx_args [.ref t]) (lx_entry [.ref t] (fun _ => Nat.le_of_ble_eq_true rfl)) (fun o C hR => Yx.weak (lw_s lw_0) (bd_X12_bad C t ht s0 (r, s2) h hR))
def FX12_wind (t : Nat) (a : Int32) (b : Int32) (c : Int32) (s0 : SS) : Option (Int32 × SS) :=
  bd (FX12_in (Int32.toInt64 a) (lN 0) (7 : Int64) s0) (fun (r1 : Int32) => if r1 = 0 then bd2 (FX12_bad t s0) (fun (r2 : Int32) (s3 : SS) => some ((r2, s3))) else (bd (FX12_in (Int32.toInt64 b) (lN 0) (20 : Int64) s0) (fun (r4 : Int32) => if r4 = 0 then bd2 (FX12_bad t s0) (fun (r5 : Int32) (s6 : SS) => some ((r5, s6))) else (bd (FX12_in (Int32.toInt64 c) (lN 0) (lN 1) s0) (fun (r7 : Int32) => if r7 = 0 then bd2 (FX12_bad t s0) (fun (r8 : Int32) (s9 : SS) => some ((r8, s9))) else (gd (inb ((nI 2) * a) (ln (lk t 0))) (gd (inb (((nI 2) * a) + (nI 1)) (ln (lk t 0))) (nm (((nI 10) * (gI s0 (lk t 0) (Int32.toNatClampNeg ((nI 2) * a)))) + (gI s0 (lk t 0) (Int32.toNatClampNeg (((nI 2) * a) + (nI 1))))) (fun (i10 : Int32) => gd (inb ((nI 2) * a) (ln (lk t 0))) (nm (pI s0 (lk t 0) (Int32.toNatClampNeg ((nI 2) * a)) b) (fun (s11 : SS) => gd (inb (((nI 2) * a) + (nI 1)) (ln (lk t 0))) (nm (pI s11 (lk t 0) (Int32.toNatClampNeg (((nI 2) * a) + (nI 1))) c) (fun (s12 : SS) => gd (inb (nI 137) (ln (lk t 0))) (nm (pI s12 (lk t 0) (Int32.toNatClampNeg (nI 137)) (nI 0)) (fun (s13 : SS) => some ((i10, s13)))))))))))))))))
set_option maxRecDepth 100000 in
set_option maxHeartbeats 4000000 in
theorem bd_X12_wind {o : Om} (C : Cx o RX12 cX12_wind 5 (some .int) (rmx 1 25) 1) (t : Nat) (ht : kd t = 10) (a : Int32) (b : Int32) (c : Int32) (s0 : SS) : Xo (FX12_wind t a b c s0) (fun r => RT o cX12_wind (some (.int r.1)) r.2) (Yx o 0 [some (.ref t), some (.int a), some (.int b), some (.int c), none] [] s0) := by
  unfold FX12_wind
  refine x_iload_n C (pc := 0) dX12_wind_0 rfl ?_
  refine x_i2l C (pc := 1) dX12_wind_1 ?_
  refine x_lconst C (pc := 2) dX12_wind_2 (v := lN 0) rfl ?_
  refine x_ldc2 C (pc := 3) dX12_wind_3 cl_X12_97 ?_
  refine x_callSi C (pc := 6) ms_X12_55 [.long (Int32.toInt64 a), .long (lN 0), .long (7 : Int64)] (fun _ hr => ct_X12_in _ _ _ _ _ hr) ⟨Nat.le_of_ble_eq_true rfl, Nat.le_of_ble_eq_true rfl⟩ rfl (Nat.le_of_ble_eq_true rfl) rfl dX12_wind_6 (fun r1 => ?_)
  refine x_if_eq C (pc := 9) (tgt := 34) dX12_wind_9 (by decide) (fun _ => ?_) (fun _ => ?_)
  · skip
    refine x_aload_n C (pc := 34) dX12_wind_34 rfl ?_
    refine x_callVim C (pc := 35) mv_X12_101 ht rfl [] (fun _ _ hr => ct_X12_bad _ ht _ _ _ hr) ⟨Nat.le_of_ble_eq_true rfl, Nat.le_of_ble_eq_true rfl⟩ rfl (Nat.le_of_ble_eq_true rfl) rfl dX12_wind_35 (fun r2 s3 => ?_)
    exact x_ret dX12_wind_38 (fun h => h)
  · skip
    refine x_iload_n C (pc := 12) dX12_wind_12 rfl ?_
    refine x_i2l C (pc := 13) dX12_wind_13 ?_
    refine x_lconst C (pc := 14) dX12_wind_14 (v := lN 0) rfl ?_
    refine x_ldc2 C (pc := 15) dX12_wind_15 cl_X12_99 ?_
    refine x_callSi C (pc := 18) ms_X12_55 [.long (Int32.toInt64 b), .long (lN 0), .long (20 : Int64)] (fun _ hr => ct_X12_in _ _ _ _ _ hr) ⟨Nat.le_of_ble_eq_true rfl, Nat.le_of_ble_eq_true rfl⟩ rfl (Nat.le_of_ble_eq_true rfl) rfl dX12_wind_18 (fun r4 => ?_)
    refine x_if_eq C (pc := 21) (tgt := 34) dX12_wind_21 (by decide) (fun _ => ?_) (fun _ => ?_)
    · skip
      refine x_aload_n C (pc := 34) dX12_wind_34 rfl ?_
      refine x_callVim C (pc := 35) mv_X12_101 ht rfl [] (fun _ _ hr => ct_X12_bad _ ht _ _ _ hr) ⟨Nat.le_of_ble_eq_true rfl, Nat.le_of_ble_eq_true rfl⟩ rfl (Nat.le_of_ble_eq_true rfl) rfl dX12_wind_35 (fun r5 s6 => ?_)
      exact x_ret dX12_wind_38 (fun h => h)
    · skip
      refine x_iload_n C (pc := 24) dX12_wind_24 rfl ?_
      refine x_i2l C (pc := 25) dX12_wind_25 ?_
      refine x_lconst C (pc := 26) dX12_wind_26 (v := lN 0) rfl ?_
      refine x_lconst C (pc := 27) dX12_wind_27 (v := lN 1) rfl ?_
      refine x_callSi C (pc := 28) ms_X12_55 [.long (Int32.toInt64 c), .long (lN 0), .long (lN 1)] (fun _ hr => ct_X12_in _ _ _ _ _ hr) ⟨Nat.le_of_ble_eq_true rfl, Nat.le_of_ble_eq_true rfl⟩ rfl (Nat.le_of_ble_eq_true rfl) rfl dX12_wind_28 (fun r7 => ?_)
      refine x_if_ne C (pc := 31) (tgt := 39) dX12_wind_31 (by decide) (fun _ => ?_) (fun _ => ?_)
      · skip
        refine x_aload_n C (pc := 34) dX12_wind_34 rfl ?_
        refine x_callVim C (pc := 35) mv_X12_101 ht rfl [] (fun _ _ hr => ct_X12_bad _ ht _ _ _ hr) ⟨Nat.le_of_ble_eq_true rfl, Nat.le_of_ble_eq_true rfl⟩ rfl (Nat.le_of_ble_eq_true rfl) rfl dX12_wind_35 (fun r8 s9 => ?_)
        exact x_ret dX12_wind_38 (fun h => h)
      · skip
        refine x_bipush C (pc := 39) dX12_wind_39 kc_b_10 ?_
        refine x_aload_n C (pc := 41) dX12_wind_41 rfl ?_
        refine x_getR C (pc := 42) fg_X12_7 dX12_wind_42 ht ?_
        refine x_iconst C (pc := 45) dX12_wind_45 kc_i_2 ?_
        refine x_iload_n C (pc := 46) dX12_wind_46 rfl ?_
        refine x_imul C (pc := 47) dX12_wind_47 ?_
        refine x_iald C (pc := 48) dX12_wind_48 (lkd_10_0 ht) (fun _ => ?_)
        refine x_imul C (pc := 49) dX12_wind_49 ?_
        refine x_aload_n C (pc := 50) dX12_wind_50 rfl ?_
        refine x_getR C (pc := 51) fg_X12_7 dX12_wind_51 ht ?_
        refine x_iconst C (pc := 54) dX12_wind_54 kc_i_2 ?_
        refine x_iload_n C (pc := 55) dX12_wind_55 rfl ?_
        refine x_imul C (pc := 56) dX12_wind_56 ?_
        refine x_iconst C (pc := 57) dX12_wind_57 kc_i_1 ?_
        refine x_iadd C (pc := 58) dX12_wind_58 ?_
        refine x_iald C (pc := 59) dX12_wind_59 (lkd_10_0 ht) (fun _ => ?_)
        refine x_iadd C (pc := 60) dX12_wind_60 ?_
        refine x_istore C (pc := 61) (L' := fun i10 => [some (.ref t), some (.int a), some (.int b), some (.int c), some (.int i10)]) dX12_wind_61 (by decide) (fun _ => rfl) (fun i10 => ?_)
        refine x_aload_n C (pc := 63) dX12_wind_63 rfl ?_
        refine x_getR C (pc := 64) fg_X12_7 dX12_wind_64 ht ?_
        refine x_iconst C (pc := 67) dX12_wind_67 kc_i_2 ?_
        refine x_iload_n C (pc := 68) dX12_wind_68 rfl ?_
        refine x_imul C (pc := 69) dX12_wind_69 ?_
        refine x_iload_n C (pc := 70) dX12_wind_70 rfl ?_
        refine x_iastn C (pc := 71) dX12_wind_71 (lkd_10_0 ht) (fun s11 => ?_)
        refine x_aload_n C (pc := 72) dX12_wind_72 rfl ?_
        refine x_getR C (pc := 73) fg_X12_7 dX12_wind_73 ht ?_
        refine x_iconst C (pc := 76) dX12_wind_76 kc_i_2 ?_
        refine x_iload_n C (pc := 77) dX12_wind_77 rfl ?_
        refine x_imul C (pc := 78) dX12_wind_78 ?_
        refine x_iconst C (pc := 79) dX12_wind_79 kc_i_1 ?_
        refine x_iadd C (pc := 80) dX12_wind_80 ?_
        refine x_iload_n C (pc := 81) dX12_wind_81 rfl ?_
        refine x_iastn C (pc := 82) dX12_wind_82 (lkd_10_0 ht) (fun s12 => ?_)
        refine x_aload_n C (pc := 83) dX12_wind_83 rfl ?_
        refine x_getR C (pc := 84) fg_X12_7 dX12_wind_84 ht ?_
        refine x_sipush C (pc := 87) dX12_wind_87 kc_s_137 ?_
        refine x_iconst C (pc := 90) dX12_wind_90 kc_i_0 ?_
        refine x_iastn C (pc := 91) dX12_wind_91 (lkd_10_0 ht) (fun s13 => ?_)
        refine x_iload C (pc := 92) dX12_wind_92 rfl ?_
        exact x_ret dX12_wind_94 (fun h => h)
theorem ct_X12_wind (t : Nat) (ht : kd t = 10) (a : Int32) (b : Int32) (c : Int32) (s0 : SS) (r : Int32) (s2 : SS) (h : FX12_wind t a b c s0 = some (r, s2)) : CT 1 yX12_wind cX12_wind 5 (some .int) 1 25 [.ref t, .int a, .int b, .int c] s0 (some (.int r)) s2 :=
  ct_of (by decide +kernel) (Or.inr (Or.inl ⟨_, rfl, _, rfl, rfl⟩)) (lx_args [.ref t, .int a, .int b, .int c]) (lx_entry [.ref t, .int a, .int b, .int c] (fun _ => Nat.le_of_ble_eq_true rfl)) (fun o C hR => Yx.weak (lw_s (lw_s (lw_s (lw_s (lw_z lw_0))))) (bd_X12_wind C t ht a b c s0 (r, s2) h hR))
def FX12_full (t : Nat) (s0 : SS) : Option (Int32 × SS) :=
  gd (inb (nI 2) (ln (lk t 6))) (gd (inb (nI 2) (ln (lk t 6))) (nm (pI s0 (lk t 6) (Int32.toNatClampNeg (nI 2)) ((gI s0 (lk t 6) (Int32.toNatClampNeg (nI 2))) + (nI 1))) (fun (s1 : SS) => some (((-4 : Int32), s1)))))
set_option maxRecDepth 100000 in
set_option maxHeartbeats 4000000 in
theorem bd_X12_full {o : Om} (C : Cx o RX12 cX12_full 1 (some .int) (rmx 0 0) 1) (t : Nat) (ht : kd t = 10) (s0 : SS) : Xo (FX12_full t s0) (fun r => RT o cX12_full (some (.int r.1)) r.2) (Yx o 0 [some (.ref t)] [] s0) := by
  unfold FX12_full
  refine x_aload_n C (pc := 0) dX12_full_0 rfl ?_
  refine x_getR C (pc := 1) fg_X12_27 dX12_full_1 ht ?_
  refine x_iconst C (pc := 4) dX12_full_4 kc_i_2 ?_
  refine x_dup2 C (pc := 5) dX12_full_5 rfl rfl ?_
  refine x_iald C (pc := 6) dX12_full_6 (lkd_10_6 ht) (fun _ => ?_)
  refine x_iconst C (pc := 7) dX12_full_7 kc_i_1 ?_
  refine x_iadd C (pc := 8) dX12_full_8 ?_
  refine x_iastn C (pc := 9) dX12_full_9 (lkd_10_6 ht) (fun s1 => ?_)
  refine x_bipush C (pc := 10) dX12_full_10 kc_b_m4 ?_
  exact x_ret dX12_full_12 (fun h => h)
theorem ct_X12_full (t : Nat) (ht : kd t = 10) (s0 : SS) (r : Int32) (s2 : SS) (h : FX12_full t s0 = some (r, s2)) : CT 1 yX12_full cX12_full 1 (some .int) 0 0 [.ref t] s0 (some (.int r)) s2 :=
  ct_of (by decide +kernel) (Or.inr (Or.inl ⟨_, rfl, _, rfl, rfl⟩)) (lx_args [.ref t]) (lx_entry [.ref t] (fun _ => Nat.le_of_ble_eq_true rfl)) (fun o C hR => Yx.weak (lw_s lw_0) (bd_X12_full C t ht s0 (r, s2) h hR))
def FX12_comes (a : Nat) (b : Int32) (c : Int32) (d : Int32) (s0 : SS) : Option (SS) :=
  gd (inb (nI 16) (ln a)) (nm ((nI 17) + ((nI 4) * (gI s0 a (Int32.toNatClampNeg (nI 16))))) (fun (i1 : Int32) => gd (inb i1 (ln a)) (nm (pI s0 a (Int32.toNatClampNeg i1) b) (fun (s2 : SS) => gd (inb (i1 + (nI 1)) (ln a)) (nm (pI s2 a (Int32.toNatClampNeg (i1 + (nI 1))) c) (fun (s3 : SS) => gd (inb (i1 + (nI 2)) (ln a)) (nm (pI s3 a (Int32.toNatClampNeg (i1 + (nI 2))) d) (fun (s4 : SS) => gd (inb (i1 + (nI 3)) (ln a)) (nm (pI s4 a (Int32.toNatClampNeg (i1 + (nI 3))) (nI 0)) (fun (s5 : SS) => gd (inb (nI 16) (ln a)) (gd (inb (nI 16) (ln a)) (nm (pI s5 a (Int32.toNatClampNeg (nI 16)) ((gI s5 a (Int32.toNatClampNeg (nI 16))) + (nI 1))) (fun (s6 : SS) => some (s6))))))))))))))
set_option maxRecDepth 100000 in
set_option maxHeartbeats 4000000 in
theorem bd_X12_comes {o : Om} (C : Cx o RX12 cX12_comes 5 none (rmx 0 0) 1) (a : Nat) (ha : kd a = 21) (b : Int32) (c : Int32) (d : Int32) (s0 : SS) : Xo (FX12_comes a b c d s0) (fun r => RT o cX12_comes none r) (Yx o 0 [some (.ref a), some (.int b), some (.int c), some (.int d), none] [] s0) := by
  unfold FX12_comes
  refine x_bipush C (pc := 0) dX12_comes_0 kc_b_17 ?_
  refine x_iconst C (pc := 2) dX12_comes_2 kc_i_4 ?_
  refine x_aload_n C (pc := 3) dX12_comes_3 rfl ?_
  refine x_bipush C (pc := 4) dX12_comes_4 kc_b_16 ?_
  refine x_iald C (pc := 6) dX12_comes_6 ha (fun _ => ?_)
  refine x_imul C (pc := 7) dX12_comes_7 ?_
  refine x_iadd C (pc := 8) dX12_comes_8 ?_
  refine x_istore C (pc := 9) (L' := fun i1 => [some (.ref a), some (.int b), some (.int c), some (.int d), some (.int i1)]) dX12_comes_9 (by decide) (fun _ => rfl) (fun i1 => ?_)
  refine x_aload_n C (pc := 11) dX12_comes_11 rfl ?_
  refine x_iload C (pc := 12) dX12_comes_12 rfl ?_
  refine x_iload_n C (pc := 14) dX12_comes_14 rfl ?_
  refine x_iastn C (pc := 15) dX12_comes_15 ha (fun s2 => ?_)
  refine x_aload_n C (pc := 16) dX12_comes_16 rfl ?_
  refine x_iload C (pc := 17) dX12_comes_17 rfl ?_
  refine x_iconst C (pc := 19) dX12_comes_19 kc_i_1 ?_
  refine x_iadd C (pc := 20) dX12_comes_20 ?_
  refine x_iload_n C (pc := 21) dX12_comes_21 rfl ?_
  refine x_iastn C (pc := 22) dX12_comes_22 ha (fun s3 => ?_)
  refine x_aload_n C (pc := 23) dX12_comes_23 rfl ?_
  refine x_iload C (pc := 24) dX12_comes_24 rfl ?_
  refine x_iconst C (pc := 26) dX12_comes_26 kc_i_2 ?_
  refine x_iadd C (pc := 27) dX12_comes_27 ?_
  refine x_iload_n C (pc := 28) dX12_comes_28 rfl ?_
  refine x_iastn C (pc := 29) dX12_comes_29 ha (fun s4 => ?_)
  refine x_aload_n C (pc := 30) dX12_comes_30 rfl ?_
  refine x_iload C (pc := 31) dX12_comes_31 rfl ?_
  refine x_iconst C (pc := 33) dX12_comes_33 kc_i_3 ?_
  refine x_iadd C (pc := 34) dX12_comes_34 ?_
  refine x_iconst C (pc := 35) dX12_comes_35 kc_i_0 ?_
  refine x_iastn C (pc := 36) dX12_comes_36 ha (fun s5 => ?_)
  refine x_aload_n C (pc := 37) dX12_comes_37 rfl ?_
  refine x_bipush C (pc := 38) dX12_comes_38 kc_b_16 ?_
  refine x_dup2 C (pc := 40) dX12_comes_40 rfl rfl ?_
  refine x_iald C (pc := 41) dX12_comes_41 ha (fun _ => ?_)
  refine x_iconst C (pc := 42) dX12_comes_42 kc_i_1 ?_
  refine x_iadd C (pc := 43) dX12_comes_43 ?_
  refine x_iastn C (pc := 44) dX12_comes_44 ha (fun s6 => ?_)
  exact x_vret dX12_comes_45 (fun h => h)
theorem ct_X12_comes (a : Nat) (ha : kd a = 21) (b : Int32) (c : Int32) (d : Int32) (s0 : SS) (r : SS) (h : FX12_comes a b c d s0 = some r) : CT 1 yX12_comes cX12_comes 5 none 0 0 [.ref a, .int b, .int c, .int d] s0 none r :=
  ct_of (by decide +kernel) (Or.inl ⟨rfl, rfl⟩) (lx_args [.ref a, .int b, .int c, .int d]) (lx_entry [.ref a, .int b, .int c, .int d] (fun _ => Nat.le_of_ble_eq_true rfl)) (fun o C hR => Yx.weak (lw_s (lw_s (lw_s (lw_s (lw_z lw_0))))) (bd_X12_comes C a ha b c d s0 r h hR))
def FX12_user (t : Nat) (a : Int32) (b : Int32) (c : Int32) (s0 : SS) : Option (Int32 × SS) :=
  bd (FX12_in (Int32.toInt64 a) (lN 0) (5 : Int64) s0) (fun (r1 : Int32) => if r1 = 0 then bd2 (FX12_bad t s0) (fun (r2 : Int32) (s3 : SS) => some ((r2, s3))) else (bd (FX12_in (Int32.toInt64 b) (lN 0) (11 : Int64) s0) (fun (r4 : Int32) => if r4 = 0 then bd2 (FX12_bad t s0) (fun (r5 : Int32) (s6 : SS) => some ((r5, s6))) else (bd (FX12_in (Int32.toInt64 c) (lN 1) (4 : Int64) s0) (fun (r7 : Int32) => if r7 = 0 then bd2 (FX12_bad t s0) (fun (r8 : Int32) (s9 : SS) => some ((r8, s9))) else (gd (inb (nI 16) (ln (lk t 0))) (if (gI s0 (lk t 0) (Int32.toNatClampNeg (nI 16))) = (nI 7) then bd2 (FX12_full t s0) (fun (r10 : Int32) (s11 : SS) => some ((r10, s11))) else (bd (FX12_comes (lk t 0) a b c s0) (fun (s12 : SS) => gd (inb (nI 137) (ln (lk t 0))) (nm (pI s12 (lk t 0) (Int32.toNatClampNeg (nI 137)) (nI 0)) (fun (s13 : SS) => gd (inb (nI 16) (ln (lk t 0))) (some ((((gI s13 (lk t 0) (Int32.toNatClampNeg (nI 16))) - (nI 1)), s13))))))))))))))
set_option maxRecDepth 100000 in
set_option maxHeartbeats 4000000 in
theorem bd_X12_user {o : Om} (C : Cx o RX12 cX12_user 4 (some .int) (rmx 1 25) 1) (t : Nat) (ht : kd t = 10) (a : Int32) (b : Int32) (c : Int32) (s0 : SS) : Xo (FX12_user t a b c s0) (fun r => RT o cX12_user (some (.int r.1)) r.2) (Yx o 0 [some (.ref t), some (.int a), some (.int b), some (.int c)] [] s0) := by
  unfold FX12_user
  refine x_iload_n C (pc := 0) dX12_user_0 rfl ?_
  refine x_i2l C (pc := 1) dX12_user_1 ?_
  refine x_lconst C (pc := 2) dX12_user_2 (v := lN 0) rfl ?_
  refine x_ldc2 C (pc := 3) dX12_user_3 cl_X12_105 ?_
  refine x_callSi C (pc := 6) ms_X12_55 [.long (Int32.toInt64 a), .long (lN 0), .long (5 : Int64)] (fun _ hr => ct_X12_in _ _ _ _ _ hr) ⟨Nat.le_of_ble_eq_true rfl, Nat.le_of_ble_eq_true rfl⟩ rfl (Nat.le_of_ble_eq_true rfl) rfl dX12_user_6 (fun r1 => ?_)
  refine x_if_eq C (pc := 9) (tgt := 36) dX12_user_9 (by decide) (fun _ => ?_) (fun _ => ?_)
  · skip
    refine x_aload_n C (pc := 36) dX12_user_36 rfl ?_
    refine x_callVim C (pc := 37) mv_X12_101 ht rfl [] (fun _ _ hr => ct_X12_bad _ ht _ _ _ hr) ⟨Nat.le_of_ble_eq_true rfl, Nat.le_of_ble_eq_true rfl⟩ rfl (Nat.le_of_ble_eq_true rfl) rfl dX12_user_37 (fun r2 s3 => ?_)
    exact x_ret dX12_user_40 (fun h => h)
  · skip
    refine x_iload_n C (pc := 12) dX12_user_12 rfl ?_
    refine x_i2l C (pc := 13) dX12_user_13 ?_
    refine x_lconst C (pc := 14) dX12_user_14 (v := lN 0) rfl ?_
    refine x_ldc2 C (pc := 15) dX12_user_15 cl_X12_107 ?_
    refine x_callSi C (pc := 18) ms_X12_55 [.long (Int32.toInt64 b), .long (lN 0), .long (11 : Int64)] (fun _ hr => ct_X12_in _ _ _ _ _ hr) ⟨Nat.le_of_ble_eq_true rfl, Nat.le_of_ble_eq_true rfl⟩ rfl (Nat.le_of_ble_eq_true rfl) rfl dX12_user_18 (fun r4 => ?_)
    refine x_if_eq C (pc := 21) (tgt := 36) dX12_user_21 (by decide) (fun _ => ?_) (fun _ => ?_)
    · skip
      refine x_aload_n C (pc := 36) dX12_user_36 rfl ?_
      refine x_callVim C (pc := 37) mv_X12_101 ht rfl [] (fun _ _ hr => ct_X12_bad _ ht _ _ _ hr) ⟨Nat.le_of_ble_eq_true rfl, Nat.le_of_ble_eq_true rfl⟩ rfl (Nat.le_of_ble_eq_true rfl) rfl dX12_user_37 (fun r5 s6 => ?_)
      exact x_ret dX12_user_40 (fun h => h)
    · skip
      refine x_iload_n C (pc := 24) dX12_user_24 rfl ?_
      refine x_i2l C (pc := 25) dX12_user_25 ?_
      refine x_lconst C (pc := 26) dX12_user_26 (v := lN 1) rfl ?_
      refine x_ldc2 C (pc := 27) dX12_user_27 cl_X12_109 ?_
      refine x_callSi C (pc := 30) ms_X12_55 [.long (Int32.toInt64 c), .long (lN 1), .long (4 : Int64)] (fun _ hr => ct_X12_in _ _ _ _ _ hr) ⟨Nat.le_of_ble_eq_true rfl, Nat.le_of_ble_eq_true rfl⟩ rfl (Nat.le_of_ble_eq_true rfl) rfl dX12_user_30 (fun r7 => ?_)
      refine x_if_ne C (pc := 33) (tgt := 41) dX12_user_33 (by decide) (fun _ => ?_) (fun _ => ?_)
      · skip
        refine x_aload_n C (pc := 36) dX12_user_36 rfl ?_
        refine x_callVim C (pc := 37) mv_X12_101 ht rfl [] (fun _ _ hr => ct_X12_bad _ ht _ _ _ hr) ⟨Nat.le_of_ble_eq_true rfl, Nat.le_of_ble_eq_true rfl⟩ rfl (Nat.le_of_ble_eq_true rfl) rfl dX12_user_37 (fun r8 s9 => ?_)
        exact x_ret dX12_user_40 (fun h => h)
      · skip
        refine x_aload_n C (pc := 41) dX12_user_41 rfl ?_
        refine x_getR C (pc := 42) fg_X12_7 dX12_user_42 ht ?_
        refine x_bipush C (pc := 45) dX12_user_45 kc_b_16 ?_
        refine x_iald C (pc := 47) dX12_user_47 (lkd_10_0 ht) (fun _ => ?_)
        refine x_bipush C (pc := 48) dX12_user_48 kc_b_7 ?_
        refine x_icmp_ne C (pc := 50) (tgt := 58) dX12_user_50 (by decide) (fun _ => ?_) (fun _ => ?_)
        · skip
          refine x_aload_n C (pc := 53) dX12_user_53 rfl ?_
          refine x_callVim C (pc := 54) mv_X12_111 ht rfl [] (fun _ _ hr => ct_X12_full _ ht _ _ _ hr) ⟨Nat.le_of_ble_eq_true rfl, Nat.le_of_ble_eq_true rfl⟩ rfl (Nat.le_of_ble_eq_true rfl) rfl dX12_user_54 (fun r10 s11 => ?_)
          exact x_ret dX12_user_57 (fun h => h)
        · skip
          refine x_aload_n C (pc := 58) dX12_user_58 rfl ?_
          refine x_getR C (pc := 59) fg_X12_7 dX12_user_59 ht ?_
          refine x_iload_n C (pc := 62) dX12_user_62 rfl ?_
          refine x_iload_n C (pc := 63) dX12_user_63 rfl ?_
          refine x_iload_n C (pc := 64) dX12_user_64 rfl ?_
          refine x_callSv C (pc := 65) ms_X12_114 [.ref (lk t 0), .int a, .int b, .int c] (fun _ hr => ct_X12_comes _ (lkd_10_0 ht) _ _ _ _ _ hr) ⟨Nat.le_of_ble_eq_true rfl, Nat.le_of_ble_eq_true rfl⟩ rfl (Nat.le_of_ble_eq_true rfl) rfl dX12_user_65 (fun s12 => ?_)
          refine x_aload_n C (pc := 68) dX12_user_68 rfl ?_
          refine x_getR C (pc := 69) fg_X12_7 dX12_user_69 ht ?_
          refine x_sipush C (pc := 72) dX12_user_72 kc_s_137 ?_
          refine x_iconst C (pc := 75) dX12_user_75 kc_i_0 ?_
          refine x_iastn C (pc := 76) dX12_user_76 (lkd_10_0 ht) (fun s13 => ?_)
          refine x_aload_n C (pc := 77) dX12_user_77 rfl ?_
          refine x_getR C (pc := 78) fg_X12_7 dX12_user_78 ht ?_
          refine x_bipush C (pc := 81) dX12_user_81 kc_b_16 ?_
          refine x_iald C (pc := 83) dX12_user_83 (lkd_10_0 ht) (fun _ => ?_)
          refine x_iconst C (pc := 84) dX12_user_84 kc_i_1 ?_
          refine x_isub C (pc := 85) dX12_user_85 ?_
          exact x_ret dX12_user_86 (fun h => h)
theorem ct_X12_user (t : Nat) (ht : kd t = 10) (a : Int32) (b : Int32) (c : Int32) (s0 : SS) (r : Int32) (s2 : SS) (h : FX12_user t a b c s0 = some (r, s2)) : CT 1 yX12_user cX12_user 4 (some .int) 1 25 [.ref t, .int a, .int b, .int c] s0 (some (.int r)) s2 :=
  ct_of (by decide +kernel) (Or.inr (Or.inl ⟨_, rfl, _, rfl, rfl⟩)) (lx_args [.ref t, .int a, .int b, .int c]) (lx_entry [.ref t, .int a, .int b, .int c] (fun _ => Nat.le_of_ble_eq_true rfl)) (fun o C hR => Yx.weak (lw_s (lw_s (lw_s (lw_s lw_0)))) (bd_X12_user C t ht a b c s0 (r, s2) h hR))
def FX12_type (t : Nat) (a : Int32) (s0 : SS) : Option (Int32 × SS) :=
  bd (FX12_in (Int32.toInt64 a) (lN 0) (127 : Int64) s0) (fun (r1 : Int32) => if r1 = 0 then bd2 (FX12_bad t s0) (fun (r2 : Int32) (s3 : SS) => some ((r2, s3))) else (if (gI s0 t 11) = (nI 150) then bd2 (FX12_full t s0) (fun (r4 : Int32) (s5 : SS) => some ((r4, s5))) else (gd (inb (gI s0 t 11) (ln (lk t 10))) (nm (pI s0 (lk t 10) (Int32.toNatClampNeg (gI s0 t 11)) a) (fun (s6 : SS) => nm (pI s6 t 11 ((gI s6 t 11) + (nI 1))) (fun (s7 : SS) => some (((gI s7 t 11), s7))))))))
set_option maxRecDepth 100000 in
set_option maxHeartbeats 4000000 in
theorem bd_X12_type {o : Om} (C : Cx o RX12 cX12_type 2 (some .int) (rmx 1 25) 1) (t : Nat) (ht : kd t = 10) (a : Int32) (s0 : SS) : Xo (FX12_type t a s0) (fun r => RT o cX12_type (some (.int r.1)) r.2) (Yx o 0 [some (.ref t), some (.int a)] [] s0) := by
  unfold FX12_type
  refine x_iload_n C (pc := 0) dX12_type_0 rfl ?_
  refine x_i2l C (pc := 1) dX12_type_1 ?_
  refine x_lconst C (pc := 2) dX12_type_2 (v := lN 0) rfl ?_
  refine x_ldc2 C (pc := 3) dX12_type_3 cl_X12_117 ?_
  refine x_callSi C (pc := 6) ms_X12_55 [.long (Int32.toInt64 a), .long (lN 0), .long (127 : Int64)] (fun _ hr => ct_X12_in _ _ _ _ _ hr) ⟨Nat.le_of_ble_eq_true rfl, Nat.le_of_ble_eq_true rfl⟩ rfl (Nat.le_of_ble_eq_true rfl) rfl dX12_type_6 (fun r1 => ?_)
  refine x_if_ne C (pc := 9) (tgt := 17) dX12_type_9 (by decide) (fun _ => ?_) (fun _ => ?_)
  · skip
    refine x_aload_n C (pc := 12) dX12_type_12 rfl ?_
    refine x_callVim C (pc := 13) mv_X12_101 ht rfl [] (fun _ _ hr => ct_X12_bad _ ht _ _ _ hr) ⟨Nat.le_of_ble_eq_true rfl, Nat.le_of_ble_eq_true rfl⟩ rfl (Nat.le_of_ble_eq_true rfl) rfl dX12_type_13 (fun r2 s3 => ?_)
    exact x_ret dX12_type_16 (fun h => h)
  · skip
    refine x_aload_n C (pc := 17) dX12_type_17 rfl ?_
    refine x_getI C (pc := 18) fg_X12_119 dX12_type_18 ht ?_
    refine x_sipush C (pc := 21) dX12_type_21 kc_s_150 ?_
    refine x_icmp_ne C (pc := 24) (tgt := 32) dX12_type_24 (by decide) (fun _ => ?_) (fun _ => ?_)
    · skip
      refine x_aload_n C (pc := 27) dX12_type_27 rfl ?_
      refine x_callVim C (pc := 28) mv_X12_111 ht rfl [] (fun _ _ hr => ct_X12_full _ ht _ _ _ hr) ⟨Nat.le_of_ble_eq_true rfl, Nat.le_of_ble_eq_true rfl⟩ rfl (Nat.le_of_ble_eq_true rfl) rfl dX12_type_28 (fun r4 s5 => ?_)
      exact x_ret dX12_type_31 (fun h => h)
    · skip
      refine x_aload_n C (pc := 32) dX12_type_32 rfl ?_
      refine x_getR C (pc := 33) fg_X12_39 dX12_type_33 ht ?_
      refine x_aload_n C (pc := 36) dX12_type_36 rfl ?_
      refine x_getI C (pc := 37) fg_X12_119 dX12_type_37 ht ?_
      refine x_iload_n C (pc := 40) dX12_type_40 rfl ?_
      refine x_iastn C (pc := 41) dX12_type_41 (lkd_10_10 ht) (fun s6 => ?_)
      refine x_aload_n C (pc := 42) dX12_type_42 rfl ?_
      refine x_dup C (pc := 43) dX12_type_43 rfl ?_
      refine x_getI C (pc := 44) fg_X12_119 dX12_type_44 ht ?_
      refine x_iconst C (pc := 47) dX12_type_47 kc_i_1 ?_
      refine x_iadd C (pc := 48) dX12_type_48 ?_
      refine x_putIn C (pc := 49) fp_X12_119 dX12_type_49 ht (fun s7 => ?_)
      refine x_aload_n C (pc := 52) dX12_type_52 rfl ?_
      refine x_getI C (pc := 53) fg_X12_119 dX12_type_53 ht ?_
      exact x_ret dX12_type_56 (fun h => h)
theorem ct_X12_type (t : Nat) (ht : kd t = 10) (a : Int32) (s0 : SS) (r : Int32) (s2 : SS) (h : FX12_type t a s0 = some (r, s2)) : CT 1 yX12_type cX12_type 2 (some .int) 1 25 [.ref t, .int a] s0 (some (.int r)) s2 :=
  ct_of (by decide +kernel) (Or.inr (Or.inl ⟨_, rfl, _, rfl, rfl⟩)) (lx_args [.ref t, .int a]) (lx_entry [.ref t, .int a] (fun _ => Nat.le_of_ble_eq_true rfl)) (fun o C hR => Yx.weak (lw_s (lw_s lw_0)) (bd_X12_type C t ht a s0 (r, s2) h hR))
def FX12_clear (t : Nat) (s0 : SS) : Option (Int32 × SS) :=
  nm (gI s0 t 11) (fun (i1 : Int32) => nm (pI s0 t 11 (nI 0)) (fun (s2 : SS) => some ((i1, s2))))
set_option maxRecDepth 100000 in
set_option maxHeartbeats 4000000 in
theorem bd_X12_clear {o : Om} (C : Cx o RX12 cX12_clear 2 (some .int) (rmx 0 0) 1) (t : Nat) (ht : kd t = 10) (s0 : SS) : Xo (FX12_clear t s0) (fun r => RT o cX12_clear (some (.int r.1)) r.2) (Yx o 0 [some (.ref t), none] [] s0) := by
  unfold FX12_clear
  refine x_aload_n C (pc := 0) dX12_clear_0 rfl ?_
  refine x_getI C (pc := 1) fg_X12_119 dX12_clear_1 ht ?_
  refine x_istore_n C (pc := 4) (L' := fun i1 => [some (.ref t), some (.int i1)]) dX12_clear_4 (by decide) (fun _ => rfl) (fun i1 => ?_)
  refine x_aload_n C (pc := 5) dX12_clear_5 rfl ?_
  refine x_iconst C (pc := 6) dX12_clear_6 kc_i_0 ?_
  refine x_putIn C (pc := 7) fp_X12_119 dX12_clear_7 ht (fun s2 => ?_)
  refine x_iload_n C (pc := 10) dX12_clear_10 rfl ?_
  exact x_ret dX12_clear_11 (fun h => h)
theorem ct_X12_clear (t : Nat) (ht : kd t = 10) (s0 : SS) (r : Int32) (s2 : SS) (h : FX12_clear t s0 = some (r, s2)) : CT 1 yX12_clear cX12_clear 2 (some .int) 0 0 [.ref t] s0 (some (.int r)) s2 :=
  ct_of (by decide +kernel) (Or.inr (Or.inl ⟨_, rfl, _, rfl, rfl⟩)) (lx_args [.ref t]) (lx_entry [.ref t] (fun _ => Nat.le_of_ble_eq_true rfl)) (fun o C hR => Yx.weak (lw_s (lw_z lw_0)) (bd_X12_clear C t ht s0 (r, s2) h hR))
def FX12_isFigure (a : Int32) (s0 : SS) : Option (Int32) :=
  if a < (nI 48) then some ((nI 0)) else (if (nI 57) < a then some ((nI 0)) else (some ((nI 1))))
set_option maxRecDepth 100000 in
set_option maxHeartbeats 4000000 in
theorem bd_X12_isFigure {o : Om} (C : Cx o RX12 cX12_isFigure 1 (some .boolean) (rmx 0 0) 1) (a : Int32) (s0 : SS) : Xo (FX12_isFigure a s0) (fun r => zb r = true → RT o cX12_isFigure (some (.int r)) s0) (Yx o 0 [some (.int a)] [] s0) := by
  unfold FX12_isFigure
  refine x_iload_n C (pc := 0) dX12_isFigure_0 rfl ?_
  refine x_bipush C (pc := 1) dX12_isFigure_1 kc_b_48 ?_
  refine x_icmp_lt C (pc := 3) (tgt := 16) dX12_isFigure_3 (by decide) (fun _ => ?_) (fun _ => ?_)
  · skip
    refine x_iconst C (pc := 16) dX12_isFigure_16 kc_i_0 ?_
    exact x_ret dX12_isFigure_17 (fun h => h zb_0)
  · skip
    refine x_iload_n C (pc := 6) dX12_isFigure_6 rfl ?_
    refine x_bipush C (pc := 7) dX12_isFigure_7 kc_b_57 ?_
    refine x_icmp_gt C (pc := 9) (tgt := 16) dX12_isFigure_9 (by decide) (fun _ => ?_) (fun _ => ?_)
    · skip
      refine x_iconst C (pc := 16) dX12_isFigure_16 kc_i_0 ?_
      exact x_ret dX12_isFigure_17 (fun h => h zb_0)
    · skip
      refine x_iconst C (pc := 12) dX12_isFigure_12 kc_i_1 ?_
      refine x_goto C (pc := 13) (tgt := 17) dX12_isFigure_13 (by decide) ?_
      exact x_ret dX12_isFigure_17 (fun h => h zb_1)
theorem ct_X12_isFigure (a : Int32) (s0 : SS) (r : Int32) (h : FX12_isFigure a s0 = some r) : CT 1 yX12_isFigure cX12_isFigure 1 (some .boolean) 0 0 [.int a] s0 (some (.int r)) s0 :=
  ct_ofz (by decide +kernel) rfl (lx_args [.int a]) (lx_entry [.int a] (fun _ => Nat.le_of_ble_eq_true rfl)) (fun o C hR => Yx.weak (lw_s lw_0) (bd_X12_isFigure C a s0 r h hR))
def FX12_isLetter (a : Int32) (s0 : SS) : Option (Int32) :=
  if a < (nI 97) then some ((nI 0)) else (if (nI 122) < a then some ((nI 0)) else (some ((nI 1))))
set_option maxRecDepth 100000 in
set_option maxHeartbeats 4000000 in
theorem bd_X12_isLetter {o : Om} (C : Cx o RX12 cX12_isLetter 1 (some .boolean) (rmx 0 0) 1) (a : Int32) (s0 : SS) : Xo (FX12_isLetter a s0) (fun r => zb r = true → RT o cX12_isLetter (some (.int r)) s0) (Yx o 0 [some (.int a)] [] s0) := by
  unfold FX12_isLetter
  refine x_iload_n C (pc := 0) dX12_isLetter_0 rfl ?_
  refine x_bipush C (pc := 1) dX12_isLetter_1 kc_b_97 ?_
  refine x_icmp_lt C (pc := 3) (tgt := 16) dX12_isLetter_3 (by decide) (fun _ => ?_) (fun _ => ?_)
  · skip
    refine x_iconst C (pc := 16) dX12_isLetter_16 kc_i_0 ?_
    exact x_ret dX12_isLetter_17 (fun h => h zb_0)
  · skip
    refine x_iload_n C (pc := 6) dX12_isLetter_6 rfl ?_
    refine x_bipush C (pc := 7) dX12_isLetter_7 kc_b_122 ?_
    refine x_icmp_gt C (pc := 9) (tgt := 16) dX12_isLetter_9 (by decide) (fun _ => ?_) (fun _ => ?_)
    · skip
      refine x_iconst C (pc := 16) dX12_isLetter_16 kc_i_0 ?_
      exact x_ret dX12_isLetter_17 (fun h => h zb_0)
    · skip
      refine x_iconst C (pc := 12) dX12_isLetter_12 kc_i_1 ?_
      refine x_goto C (pc := 13) (tgt := 17) dX12_isLetter_13 (by decide) ?_
      exact x_ret dX12_isLetter_17 (fun h => h zb_1)
theorem ct_X12_isLetter (a : Int32) (s0 : SS) (r : Int32) (h : FX12_isLetter a s0 = some r) : CT 1 yX12_isLetter cX12_isLetter 1 (some .boolean) 0 0 [.int a] s0 (some (.int r)) s0 :=
  ct_ofz (by decide +kernel) rfl (lx_args [.int a]) (lx_entry [.int a] (fun _ => Nat.le_of_ble_eq_true rfl)) (fun o C hR => Yx.weak (lw_s lw_0) (bd_X12_isLetter C a s0 r h hR))
def FX12_wordBy (t : Nat) (a : Int32) (s0 : SS) : Option (Int32) :=
  nm (nI 0) (fun (i1 : Int32) => nm (gI s0 t 15) (fun (i2 : Int32) => bd (lp FUEL (u2 (fun (n3 : Int32) (n4 : Int32) => if a ≤ n4 then some (Sum.inr n3) else (if ((gI s0 t 15) + (nI 6)) ≤ n4 then some (Sum.inr n3) else (gd (inb n4 (ln (lk t 10))) (nm ((((nI 32) * n3) + (gI s0 (lk t 10) (Int32.toNatClampNeg n4))) - (nI 96)) (fun (i5 : Int32) => nm (n4 + (nI 1)) (fun (i6 : Int32) => some (Sum.inl (i5, i6))))))))) (i1, i2)) (fun (e7 : Int32) => if (a - (gI s0 t 15)) ≤ (nI 6) then if e7 = (nI 644404) then some ((nI 103)) else (if e7 = (nI 707762) then some ((nI 102)) else (if e7 = (nI 8902227) then some ((nI 104)) else (if e7 = (nI 24426643) then some ((nI 101)) else (if e7 = (nI 322307524) then some ((nI 100)) else (some ((nI 300))))))) else (some ((nI 300))))))
set_option maxRecDepth 100000 in
set_option maxHeartbeats 4000000 in
theorem bd_X12_wordBy {o : Om} (C : Cx o RX12 cX12_wordBy 4 (some .int) (rmx 0 0) 1) (t : Nat) (ht : kd t = 10) (a : Int32) (s0 : SS) : Xo (FX12_wordBy t a s0) (fun r => RT o cX12_wordBy (some (.int r)) s0) (Yx o 0 [some (.ref t), some (.int a), none, none] [] s0) := by
  unfold FX12_wordBy
  refine x_iconst C (pc := 0) dX12_wordBy_0 kc_i_0 ?_
  refine x_istore_n C (pc := 1) (L' := fun i1 => [some (.ref t), some (.int a), some (.int i1), none]) dX12_wordBy_1 (by decide) (fun _ => rfl) (fun i1 => ?_)
  refine x_aload_n C (pc := 2) dX12_wordBy_2 rfl ?_
  refine x_getI C (pc := 3) fg_X12_122 dX12_wordBy_3 ht ?_
  refine x_istore_n C (pc := 6) (L' := fun i2 => [some (.ref t), some (.int a), some (.int i1), some (.int i2)]) dX12_wordBy_6 (by decide) (fun _ => rfl) (fun i2 => ?_)
  refine xb_1 (Z1 := (fun e7 => Yx o 44 [some (.ref t), some (.int a), some (.int e7), none] [] s0)) ?_ (fun e7 => ?_)
  · refine Xo.mono (Yx.weak (lw_s (lw_s (lw_s (lw_s lw_0))))) (x_lp2 (fr := fun n3 n4 => Yx o 7 [some (.ref t), some (.int a), some (.int n3), some (.int n4)] [] s0) _ _ (fun n3 n4 => ?_))
    refine x_iload_n C (pc := 7) dX12_wordBy_7 rfl ?_
    refine x_iload_n C (pc := 8) dX12_wordBy_8 rfl ?_
    refine x_icmp_ge C (pc := 9) (tgt := 44) dX12_wordBy_9 (by decide) (fun _ => ?_) (fun _ => ?_)
    · skip
      exact Xo.done (fun h => Yx.weak (lw_s (lw_s (lw_s (lw_n lw_0)))) h)
    · skip
      refine x_iload_n C (pc := 12) dX12_wordBy_12 rfl ?_
      refine x_aload_n C (pc := 13) dX12_wordBy_13 rfl ?_
      refine x_getI C (pc := 14) fg_X12_122 dX12_wordBy_14 ht ?_
      refine x_bipush C (pc := 17) dX12_wordBy_17 kc_b_6 ?_
      refine x_iadd C (pc := 19) dX12_wordBy_19 ?_
      refine x_icmp_ge C (pc := 20) (tgt := 44) dX12_wordBy_20 (by decide) (fun _ => ?_) (fun _ => ?_)
      · skip
        exact Xo.done (fun h => Yx.weak (lw_s (lw_s (lw_s (lw_n lw_0)))) h)
      · skip
        refine x_bipush C (pc := 23) dX12_wordBy_23 kc_b_32 ?_
        refine x_iload_n C (pc := 25) dX12_wordBy_25 rfl ?_
        refine x_imul C (pc := 26) dX12_wordBy_26 ?_
        refine x_aload_n C (pc := 27) dX12_wordBy_27 rfl ?_
        refine x_getR C (pc := 28) fg_X12_39 dX12_wordBy_28 ht ?_
        refine x_iload_n C (pc := 31) dX12_wordBy_31 rfl ?_
        refine x_iald C (pc := 32) dX12_wordBy_32 (lkd_10_10 ht) (fun _ => ?_)
        refine x_iadd C (pc := 33) dX12_wordBy_33 ?_
        refine x_bipush C (pc := 34) dX12_wordBy_34 kc_b_96 ?_
        refine x_isub C (pc := 36) dX12_wordBy_36 ?_
        refine x_istore_n C (pc := 37) (L' := fun i5 => [some (.ref t), some (.int a), some (.int i5), some (.int n4)]) dX12_wordBy_37 (by decide) (fun _ => rfl) (fun i5 => ?_)
        refine x_iinc C (pc := 38) (L' := fun i6 => [some (.ref t), some (.int a), some (.int i5), some (.int i6)]) dX12_wordBy_38 rfl kc_i_1 (by decide) (fun _ => rfl) (fun i6 => ?_)
        refine x_goto C (pc := 41) (tgt := 7) dX12_wordBy_41 (by decide) ?_
        exact Xo.done (fun h => Yx.weak (lw_s (lw_s (lw_s (lw_s lw_0)))) h)
  refine x_iload_n C (pc := 44) dX12_wordBy_44 rfl ?_
  refine x_aload_n C (pc := 45) dX12_wordBy_45 rfl ?_
  refine x_getI C (pc := 46) fg_X12_122 dX12_wordBy_46 ht ?_
  refine x_isub C (pc := 49) dX12_wordBy_49 ?_
  refine x_bipush C (pc := 50) dX12_wordBy_50 kc_b_6 ?_
  refine x_icmp_le C (pc := 52) (tgt := 59) dX12_wordBy_52 (by decide) (fun _ => ?_) (fun _ => ?_)
  · skip
    refine x_iload_n C (pc := 59) dX12_wordBy_59 rfl ?_
    refine Xo.ite (fun hq8 => ?_) (fun hq8 => ?_)
    · refine x_look C (pc := 60) (tgt := 121) dX12_wordBy_60 (by decide +kernel) (by rw [hq8]; decide +kernel) (off := 61) (by decide) ?_
      refine x_bipush C (pc := 121) dX12_wordBy_121 kc_b_103 ?_
      exact x_ret dX12_wordBy_123 (fun h => h)
    refine Xo.ite (fun hq9 => ?_) (fun hq9 => ?_)
    · refine x_look C (pc := 60) (tgt := 118) dX12_wordBy_60 (by decide +kernel) (by rw [hq9]; decide +kernel) (off := 58) (by decide) ?_
      refine x_bipush C (pc := 118) dX12_wordBy_118 kc_b_102 ?_
      exact x_ret dX12_wordBy_120 (fun h => h)
    refine Xo.ite (fun hq10 => ?_) (fun hq10 => ?_)
    · refine x_look C (pc := 60) (tgt := 124) dX12_wordBy_60 (by decide +kernel) (by rw [hq10]; decide +kernel) (off := 64) (by decide) ?_
      refine x_bipush C (pc := 124) dX12_wordBy_124 kc_b_104 ?_
      exact x_ret dX12_wordBy_126 (fun h => h)
    refine Xo.ite (fun hq11 => ?_) (fun hq11 => ?_)
    · refine x_look C (pc := 60) (tgt := 115) dX12_wordBy_60 (by decide +kernel) (by rw [hq11]; decide +kernel) (off := 55) (by decide) ?_
      refine x_bipush C (pc := 115) dX12_wordBy_115 kc_b_101 ?_
      exact x_ret dX12_wordBy_117 (fun h => h)
    refine Xo.ite (fun hq12 => ?_) (fun hq12 => ?_)
    · refine x_look C (pc := 60) (tgt := 112) dX12_wordBy_60 (by decide +kernel) (by rw [hq12]; decide +kernel) (off := 52) (by decide) ?_
      refine x_bipush C (pc := 112) dX12_wordBy_112 kc_b_100 ?_
      exact x_ret dX12_wordBy_114 (fun h => h)
    refine x_look C (pc := 60) (tgt := 127) dX12_wordBy_60 (by decide +kernel) (off := 67) ((lv_osw hq8 (by decide +kernel)).trans ((lv_osw hq9 (by decide +kernel)).trans ((lv_osw hq10 (by decide +kernel)).trans ((lv_osw hq11 (by decide +kernel)).trans ((lv_osw hq12 (by decide +kernel)).trans rfl))))) (by decide) ?_
    refine x_sipush C (pc := 127) dX12_wordBy_127 kc_s_300 ?_
    exact x_ret dX12_wordBy_130 (fun h => h)
  · skip
    refine x_sipush C (pc := 55) dX12_wordBy_55 kc_s_300 ?_
    exact x_ret dX12_wordBy_58 (fun h => h)
theorem ct_X12_wordBy (t : Nat) (ht : kd t = 10) (a : Int32) (s0 : SS) (r : Int32) (h : FX12_wordBy t a s0 = some r) : CT 1 yX12_wordBy cX12_wordBy 4 (some .int) 0 0 [.ref t, .int a] s0 (some (.int r)) s0 :=
  ct_of (by decide +kernel) (Or.inr (Or.inl ⟨_, rfl, _, rfl, rfl⟩)) (lx_args [.ref t, .int a]) (lx_entry [.ref t, .int a] (fun _ => Nat.le_of_ble_eq_true rfl)) (fun o C hR => Yx.weak (lw_s (lw_s (lw_z (lw_z lw_0)))) (bd_X12_wordBy C t ht a s0 r h hR))
def FX12_next (t : Nat) (s0 : SS) : Option (SS) :=
  bd (lp FUEL (fun (s1 : SS) => if (gI s1 t 11) ≤ (gI s1 t 12) then some (Sum.inr s1) else (gd (inb (gI s1 t 12) (ln (lk t 10))) (if (gI s1 (lk t 10) (Int32.toNatClampNeg (gI s1 t 12))) = (nI 32) then nm (pI s1 t 12 ((gI s1 t 12) + (nI 1))) (fun (s2 : SS) => some (Sum.inl s2)) else (some (Sum.inr s1))))) s0) (fun (s3 : SS) => nm (pI s3 t 15 (gI s3 t 12)) (fun (s4 : SS) => if (gI s4 t 12) = (gI s4 t 11) then nm (pI s4 t 14 (-1 : Int32)) (fun (s5 : SS) => some (s5)) else (gd (inb (gI s4 t 12) (ln (lk t 10))) (nm (gI s4 (lk t 10) (Int32.toNatClampNeg (gI s4 t 12))) (fun (i6 : Int32) => nm (pI s4 t 12 ((gI s4 t 12) + (nI 1))) (fun (s7 : SS) => bd (FX12_isFigure i6 s7) (fun (r8 : Int32) => if r8 = 0 then bd (FX12_isLetter i6 s7) (fun (r9 : Int32) => if r9 = 0 then bd (if i6 = (nI 59) then some ((nI 200)) else (some ((nI 300)))) (fun (j10 : Int32) => nm (pI s7 t 14 j10) (fun (s11 : SS) => some (s11))) else (bd (lp FUEL (fun (s12 : SS) => if (gI s12 t 11) ≤ (gI s12 t 12) then some (Sum.inr s12) else (gd (inb (gI s12 t 12) (ln (lk t 10))) (bd (FX12_isLetter (gI s12 (lk t 10) (Int32.toNatClampNeg (gI s12 t 12))) s12) (fun (r13 : Int32) => if r13 = 0 then some (Sum.inr s12) else (nm (pI s12 t 12 ((gI s12 t 12) + (nI 1))) (fun (s14 : SS) => some (Sum.inl s14))))))) s7) (fun (s15 : SS) => bd (FX12_wordBy t (gI s15 t 12) s15) (fun (r16 : Int32) => nm (pI s15 t 14 r16) (fun (s17 : SS) => some (s17)))))) else (nm (pI s7 t 14 (i6 - (nI 48))) (fun (s18 : SS) => bd (lp FUEL (fun (s19 : SS) => if (gI s19 t 11) ≤ (gI s19 t 12) then some (Sum.inr s19) else (gd (inb (gI s19 t 12) (ln (lk t 10))) (bd (FX12_isFigure (gI s19 (lk t 10) (Int32.toNatClampNeg (gI s19 t 12))) s19) (fun (r20 : Int32) => if r20 = 0 then some (Sum.inr s19) else (bd (if (gI s19 t 12) = ((gI s19 t 15) + (nI 1)) then gd (inb (gI s19 t 12) (ln (lk t 10))) (some (((((nI 10) * (gI s19 t 14)) + (gI s19 (lk t 10) (Int32.toNatClampNeg (gI s19 t 12)))) - (nI 48)))) else (some ((nI 300)))) (fun (j21 : Int32) => nm (pI s19 t 14 j21) (fun (s22 : SS) => nm (pI s22 t 12 ((gI s22 t 12) + (nI 1))) (fun (s23 : SS) => some (Sum.inl s23))))))))) s18) (fun (s24 : SS) => some (s24)))))))))))
set_option maxRecDepth 100000 in
set_option maxHeartbeats 4000000 in
theorem bd_X12_next {o : Om} (C : Cx o RX12 cX12_next 2 none (rmx 1 23) 1) (t : Nat) (ht : kd t = 10) (s0 : SS) : Xo (FX12_next t s0) (fun r => RT o cX12_next none r) (Yx o 0 [some (.ref t), none] [] s0) := by
  unfold FX12_next
  refine xb_1 (Z1 := (fun s3 => Yx o 38 [some (.ref t), none] [] s3)) ?_ (fun s3 => ?_)
  · refine Xo.mono (Yx.weak (lw_s (lw_n lw_0))) (x_lp1 (fr := fun s1 => Yx o 0 [some (.ref t), none] [] s1) _ (fun s1 => ?_))
    refine x_aload_n C (pc := 0) dX12_next_0 rfl ?_
    refine x_getI C (pc := 1) fg_X12_125 dX12_next_1 ht ?_
    refine x_aload_n C (pc := 4) dX12_next_4 rfl ?_
    refine x_getI C (pc := 5) fg_X12_119 dX12_next_5 ht ?_
    refine x_icmp_ge C (pc := 8) (tgt := 38) dX12_next_8 (by decide) (fun _ => ?_) (fun _ => ?_)
    · skip
      exact Xo.done (fun h => Yx.weak (lw_s (lw_n lw_0)) h)
    · skip
      refine x_aload_n C (pc := 11) dX12_next_11 rfl ?_
      refine x_getR C (pc := 12) fg_X12_39 dX12_next_12 ht ?_
      refine x_aload_n C (pc := 15) dX12_next_15 rfl ?_
      refine x_getI C (pc := 16) fg_X12_125 dX12_next_16 ht ?_
      refine x_iald C (pc := 19) dX12_next_19 (lkd_10_10 ht) (fun _ => ?_)
      refine x_bipush C (pc := 20) dX12_next_20 kc_b_32 ?_
      refine x_icmp_ne C (pc := 22) (tgt := 38) dX12_next_22 (by decide) (fun _ => ?_) (fun _ => ?_)
      · skip
        refine x_aload_n C (pc := 25) dX12_next_25 rfl ?_
        refine x_dup C (pc := 26) dX12_next_26 rfl ?_
        refine x_getI C (pc := 27) fg_X12_125 dX12_next_27 ht ?_
        refine x_iconst C (pc := 30) dX12_next_30 kc_i_1 ?_
        refine x_iadd C (pc := 31) dX12_next_31 ?_
        refine x_putIn C (pc := 32) fp_X12_125 dX12_next_32 ht (fun s2 => ?_)
        refine x_goto C (pc := 35) (tgt := 0) dX12_next_35 (by decide) ?_
        exact Xo.done (fun h => Yx.weak (lw_s (lw_n lw_0)) h)
      · skip
        exact Xo.done (fun h => Yx.weak (lw_s (lw_n lw_0)) h)
  refine x_aload_n C (pc := 38) dX12_next_38 rfl ?_
  refine x_aload_n C (pc := 39) dX12_next_39 rfl ?_
  refine x_getI C (pc := 40) fg_X12_125 dX12_next_40 ht ?_
  refine x_putIn C (pc := 43) fp_X12_122 dX12_next_43 ht (fun s4 => ?_)
  refine x_aload_n C (pc := 46) dX12_next_46 rfl ?_
  refine x_getI C (pc := 47) fg_X12_125 dX12_next_47 ht ?_
  refine x_aload_n C (pc := 50) dX12_next_50 rfl ?_
  refine x_getI C (pc := 51) fg_X12_119 dX12_next_51 ht ?_
  refine x_icmp_ne C (pc := 54) (tgt := 63) dX12_next_54 (by decide) (fun _ => ?_) (fun _ => ?_)
  · skip
    refine x_aload_n C (pc := 57) dX12_next_57 rfl ?_
    refine x_iconst C (pc := 58) dX12_next_58 kc_i_m1 ?_
    refine x_putIn C (pc := 59) fp_X12_128 dX12_next_59 ht (fun s5 => ?_)
    exact x_vret dX12_next_62 (fun h => h)
  · skip
    refine x_aload_n C (pc := 63) dX12_next_63 rfl ?_
    refine x_getR C (pc := 64) fg_X12_39 dX12_next_64 ht ?_
    refine x_aload_n C (pc := 67) dX12_next_67 rfl ?_
    refine x_getI C (pc := 68) fg_X12_125 dX12_next_68 ht ?_
    refine x_iald C (pc := 71) dX12_next_71 (lkd_10_10 ht) (fun _ => ?_)
    refine x_istore_n C (pc := 72) (L' := fun i6 => [some (.ref t), some (.int i6)]) dX12_next_72 (by decide) (fun _ => rfl) (fun i6 => ?_)
    refine x_aload_n C (pc := 73) dX12_next_73 rfl ?_
    refine x_dup C (pc := 74) dX12_next_74 rfl ?_
    refine x_getI C (pc := 75) fg_X12_125 dX12_next_75 ht ?_
    refine x_iconst C (pc := 78) dX12_next_78 kc_i_1 ?_
    refine x_iadd C (pc := 79) dX12_next_79 ?_
    refine x_putIn C (pc := 80) fp_X12_125 dX12_next_80 ht (fun s7 => ?_)
    refine x_iload_n C (pc := 83) dX12_next_83 rfl ?_
    refine x_callSi C (pc := 84) ms_X12_131 [.int i6] (fun _ hr => ct_X12_isFigure _ _ _ hr) ⟨Nat.le_of_ble_eq_true rfl, Nat.le_of_ble_eq_true rfl⟩ rfl (Nat.le_of_ble_eq_true rfl) rfl dX12_next_84 (fun r8 => ?_)
    refine x_if_eq C (pc := 87) (tgt := 180) dX12_next_87 (by decide) (fun _ => ?_) (fun _ => ?_)
    · skip
      refine x_iload_n C (pc := 180) dX12_next_180 rfl ?_
      refine x_callSi C (pc := 181) ms_X12_135 [.int i6] (fun _ hr => ct_X12_isLetter _ _ _ hr) ⟨Nat.le_of_ble_eq_true rfl, Nat.le_of_ble_eq_true rfl⟩ rfl (Nat.le_of_ble_eq_true rfl) rfl dX12_next_181 (fun r9 => ?_)
      refine x_if_eq C (pc := 184) (tgt := 241) dX12_next_184 (by decide) (fun _ => ?_) (fun _ => ?_)
      · skip
        refine x_aload_n C (pc := 241) dX12_next_241 rfl ?_
        refine x_iload_n C (pc := 242) dX12_next_242 rfl ?_
        refine x_bipush C (pc := 243) dX12_next_243 kc_b_59 ?_
        refine xb_1 (Z1 := fun j10 => Yx o 257 [none, none] [.int j10, .ref t] s7) ?_ (fun j10 => ?_)
        · skip
          refine x_icmp_ne C (pc := 245) (tgt := 254) dX12_next_245 (by decide) (fun _ => ?_) (fun _ => ?_)
          · skip
            refine x_sipush C (pc := 248) dX12_next_248 kc_s_200 ?_
            refine x_goto C (pc := 251) (tgt := 257) dX12_next_251 (by decide) ?_
            exact Xo.done (fun h => Yx.weak (lw_n (lw_n lw_0)) h)
          · skip
            refine x_sipush C (pc := 254) dX12_next_254 kc_s_300 ?_
            exact Xo.done (fun h => Yx.weak (lw_n (lw_n lw_0)) h)
        refine x_putIn C (pc := 257) fp_X12_128 dX12_next_257 ht (fun s11 => ?_)
        exact x_vret dX12_next_260 (fun h => h)
      · skip
        refine xb_1 (Z1 := (fun s15 => Yx o 226 [some (.ref t), none] [] s15)) ?_ (fun s15 => ?_)
        · refine Xo.mono (Yx.weak (lw_s (lw_n lw_0))) (x_lp1 (fr := fun s12 => Yx o 187 [some (.ref t), none] [] s12) _ (fun s12 => ?_))
          refine x_aload_n C (pc := 187) dX12_next_187 rfl ?_
          refine x_getI C (pc := 188) fg_X12_125 dX12_next_188 ht ?_
          refine x_aload_n C (pc := 191) dX12_next_191 rfl ?_
          refine x_getI C (pc := 192) fg_X12_119 dX12_next_192 ht ?_
          refine x_icmp_ge C (pc := 195) (tgt := 226) dX12_next_195 (by decide) (fun _ => ?_) (fun _ => ?_)
          · skip
            exact Xo.done (fun h => Yx.weak (lw_s (lw_n lw_0)) h)
          · skip
            refine x_aload_n C (pc := 198) dX12_next_198 rfl ?_
            refine x_getR C (pc := 199) fg_X12_39 dX12_next_199 ht ?_
            refine x_aload_n C (pc := 202) dX12_next_202 rfl ?_
            refine x_getI C (pc := 203) fg_X12_125 dX12_next_203 ht ?_
            refine x_iald C (pc := 206) dX12_next_206 (lkd_10_10 ht) (fun _ => ?_)
            refine x_callSi C (pc := 207) ms_X12_135 [.int (gI s12 (lk t 10) (Int32.toNatClampNeg (gI s12 t 12)))] (fun _ hr => ct_X12_isLetter _ _ _ hr) ⟨Nat.le_of_ble_eq_true rfl, Nat.le_of_ble_eq_true rfl⟩ rfl (Nat.le_of_ble_eq_true rfl) rfl dX12_next_207 (fun r13 => ?_)
            refine x_if_eq C (pc := 210) (tgt := 226) dX12_next_210 (by decide) (fun _ => ?_) (fun _ => ?_)
            · skip
              exact Xo.done (fun h => Yx.weak (lw_s (lw_n lw_0)) h)
            · skip
              refine x_aload_n C (pc := 213) dX12_next_213 rfl ?_
              refine x_dup C (pc := 214) dX12_next_214 rfl ?_
              refine x_getI C (pc := 215) fg_X12_125 dX12_next_215 ht ?_
              refine x_iconst C (pc := 218) dX12_next_218 kc_i_1 ?_
              refine x_iadd C (pc := 219) dX12_next_219 ?_
              refine x_putIn C (pc := 220) fp_X12_125 dX12_next_220 ht (fun s14 => ?_)
              refine x_goto C (pc := 223) (tgt := 187) dX12_next_223 (by decide) ?_
              exact Xo.done (fun h => Yx.weak (lw_s (lw_n lw_0)) h)
        refine x_aload_n C (pc := 226) dX12_next_226 rfl ?_
        refine x_aload_n C (pc := 227) dX12_next_227 rfl ?_
        refine x_aload_n C (pc := 228) dX12_next_228 rfl ?_
        refine x_getI C (pc := 229) fg_X12_125 dX12_next_229 ht ?_
        refine x_callVi C (pc := 232) mv_X12_138 ht rfl [.int (gI s15 t 12)] (fun _ hr => ct_X12_wordBy _ ht _ _ _ hr) ⟨Nat.le_of_ble_eq_true rfl, Nat.le_of_ble_eq_true rfl⟩ rfl (Nat.le_of_ble_eq_true rfl) rfl dX12_next_232 (fun r16 => ?_)
        refine x_putIn C (pc := 235) fp_X12_128 dX12_next_235 ht (fun s17 => ?_)
        refine x_goto C (pc := 238) (tgt := 260) dX12_next_238 (by decide) ?_
        exact x_vret dX12_next_260 (fun h => h)
    · skip
      refine x_aload_n C (pc := 90) dX12_next_90 rfl ?_
      refine x_iload_n C (pc := 91) dX12_next_91 rfl ?_
      refine x_bipush C (pc := 92) dX12_next_92 kc_b_48 ?_
      refine x_isub C (pc := 94) dX12_next_94 ?_
      refine x_putIn C (pc := 95) fp_X12_128 dX12_next_95 ht (fun s18 => ?_)
      refine xb_1 (Z1 := (fun s24 => Yx o 260 [none, none] [] s24)) ?_ (fun s24 => ?_)
      · refine Xo.mono (Yx.weak (lw_s (lw_n lw_0))) (x_lp1 (fr := fun s19 => Yx o 98 [some (.ref t), none] [] s19) _ (fun s19 => ?_))
        refine x_aload_n C (pc := 98) dX12_next_98 rfl ?_
        refine x_getI C (pc := 99) fg_X12_125 dX12_next_99 ht ?_
        refine x_aload_n C (pc := 102) dX12_next_102 rfl ?_
        refine x_getI C (pc := 103) fg_X12_119 dX12_next_103 ht ?_
        refine x_icmp_ge C (pc := 106) (tgt := 260) dX12_next_106 (by decide) (fun _ => ?_) (fun _ => ?_)
        · skip
          exact Xo.done (fun h => Yx.weak (lw_n (lw_n lw_0)) h)
        · skip
          refine x_aload_n C (pc := 109) dX12_next_109 rfl ?_
          refine x_getR C (pc := 110) fg_X12_39 dX12_next_110 ht ?_
          refine x_aload_n C (pc := 113) dX12_next_113 rfl ?_
          refine x_getI C (pc := 114) fg_X12_125 dX12_next_114 ht ?_
          refine x_iald C (pc := 117) dX12_next_117 (lkd_10_10 ht) (fun _ => ?_)
          refine x_callSi C (pc := 118) ms_X12_131 [.int (gI s19 (lk t 10) (Int32.toNatClampNeg (gI s19 t 12)))] (fun _ hr => ct_X12_isFigure _ _ _ hr) ⟨Nat.le_of_ble_eq_true rfl, Nat.le_of_ble_eq_true rfl⟩ rfl (Nat.le_of_ble_eq_true rfl) rfl dX12_next_118 (fun r20 => ?_)
          refine x_if_eq C (pc := 121) (tgt := 260) dX12_next_121 (by decide) (fun _ => ?_) (fun _ => ?_)
          · skip
            exact Xo.done (fun h => Yx.weak (lw_n (lw_n lw_0)) h)
          · skip
            refine x_aload_n C (pc := 124) dX12_next_124 rfl ?_
            refine x_aload_n C (pc := 125) dX12_next_125 rfl ?_
            refine x_getI C (pc := 126) fg_X12_125 dX12_next_126 ht ?_
            refine x_aload_n C (pc := 129) dX12_next_129 rfl ?_
            refine x_getI C (pc := 130) fg_X12_122 dX12_next_130 ht ?_
            refine x_iconst C (pc := 133) dX12_next_133 kc_i_1 ?_
            refine x_iadd C (pc := 134) dX12_next_134 ?_
            refine xb_1 (Z1 := fun j21 => Yx o 164 [some (.ref t), none] [.int j21, .ref t] s19) ?_ (fun j21 => ?_)
            · skip
              refine x_icmp_ne C (pc := 135) (tgt := 161) dX12_next_135 (by decide) (fun _ => ?_) (fun _ => ?_)
              · skip
                refine x_bipush C (pc := 138) dX12_next_138 kc_b_10 ?_
                refine x_aload_n C (pc := 140) dX12_next_140 rfl ?_
                refine x_getI C (pc := 141) fg_X12_128 dX12_next_141 ht ?_
                refine x_imul C (pc := 144) dX12_next_144 ?_
                refine x_aload_n C (pc := 145) dX12_next_145 rfl ?_
                refine x_getR C (pc := 146) fg_X12_39 dX12_next_146 ht ?_
                refine x_aload_n C (pc := 149) dX12_next_149 rfl ?_
                refine x_getI C (pc := 150) fg_X12_125 dX12_next_150 ht ?_
                refine x_iald C (pc := 153) dX12_next_153 (lkd_10_10 ht) (fun _ => ?_)
                refine x_iadd C (pc := 154) dX12_next_154 ?_
                refine x_bipush C (pc := 155) dX12_next_155 kc_b_48 ?_
                refine x_isub C (pc := 157) dX12_next_157 ?_
                refine x_goto C (pc := 158) (tgt := 164) dX12_next_158 (by decide) ?_
                exact Xo.done (fun h => Yx.weak (lw_s (lw_n lw_0)) h)
              · skip
                refine x_sipush C (pc := 161) dX12_next_161 kc_s_300 ?_
                exact Xo.done (fun h => Yx.weak (lw_s (lw_n lw_0)) h)
            refine x_putIn C (pc := 164) fp_X12_128 dX12_next_164 ht (fun s22 => ?_)
            refine x_aload_n C (pc := 167) dX12_next_167 rfl ?_
            refine x_dup C (pc := 168) dX12_next_168 rfl ?_
            refine x_getI C (pc := 169) fg_X12_125 dX12_next_169 ht ?_
            refine x_iconst C (pc := 172) dX12_next_172 kc_i_1 ?_
            refine x_iadd C (pc := 173) dX12_next_173 ?_
            refine x_putIn C (pc := 174) fp_X12_125 dX12_next_174 ht (fun s23 => ?_)
            refine x_goto C (pc := 177) (tgt := 98) dX12_next_177 (by decide) ?_
            exact Xo.done (fun h => Yx.weak (lw_s (lw_n lw_0)) h)
      exact x_vret dX12_next_260 (fun h => h)
theorem ct_X12_next (t : Nat) (ht : kd t = 10) (s0 : SS) (r : SS) (h : FX12_next t s0 = some r) : CT 1 yX12_next cX12_next 2 none 1 23 [.ref t] s0 none r :=
  ct_of (by decide +kernel) (Or.inl ⟨rfl, rfl⟩) (lx_args [.ref t]) (lx_entry [.ref t] (fun _ => Nat.le_of_ble_eq_true rfl)) (fun o C hR => Yx.weak (lw_s (lw_z lw_0)) (bd_X12_next C t ht s0 r h hR))
def FX12_must (t : Nat) (a : Int32) (s0 : SS) : Option (SS) :=
  if a = 0 then if (gI s0 t 13) = (-1 : Int32) then nm (pI s0 t 13 (gI s0 t 15)) (fun (s1 : SS) => some (s1)) else (some (s0)) else (some (s0))
set_option maxRecDepth 100000 in
set_option maxHeartbeats 4000000 in
theorem bd_X12_must {o : Om} (C : Cx o RX12 cX12_must 2 none (rmx 0 0) 1) (t : Nat) (ht : kd t = 10) (a : Int32) (s0 : SS) : Xo (FX12_must t a s0) (fun r => RT o cX12_must none r) (Yx o 0 [some (.ref t), some (.int a)] [] s0) := by
  unfold FX12_must
  refine x_iload_n C (pc := 0) dX12_must_0 rfl ?_
  refine x_if_ne C (pc := 1) (tgt := 20) dX12_must_1 (by decide) (fun _ => ?_) (fun _ => ?_)
  · skip
    refine x_aload_n C (pc := 4) dX12_must_4 rfl ?_
    refine x_getI C (pc := 5) fg_X12_42 dX12_must_5 ht ?_
    refine x_iconst C (pc := 8) dX12_must_8 kc_i_m1 ?_
    refine x_icmp_ne C (pc := 9) (tgt := 20) dX12_must_9 (by decide) (fun _ => ?_) (fun _ => ?_)
    · skip
      refine x_aload_n C (pc := 12) dX12_must_12 rfl ?_
      refine x_aload_n C (pc := 13) dX12_must_13 rfl ?_
      refine x_getI C (pc := 14) fg_X12_122 dX12_must_14 ht ?_
      refine x_putIn C (pc := 17) fp_X12_42 dX12_must_17 ht (fun s1 => ?_)
      exact x_vret dX12_must_20 (fun h => h)
    · skip
      exact x_vret dX12_must_20 (fun h => h)
  · skip
    exact x_vret dX12_must_20 (fun h => h)
theorem ct_X12_must (t : Nat) (ht : kd t = 10) (a : Int32) (s0 : SS) (r : SS) (h : FX12_must t a s0 = some r) : CT 1 yX12_must cX12_must 2 none 0 0 [.ref t, .int a] s0 none r :=
  ct_of (by decide +kernel) (Or.inl ⟨rfl, rfl⟩) (lx_args [.ref t, .int a]) (lx_entry [.ref t, .int a] (fun _ => Nat.le_of_ble_eq_true rfl)) (fun o C hR => Yx.weak (lw_s (lw_s lw_0)) (bd_X12_must C t ht a s0 r h hR))
def FX12_goOnReading (t : Nat) (s0 : SS) : Option (SS) :=
  if (gI s0 t 13) = (-1 : Int32) then bd (FX12_next t s0) (fun (s1 : SS) => some (s1)) else (some (s0))
set_option maxRecDepth 100000 in
set_option maxHeartbeats 4000000 in
theorem bd_X12_goOnReading {o : Om} (C : Cx o RX12 cX12_goOnReading 1 none (rmx 2 44) 1) (t : Nat) (ht : kd t = 10) (s0 : SS) : Xo (FX12_goOnReading t s0) (fun r => RT o cX12_goOnReading none r) (Yx o 0 [some (.ref t)] [] s0) := by
  unfold FX12_goOnReading
  refine x_aload_n C (pc := 0) dX12_goOnReading_0 rfl ?_
  refine x_getI C (pc := 1) fg_X12_42 dX12_goOnReading_1 ht ?_
  refine x_iconst C (pc := 4) dX12_goOnReading_4 kc_i_m1 ?_
  refine x_icmp_ne C (pc := 5) (tgt := 12) dX12_goOnReading_5 (by decide) (fun _ => ?_) (fun _ => ?_)
  · skip
    refine x_aload_n C (pc := 8) dX12_goOnReading_8 rfl ?_
    refine x_callVv C (pc := 9) mv_X12_142 ht rfl [] (fun _ hr => ct_X12_next _ ht _ _ hr) ⟨Nat.le_of_ble_eq_true rfl, Nat.le_of_ble_eq_true rfl⟩ rfl (Nat.le_of_ble_eq_true rfl) rfl dX12_goOnReading_9 (fun s1 => ?_)
    exact x_vret dX12_goOnReading_12 (fun h => h)
  · skip
    exact x_vret dX12_goOnReading_12 (fun h => h)
theorem ct_X12_goOnReading (t : Nat) (ht : kd t = 10) (s0 : SS) (r : SS) (h : FX12_goOnReading t s0 = some r) : CT 1 yX12_goOnReading cX12_goOnReading 1 none 2 44 [.ref t] s0 none r :=
  ct_of (by decide +kernel) (Or.inl ⟨rfl, rfl⟩) (lx_args [.ref t]) (lx_entry [.ref t] (fun _ => Nat.le_of_ble_eq_true rfl)) (fun o C hR => Yx.weak (lw_s lw_0) (bd_X12_goOnReading C t ht s0 r h hR))
def FX12_end (t : Nat) (s0 : SS) : Option (SS) :=
  bd (if (gI s0 t 13) = (-1 : Int32) then if (gI s0 t 14) = (nI 200) then some ((nI 1)) else (some ((nI 0))) else (some ((nI 1)))) (fun (j1 : Int32) => bd (FX12_must t j1 s0) (fun (s2 : SS) => bd (FX12_goOnReading t s2) (fun (s3 : SS) => some (s3))))
set_option maxRecDepth 100000 in
set_option maxHeartbeats 4000000 in
theorem bd_X12_end {o : Om} (C : Cx o RX12 cX12_end 1 none (rmx 3 64) 1) (t : Nat) (ht : kd t = 10) (s0 : SS) : Xo (FX12_end t s0) (fun r => RT o cX12_end none r) (Yx o 0 [some (.ref t)] [] s0) := by
  unfold FX12_end
  refine x_aload_n C (pc := 0) dX12_end_0 rfl ?_
  refine x_aload_n C (pc := 1) dX12_end_1 rfl ?_
  refine x_getI C (pc := 2) fg_X12_42 dX12_end_2 ht ?_
  refine x_iconst C (pc := 5) dX12_end_5 kc_i_m1 ?_
  refine xb_1 (Z1 := fun j1 => Yx o 24 [some (.ref t)] [.int j1, .ref t] s0) ?_ (fun j1 => ?_)
  · skip
    refine x_icmp_ne C (pc := 6) (tgt := 19) dX12_end_6 (by decide) (fun _ => ?_) (fun _ => ?_)
    · skip
      refine x_aload_n C (pc := 9) dX12_end_9 rfl ?_
      refine x_getI C (pc := 10) fg_X12_128 dX12_end_10 ht ?_
      refine x_sipush C (pc := 13) dX12_end_13 kc_s_200 ?_
      refine x_icmp_ne C (pc := 16) (tgt := 23) dX12_end_16 (by decide) (fun _ => ?_) (fun _ => ?_)
      · skip
        refine x_iconst C (pc := 19) dX12_end_19 kc_i_1 ?_
        refine x_goto C (pc := 20) (tgt := 24) dX12_end_20 (by decide) ?_
        exact Xo.done (fun h => Yx.weak (lw_s lw_0) h)
      · skip
        refine x_iconst C (pc := 23) dX12_end_23 kc_i_0 ?_
        exact Xo.done (fun h => Yx.weak (lw_s lw_0) h)
    · skip
      refine x_iconst C (pc := 19) dX12_end_19 kc_i_1 ?_
      refine x_goto C (pc := 20) (tgt := 24) dX12_end_20 (by decide) ?_
      exact Xo.done (fun h => Yx.weak (lw_s lw_0) h)
  refine x_callVv C (pc := 24) mv_X12_145 ht rfl [.int j1] (fun _ hr => ct_X12_must _ ht _ _ _ hr) ⟨Nat.le_of_ble_eq_true rfl, Nat.le_of_ble_eq_true rfl⟩ rfl (Nat.le_of_ble_eq_true rfl) rfl dX12_end_24 (fun s2 => ?_)
  refine x_aload_n C (pc := 27) dX12_end_27 rfl ?_
  refine x_callVv C (pc := 28) mv_X12_149 ht rfl [] (fun _ hr => ct_X12_goOnReading _ ht _ _ hr) ⟨Nat.le_of_ble_eq_true rfl, Nat.le_of_ble_eq_true rfl⟩ rfl (Nat.le_of_ble_eq_true rfl) rfl dX12_end_28 (fun s3 => ?_)
  exact x_vret dX12_end_31 (fun h => h)
theorem ct_X12_end (t : Nat) (ht : kd t = 10) (s0 : SS) (r : SS) (h : FX12_end t s0 = some r) : CT 1 yX12_end cX12_end 1 none 3 64 [.ref t] s0 none r :=
  ct_of (by decide +kernel) (Or.inl ⟨rfl, rfl⟩) (lx_args [.ref t]) (lx_entry [.ref t] (fun _ => Nat.le_of_ble_eq_true rfl)) (fun o C hR => Yx.weak (lw_s lw_0) (bd_X12_end C t ht s0 r h hR))
def FX12_number (t : Nat) (a : Int32) (b : Int32) (s0 : SS) : Option (Int32 × SS) :=
  bd (if (gI s0 t 13) = (-1 : Int32) then bd (FX12_in (Int32.toInt64 (gI s0 t 14)) (Int32.toInt64 a) (Int32.toInt64 b) s0) (fun (r1 : Int32) => if r1 = 0 then some ((nI 0)) else (some ((nI 1)))) else (some ((nI 1)))) (fun (j2 : Int32) => bd (FX12_must t j2 s0) (fun (s3 : SS) => nm (gI s3 t 14) (fun (i4 : Int32) => bd (FX12_goOnReading t s3) (fun (s5 : SS) => some ((i4, s5))))))
set_option maxRecDepth 100000 in
set_option maxHeartbeats 4000000 in
theorem bd_X12_number {o : Om} (C : Cx o RX12 cX12_number 4 (some .int) (rmx 3 64) 1) (t : Nat) (ht : kd t = 10) (a : Int32) (b : Int32) (s0 : SS) : Xo (FX12_number t a b s0) (fun r => RT o cX12_number (some (.int r.1)) r.2) (Yx o 0 [some (.ref t), some (.int a), some (.int b), none] [] s0) := by
  unfold FX12_number
  refine x_aload_n C (pc := 0) dX12_number_0 rfl ?_
  refine x_aload_n C (pc := 1) dX12_number_1 rfl ?_
  refine x_getI C (pc := 2) fg_X12_42 dX12_number_2 ht ?_
  refine x_iconst C (pc := 5) dX12_number_5 kc_i_m1 ?_
  refine xb_1 (Z1 := fun j2 => Yx o 29 [some (.ref t), none, none, none] [.int j2, .ref t] s0) ?_ (fun j2 => ?_)
  · skip
    refine x_icmp_ne C (pc := 6) (tgt := 24) dX12_number_6 (by decide) (fun _ => ?_) (fun _ => ?_)
    · skip
      refine x_aload_n C (pc := 9) dX12_number_9 rfl ?_
      refine x_getI C (pc := 10) fg_X12_128 dX12_number_10 ht ?_
      refine x_i2l C (pc := 13) dX12_number_13 ?_
      refine x_iload_n C (pc := 14) dX12_number_14 rfl ?_
      refine x_i2l C (pc := 15) dX12_number_15 ?_
      refine x_iload_n C (pc := 16) dX12_number_16 rfl ?_
      refine x_i2l C (pc := 17) dX12_number_17 ?_
      refine x_callSi C (pc := 18) ms_X12_55 [.long (Int32.toInt64 (gI s0 t 14)), .long (Int32.toInt64 a), .long (Int32.toInt64 b)] (fun _ hr => ct_X12_in _ _ _ _ _ hr) ⟨Nat.le_of_ble_eq_true rfl, Nat.le_of_ble_eq_true rfl⟩ rfl (Nat.le_of_ble_eq_true rfl) rfl dX12_number_18 (fun r1 => ?_)
      refine x_if_eq C (pc := 21) (tgt := 28) dX12_number_21 (by decide) (fun _ => ?_) (fun _ => ?_)
      · skip
        refine x_iconst C (pc := 28) dX12_number_28 kc_i_0 ?_
        exact Xo.done (fun h => Yx.weak (lw_s (lw_n (lw_n (lw_n lw_0)))) h)
      · skip
        refine x_iconst C (pc := 24) dX12_number_24 kc_i_1 ?_
        refine x_goto C (pc := 25) (tgt := 29) dX12_number_25 (by decide) ?_
        exact Xo.done (fun h => Yx.weak (lw_s (lw_n (lw_n (lw_n lw_0)))) h)
    · skip
      refine x_iconst C (pc := 24) dX12_number_24 kc_i_1 ?_
      refine x_goto C (pc := 25) (tgt := 29) dX12_number_25 (by decide) ?_
      exact Xo.done (fun h => Yx.weak (lw_s (lw_n (lw_n (lw_n lw_0)))) h)
  refine x_callVv C (pc := 29) mv_X12_145 ht rfl [.int j2] (fun _ hr => ct_X12_must _ ht _ _ _ hr) ⟨Nat.le_of_ble_eq_true rfl, Nat.le_of_ble_eq_true rfl⟩ rfl (Nat.le_of_ble_eq_true rfl) rfl dX12_number_29 (fun s3 => ?_)
  refine x_aload_n C (pc := 32) dX12_number_32 rfl ?_
  refine x_getI C (pc := 33) fg_X12_128 dX12_number_33 ht ?_
  refine x_istore_n C (pc := 36) (L' := fun i4 => [some (.ref t), none, none, some (.int i4)]) dX12_number_36 (by decide) (fun _ => rfl) (fun i4 => ?_)
  refine x_aload_n C (pc := 37) dX12_number_37 rfl ?_
  refine x_callVv C (pc := 38) mv_X12_149 ht rfl [] (fun _ hr => ct_X12_goOnReading _ ht _ _ hr) ⟨Nat.le_of_ble_eq_true rfl, Nat.le_of_ble_eq_true rfl⟩ rfl (Nat.le_of_ble_eq_true rfl) rfl dX12_number_38 (fun s5 => ?_)
  refine x_iload_n C (pc := 41) dX12_number_41 rfl ?_
  exact x_ret dX12_number_42 (fun h => h)
theorem ct_X12_number (t : Nat) (ht : kd t = 10) (a : Int32) (b : Int32) (s0 : SS) (r : Int32) (s2 : SS) (h : FX12_number t a b s0 = some (r, s2)) : CT 1 yX12_number cX12_number 4 (some .int) 3 64 [.ref t, .int a, .int b] s0 (some (.int r)) s2 :=
  ct_of (by decide +kernel) (Or.inr (Or.inl ⟨_, rfl, _, rfl, rfl⟩)) (lx_args [.ref t, .int a, .int b]) (lx_entry [.ref t, .int a, .int b] (fun _ => Nat.le_of_ble_eq_true rfl)) (fun o C hR => Yx.weak (lw_s (lw_s (lw_s (lw_z lw_0)))) (bd_X12_number C t ht a b s0 (r, s2) h hR))
def FX12_readWinds (t : Nat) (s0 : SS) : Option (SS) :=
  bd (FX12_next t s0) (fun (s1 : SS) => nm (nI 0) (fun (i2 : Int32) => nm (nI 1) (fun (i3 : Int32) => bd (lp FUEL (u3 (fun (n4 : Int32) (n5 : Int32) (s6 : SS) => if n5 = 0 then some (Sum.inr s6) else (bd (if (nI 8) ≤ n4 then some ((nI 0)) else (some ((nI 1)))) (fun (j7 : Int32) => bd (FX12_must t j7 s6) (fun (s8 : SS) => bd2 (FX12_number t (nI 0) (nI 20) s8) (fun (r9 : Int32) (s10 : SS) => nm r9 (fun (i11 : Int32) => bd2 (FX12_number t (nI 0) (nI 1) s10) (fun (r12 : Int32) (s13 : SS) => nm r12 (fun (i14 : Int32) => bd (if (gI s13 t 13) = (-1 : Int32) then gd (inb ((nI 2) * n4) (ln (lk t 1))) (nm (pI s13 (lk t 1) (Int32.toNatClampNeg ((nI 2) * n4)) i11) (fun (s15 : SS) => gd (inb (((nI 2) * n4) + (nI 1)) (ln (lk t 1))) (nm (pI s15 (lk t 1) (Int32.toNatClampNeg (((nI 2) * n4) + (nI 1))) i14) (fun (s16 : SS) => nm (n4 + (nI 1)) (fun (i17 : Int32) => some ((i17, s16))))))) else (some ((n4, s13)))) (u2 (fun (j18 : Int32) (s19 : SS) => bd (if (gI s19 t 13) = (-1 : Int32) then if (gI s19 t 14) = (nI 200) then some ((nI 0)) else (some ((nI 1))) else (some ((nI 0)))) (fun (j20 : Int32) => nm j20 (fun (i21 : Int32) => some (Sum.inl (j18, i21, s19))))))))))))))) (i2, i3, s1)) (fun (s22 : SS) => bd (FX12_end t s22) (fun (s23 : SS) => some (s23))))))
set_option maxRecDepth 100000 in
set_option maxHeartbeats 4000000 in
theorem bd_X12_readWinds {o : Om} (C : Cx o RX12 cX12_readWinds 5 none (rmx 4 87) 1) (t : Nat) (ht : kd t = 10) (s0 : SS) : Xo (FX12_readWinds t s0) (fun r => RT o cX12_readWinds none r) (Yx o 0 [some (.ref t), none, none, none, none] [] s0) := by
  unfold FX12_readWinds
  refine x_aload_n C (pc := 0) dX12_readWinds_0 rfl ?_
  refine x_callVv C (pc := 1) mv_X12_142 ht rfl [] (fun _ hr => ct_X12_next _ ht _ _ hr) ⟨Nat.le_of_ble_eq_true rfl, Nat.le_of_ble_eq_true rfl⟩ rfl (Nat.le_of_ble_eq_true rfl) rfl dX12_readWinds_1 (fun s1 => ?_)
  refine x_iconst C (pc := 4) dX12_readWinds_4 kc_i_0 ?_
  refine x_istore_n C (pc := 5) (L' := fun i2 => [some (.ref t), some (.int i2), none, none, none]) dX12_readWinds_5 (by decide) (fun _ => rfl) (fun i2 => ?_)
  refine x_iconst C (pc := 6) dX12_readWinds_6 kc_i_1 ?_
  refine x_istore_n C (pc := 7) (L' := fun i3 => [some (.ref t), some (.int i2), some (.int i3), none, none]) dX12_readWinds_7 (by decide) (fun _ => rfl) (fun i3 => ?_)
  refine xb_1 (Z1 := (fun s22 => Yx o 102 [some (.ref t), none, none, none, none] [] s22)) ?_ (fun s22 => ?_)
  · refine Xo.mono (Yx.weak (lw_s (lw_s (lw_s (lw_n (lw_n lw_0)))))) (x_lp3 (fr := fun n4 n5 s6 => Yx o 8 [some (.ref t), some (.int n4), some (.int n5), none, none] [] s6) _ _ _ (fun n4 n5 s6 => ?_))
    refine x_iload_n C (pc := 8) dX12_readWinds_8 rfl ?_
    refine x_if_eq C (pc := 9) (tgt := 102) dX12_readWinds_9 (by decide) (fun _ => ?_) (fun _ => ?_)
    · skip
      exact Xo.done (fun h => Yx.weak (lw_s (lw_n (lw_n (lw_n (lw_n lw_0))))) h)
    · skip
      refine x_aload_n C (pc := 12) dX12_readWinds_12 rfl ?_
      refine x_iload_n C (pc := 13) dX12_readWinds_13 rfl ?_
      refine x_bipush C (pc := 14) dX12_readWinds_14 kc_b_8 ?_
      refine xb_1 (Z1 := fun j7 => Yx o 24 [some (.ref t), some (.int n4), none, none, none] [.int j7, .ref t] s6) ?_ (fun j7 => ?_)
      · skip
        refine x_icmp_ge C (pc := 16) (tgt := 23) dX12_readWinds_16 (by decide) (fun _ => ?_) (fun _ => ?_)
        · skip
          refine x_iconst C (pc := 23) dX12_readWinds_23 kc_i_0 ?_
          exact Xo.done (fun h => Yx.weak (lw_s (lw_s (lw_n (lw_n (lw_n lw_0))))) h)
        · skip
          refine x_iconst C (pc := 19) dX12_readWinds_19 kc_i_1 ?_
          refine x_goto C (pc := 20) (tgt := 24) dX12_readWinds_20 (by decide) ?_
          exact Xo.done (fun h => Yx.weak (lw_s (lw_s (lw_n (lw_n (lw_n lw_0))))) h)
      refine x_callVv C (pc := 24) mv_X12_145 ht rfl [.int j7] (fun _ hr => ct_X12_must _ ht _ _ _ hr) ⟨Nat.le_of_ble_eq_true rfl, Nat.le_of_ble_eq_true rfl⟩ rfl (Nat.le_of_ble_eq_true rfl) rfl dX12_readWinds_24 (fun s8 => ?_)
      refine x_aload_n C (pc := 27) dX12_readWinds_27 rfl ?_
      refine x_iconst C (pc := 28) dX12_readWinds_28 kc_i_0 ?_
      refine x_bipush C (pc := 29) dX12_readWinds_29 kc_b_20 ?_
      refine x_callVim C (pc := 31) mv_X12_152 ht rfl [.int (nI 0), .int (nI 20)] (fun _ _ hr => ct_X12_number _ ht _ _ _ _ _ hr) ⟨Nat.le_of_ble_eq_true rfl, Nat.le_of_ble_eq_true rfl⟩ rfl (Nat.le_of_ble_eq_true rfl) rfl dX12_readWinds_31 (fun r9 s10 => ?_)
      refine x_istore_n C (pc := 34) (L' := fun i11 => [some (.ref t), some (.int n4), none, some (.int i11), none]) dX12_readWinds_34 (by decide) (fun _ => rfl) (fun i11 => ?_)
      refine x_aload_n C (pc := 35) dX12_readWinds_35 rfl ?_
      refine x_iconst C (pc := 36) dX12_readWinds_36 kc_i_0 ?_
      refine x_iconst C (pc := 37) dX12_readWinds_37 kc_i_1 ?_
      refine x_callVim C (pc := 38) mv_X12_152 ht rfl [.int (nI 0), .int (nI 1)] (fun _ _ hr => ct_X12_number _ ht _ _ _ _ _ hr) ⟨Nat.le_of_ble_eq_true rfl, Nat.le_of_ble_eq_true rfl⟩ rfl (Nat.le_of_ble_eq_true rfl) rfl dX12_readWinds_38 (fun r12 s13 => ?_)
      refine x_istore C (pc := 41) (L' := fun i14 => [some (.ref t), some (.int n4), none, some (.int i11), some (.int i14)]) dX12_readWinds_41 (by decide) (fun _ => rfl) (fun i14 => ?_)
      refine x_aload_n C (pc := 43) dX12_readWinds_43 rfl ?_
      refine x_getI C (pc := 44) fg_X12_42 dX12_readWinds_44 ht ?_
      refine x_iconst C (pc := 47) dX12_readWinds_47 kc_i_m1 ?_
      refine xb_2 (Z1 := fun j18 s19 => Yx o 75 [some (.ref t), some (.int j18), none, none, none] [] s19) ?_ (fun j18 s19 => ?_)
      · skip
        refine x_icmp_ne C (pc := 48) (tgt := 75) dX12_readWinds_48 (by decide) (fun _ => ?_) (fun _ => ?_)
        · skip
          refine x_aload_n C (pc := 51) dX12_readWinds_51 rfl ?_
          refine x_getR C (pc := 52) fg_X12_13 dX12_readWinds_52 ht ?_
          refine x_iconst C (pc := 55) dX12_readWinds_55 kc_i_2 ?_
          refine x_iload_n C (pc := 56) dX12_readWinds_56 rfl ?_
          refine x_imul C (pc := 57) dX12_readWinds_57 ?_
          refine x_iload_n C (pc := 58) dX12_readWinds_58 rfl ?_
          refine x_iastn C (pc := 59) dX12_readWinds_59 (lkd_10_1 ht) (fun s15 => ?_)
          refine x_aload_n C (pc := 60) dX12_readWinds_60 rfl ?_
          refine x_getR C (pc := 61) fg_X12_13 dX12_readWinds_61 ht ?_
          refine x_iconst C (pc := 64) dX12_readWinds_64 kc_i_2 ?_
          refine x_iload_n C (pc := 65) dX12_readWinds_65 rfl ?_
          refine x_imul C (pc := 66) dX12_readWinds_66 ?_
          refine x_iconst C (pc := 67) dX12_readWinds_67 kc_i_1 ?_
          refine x_iadd C (pc := 68) dX12_readWinds_68 ?_
          refine x_iload C (pc := 69) dX12_readWinds_69 rfl ?_
          refine x_iastn C (pc := 71) dX12_readWinds_71 (lkd_10_1 ht) (fun s16 => ?_)
          refine x_iinc C (pc := 72) (L' := fun i17 => [some (.ref t), some (.int i17), none, some (.int i11), some (.int i14)]) dX12_readWinds_72 rfl kc_i_1 (by decide) (fun _ => rfl) (fun i17 => ?_)
          exact Xo.done (fun h => Yx.weak (lw_s (lw_s (lw_n (lw_n (lw_n lw_0))))) h)
        · skip
          exact Xo.done (fun h => Yx.weak (lw_s (lw_s (lw_n (lw_n (lw_n lw_0))))) h)
      refine x_aload_n C (pc := 75) dX12_readWinds_75 rfl ?_
      refine x_getI C (pc := 76) fg_X12_42 dX12_readWinds_76 ht ?_
      refine x_iconst C (pc := 79) dX12_readWinds_79 kc_i_m1 ?_
      refine xb_1 (Z1 := fun j20 => Yx o 98 [some (.ref t), some (.int j18), none, none, none] [.int j20] s19) ?_ (fun j20 => ?_)
      · skip
        refine x_icmp_ne C (pc := 80) (tgt := 97) dX12_readWinds_80 (by decide) (fun _ => ?_) (fun _ => ?_)
        · skip
          refine x_aload_n C (pc := 83) dX12_readWinds_83 rfl ?_
          refine x_getI C (pc := 84) fg_X12_128 dX12_readWinds_84 ht ?_
          refine x_sipush C (pc := 87) dX12_readWinds_87 kc_s_200 ?_
          refine x_icmp_eq C (pc := 90) (tgt := 97) dX12_readWinds_90 (by decide) (fun _ => ?_) (fun _ => ?_)
          · skip
            refine x_iconst C (pc := 97) dX12_readWinds_97 kc_i_0 ?_
            exact Xo.done (fun h => Yx.weak (lw_s (lw_s (lw_n (lw_n (lw_n lw_0))))) h)
          · skip
            refine x_iconst C (pc := 93) dX12_readWinds_93 kc_i_1 ?_
            refine x_goto C (pc := 94) (tgt := 98) dX12_readWinds_94 (by decide) ?_
            exact Xo.done (fun h => Yx.weak (lw_s (lw_s (lw_n (lw_n (lw_n lw_0))))) h)
        · skip
          refine x_iconst C (pc := 97) dX12_readWinds_97 kc_i_0 ?_
          exact Xo.done (fun h => Yx.weak (lw_s (lw_s (lw_n (lw_n (lw_n lw_0))))) h)
      refine x_istore_n C (pc := 98) (L' := fun i21 => [some (.ref t), some (.int j18), some (.int i21), none, none]) dX12_readWinds_98 (by decide) (fun _ => rfl) (fun i21 => ?_)
      refine x_goto C (pc := 99) (tgt := 8) dX12_readWinds_99 (by decide) ?_
      exact Xo.done (fun h => Yx.weak (lw_s (lw_s (lw_s (lw_n (lw_n lw_0))))) h)
  refine x_aload_n C (pc := 102) dX12_readWinds_102 rfl ?_
  refine x_callVv C (pc := 103) mv_X12_155 ht rfl [] (fun _ hr => ct_X12_end _ ht _ _ hr) ⟨Nat.le_of_ble_eq_true rfl, Nat.le_of_ble_eq_true rfl⟩ rfl (Nat.le_of_ble_eq_true rfl) rfl dX12_readWinds_103 (fun s23 => ?_)
  exact x_vret dX12_readWinds_106 (fun h => h)
theorem ct_X12_readWinds (t : Nat) (ht : kd t = 10) (s0 : SS) (r : SS) (h : FX12_readWinds t s0 = some r) : CT 1 yX12_readWinds cX12_readWinds 5 none 4 87 [.ref t] s0 none r :=
  ct_of (by decide +kernel) (Or.inl ⟨rfl, rfl⟩) (lx_args [.ref t]) (lx_entry [.ref t] (fun _ => Nat.le_of_ble_eq_true rfl)) (fun o C hR => Yx.weak (lw_s (lw_z (lw_z (lw_z (lw_z lw_0))))) (bd_X12_readWinds C t ht s0 r h hR))
def FX12_readUser (t : Nat) (s0 : SS) : Option (SS) :=
  gd (inb (nI 16) (ln (lk t 1))) (bd (if (nI 7) ≤ (gI s0 (lk t 1) (Int32.toNatClampNeg (nI 16))) then some ((nI 0)) else (some ((nI 1)))) (fun (j1 : Int32) => bd (FX12_must t j1 s0) (fun (s2 : SS) => bd (FX12_goOnReading t s2) (fun (s3 : SS) => bd2 (FX12_number t (nI 0) (nI 5) s3) (fun (r4 : Int32) (s5 : SS) => nm r4 (fun (i6 : Int32) => bd2 (FX12_number t (nI 0) (nI 11) s5) (fun (r7 : Int32) (s8 : SS) => nm r7 (fun (i9 : Int32) => bd2 (FX12_number t (nI 1) (nI 4) s8) (fun (r10 : Int32) (s11 : SS) => nm r10 (fun (i12 : Int32) => bd (FX12_end t s11) (fun (s13 : SS) => if (gI s13 t 13) = (-1 : Int32) then bd (FX12_comes (lk t 1) i6 i9 i12 s13) (fun (s14 : SS) => some (s14)) else (some (s13)))))))))))))
set_option maxRecDepth 100000 in
set_option maxHeartbeats 4000000 in
theorem bd_X12_readUser {o : Om} (C : Cx o RX12 cX12_readUser 4 none (rmx 4 87) 1) (t : Nat) (ht : kd t = 10) (s0 : SS) : Xo (FX12_readUser t s0) (fun r => RT o cX12_readUser none r) (Yx o 0 [some (.ref t), none, none, none] [] s0) := by
  unfold FX12_readUser
  refine x_aload_n C (pc := 0) dX12_readUser_0 rfl ?_
  refine x_aload_n C (pc := 1) dX12_readUser_1 rfl ?_
  refine x_getR C (pc := 2) fg_X12_13 dX12_readUser_2 ht ?_
  refine x_bipush C (pc := 5) dX12_readUser_5 kc_b_16 ?_
  refine x_iald C (pc := 7) dX12_readUser_7 (lkd_10_1 ht) (fun _ => ?_)
  refine x_bipush C (pc := 8) dX12_readUser_8 kc_b_7 ?_
  refine xb_1 (Z1 := fun j1 => Yx o 18 [some (.ref t), none, none, none] [.int j1, .ref t] s0) ?_ (fun j1 => ?_)
  · skip
    refine x_icmp_ge C (pc := 10) (tgt := 17) dX12_readUser_10 (by decide) (fun _ => ?_) (fun _ => ?_)
    · skip
      refine x_iconst C (pc := 17) dX12_readUser_17 kc_i_0 ?_
      exact Xo.done (fun h => Yx.weak (lw_s (lw_n (lw_n (lw_n lw_0)))) h)
    · skip
      refine x_iconst C (pc := 13) dX12_readUser_13 kc_i_1 ?_
      refine x_goto C (pc := 14) (tgt := 18) dX12_readUser_14 (by decide) ?_
      exact Xo.done (fun h => Yx.weak (lw_s (lw_n (lw_n (lw_n lw_0)))) h)
  refine x_callVv C (pc := 18) mv_X12_145 ht rfl [.int j1] (fun _ hr => ct_X12_must _ ht _ _ _ hr) ⟨Nat.le_of_ble_eq_true rfl, Nat.le_of_ble_eq_true rfl⟩ rfl (Nat.le_of_ble_eq_true rfl) rfl dX12_readUser_18 (fun s2 => ?_)
  refine x_aload_n C (pc := 21) dX12_readUser_21 rfl ?_
  refine x_callVv C (pc := 22) mv_X12_149 ht rfl [] (fun _ hr => ct_X12_goOnReading _ ht _ _ hr) ⟨Nat.le_of_ble_eq_true rfl, Nat.le_of_ble_eq_true rfl⟩ rfl (Nat.le_of_ble_eq_true rfl) rfl dX12_readUser_22 (fun s3 => ?_)
  refine x_aload_n C (pc := 25) dX12_readUser_25 rfl ?_
  refine x_iconst C (pc := 26) dX12_readUser_26 kc_i_0 ?_
  refine x_iconst C (pc := 27) dX12_readUser_27 kc_i_5 ?_
  refine x_callVim C (pc := 28) mv_X12_152 ht rfl [.int (nI 0), .int (nI 5)] (fun _ _ hr => ct_X12_number _ ht _ _ _ _ _ hr) ⟨Nat.le_of_ble_eq_true rfl, Nat.le_of_ble_eq_true rfl⟩ rfl (Nat.le_of_ble_eq_true rfl) rfl dX12_readUser_28 (fun r4 s5 => ?_)
  refine x_istore_n C (pc := 31) (L' := fun i6 => [some (.ref t), some (.int i6), none, none]) dX12_readUser_31 (by decide) (fun _ => rfl) (fun i6 => ?_)
  refine x_aload_n C (pc := 32) dX12_readUser_32 rfl ?_
  refine x_iconst C (pc := 33) dX12_readUser_33 kc_i_0 ?_
  refine x_bipush C (pc := 34) dX12_readUser_34 kc_b_11 ?_
  refine x_callVim C (pc := 36) mv_X12_152 ht rfl [.int (nI 0), .int (nI 11)] (fun _ _ hr => ct_X12_number _ ht _ _ _ _ _ hr) ⟨Nat.le_of_ble_eq_true rfl, Nat.le_of_ble_eq_true rfl⟩ rfl (Nat.le_of_ble_eq_true rfl) rfl dX12_readUser_36 (fun r7 s8 => ?_)
  refine x_istore_n C (pc := 39) (L' := fun i9 => [some (.ref t), some (.int i6), some (.int i9), none]) dX12_readUser_39 (by decide) (fun _ => rfl) (fun i9 => ?_)
  refine x_aload_n C (pc := 40) dX12_readUser_40 rfl ?_
  refine x_iconst C (pc := 41) dX12_readUser_41 kc_i_1 ?_
  refine x_iconst C (pc := 42) dX12_readUser_42 kc_i_4 ?_
  refine x_callVim C (pc := 43) mv_X12_152 ht rfl [.int (nI 1), .int (nI 4)] (fun _ _ hr => ct_X12_number _ ht _ _ _ _ _ hr) ⟨Nat.le_of_ble_eq_true rfl, Nat.le_of_ble_eq_true rfl⟩ rfl (Nat.le_of_ble_eq_true rfl) rfl dX12_readUser_43 (fun r10 s11 => ?_)
  refine x_istore_n C (pc := 46) (L' := fun i12 => [some (.ref t), some (.int i6), some (.int i9), some (.int i12)]) dX12_readUser_46 (by decide) (fun _ => rfl) (fun i12 => ?_)
  refine x_aload_n C (pc := 47) dX12_readUser_47 rfl ?_
  refine x_callVv C (pc := 48) mv_X12_155 ht rfl [] (fun _ hr => ct_X12_end _ ht _ _ hr) ⟨Nat.le_of_ble_eq_true rfl, Nat.le_of_ble_eq_true rfl⟩ rfl (Nat.le_of_ble_eq_true rfl) rfl dX12_readUser_48 (fun s13 => ?_)
  refine x_aload_n C (pc := 51) dX12_readUser_51 rfl ?_
  refine x_getI C (pc := 52) fg_X12_42 dX12_readUser_52 ht ?_
  refine x_iconst C (pc := 55) dX12_readUser_55 kc_i_m1 ?_
  refine x_icmp_ne C (pc := 56) (tgt := 69) dX12_readUser_56 (by decide) (fun _ => ?_) (fun _ => ?_)
  · skip
    refine x_aload_n C (pc := 59) dX12_readUser_59 rfl ?_
    refine x_getR C (pc := 60) fg_X12_13 dX12_readUser_60 ht ?_
    refine x_iload_n C (pc := 63) dX12_readUser_63 rfl ?_
    refine x_iload_n C (pc := 64) dX12_readUser_64 rfl ?_
    refine x_iload_n C (pc := 65) dX12_readUser_65 rfl ?_
    refine x_callSv C (pc := 66) ms_X12_114 [.ref (lk t 1), .int i6, .int i9, .int i12] (fun _ hr => ct_X12_comes _ (lkd_10_1 ht) _ _ _ _ _ hr) ⟨Nat.le_of_ble_eq_true rfl, Nat.le_of_ble_eq_true rfl⟩ rfl (Nat.le_of_ble_eq_true rfl) rfl dX12_readUser_66 (fun s14 => ?_)
    exact x_vret dX12_readUser_69 (fun h => h)
  · skip
    exact x_vret dX12_readUser_69 (fun h => h)
theorem ct_X12_readUser (t : Nat) (ht : kd t = 10) (s0 : SS) (r : SS) (h : FX12_readUser t s0 = some r) : CT 1 yX12_readUser cX12_readUser 4 none 4 87 [.ref t] s0 none r :=
  ct_of (by decide +kernel) (Or.inl ⟨rfl, rfl⟩) (lx_args [.ref t]) (lx_entry [.ref t] (fun _ => Nat.le_of_ble_eq_true rfl)) (fun o C hR => Yx.weak (lw_s (lw_z (lw_z (lw_z lw_0)))) (bd_X12_readUser C t ht s0 r h hR))
def FX12_files (a : Nat) (b : Int32) (c : Int32) (s0 : SS) : Option (SS) :=
  gd (inb (nI 45) (ln a)) (nm ((nI 46) + ((nI 4) * (gI s0 a (Int32.toNatClampNeg (nI 45))))) (fun (i1 : Int32) => gd (inb i1 (ln a)) (nm (pI s0 a (Int32.toNatClampNeg i1) b) (fun (s2 : SS) => gd (inb (i1 + (nI 1)) (ln a)) (nm (pI s2 a (Int32.toNatClampNeg (i1 + (nI 1))) c) (fun (s3 : SS) => gd (inb (nI 66) (ln a)) (gd (inb (i1 + (nI 2)) (ln a)) (nm (pI s3 a (Int32.toNatClampNeg (i1 + (nI 2))) (gI s3 a (Int32.toNatClampNeg (nI 66)))) (fun (s4 : SS) => gd (inb (i1 + (nI 3)) (ln a)) (nm (pI s4 a (Int32.toNatClampNeg (i1 + (nI 3))) (nI 0)) (fun (s5 : SS) => gd (inb (nI 45) (ln a)) (gd (inb (nI 45) (ln a)) (nm (pI s5 a (Int32.toNatClampNeg (nI 45)) ((gI s5 a (Int32.toNatClampNeg (nI 45))) + (nI 1))) (fun (s6 : SS) => some (s6)))))))))))))))
set_option maxRecDepth 100000 in
set_option maxHeartbeats 4000000 in
theorem bd_X12_files {o : Om} (C : Cx o RX12 cX12_files 4 none (rmx 0 0) 1) (a : Nat) (ha : kd a = 21) (b : Int32) (c : Int32) (s0 : SS) : Xo (FX12_files a b c s0) (fun r => RT o cX12_files none r) (Yx o 0 [some (.ref a), some (.int b), some (.int c), none] [] s0) := by
  unfold FX12_files
  refine x_bipush C (pc := 0) dX12_files_0 kc_b_46 ?_
  refine x_iconst C (pc := 2) dX12_files_2 kc_i_4 ?_
  refine x_aload_n C (pc := 3) dX12_files_3 rfl ?_
  refine x_bipush C (pc := 4) dX12_files_4 kc_b_45 ?_
  refine x_iald C (pc := 6) dX12_files_6 ha (fun _ => ?_)
  refine x_imul C (pc := 7) dX12_files_7 ?_
  refine x_iadd C (pc := 8) dX12_files_8 ?_
  refine x_istore_n C (pc := 9) (L' := fun i1 => [some (.ref a), some (.int b), some (.int c), some (.int i1)]) dX12_files_9 (by decide) (fun _ => rfl) (fun i1 => ?_)
  refine x_aload_n C (pc := 10) dX12_files_10 rfl ?_
  refine x_iload_n C (pc := 11) dX12_files_11 rfl ?_
  refine x_iload_n C (pc := 12) dX12_files_12 rfl ?_
  refine x_iastn C (pc := 13) dX12_files_13 ha (fun s2 => ?_)
  refine x_aload_n C (pc := 14) dX12_files_14 rfl ?_
  refine x_iload_n C (pc := 15) dX12_files_15 rfl ?_
  refine x_iconst C (pc := 16) dX12_files_16 kc_i_1 ?_
  refine x_iadd C (pc := 17) dX12_files_17 ?_
  refine x_iload_n C (pc := 18) dX12_files_18 rfl ?_
  refine x_iastn C (pc := 19) dX12_files_19 ha (fun s3 => ?_)
  refine x_aload_n C (pc := 20) dX12_files_20 rfl ?_
  refine x_iload_n C (pc := 21) dX12_files_21 rfl ?_
  refine x_iconst C (pc := 22) dX12_files_22 kc_i_2 ?_
  refine x_iadd C (pc := 23) dX12_files_23 ?_
  refine x_aload_n C (pc := 24) dX12_files_24 rfl ?_
  refine x_bipush C (pc := 25) dX12_files_25 kc_b_66 ?_
  refine x_iald C (pc := 27) dX12_files_27 ha (fun _ => ?_)
  refine x_iastn C (pc := 28) dX12_files_28 ha (fun s4 => ?_)
  refine x_aload_n C (pc := 29) dX12_files_29 rfl ?_
  refine x_iload_n C (pc := 30) dX12_files_30 rfl ?_
  refine x_iconst C (pc := 31) dX12_files_31 kc_i_3 ?_
  refine x_iadd C (pc := 32) dX12_files_32 ?_
  refine x_iconst C (pc := 33) dX12_files_33 kc_i_0 ?_
  refine x_iastn C (pc := 34) dX12_files_34 ha (fun s5 => ?_)
  refine x_aload_n C (pc := 35) dX12_files_35 rfl ?_
  refine x_bipush C (pc := 36) dX12_files_36 kc_b_45 ?_
  refine x_dup2 C (pc := 38) dX12_files_38 rfl rfl ?_
  refine x_iald C (pc := 39) dX12_files_39 ha (fun _ => ?_)
  refine x_iconst C (pc := 40) dX12_files_40 kc_i_1 ?_
  refine x_iadd C (pc := 41) dX12_files_41 ?_
  refine x_iastn C (pc := 42) dX12_files_42 ha (fun s6 => ?_)
  exact x_vret dX12_files_43 (fun h => h)
theorem ct_X12_files (a : Nat) (ha : kd a = 21) (b : Int32) (c : Int32) (s0 : SS) (r : SS) (h : FX12_files a b c s0 = some r) : CT 1 yX12_files cX12_files 4 none 0 0 [.ref a, .int b, .int c] s0 none r :=
  ct_of (by decide +kernel) (Or.inl ⟨rfl, rfl⟩) (lx_args [.ref a, .int b, .int c]) (lx_entry [.ref a, .int b, .int c] (fun _ => Nat.le_of_ble_eq_true rfl)) (fun o C hR => Yx.weak (lw_s (lw_s (lw_s (lw_z lw_0)))) (bd_X12_files C a ha b c s0 r h hR))
def FX12_readSuit (t : Nat) (s0 : SS) : Option (SS) :=
  gd (inb (nI 45) (ln (lk t 1))) (bd (if (nI 5) ≤ (gI s0 (lk t 1) (Int32.toNatClampNeg (nI 45))) then some ((nI 0)) else (some ((nI 1)))) (fun (j1 : Int32) => bd (FX12_must t j1 s0) (fun (s2 : SS) => bd (FX12_goOnReading t s2) (fun (s3 : SS) => bd2 (FX12_number t (nI 0) (nI 5) s3) (fun (r4 : Int32) (s5 : SS) => nm r4 (fun (i6 : Int32) => gd (inb (nI 16) (ln (lk t 1))) (bd2 (FX12_number t (nI 0) ((gI s5 (lk t 1) (Int32.toNatClampNeg (nI 16))) - (nI 1)) s5) (fun (r7 : Int32) (s8 : SS) => nm r7 (fun (i9 : Int32) => bd (FX12_end t s8) (fun (s10 : SS) => if (gI s10 t 13) = (-1 : Int32) then bd (FX12_files (lk t 1) i6 i9 s10) (fun (s11 : SS) => some (s11)) else (some (s10))))))))))))
set_option maxRecDepth 100000 in
set_option maxHeartbeats 4000000 in
theorem bd_X12_readSuit {o : Om} (C : Cx o RX12 cX12_readSuit 3 none (rmx 4 87) 1) (t : Nat) (ht : kd t = 10) (s0 : SS) : Xo (FX12_readSuit t s0) (fun r => RT o cX12_readSuit none r) (Yx o 0 [some (.ref t), none, none] [] s0) := by
  unfold FX12_readSuit
  refine x_aload_n C (pc := 0) dX12_readSuit_0 rfl ?_
  refine x_aload_n C (pc := 1) dX12_readSuit_1 rfl ?_
  refine x_getR C (pc := 2) fg_X12_13 dX12_readSuit_2 ht ?_
  refine x_bipush C (pc := 5) dX12_readSuit_5 kc_b_45 ?_
  refine x_iald C (pc := 7) dX12_readSuit_7 (lkd_10_1 ht) (fun _ => ?_)
  refine x_iconst C (pc := 8) dX12_readSuit_8 kc_i_5 ?_
  refine xb_1 (Z1 := fun j1 => Yx o 17 [some (.ref t), none, none] [.int j1, .ref t] s0) ?_ (fun j1 => ?_)
  · skip
    refine x_icmp_ge C (pc := 9) (tgt := 16) dX12_readSuit_9 (by decide) (fun _ => ?_) (fun _ => ?_)
    · skip
      refine x_iconst C (pc := 16) dX12_readSuit_16 kc_i_0 ?_
      exact Xo.done (fun h => Yx.weak (lw_s (lw_n (lw_n lw_0))) h)
    · skip
      refine x_iconst C (pc := 12) dX12_readSuit_12 kc_i_1 ?_
      refine x_goto C (pc := 13) (tgt := 17) dX12_readSuit_13 (by decide) ?_
      exact Xo.done (fun h => Yx.weak (lw_s (lw_n (lw_n lw_0))) h)
  refine x_callVv C (pc := 17) mv_X12_145 ht rfl [.int j1] (fun _ hr => ct_X12_must _ ht _ _ _ hr) ⟨Nat.le_of_ble_eq_true rfl, Nat.le_of_ble_eq_true rfl⟩ rfl (Nat.le_of_ble_eq_true rfl) rfl dX12_readSuit_17 (fun s2 => ?_)
  refine x_aload_n C (pc := 20) dX12_readSuit_20 rfl ?_
  refine x_callVv C (pc := 21) mv_X12_149 ht rfl [] (fun _ hr => ct_X12_goOnReading _ ht _ _ hr) ⟨Nat.le_of_ble_eq_true rfl, Nat.le_of_ble_eq_true rfl⟩ rfl (Nat.le_of_ble_eq_true rfl) rfl dX12_readSuit_21 (fun s3 => ?_)
  refine x_aload_n C (pc := 24) dX12_readSuit_24 rfl ?_
  refine x_iconst C (pc := 25) dX12_readSuit_25 kc_i_0 ?_
  refine x_iconst C (pc := 26) dX12_readSuit_26 kc_i_5 ?_
  refine x_callVim C (pc := 27) mv_X12_152 ht rfl [.int (nI 0), .int (nI 5)] (fun _ _ hr => ct_X12_number _ ht _ _ _ _ _ hr) ⟨Nat.le_of_ble_eq_true rfl, Nat.le_of_ble_eq_true rfl⟩ rfl (Nat.le_of_ble_eq_true rfl) rfl dX12_readSuit_27 (fun r4 s5 => ?_)
  refine x_istore_n C (pc := 30) (L' := fun i6 => [some (.ref t), some (.int i6), none]) dX12_readSuit_30 (by decide) (fun _ => rfl) (fun i6 => ?_)
  refine x_aload_n C (pc := 31) dX12_readSuit_31 rfl ?_
  refine x_iconst C (pc := 32) dX12_readSuit_32 kc_i_0 ?_
  refine x_aload_n C (pc := 33) dX12_readSuit_33 rfl ?_
  refine x_getR C (pc := 34) fg_X12_13 dX12_readSuit_34 ht ?_
  refine x_bipush C (pc := 37) dX12_readSuit_37 kc_b_16 ?_
  refine x_iald C (pc := 39) dX12_readSuit_39 (lkd_10_1 ht) (fun _ => ?_)
  refine x_iconst C (pc := 40) dX12_readSuit_40 kc_i_1 ?_
  refine x_isub C (pc := 41) dX12_readSuit_41 ?_
  refine x_callVim C (pc := 42) mv_X12_152 ht rfl [.int (nI 0), .int ((gI s5 (lk t 1) (Int32.toNatClampNeg (nI 16))) - (nI 1))] (fun _ _ hr => ct_X12_number _ ht _ _ _ _ _ hr) ⟨Nat.le_of_ble_eq_true rfl, Nat.le_of_ble_eq_true rfl⟩ rfl (Nat.le_of_ble_eq_true rfl) rfl dX12_readSuit_42 (fun r7 s8 => ?_)
  refine x_istore_n C (pc := 45) (L' := fun i9 => [some (.ref t), some (.int i6), some (.int i9)]) dX12_readSuit_45 (by decide) (fun _ => rfl) (fun i9 => ?_)
  refine x_aload_n C (pc := 46) dX12_readSuit_46 rfl ?_
  refine x_callVv C (pc := 47) mv_X12_155 ht rfl [] (fun _ hr => ct_X12_end _ ht _ _ hr) ⟨Nat.le_of_ble_eq_true rfl, Nat.le_of_ble_eq_true rfl⟩ rfl (Nat.le_of_ble_eq_true rfl) rfl dX12_readSuit_47 (fun s10 => ?_)
  refine x_aload_n C (pc := 50) dX12_readSuit_50 rfl ?_
  refine x_getI C (pc := 51) fg_X12_42 dX12_readSuit_51 ht ?_
  refine x_iconst C (pc := 54) dX12_readSuit_54 kc_i_m1 ?_
  refine x_icmp_ne C (pc := 55) (tgt := 67) dX12_readSuit_55 (by decide) (fun _ => ?_) (fun _ => ?_)
  · skip
    refine x_aload_n C (pc := 58) dX12_readSuit_58 rfl ?_
    refine x_getR C (pc := 59) fg_X12_13 dX12_readSuit_59 ht ?_
    refine x_iload_n C (pc := 62) dX12_readSuit_62 rfl ?_
    refine x_iload_n C (pc := 63) dX12_readSuit_63 rfl ?_
    refine x_callSv C (pc := 64) ms_X12_158 [.ref (lk t 1), .int i6, .int i9] (fun _ hr => ct_X12_files _ (lkd_10_1 ht) _ _ _ _ hr) ⟨Nat.le_of_ble_eq_true rfl, Nat.le_of_ble_eq_true rfl⟩ rfl (Nat.le_of_ble_eq_true rfl) rfl dX12_readSuit_64 (fun s11 => ?_)
    exact x_vret dX12_readSuit_67 (fun h => h)
  · skip
    exact x_vret dX12_readSuit_67 (fun h => h)
theorem ct_X12_readSuit (t : Nat) (ht : kd t = 10) (s0 : SS) (r : SS) (h : FX12_readSuit t s0 = some r) : CT 1 yX12_readSuit cX12_readSuit 3 none 4 87 [.ref t] s0 none r :=
  ct_of (by decide +kernel) (Or.inl ⟨rfl, rfl⟩) (lx_args [.ref t]) (lx_entry [.ref t] (fun _ => Nat.le_of_ble_eq_true rfl)) (fun o C hR => Yx.weak (lw_s (lw_z (lw_z lw_0))) (bd_X12_readSuit C t ht s0 r h hR))
def FX12_everyone (a : Nat) (s0 : SS) : Option (Int32) :=
  gd (inb (nI 16) (ln a)) (some ((((nI 1) <<< ((gI s0 a (Int32.toNatClampNeg (nI 16))) &&& 31)) - (nI 1))))
set_option maxRecDepth 100000 in
set_option maxHeartbeats 4000000 in
theorem bd_X12_everyone {o : Om} (C : Cx o RX12 cX12_everyone 1 (some .int) (rmx 0 0) 1) (a : Nat) (ha : kd a = 21) (s0 : SS) : Xo (FX12_everyone a s0) (fun r => RT o cX12_everyone (some (.int r)) s0) (Yx o 0 [some (.ref a)] [] s0) := by
  unfold FX12_everyone
  refine x_iconst C (pc := 0) dX12_everyone_0 kc_i_1 ?_
  refine x_aload_n C (pc := 1) dX12_everyone_1 rfl ?_
  refine x_bipush C (pc := 2) dX12_everyone_2 kc_b_16 ?_
  refine x_iald C (pc := 4) dX12_everyone_4 ha (fun _ => ?_)
  refine x_ishl C (pc := 5) dX12_everyone_5 ?_
  refine x_iconst C (pc := 6) dX12_everyone_6 kc_i_1 ?_
  refine x_isub C (pc := 7) dX12_everyone_7 ?_
  exact x_ret dX12_everyone_8 (fun h => h)
theorem ct_X12_everyone (a : Nat) (ha : kd a = 21) (s0 : SS) (r : Int32) (h : FX12_everyone a s0 = some r) : CT 1 yX12_everyone cX12_everyone 1 (some .int) 0 0 [.ref a] s0 (some (.int r)) s0 :=
  ct_of (by decide +kernel) (Or.inr (Or.inl ⟨_, rfl, _, rfl, rfl⟩)) (lx_args [.ref a]) (lx_entry [.ref a] (fun _ => Nat.le_of_ble_eq_true rfl)) (fun o C hR => Yx.weak (lw_s lw_0) (bd_X12_everyone C a ha s0 r h hR))
def FX12_has (a : Int32) (b : Int32) (s0 : SS) : Option (Int32) :=
  if ((a >>> (b &&& 31)) &&& (nI 1)) = (nI 1) then some ((nI 1)) else (some ((nI 0)))
set_option maxRecDepth 100000 in
set_option maxHeartbeats 4000000 in
theorem bd_X12_has {o : Om} (C : Cx o RX12 cX12_has 2 (some .boolean) (rmx 0 0) 1) (a : Int32) (b : Int32) (s0 : SS) : Xo (FX12_has a b s0) (fun r => zb r = true → RT o cX12_has (some (.int r)) s0) (Yx o 0 [some (.int a), some (.int b)] [] s0) := by
  unfold FX12_has
  refine x_iload_n C (pc := 0) dX12_has_0 rfl ?_
  refine x_iload_n C (pc := 1) dX12_has_1 rfl ?_
  refine x_ishr C (pc := 2) dX12_has_2 ?_
  refine x_iconst C (pc := 3) dX12_has_3 kc_i_1 ?_
  refine x_iand C (pc := 4) dX12_has_4 ?_
  refine x_iconst C (pc := 5) dX12_has_5 kc_i_1 ?_
  refine x_icmp_ne C (pc := 6) (tgt := 13) dX12_has_6 (by decide) (fun _ => ?_) (fun _ => ?_)
  · skip
    refine x_iconst C (pc := 9) dX12_has_9 kc_i_1 ?_
    refine x_goto C (pc := 10) (tgt := 14) dX12_has_10 (by decide) ?_
    exact x_ret dX12_has_14 (fun h => h zb_1)
  · skip
    refine x_iconst C (pc := 13) dX12_has_13 kc_i_0 ?_
    exact x_ret dX12_has_14 (fun h => h zb_0)
theorem ct_X12_has (a : Int32) (b : Int32) (s0 : SS) (r : Int32) (h : FX12_has a b s0 = some r) : CT 1 yX12_has cX12_has 2 (some .boolean) 0 0 [.int a, .int b] s0 (some (.int r)) s0 :=
  ct_ofz (by decide +kernel) rfl (lx_args [.int a, .int b]) (lx_entry [.int a, .int b] (fun _ => Nat.le_of_ble_eq_true rfl)) (fun o C hR => Yx.weak (lw_s (lw_s lw_0)) (bd_X12_has C a b s0 r h hR))
def FX12_userOf (a : Nat) (b : Int32) (c : Int32) (s0 : SS) : Option (Int32) :=
  gd (inb (((nI 17) + ((nI 4) * b)) + c) (ln a)) (some ((gI s0 a (Int32.toNatClampNeg (((nI 17) + ((nI 4) * b)) + c)))))
set_option maxRecDepth 100000 in
set_option maxHeartbeats 4000000 in
theorem bd_X12_userOf {o : Om} (C : Cx o RX12 cX12_userOf 3 (some .int) (rmx 0 0) 1) (a : Nat) (ha : kd a = 21) (b : Int32) (c : Int32) (s0 : SS) : Xo (FX12_userOf a b c s0) (fun r => RT o cX12_userOf (some (.int r)) s0) (Yx o 0 [some (.ref a), some (.int b), some (.int c)] [] s0) := by
  unfold FX12_userOf
  refine x_aload_n C (pc := 0) dX12_userOf_0 rfl ?_
  refine x_bipush C (pc := 1) dX12_userOf_1 kc_b_17 ?_
  refine x_iconst C (pc := 3) dX12_userOf_3 kc_i_4 ?_
  refine x_iload_n C (pc := 4) dX12_userOf_4 rfl ?_
  refine x_imul C (pc := 5) dX12_userOf_5 ?_
  refine x_iadd C (pc := 6) dX12_userOf_6 ?_
  refine x_iload_n C (pc := 7) dX12_userOf_7 rfl ?_
  refine x_iadd C (pc := 8) dX12_userOf_8 ?_
  refine x_iald C (pc := 9) dX12_userOf_9 ha (fun _ => ?_)
  exact x_ret dX12_userOf_10 (fun h => h)
theorem ct_X12_userOf (a : Nat) (ha : kd a = 21) (b : Int32) (c : Int32) (s0 : SS) (r : Int32) (h : FX12_userOf a b c s0 = some r) : CT 1 yX12_userOf cX12_userOf 3 (some .int) 0 0 [.ref a, .int b, .int c] s0 (some (.int r)) s0 :=
  ct_of (by decide +kernel) (Or.inr (Or.inl ⟨_, rfl, _, rfl, rfl⟩)) (lx_args [.ref a, .int b, .int c]) (lx_entry [.ref a, .int b, .int c] (fun _ => Nat.le_of_ble_eq_true rfl)) (fun o C hR => Yx.weak (lw_s (lw_s (lw_s lw_0))) (bd_X12_userOf C a ha b c s0 r h hR))
def FX12_taken (a : Int32) (b : Int32) (c : Int32) (s0 : SS) : Option (Int32) :=
  nm ((c + (nI 2)) / (nI 3)) (fun (i1 : Int32) => bd (if b ≤ i1 then some (b) else (some (i1))) (fun (j2 : Int32) => nm j2 (fun (i3 : Int32) => if a = (nI 0) then some (i1) else (if a = (nI 1) then some ((i1 / (nI 2))) else (if a = (nI 2) then some (i3) else (if a = (nI 3) then if c ≤ 0 then some ((nI 0)) else (some ((nI 1))) else (if a = (nI 4) then if c ≤ ((i1 / (nI 2)) + b) then some (c) else (some (((i1 / (nI 2)) + b))) else (if c ≤ ((nI 2) * i3) then some (c) else (some (((nI 2) * i3)))))))))))
set_option maxRecDepth 100000 in
set_option maxHeartbeats 4000000 in
theorem bd_X12_taken {o : Om} (C : Cx o RX12 cX12_taken 5 (some .int) (rmx 0 0) 1) (a : Int32) (b : Int32) (c : Int32) (s0 : SS) : Xo (FX12_taken a b c s0) (fun r => RT o cX12_taken (some (.int r)) s0) (Yx o 0 [some (.int a), some (.int b), some (.int c), none, none] [] s0) := by
  unfold FX12_taken
  refine x_iload_n C (pc := 0) dX12_taken_0 rfl ?_
  refine x_iconst C (pc := 1) dX12_taken_1 kc_i_2 ?_
  refine x_iadd C (pc := 2) dX12_taken_2 ?_
  refine x_iconst C (pc := 3) dX12_taken_3 kc_i_3 ?_
  refine x_idiv C (pc := 4) dX12_taken_4 (by decide +kernel) ?_
  refine x_istore_n C (pc := 5) (L' := fun i1 => [some (.int a), some (.int b), some (.int c), some (.int i1), none]) dX12_taken_5 (by decide) (fun _ => rfl) (fun i1 => ?_)
  refine x_iload_n C (pc := 6) dX12_taken_6 rfl ?_
  refine x_iload_n C (pc := 7) dX12_taken_7 rfl ?_
  refine xb_1 (Z1 := fun j2 => Yx o 16 [some (.int a), some (.int b), some (.int c), some (.int i1), none] [.int j2] s0) ?_ (fun j2 => ?_)
  · skip
    refine x_icmp_ge C (pc := 8) (tgt := 15) dX12_taken_8 (by decide) (fun _ => ?_) (fun _ => ?_)
    · skip
      refine x_iload_n C (pc := 15) dX12_taken_15 rfl ?_
      exact Xo.done (fun h => Yx.weak (lw_s (lw_s (lw_s (lw_s (lw_n lw_0))))) h)
    · skip
      refine x_iload_n C (pc := 11) dX12_taken_11 rfl ?_
      refine x_goto C (pc := 12) (tgt := 16) dX12_taken_12 (by decide) ?_
      exact Xo.done (fun h => Yx.weak (lw_s (lw_s (lw_s (lw_s (lw_n lw_0))))) h)
  refine x_istore C (pc := 16) (L' := fun i3 => [some (.int a), some (.int b), some (.int c), some (.int i1), some (.int i3)]) dX12_taken_16 (by decide) (fun _ => rfl) (fun i3 => ?_)
  refine x_iload_n C (pc := 18) dX12_taken_18 rfl ?_
  refine Xo.ite (fun hq4 => ?_) (fun hq4 => ?_)
  · refine x_tabI C (pc := 19) (tgt := 52) (off := 33) dX12_taken_19 hq4 (by decide +kernel) (by decide +kernel) (by decide +kernel) (by decide) ?_
    refine x_iload_n C (pc := 52) dX12_taken_52 rfl ?_
    exact x_ret dX12_taken_53 (fun h => h)
  refine Xo.ite (fun hq5 => ?_) (fun hq5 => ?_)
  · refine x_tabI C (pc := 19) (tgt := 54) (off := 35) dX12_taken_19 hq5 (by decide +kernel) (by decide +kernel) (by decide +kernel) (by decide) ?_
    refine x_iload_n C (pc := 54) dX12_taken_54 rfl ?_
    refine x_iconst C (pc := 55) dX12_taken_55 kc_i_2 ?_
    refine x_idiv C (pc := 56) dX12_taken_56 (by decide +kernel) ?_
    exact x_ret dX12_taken_57 (fun h => h)
  refine Xo.ite (fun hq6 => ?_) (fun hq6 => ?_)
  · refine x_tabI C (pc := 19) (tgt := 58) (off := 39) dX12_taken_19 hq6 (by decide +kernel) (by decide +kernel) (by decide +kernel) (by decide) ?_
    refine x_iload C (pc := 58) dX12_taken_58 rfl ?_
    exact x_ret dX12_taken_60 (fun h => h)
  refine Xo.ite (fun hq7 => ?_) (fun hq7 => ?_)
  · refine x_tabI C (pc := 19) (tgt := 61) (off := 42) dX12_taken_19 hq7 (by decide +kernel) (by decide +kernel) (by decide +kernel) (by decide) ?_
    refine x_iload_n C (pc := 61) dX12_taken_61 rfl ?_
    refine x_if_le C (pc := 62) (tgt := 69) dX12_taken_62 (by decide) (fun _ => ?_) (fun _ => ?_)
    · skip
      refine x_iconst C (pc := 69) dX12_taken_69 kc_i_0 ?_
      exact x_ret dX12_taken_70 (fun h => h)
    · skip
      refine x_iconst C (pc := 65) dX12_taken_65 kc_i_1 ?_
      refine x_goto C (pc := 66) (tgt := 70) dX12_taken_66 (by decide) ?_
      exact x_ret dX12_taken_70 (fun h => h)
  refine Xo.ite (fun hq8 => ?_) (fun hq8 => ?_)
  · refine x_tabI C (pc := 19) (tgt := 71) (off := 52) dX12_taken_19 hq8 (by decide +kernel) (by decide +kernel) (by decide +kernel) (by decide) ?_
    refine x_iload_n C (pc := 71) dX12_taken_71 rfl ?_
    refine x_iconst C (pc := 72) dX12_taken_72 kc_i_2 ?_
    refine x_idiv C (pc := 73) dX12_taken_73 (by decide +kernel) ?_
    refine x_iload_n C (pc := 74) dX12_taken_74 rfl ?_
    refine x_iadd C (pc := 75) dX12_taken_75 ?_
    refine x_iload_n C (pc := 76) dX12_taken_76 rfl ?_
    refine x_icmp_ge C (pc := 77) (tgt := 88) dX12_taken_77 (by decide) (fun _ => ?_) (fun _ => ?_)
    · skip
      refine x_iload_n C (pc := 88) dX12_taken_88 rfl ?_
      exact x_ret dX12_taken_89 (fun h => h)
    · skip
      refine x_iload_n C (pc := 80) dX12_taken_80 rfl ?_
      refine x_iconst C (pc := 81) dX12_taken_81 kc_i_2 ?_
      refine x_idiv C (pc := 82) dX12_taken_82 (by decide +kernel) ?_
      refine x_iload_n C (pc := 83) dX12_taken_83 rfl ?_
      refine x_iadd C (pc := 84) dX12_taken_84 ?_
      refine x_goto C (pc := 85) (tgt := 89) dX12_taken_85 (by decide) ?_
      exact x_ret dX12_taken_89 (fun h => h)
  have hT := tab_out (x := a) (lo := 0) (hi := 4) 5 (fun j hj => by
    rcases j with _ | j
    · exact lv_neT hq4 (by decide +kernel)
    rcases j with _ | j
    · exact lv_neT hq5 (by decide +kernel)
    rcases j with _ | j
    · exact lv_neT hq6 (by decide +kernel)
    rcases j with _ | j
    · exact lv_neT hq7 (by decide +kernel)
    rcases j with _ | j
    · exact lv_neT hq8 (by decide +kernel)
    exact absurd hj (by omega)) (by decide)
  refine x_tabO C (pc := 19) (tgt := 90) dX12_taken_19 hT (by decide) ?_
  refine x_iconst C (pc := 90) dX12_taken_90 kc_i_2 ?_
  refine x_iload C (pc := 91) dX12_taken_91 rfl ?_
  refine x_imul C (pc := 93) dX12_taken_93 ?_
  refine x_iload_n C (pc := 94) dX12_taken_94 rfl ?_
  refine x_icmp_ge C (pc := 95) (tgt := 105) dX12_taken_95 (by decide) (fun _ => ?_) (fun _ => ?_)
  · skip
    refine x_iload_n C (pc := 105) dX12_taken_105 rfl ?_
    exact x_ret dX12_taken_106 (fun h => h)
  · skip
    refine x_iconst C (pc := 98) dX12_taken_98 kc_i_2 ?_
    refine x_iload C (pc := 99) dX12_taken_99 rfl ?_
    refine x_imul C (pc := 101) dX12_taken_101 ?_
    refine x_goto C (pc := 102) (tgt := 106) dX12_taken_102 (by decide) ?_
    exact x_ret dX12_taken_106 (fun h => h)
theorem ct_X12_taken (a : Int32) (b : Int32) (c : Int32) (s0 : SS) (r : Int32) (h : FX12_taken a b c s0 = some r) : CT 1 yX12_taken cX12_taken 5 (some .int) 0 0 [.int a, .int b, .int c] s0 (some (.int r)) s0 :=
  ct_of (by decide +kernel) (Or.inr (Or.inl ⟨_, rfl, _, rfl, rfl⟩)) (lx_args [.int a, .int b, .int c]) (lx_entry [.int a, .int b, .int c] (fun _ => Nat.le_of_ble_eq_true rfl)) (fun o C hR => Yx.weak (lw_s (lw_s (lw_s (lw_z (lw_z lw_0))))) (bd_X12_taken C a b c s0 r h hR))
def FX12_blow (t : Nat) (a : Nat) (b : Int32) (c : Int32) (d : Int32) (s0 : SS) : Option (SS) :=
  nm b (fun (i1 : Int32) => nm (nI 0) (fun (i2 : Int32) => bd (lp FUEL (u3 (fun (n3 : Int32) (n4 : Int32) (s5 : SS) => if (nI 12) ≤ n4 then some (Sum.inr s5) else (bd (if c = 0 then some (n4) else (some (((nI 11) - n4)))) (fun (j6 : Int32) => nm j6 (fun (i7 : Int32) => gd (inb i7 (ln (lk t 8))) (nm (pI s5 (lk t 8) (Int32.toNatClampNeg i7) n3) (fun (s8 : SS) => nm (nI 0) (fun (i9 : Int32) => bd (lp FUEL (u3 (fun (n10 : Int32) (n11 : Int32) (s12 : SS) => gd (inb (nI 16) (ln a)) (if (gI s12 a (Int32.toNatClampNeg (nI 16))) ≤ n11 then some (Sum.inr (n10, s12)) else (bd (FX12_has d n11 s12) (fun (r13 : Int32) => bd (if r13 = 0 then some ((n10, s12)) else (bd (FX12_userOf a n11 (nI 1) s12) (fun (r14 : Int32) => if r14 = i7 then bd (FX12_userOf a n11 (nI 0) s12) (fun (r15 : Int32) => bd (FX12_userOf a n11 (nI 2) s12) (fun (r16 : Int32) => bd (FX12_taken r15 r16 n10 s12) (fun (r17 : Int32) => gd (inb n11 (ln (lk t 7))) (nm (pI s12 (lk t 7) (Int32.toNatClampNeg n11) r17) (fun (s18 : SS) => gd (inb n11 (ln (lk t 7))) (nm (n10 - (gI s18 (lk t 7) (Int32.toNatClampNeg n11))) (fun (i19 : Int32) => some ((i19, s18))))))))) else (some ((n10, s12)))))) (u2 (fun (j20 : Int32) (s21 : SS) => nm (n11 + (nI 1)) (fun (i22 : Int32) => some (Sum.inl (j20, i22, s21)))))))))) (n3, i9, s8)) (u2 (fun (e23 : Int32) (s24 : SS) => gd (inb i7 (ln (lk t 9))) (nm (pI s24 (lk t 9) (Int32.toNatClampNeg i7) e23) (fun (s25 : SS) => bd (if b ≤ e23 then some (b) else (some ((e23 + (nI 1))))) (fun (j26 : Int32) => nm j26 (fun (i27 : Int32) => nm (n4 + (nI 1)) (fun (i28 : Int32) => some (Sum.inl (i27, i28, s25))))))))))))))))) (i1, i2, s0)) (fun (s29 : SS) => some (s29))))
set_option maxRecDepth 100000 in
set_option maxHeartbeats 4000000 in
theorem bd_X12_blow {o : Om} (C : Cx o RX12 cX12_blow 9 none (rmx 1 24) 1) (t : Nat) (ht : kd t = 10) (a : Nat) (ha : kd a = 21) (b : Int32) (c : Int32) (d : Int32) (s0 : SS) : Xo (FX12_blow t a b c d s0) (fun r => RT o cX12_blow none r) (Yx o 0 [some (.ref t), some (.ref a), some (.int b), some (.int c), some (.int d), none, none, none, none] [] s0) := by
  unfold FX12_blow
  refine x_iload_n C (pc := 0) dX12_blow_0 rfl ?_
  refine x_istore C (pc := 1) (L' := fun i1 => [some (.ref t), some (.ref a), some (.int b), some (.int c), some (.int d), some (.int i1), none, none, none]) dX12_blow_1 (by decide) (fun _ => rfl) (fun i1 => ?_)
  refine x_iconst C (pc := 3) dX12_blow_3 kc_i_0 ?_
  refine x_istore C (pc := 4) (L' := fun i2 => [some (.ref t), some (.ref a), some (.int b), some (.int c), some (.int d), some (.int i1), some (.int i2), none, none]) dX12_blow_4 (by decide) (fun _ => rfl) (fun i2 => ?_)
  refine xb_1 (Z1 := (fun s29 => Yx o 147 [none, none, none, none, none, none, none, none, none] [] s29)) ?_ (fun s29 => ?_)
  · refine Xo.mono (Yx.weak (lw_s (lw_s (lw_s (lw_s (lw_s (lw_s (lw_s (lw_n (lw_n lw_0)))))))))) (x_lp3 (fr := fun n3 n4 s5 => Yx o 6 [some (.ref t), some (.ref a), some (.int b), some (.int c), some (.int d), some (.int n3), some (.int n4), none, none] [] s5) _ _ _ (fun n3 n4 s5 => ?_))
    refine x_iload C (pc := 6) dX12_blow_6 rfl ?_
    refine x_bipush C (pc := 8) dX12_blow_8 kc_b_12 ?_
    refine x_icmp_ge C (pc := 10) (tgt := 147) dX12_blow_10 (by decide) (fun _ => ?_) (fun _ => ?_)
    · skip
      exact Xo.done (fun h => Yx.weak (lw_n (lw_n (lw_n (lw_n (lw_n (lw_n (lw_n (lw_n (lw_n lw_0))))))))) h)
    · skip
      refine x_iload_n C (pc := 13) dX12_blow_13 rfl ?_
      refine xb_1 (Z1 := fun j6 => Yx o 27 [some (.ref t), some (.ref a), some (.int b), some (.int c), some (.int d), some (.int n3), some (.int n4), none, none] [.int j6] s5) ?_ (fun j6 => ?_)
      · skip
        refine x_if_ne C (pc := 14) (tgt := 22) dX12_blow_14 (by decide) (fun _ => ?_) (fun _ => ?_)
        · skip
          refine x_iload C (pc := 17) dX12_blow_17 rfl ?_
          refine x_goto C (pc := 19) (tgt := 27) dX12_blow_19 (by decide) ?_
          exact Xo.done (fun h => Yx.weak (lw_s (lw_s (lw_s (lw_s (lw_s (lw_s (lw_s (lw_n (lw_n lw_0))))))))) h)
        · skip
          refine x_bipush C (pc := 22) dX12_blow_22 kc_b_11 ?_
          refine x_iload C (pc := 24) dX12_blow_24 rfl ?_
          refine x_isub C (pc := 26) dX12_blow_26 ?_
          exact Xo.done (fun h => Yx.weak (lw_s (lw_s (lw_s (lw_s (lw_s (lw_s (lw_s (lw_n (lw_n lw_0))))))))) h)
      refine x_istore C (pc := 27) (L' := fun i7 => [some (.ref t), some (.ref a), some (.int b), some (.int c), some (.int d), some (.int n3), some (.int n4), some (.int i7), none]) dX12_blow_27 (by decide) (fun _ => rfl) (fun i7 => ?_)
      refine x_aload_n C (pc := 29) dX12_blow_29 rfl ?_
      refine x_getR C (pc := 30) fg_X12_33 dX12_blow_30 ht ?_
      refine x_iload C (pc := 33) dX12_blow_33 rfl ?_
      refine x_iload C (pc := 35) dX12_blow_35 rfl ?_
      refine x_iastn C (pc := 37) dX12_blow_37 (lkd_10_8 ht) (fun s8 => ?_)
      refine x_iconst C (pc := 38) dX12_blow_38 kc_i_0 ?_
      refine x_istore C (pc := 39) (L' := fun i9 => [some (.ref t), some (.ref a), some (.int b), some (.int c), some (.int d), some (.int n3), some (.int n4), some (.int i7), some (.int i9)]) dX12_blow_39 (by decide) (fun _ => rfl) (fun i9 => ?_)
      refine xb_2 (Z1 := (fun e23 s24 => Yx o 116 [some (.ref t), some (.ref a), some (.int b), some (.int c), some (.int d), some (.int e23), some (.int n4), some (.int i7), none] [] s24)) ?_ (fun e23 s24 => ?_)
      · refine Xo.mono (Yx.weak (lw_s (lw_s (lw_s (lw_s (lw_s (lw_s (lw_s (lw_s (lw_s lw_0)))))))))) (x_lp3 (fr := fun n10 n11 s12 => Yx o 41 [some (.ref t), some (.ref a), some (.int b), some (.int c), some (.int d), some (.int n10), some (.int n4), some (.int i7), some (.int n11)] [] s12) _ _ _ (fun n10 n11 s12 => ?_))
        refine x_iload C (pc := 41) dX12_blow_41 rfl ?_
        refine x_aload_n C (pc := 43) dX12_blow_43 rfl ?_
        refine x_bipush C (pc := 44) dX12_blow_44 kc_b_16 ?_
        refine x_iald C (pc := 46) dX12_blow_46 ha (fun _ => ?_)
        refine x_icmp_ge C (pc := 47) (tgt := 116) dX12_blow_47 (by decide) (fun _ => ?_) (fun _ => ?_)
        · skip
          exact Xo.done (fun h => Yx.weak (lw_s (lw_s (lw_s (lw_s (lw_s (lw_s (lw_s (lw_s (lw_n lw_0))))))))) h)
        · skip
          refine x_iload C (pc := 50) dX12_blow_50 rfl ?_
          refine x_iload C (pc := 52) dX12_blow_52 rfl ?_
          refine x_callSi C (pc := 54) ms_X12_62 [.int d, .int n11] (fun _ hr => ct_X12_has _ _ _ _ hr) ⟨Nat.le_of_ble_eq_true rfl, Nat.le_of_ble_eq_true rfl⟩ rfl (Nat.le_of_ble_eq_true rfl) rfl dX12_blow_54 (fun r13 => ?_)
          refine xb_2 (Z1 := fun j20 s21 => Yx o 110 [some (.ref t), some (.ref a), some (.int b), some (.int c), some (.int d), some (.int j20), some (.int n4), some (.int i7), some (.int n11)] [] s21) ?_ (fun j20 s21 => ?_)
          · skip
            refine x_if_eq C (pc := 57) (tgt := 110) dX12_blow_57 (by decide) (fun _ => ?_) (fun _ => ?_)
            · skip
              exact Xo.done (fun h => Yx.weak (lw_s (lw_s (lw_s (lw_s (lw_s (lw_s (lw_s (lw_s (lw_s lw_0))))))))) h)
            · skip
              refine x_aload_n C (pc := 60) dX12_blow_60 rfl ?_
              refine x_iload C (pc := 61) dX12_blow_61 rfl ?_
              refine x_iconst C (pc := 63) dX12_blow_63 kc_i_1 ?_
              refine x_callSi C (pc := 64) ms_X12_66 [.ref a, .int n11, .int (nI 1)] (fun _ hr => ct_X12_userOf _ ha _ _ _ _ hr) ⟨Nat.le_of_ble_eq_true rfl, Nat.le_of_ble_eq_true rfl⟩ rfl (Nat.le_of_ble_eq_true rfl) rfl dX12_blow_64 (fun r14 => ?_)
              refine x_iload C (pc := 67) dX12_blow_67 rfl ?_
              refine x_icmp_ne C (pc := 69) (tgt := 110) dX12_blow_69 (by decide) (fun _ => ?_) (fun _ => ?_)
              · skip
                refine x_aload_n C (pc := 72) dX12_blow_72 rfl ?_
                refine x_getR C (pc := 73) fg_X12_30 dX12_blow_73 ht ?_
                refine x_iload C (pc := 76) dX12_blow_76 rfl ?_
                refine x_aload_n C (pc := 78) dX12_blow_78 rfl ?_
                refine x_iload C (pc := 79) dX12_blow_79 rfl ?_
                refine x_iconst C (pc := 81) dX12_blow_81 kc_i_0 ?_
                refine x_callSi C (pc := 82) ms_X12_66 [.ref a, .int n11, .int (nI 0)] (fun _ hr => ct_X12_userOf _ ha _ _ _ _ hr) ⟨Nat.le_of_ble_eq_true rfl, Nat.le_of_ble_eq_true rfl⟩ rfl (Nat.le_of_ble_eq_true rfl) rfl dX12_blow_82 (fun r15 => ?_)
                refine x_aload_n C (pc := 85) dX12_blow_85 rfl ?_
                refine x_iload C (pc := 86) dX12_blow_86 rfl ?_
                refine x_iconst C (pc := 88) dX12_blow_88 kc_i_2 ?_
                refine x_callSi C (pc := 89) ms_X12_66 [.ref a, .int n11, .int (nI 2)] (fun _ hr => ct_X12_userOf _ ha _ _ _ _ hr) ⟨Nat.le_of_ble_eq_true rfl, Nat.le_of_ble_eq_true rfl⟩ rfl (Nat.le_of_ble_eq_true rfl) rfl dX12_blow_89 (fun r16 => ?_)
                refine x_iload C (pc := 92) dX12_blow_92 rfl ?_
                refine x_callSi C (pc := 94) ms_X12_70 [.int r15, .int r16, .int n10] (fun _ hr => ct_X12_taken _ _ _ _ _ hr) ⟨Nat.le_of_ble_eq_true rfl, Nat.le_of_ble_eq_true rfl⟩ rfl (Nat.le_of_ble_eq_true rfl) rfl dX12_blow_94 (fun r17 => ?_)
                refine x_iastn C (pc := 97) dX12_blow_97 (lkd_10_7 ht) (fun s18 => ?_)
                refine x_iload C (pc := 98) dX12_blow_98 rfl ?_
                refine x_aload_n C (pc := 100) dX12_blow_100 rfl ?_
                refine x_getR C (pc := 101) fg_X12_30 dX12_blow_101 ht ?_
                refine x_iload C (pc := 104) dX12_blow_104 rfl ?_
                refine x_iald C (pc := 106) dX12_blow_106 (lkd_10_7 ht) (fun _ => ?_)
                refine x_isub C (pc := 107) dX12_blow_107 ?_
                refine x_istore C (pc := 108) (L' := fun i19 => [some (.ref t), some (.ref a), some (.int b), some (.int c), some (.int d), some (.int i19), some (.int n4), some (.int i7), some (.int n11)]) dX12_blow_108 (by decide) (fun _ => rfl) (fun i19 => ?_)
                exact Xo.done (fun h => Yx.weak (lw_s (lw_s (lw_s (lw_s (lw_s (lw_s (lw_s (lw_s (lw_s lw_0))))))))) h)
              · skip
                exact Xo.done (fun h => Yx.weak (lw_s (lw_s (lw_s (lw_s (lw_s (lw_s (lw_s (lw_s (lw_s lw_0))))))))) h)
          refine x_iinc C (pc := 110) (L' := fun i22 => [some (.ref t), some (.ref a), some (.int b), some (.int c), some (.int d), some (.int j20), some (.int n4), some (.int i7), some (.int i22)]) dX12_blow_110 rfl kc_i_1 (by decide) (fun _ => rfl) (fun i22 => ?_)
          refine x_goto C (pc := 113) (tgt := 41) dX12_blow_113 (by decide) ?_
          exact Xo.done (fun h => Yx.weak (lw_s (lw_s (lw_s (lw_s (lw_s (lw_s (lw_s (lw_s (lw_s lw_0))))))))) h)
      refine x_aload_n C (pc := 116) dX12_blow_116 rfl ?_
      refine x_getR C (pc := 117) fg_X12_36 dX12_blow_117 ht ?_
      refine x_iload C (pc := 120) dX12_blow_120 rfl ?_
      refine x_iload C (pc := 122) dX12_blow_122 rfl ?_
      refine x_iastn C (pc := 124) dX12_blow_124 (lkd_10_9 ht) (fun s25 => ?_)
      refine x_iload C (pc := 125) dX12_blow_125 rfl ?_
      refine x_iload_n C (pc := 127) dX12_blow_127 rfl ?_
      refine xb_1 (Z1 := fun j26 => Yx o 139 [some (.ref t), some (.ref a), some (.int b), some (.int c), some (.int d), none, some (.int n4), none, none] [.int j26] s25) ?_ (fun j26 => ?_)
      · skip
        refine x_icmp_ge C (pc := 128) (tgt := 138) dX12_blow_128 (by decide) (fun _ => ?_) (fun _ => ?_)
        · skip
          refine x_iload_n C (pc := 138) dX12_blow_138 rfl ?_
          exact Xo.done (fun h => Yx.weak (lw_s (lw_s (lw_s (lw_s (lw_s (lw_n (lw_s (lw_n (lw_n lw_0))))))))) h)
        · skip
          refine x_iload C (pc := 131) dX12_blow_131 rfl ?_
          refine x_iconst C (pc := 133) dX12_blow_133 kc_i_1 ?_
          refine x_iadd C (pc := 134) dX12_blow_134 ?_
          refine x_goto C (pc := 135) (tgt := 139) dX12_blow_135 (by decide) ?_
          exact Xo.done (fun h => Yx.weak (lw_s (lw_s (lw_s (lw_s (lw_s (lw_n (lw_s (lw_n (lw_n lw_0))))))))) h)
      refine x_istore C (pc := 139) (L' := fun i27 => [some (.ref t), some (.ref a), some (.int b), some (.int c), some (.int d), some (.int i27), some (.int n4), none, none]) dX12_blow_139 (by decide) (fun _ => rfl) (fun i27 => ?_)
      refine x_iinc C (pc := 141) (L' := fun i28 => [some (.ref t), some (.ref a), some (.int b), some (.int c), some (.int d), some (.int i27), some (.int i28), none, none]) dX12_blow_141 rfl kc_i_1 (by decide) (fun _ => rfl) (fun i28 => ?_)
      refine x_goto C (pc := 144) (tgt := 6) dX12_blow_144 (by decide) ?_
      exact Xo.done (fun h => Yx.weak (lw_s (lw_s (lw_s (lw_s (lw_s (lw_s (lw_s (lw_n (lw_n lw_0))))))))) h)
  exact x_vret dX12_blow_147 (fun h => h)
theorem ct_X12_blow (t : Nat) (ht : kd t = 10) (a : Nat) (ha : kd a = 21) (b : Int32) (c : Int32) (d : Int32) (s0 : SS) (r : SS) (h : FX12_blow t a b c d s0 = some r) : CT 1 yX12_blow cX12_blow 9 none 1 24 [.ref t, .ref a, .int b, .int c, .int d] s0 none r :=
  ct_of (by decide +kernel) (Or.inl ⟨rfl, rfl⟩) (lx_args [.ref t, .ref a, .int b, .int c, .int d]) (lx_entry [.ref t, .ref a, .int b, .int c, .int d] (fun _ => Nat.le_of_ble_eq_true rfl)) (fun o C hR => Yx.weak (lw_s (lw_s (lw_s (lw_s (lw_s (lw_z (lw_z (lw_z (lw_z lw_0))))))))) (bd_X12_blow C t ht a ha b c d s0 r h hR))
def FX12_blowOf (t : Nat) (a : Nat) (b : Int32) (c : Int32) (s0 : SS) : Option (SS) :=
  gd (inb ((nI 2) * (b - b / (nI 8) * (nI 8))) (ln a)) (gd (inb (((nI 2) * (b - b / (nI 8) * (nI 8))) + (nI 1)) (ln a)) (bd (FX12_blow t a (gI s0 a (Int32.toNatClampNeg ((nI 2) * (b - b / (nI 8) * (nI 8))))) (gI s0 a (Int32.toNatClampNeg (((nI 2) * (b - b / (nI 8) * (nI 8))) + (nI 1)))) c s0) (fun (s1 : SS) => some (s1))))
set_option maxRecDepth 100000 in
set_option maxHeartbeats 4000000 in
theorem bd_X12_blowOf {o : Om} (C : Cx o RX12 cX12_blowOf 4 none (rmx 2 52) 1) (t : Nat) (ht : kd t = 10) (a : Nat) (ha : kd a = 21) (b : Int32) (c : Int32) (s0 : SS) : Xo (FX12_blowOf t a b c s0) (fun r => RT o cX12_blowOf none r) (Yx o 0 [some (.ref t), some (.ref a), some (.int b), some (.int c)] [] s0) := by
  unfold FX12_blowOf
  refine x_aload_n C (pc := 0) dX12_blowOf_0 rfl ?_
  refine x_aload_n C (pc := 1) dX12_blowOf_1 rfl ?_
  refine x_aload_n C (pc := 2) dX12_blowOf_2 rfl ?_
  refine x_iconst C (pc := 3) dX12_blowOf_3 kc_i_2 ?_
  refine x_iload_n C (pc := 4) dX12_blowOf_4 rfl ?_
  refine x_bipush C (pc := 5) dX12_blowOf_5 kc_b_8 ?_
  refine x_irem C (pc := 7) dX12_blowOf_7 (by decide +kernel) ?_
  refine x_imul C (pc := 8) dX12_blowOf_8 ?_
  refine x_iald C (pc := 9) dX12_blowOf_9 ha (fun _ => ?_)
  refine x_aload_n C (pc := 10) dX12_blowOf_10 rfl ?_
  refine x_iconst C (pc := 11) dX12_blowOf_11 kc_i_2 ?_
  refine x_iload_n C (pc := 12) dX12_blowOf_12 rfl ?_
  refine x_bipush C (pc := 13) dX12_blowOf_13 kc_b_8 ?_
  refine x_irem C (pc := 15) dX12_blowOf_15 (by decide +kernel) ?_
  refine x_imul C (pc := 16) dX12_blowOf_16 ?_
  refine x_iconst C (pc := 17) dX12_blowOf_17 kc_i_1 ?_
  refine x_iadd C (pc := 18) dX12_blowOf_18 ?_
  refine x_iald C (pc := 19) dX12_blowOf_19 ha (fun _ => ?_)
  refine x_iload_n C (pc := 20) dX12_blowOf_20 rfl ?_
  refine x_callVv C (pc := 21) mv_X12_74 ht rfl [.ref a, .int (gI s0 a (Int32.toNatClampNeg ((nI 2) * (b - b / (nI 8) * (nI 8))))), .int (gI s0 a (Int32.toNatClampNeg (((nI 2) * (b - b / (nI 8) * (nI 8))) + (nI 1)))), .int c] (fun _ hr => ct_X12_blow _ ht _ ha _ _ _ _ _ hr) ⟨Nat.le_of_ble_eq_true rfl, Nat.le_of_ble_eq_true rfl⟩ rfl (Nat.le_of_ble_eq_true rfl) rfl dX12_blowOf_21 (fun s1 => ?_)
  exact x_vret dX12_blowOf_24 (fun h => h)
theorem ct_X12_blowOf (t : Nat) (ht : kd t = 10) (a : Nat) (ha : kd a = 21) (b : Int32) (c : Int32) (s0 : SS) (r : SS) (h : FX12_blowOf t a b c s0 = some r) : CT 1 yX12_blowOf cX12_blowOf 4 none 2 52 [.ref t, .ref a, .int b, .int c] s0 none r :=
  ct_of (by decide +kernel) (Or.inl ⟨rfl, rfl⟩) (lx_args [.ref t, .ref a, .int b, .int c]) (lx_entry [.ref t, .ref a, .int b, .int c] (fun _ => Nat.le_of_ble_eq_true rfl)) (fun o C hR => Yx.weak (lw_s (lw_s (lw_s (lw_s lw_0)))) (bd_X12_blowOf C t ht a ha b c s0 r h hR))
def FX12_rentOf (a : Int32) (b : Int32) (s0 : SS) : Option (Int32) :=
  if a = (nI 0) then some (((nI 3) * b)) else (if a = (nI 1) then some (((nI 3) * b)) else (if a = (nI 2) then if b ≤ 0 then some ((nI 0)) else (some ((((nI 3) * b) + (nI 1)))) else (if a = (nI 3) then some ((nI 0)) else (if a = (nI 4) then some (((nI 6) * b)) else (if b ≤ 0 then some ((nI 0)) else (some ((((nI 3) * b) + (nI 1)))))))))
set_option maxRecDepth 100000 in
set_option maxHeartbeats 4000000 in
theorem bd_X12_rentOf {o : Om} (C : Cx o RX12 cX12_rentOf 2 (some .int) (rmx 0 0) 1) (a : Int32) (b : Int32) (s0 : SS) : Xo (FX12_rentOf a b s0) (fun r => RT o cX12_rentOf (some (.int r)) s0) (Yx o 0 [some (.int a), some (.int b)] [] s0) := by
  unfold FX12_rentOf
  refine x_iload_n C (pc := 0) dX12_rentOf_0 rfl ?_
  refine Xo.ite (fun hq1 => ?_) (fun hq1 => ?_)
  · refine x_tabI C (pc := 1) (tgt := 36) (off := 35) dX12_rentOf_1 hq1 (by decide +kernel) (by decide +kernel) (by decide +kernel) (by decide) ?_
    refine x_iconst C (pc := 36) dX12_rentOf_36 kc_i_3 ?_
    refine x_iload_n C (pc := 37) dX12_rentOf_37 rfl ?_
    refine x_imul C (pc := 38) dX12_rentOf_38 ?_
    exact x_ret dX12_rentOf_39 (fun h => h)
  refine Xo.ite (fun hq2 => ?_) (fun hq2 => ?_)
  · refine x_tabI C (pc := 1) (tgt := 36) (off := 35) dX12_rentOf_1 hq2 (by decide +kernel) (by decide +kernel) (by decide +kernel) (by decide) ?_
    refine x_iconst C (pc := 36) dX12_rentOf_36 kc_i_3 ?_
    refine x_iload_n C (pc := 37) dX12_rentOf_37 rfl ?_
    refine x_imul C (pc := 38) dX12_rentOf_38 ?_
    exact x_ret dX12_rentOf_39 (fun h => h)
  refine Xo.ite (fun hq3 => ?_) (fun hq3 => ?_)
  · refine x_tabI C (pc := 1) (tgt := 47) (off := 46) dX12_rentOf_1 hq3 (by decide +kernel) (by decide +kernel) (by decide +kernel) (by decide) ?_
    refine x_iload_n C (pc := 47) dX12_rentOf_47 rfl ?_
    refine x_if_le C (pc := 48) (tgt := 59) dX12_rentOf_48 (by decide) (fun _ => ?_) (fun _ => ?_)
    · skip
      refine x_iconst C (pc := 59) dX12_rentOf_59 kc_i_0 ?_
      exact x_ret dX12_rentOf_60 (fun h => h)
    · skip
      refine x_iconst C (pc := 51) dX12_rentOf_51 kc_i_3 ?_
      refine x_iload_n C (pc := 52) dX12_rentOf_52 rfl ?_
      refine x_imul C (pc := 53) dX12_rentOf_53 ?_
      refine x_iconst C (pc := 54) dX12_rentOf_54 kc_i_1 ?_
      refine x_iadd C (pc := 55) dX12_rentOf_55 ?_
      refine x_goto C (pc := 56) (tgt := 60) dX12_rentOf_56 (by decide) ?_
      exact x_ret dX12_rentOf_60 (fun h => h)
  refine Xo.ite (fun hq4 => ?_) (fun hq4 => ?_)
  · refine x_tabI C (pc := 1) (tgt := 40) (off := 39) dX12_rentOf_1 hq4 (by decide +kernel) (by decide +kernel) (by decide +kernel) (by decide) ?_
    refine x_iconst C (pc := 40) dX12_rentOf_40 kc_i_0 ?_
    exact x_ret dX12_rentOf_41 (fun h => h)
  refine Xo.ite (fun hq5 => ?_) (fun hq5 => ?_)
  · refine x_tabI C (pc := 1) (tgt := 42) (off := 41) dX12_rentOf_1 hq5 (by decide +kernel) (by decide +kernel) (by decide +kernel) (by decide) ?_
    refine x_bipush C (pc := 42) dX12_rentOf_42 kc_b_6 ?_
    refine x_iload_n C (pc := 44) dX12_rentOf_44 rfl ?_
    refine x_imul C (pc := 45) dX12_rentOf_45 ?_
    exact x_ret dX12_rentOf_46 (fun h => h)
  have hT := tab_out (x := a) (lo := 0) (hi := 4) 5 (fun j hj => by
    rcases j with _ | j
    · exact lv_neT hq1 (by decide +kernel)
    rcases j with _ | j
    · exact lv_neT hq2 (by decide +kernel)
    rcases j with _ | j
    · exact lv_neT hq3 (by decide +kernel)
    rcases j with _ | j
    · exact lv_neT hq4 (by decide +kernel)
    rcases j with _ | j
    · exact lv_neT hq5 (by decide +kernel)
    exact absurd hj (by omega)) (by decide)
  refine x_tabO C (pc := 1) (tgt := 47) dX12_rentOf_1 hT (by decide) ?_
  refine x_iload_n C (pc := 47) dX12_rentOf_47 rfl ?_
  refine x_if_le C (pc := 48) (tgt := 59) dX12_rentOf_48 (by decide) (fun _ => ?_) (fun _ => ?_)
  · skip
    refine x_iconst C (pc := 59) dX12_rentOf_59 kc_i_0 ?_
    exact x_ret dX12_rentOf_60 (fun h => h)
  · skip
    refine x_iconst C (pc := 51) dX12_rentOf_51 kc_i_3 ?_
    refine x_iload_n C (pc := 52) dX12_rentOf_52 rfl ?_
    refine x_imul C (pc := 53) dX12_rentOf_53 ?_
    refine x_iconst C (pc := 54) dX12_rentOf_54 kc_i_1 ?_
    refine x_iadd C (pc := 55) dX12_rentOf_55 ?_
    refine x_goto C (pc := 56) (tgt := 60) dX12_rentOf_56 (by decide) ?_
    exact x_ret dX12_rentOf_60 (fun h => h)
theorem ct_X12_rentOf (a : Int32) (b : Int32) (s0 : SS) (r : Int32) (h : FX12_rentOf a b s0 = some r) : CT 1 yX12_rentOf cX12_rentOf 2 (some .int) 0 0 [.int a, .int b] s0 (some (.int r)) s0 :=
  ct_of (by decide +kernel) (Or.inr (Or.inl ⟨_, rfl, _, rfl, rfl⟩)) (lx_args [.int a, .int b]) (lx_entry [.int a, .int b] (fun _ => Nat.le_of_ble_eq_true rfl)) (fun o C hR => Yx.weak (lw_s (lw_s lw_0)) (bd_X12_rentOf C a b s0 r h hR))
def FX12_goOn (t : Nat) (a : Nat) (s0 : SS) : Option (Int32 × SS) :=
  nm (nI 0) (fun (i1 : Int32) => gd (inb (nI 66) (ln a)) (bd (FX12_everyone a s0) (fun (r2 : Int32) => bd (FX12_blowOf t a (gI s0 a (Int32.toNatClampNeg (nI 66))) r2 s0) (fun (s3 : SS) => nm (nI 0) (fun (i4 : Int32) => bd (lp FUEL (u3 (fun (n5 : Int32) (n6 : Int32) (s7 : SS) => gd (inb (nI 16) (ln a)) (if (gI s7 a (Int32.toNatClampNeg (nI 16))) ≤ n6 then some (Sum.inr (n5, s7)) else (bd (FX12_userOf a n6 (nI 0) s7) (fun (r8 : Int32) => gd (inb n6 (ln (lk t 7))) (bd (FX12_rentOf r8 (gI s7 (lk t 7) (Int32.toNatClampNeg n6)) s7) (fun (r9 : Int32) => nm r9 (fun (i10 : Int32) => gd (inb ((nI 20) + ((nI 4) * n6)) (ln a)) (gd (inb ((nI 20) + ((nI 4) * n6)) (ln a)) (nm (pI s7 a (Int32.toNatClampNeg ((nI 20) + ((nI 4) * n6))) ((gI s7 a (Int32.toNatClampNeg ((nI 20) + ((nI 4) * n6)))) + i10)) (fun (s11 : SS) => nm (n5 + i10) (fun (i12 : Int32) => nm (n6 + (nI 1)) (fun (i13 : Int32) => some (Sum.inl (i12, i13, s11))))))))))))))) (i1, i4, s3)) (u2 (fun (e14 : Int32) (s15 : SS) => gd (inb (nI 66) (ln a)) (gd (inb (nI 66) (ln a)) (nm (pI s15 a (Int32.toNatClampNeg (nI 66)) ((gI s15 a (Int32.toNatClampNeg (nI 66))) + (nI 1))) (fun (s16 : SS) => some ((e14, s16))))))))))))
set_option maxRecDepth 100000 in
set_option maxHeartbeats 4000000 in
theorem bd_X12_goOn {o : Om} (C : Cx o RX12 cX12_goOn 5 (some .int) (rmx 3 75) 1) (t : Nat) (ht : kd t = 10) (a : Nat) (ha : kd a = 21) (s0 : SS) : Xo (FX12_goOn t a s0) (fun r => RT o cX12_goOn (some (.int r.1)) r.2) (Yx o 0 [some (.ref t), some (.ref a), none, none, none] [] s0) := by
  unfold FX12_goOn
  refine x_iconst C (pc := 0) dX12_goOn_0 kc_i_0 ?_
  refine x_istore_n C (pc := 1) (L' := fun i1 => [some (.ref t), some (.ref a), some (.int i1), none, none]) dX12_goOn_1 (by decide) (fun _ => rfl) (fun i1 => ?_)
  refine x_aload_n C (pc := 2) dX12_goOn_2 rfl ?_
  refine x_aload_n C (pc := 3) dX12_goOn_3 rfl ?_
  refine x_aload_n C (pc := 4) dX12_goOn_4 rfl ?_
  refine x_bipush C (pc := 5) dX12_goOn_5 kc_b_66 ?_
  refine x_iald C (pc := 7) dX12_goOn_7 ha (fun _ => ?_)
  refine x_aload_n C (pc := 8) dX12_goOn_8 rfl ?_
  refine x_callSi C (pc := 9) ms_X12_82 [.ref a] (fun _ hr => ct_X12_everyone _ ha _ _ hr) ⟨Nat.le_of_ble_eq_true rfl, Nat.le_of_ble_eq_true rfl⟩ rfl (Nat.le_of_ble_eq_true rfl) rfl dX12_goOn_9 (fun r2 => ?_)
  refine x_callVv C (pc := 12) mv_X12_78 ht rfl [.ref a, .int (gI s0 a (Int32.toNatClampNeg (nI 66))), .int r2] (fun _ hr => ct_X12_blowOf _ ht _ ha _ _ _ _ hr) ⟨Nat.le_of_ble_eq_true rfl, Nat.le_of_ble_eq_true rfl⟩ rfl (Nat.le_of_ble_eq_true rfl) rfl dX12_goOn_12 (fun s3 => ?_)
  refine x_iconst C (pc := 15) dX12_goOn_15 kc_i_0 ?_
  refine x_istore_n C (pc := 16) (L' := fun i4 => [some (.ref t), some (.ref a), some (.int i1), some (.int i4), none]) dX12_goOn_16 (by decide) (fun _ => rfl) (fun i4 => ?_)
  refine xb_2 (Z1 := (fun e14 s15 => Yx o 66 [none, some (.ref a), some (.int e14), none, none] [] s15)) ?_ (fun e14 s15 => ?_)
  · refine Xo.mono (Yx.weak (lw_s (lw_s (lw_s (lw_s (lw_n lw_0)))))) (x_lp3 (fr := fun n5 n6 s7 => Yx o 17 [some (.ref t), some (.ref a), some (.int n5), some (.int n6), none] [] s7) _ _ _ (fun n5 n6 s7 => ?_))
    refine x_iload_n C (pc := 17) dX12_goOn_17 rfl ?_
    refine x_aload_n C (pc := 18) dX12_goOn_18 rfl ?_
    refine x_bipush C (pc := 19) dX12_goOn_19 kc_b_16 ?_
    refine x_iald C (pc := 21) dX12_goOn_21 ha (fun _ => ?_)
    refine x_icmp_ge C (pc := 22) (tgt := 66) dX12_goOn_22 (by decide) (fun _ => ?_) (fun _ => ?_)
    · skip
      exact Xo.done (fun h => Yx.weak (lw_n (lw_s (lw_s (lw_n (lw_n lw_0))))) h)
    · skip
      refine x_aload_n C (pc := 25) dX12_goOn_25 rfl ?_
      refine x_iload_n C (pc := 26) dX12_goOn_26 rfl ?_
      refine x_iconst C (pc := 27) dX12_goOn_27 kc_i_0 ?_
      refine x_callSi C (pc := 28) ms_X12_66 [.ref a, .int n6, .int (nI 0)] (fun _ hr => ct_X12_userOf _ ha _ _ _ _ hr) ⟨Nat.le_of_ble_eq_true rfl, Nat.le_of_ble_eq_true rfl⟩ rfl (Nat.le_of_ble_eq_true rfl) rfl dX12_goOn_28 (fun r8 => ?_)
      refine x_aload_n C (pc := 31) dX12_goOn_31 rfl ?_
      refine x_getR C (pc := 32) fg_X12_30 dX12_goOn_32 ht ?_
      refine x_iload_n C (pc := 35) dX12_goOn_35 rfl ?_
      refine x_iald C (pc := 36) dX12_goOn_36 (lkd_10_7 ht) (fun _ => ?_)
      refine x_callSi C (pc := 37) ms_X12_86 [.int r8, .int (gI s7 (lk t 7) (Int32.toNatClampNeg n6))] (fun _ hr => ct_X12_rentOf _ _ _ _ hr) ⟨Nat.le_of_ble_eq_true rfl, Nat.le_of_ble_eq_true rfl⟩ rfl (Nat.le_of_ble_eq_true rfl) rfl dX12_goOn_37 (fun r9 => ?_)
      refine x_istore C (pc := 40) (L' := fun i10 => [some (.ref t), some (.ref a), some (.int n5), some (.int n6), some (.int i10)]) dX12_goOn_40 (by decide) (fun _ => rfl) (fun i10 => ?_)
      refine x_aload_n C (pc := 42) dX12_goOn_42 rfl ?_
      refine x_bipush C (pc := 43) dX12_goOn_43 kc_b_20 ?_
      refine x_iconst C (pc := 45) dX12_goOn_45 kc_i_4 ?_
      refine x_iload_n C (pc := 46) dX12_goOn_46 rfl ?_
      refine x_imul C (pc := 47) dX12_goOn_47 ?_
      refine x_iadd C (pc := 48) dX12_goOn_48 ?_
      refine x_dup2 C (pc := 49) dX12_goOn_49 rfl rfl ?_
      refine x_iald C (pc := 50) dX12_goOn_50 ha (fun _ => ?_)
      refine x_iload C (pc := 51) dX12_goOn_51 rfl ?_
      refine x_iadd C (pc := 53) dX12_goOn_53 ?_
      refine x_iastn C (pc := 54) dX12_goOn_54 ha (fun s11 => ?_)
      refine x_iload_n C (pc := 55) dX12_goOn_55 rfl ?_
      refine x_iload C (pc := 56) dX12_goOn_56 rfl ?_
      refine x_iadd C (pc := 58) dX12_goOn_58 ?_
      refine x_istore_n C (pc := 59) (L' := fun i12 => [some (.ref t), some (.ref a), some (.int i12), some (.int n6), some (.int i10)]) dX12_goOn_59 (by decide) (fun _ => rfl) (fun i12 => ?_)
      refine x_iinc C (pc := 60) (L' := fun i13 => [some (.ref t), some (.ref a), some (.int i12), some (.int i13), some (.int i10)]) dX12_goOn_60 rfl kc_i_1 (by decide) (fun _ => rfl) (fun i13 => ?_)
      refine x_goto C (pc := 63) (tgt := 17) dX12_goOn_63 (by decide) ?_
      exact Xo.done (fun h => Yx.weak (lw_s (lw_s (lw_s (lw_s (lw_n lw_0))))) h)
  refine x_aload_n C (pc := 66) dX12_goOn_66 rfl ?_
  refine x_bipush C (pc := 67) dX12_goOn_67 kc_b_66 ?_
  refine x_dup2 C (pc := 69) dX12_goOn_69 rfl rfl ?_
  refine x_iald C (pc := 70) dX12_goOn_70 ha (fun _ => ?_)
  refine x_iconst C (pc := 71) dX12_goOn_71 kc_i_1 ?_
  refine x_iadd C (pc := 72) dX12_goOn_72 ?_
  refine x_iastn C (pc := 73) dX12_goOn_73 ha (fun s16 => ?_)
  refine x_iload_n C (pc := 74) dX12_goOn_74 rfl ?_
  exact x_ret dX12_goOn_75 (fun h => h)
theorem ct_X12_goOn (t : Nat) (ht : kd t = 10) (a : Nat) (ha : kd a = 21) (s0 : SS) (r : Int32) (s2 : SS) (h : FX12_goOn t a s0 = some (r, s2)) : CT 1 yX12_goOn cX12_goOn 5 (some .int) 3 75 [.ref t, .ref a] s0 (some (.int r)) s2 :=
  ct_of (by decide +kernel) (Or.inr (Or.inl ⟨_, rfl, _, rfl, rfl⟩)) (lx_args [.ref t, .ref a]) (lx_entry [.ref t, .ref a] (fun _ => Nat.le_of_ble_eq_true rfl)) (fun o C hR => Yx.weak (lw_s (lw_s (lw_z (lw_z (lw_z lw_0))))) (bd_X12_goOn C t ht a ha s0 (r, s2) h hR))
def FX12_hoursOf (t : Nat) (a : Nat) (b : Int32) (s0 : SS) : Option (Int32 × SS) :=
  nm (nI 0) (fun (i1 : Int32) => nm (nI 0) (fun (i2 : Int32) => bd (lp FUEL (u3 (fun (n3 : Int32) (n4 : Int32) (s5 : SS) => if b ≤ n4 then some (Sum.inr (n3, s5)) else (gd (inb (nI 66) (ln a)) (if (nI 9999) ≤ (gI s5 a (Int32.toNatClampNeg (nI 66))) then some (Sum.inr (n3, s5)) else (bd2 (FX12_goOn t a s5) (fun (r6 : Int32) (s7 : SS) => nm (n3 + r6) (fun (i8 : Int32) => nm (n4 + (nI 1)) (fun (i9 : Int32) => some (Sum.inl (i8, i9, s7)))))))))) (i1, i2, s0)) (u2 (fun (e10 : Int32) (s11 : SS) => some ((e10, s11))))))
set_option maxRecDepth 100000 in
set_option maxHeartbeats 4000000 in
theorem bd_X12_hoursOf {o : Om} (C : Cx o RX12 cX12_hoursOf 5 (some .int) (rmx 4 99) 1) (t : Nat) (ht : kd t = 10) (a : Nat) (ha : kd a = 21) (b : Int32) (s0 : SS) : Xo (FX12_hoursOf t a b s0) (fun r => RT o cX12_hoursOf (some (.int r.1)) r.2) (Yx o 0 [some (.ref t), some (.ref a), some (.int b), none, none] [] s0) := by
  unfold FX12_hoursOf
  refine x_iconst C (pc := 0) dX12_hoursOf_0 kc_i_0 ?_
  refine x_istore_n C (pc := 1) (L' := fun i1 => [some (.ref t), some (.ref a), some (.int b), some (.int i1), none]) dX12_hoursOf_1 (by decide) (fun _ => rfl) (fun i1 => ?_)
  refine x_iconst C (pc := 2) dX12_hoursOf_2 kc_i_0 ?_
  refine x_istore C (pc := 3) (L' := fun i2 => [some (.ref t), some (.ref a), some (.int b), some (.int i1), some (.int i2)]) dX12_hoursOf_3 (by decide) (fun _ => rfl) (fun i2 => ?_)
  refine xb_2 (Z1 := (fun e10 s11 => Yx o 35 [none, none, none, some (.int e10), none] [] s11)) ?_ (fun e10 s11 => ?_)
  · refine Xo.mono (Yx.weak (lw_s (lw_s (lw_s (lw_s (lw_s lw_0)))))) (x_lp3 (fr := fun n3 n4 s5 => Yx o 5 [some (.ref t), some (.ref a), some (.int b), some (.int n3), some (.int n4)] [] s5) _ _ _ (fun n3 n4 s5 => ?_))
    refine x_iload C (pc := 5) dX12_hoursOf_5 rfl ?_
    refine x_iload_n C (pc := 7) dX12_hoursOf_7 rfl ?_
    refine x_icmp_ge C (pc := 8) (tgt := 35) dX12_hoursOf_8 (by decide) (fun _ => ?_) (fun _ => ?_)
    · skip
      exact Xo.done (fun h => Yx.weak (lw_n (lw_n (lw_n (lw_s (lw_n lw_0))))) h)
    · skip
      refine x_aload_n C (pc := 11) dX12_hoursOf_11 rfl ?_
      refine x_bipush C (pc := 12) dX12_hoursOf_12 kc_b_66 ?_
      refine x_iald C (pc := 14) dX12_hoursOf_14 ha (fun _ => ?_)
      refine x_sipush C (pc := 15) dX12_hoursOf_15 kc_s_9999 ?_
      refine x_icmp_ge C (pc := 18) (tgt := 35) dX12_hoursOf_18 (by decide) (fun _ => ?_) (fun _ => ?_)
      · skip
        exact Xo.done (fun h => Yx.weak (lw_n (lw_n (lw_n (lw_s (lw_n lw_0))))) h)
      · skip
        refine x_iload_n C (pc := 21) dX12_hoursOf_21 rfl ?_
        refine x_aload_n C (pc := 22) dX12_hoursOf_22 rfl ?_
        refine x_aload_n C (pc := 23) dX12_hoursOf_23 rfl ?_
        refine x_callVim C (pc := 24) mv_X12_90 ht rfl [.ref a] (fun _ _ hr => ct_X12_goOn _ ht _ ha _ _ _ hr) ⟨Nat.le_of_ble_eq_true rfl, Nat.le_of_ble_eq_true rfl⟩ rfl (Nat.le_of_ble_eq_true rfl) rfl dX12_hoursOf_24 (fun r6 s7 => ?_)
        refine x_iadd C (pc := 27) dX12_hoursOf_27 ?_
        refine x_istore_n C (pc := 28) (L' := fun i8 => [some (.ref t), some (.ref a), some (.int b), some (.int i8), some (.int n4)]) dX12_hoursOf_28 (by decide) (fun _ => rfl) (fun i8 => ?_)
        refine x_iinc C (pc := 29) (L' := fun i9 => [some (.ref t), some (.ref a), some (.int b), some (.int i8), some (.int i9)]) dX12_hoursOf_29 rfl kc_i_1 (by decide) (fun _ => rfl) (fun i9 => ?_)
        refine x_goto C (pc := 32) (tgt := 5) dX12_hoursOf_32 (by decide) ?_
        exact Xo.done (fun h => Yx.weak (lw_s (lw_s (lw_s (lw_s (lw_s lw_0))))) h)
  refine x_iload_n C (pc := 35) dX12_hoursOf_35 rfl ?_
  exact x_ret dX12_hoursOf_36 (fun h => h)
theorem ct_X12_hoursOf (t : Nat) (ht : kd t = 10) (a : Nat) (ha : kd a = 21) (b : Int32) (s0 : SS) (r : Int32) (s2 : SS) (h : FX12_hoursOf t a b s0 = some (r, s2)) : CT 1 yX12_hoursOf cX12_hoursOf 5 (some .int) 4 99 [.ref t, .ref a, .int b] s0 (some (.int r)) s2 :=
  ct_of (by decide +kernel) (Or.inr (Or.inl ⟨_, rfl, _, rfl, rfl⟩)) (lx_args [.ref t, .ref a, .int b]) (lx_entry [.ref t, .ref a, .int b] (fun _ => Nat.le_of_ble_eq_true rfl)) (fun o C hR => Yx.weak (lw_s (lw_s (lw_s (lw_z (lw_z lw_0))))) (bd_X12_hoursOf C t ht a ha b s0 (r, s2) h hR))
def FX12_readHours (t : Nat) (s0 : SS) : Option (SS) :=
  bd (FX12_next t s0) (fun (s1 : SS) => bd2 (FX12_number t (nI 1) (nI 99) s1) (fun (r2 : Int32) (s3 : SS) => nm r2 (fun (i4 : Int32) => bd (FX12_end t s3) (fun (s5 : SS) => if (gI s5 t 13) = (-1 : Int32) then bd2 (FX12_hoursOf t (lk t 1) i4 s5) (fun (r6 : Int32) (s7 : SS) => nm r6 (fun (i8 : Int32) => some (s7))) else (some (s5))))))
set_option maxRecDepth 100000 in
set_option maxHeartbeats 4000000 in
theorem bd_X12_readHours {o : Om} (C : Cx o RX12 cX12_readHours 3 none (rmx 5 123) 1) (t : Nat) (ht : kd t = 10) (s0 : SS) : Xo (FX12_readHours t s0) (fun r => RT o cX12_readHours none r) (Yx o 0 [some (.ref t), none, none] [] s0) := by
  unfold FX12_readHours
  refine x_aload_n C (pc := 0) dX12_readHours_0 rfl ?_
  refine x_callVv C (pc := 1) mv_X12_142 ht rfl [] (fun _ hr => ct_X12_next _ ht _ _ hr) ⟨Nat.le_of_ble_eq_true rfl, Nat.le_of_ble_eq_true rfl⟩ rfl (Nat.le_of_ble_eq_true rfl) rfl dX12_readHours_1 (fun s1 => ?_)
  refine x_aload_n C (pc := 4) dX12_readHours_4 rfl ?_
  refine x_iconst C (pc := 5) dX12_readHours_5 kc_i_1 ?_
  refine x_bipush C (pc := 6) dX12_readHours_6 kc_b_99 ?_
  refine x_callVim C (pc := 8) mv_X12_152 ht rfl [.int (nI 1), .int (nI 99)] (fun _ _ hr => ct_X12_number _ ht _ _ _ _ _ hr) ⟨Nat.le_of_ble_eq_true rfl, Nat.le_of_ble_eq_true rfl⟩ rfl (Nat.le_of_ble_eq_true rfl) rfl dX12_readHours_8 (fun r2 s3 => ?_)
  refine x_istore_n C (pc := 11) (L' := fun i4 => [some (.ref t), some (.int i4), none]) dX12_readHours_11 (by decide) (fun _ => rfl) (fun i4 => ?_)
  refine x_aload_n C (pc := 12) dX12_readHours_12 rfl ?_
  refine x_callVv C (pc := 13) mv_X12_155 ht rfl [] (fun _ hr => ct_X12_end _ ht _ _ hr) ⟨Nat.le_of_ble_eq_true rfl, Nat.le_of_ble_eq_true rfl⟩ rfl (Nat.le_of_ble_eq_true rfl) rfl dX12_readHours_13 (fun s5 => ?_)
  refine x_aload_n C (pc := 16) dX12_readHours_16 rfl ?_
  refine x_getI C (pc := 17) fg_X12_42 dX12_readHours_17 ht ?_
  refine x_iconst C (pc := 20) dX12_readHours_20 kc_i_m1 ?_
  refine x_icmp_ne C (pc := 21) (tgt := 34) dX12_readHours_21 (by decide) (fun _ => ?_) (fun _ => ?_)
  · skip
    refine x_aload_n C (pc := 24) dX12_readHours_24 rfl ?_
    refine x_aload_n C (pc := 25) dX12_readHours_25 rfl ?_
    refine x_getR C (pc := 26) fg_X12_13 dX12_readHours_26 ht ?_
    refine x_iload_n C (pc := 29) dX12_readHours_29 rfl ?_
    refine x_callVim C (pc := 30) mv_X12_161 ht rfl [.ref (lk t 1), .int i4] (fun _ _ hr => ct_X12_hoursOf _ ht _ (lkd_10_1 ht) _ _ _ _ hr) ⟨Nat.le_of_ble_eq_true rfl, Nat.le_of_ble_eq_true rfl⟩ rfl (Nat.le_of_ble_eq_true rfl) rfl dX12_readHours_30 (fun r6 s7 => ?_)
    refine x_istore_n C (pc := 33) (L' := fun i8 => [some (.ref t), some (.int i4), some (.int i8)]) dX12_readHours_33 (by decide) (fun _ => rfl) (fun i8 => ?_)
    exact x_vret dX12_readHours_34 (fun h => h)
  · skip
    exact x_vret dX12_readHours_34 (fun h => h)
theorem ct_X12_readHours (t : Nat) (ht : kd t = 10) (s0 : SS) (r : SS) (h : FX12_readHours t s0 = some r) : CT 1 yX12_readHours cX12_readHours 3 none 5 123 [.ref t] s0 none r :=
  ct_of (by decide +kernel) (Or.inl ⟨rfl, rfl⟩) (lx_args [.ref t]) (lx_entry [.ref t] (fun _ => Nat.le_of_ble_eq_true rfl)) (fun o C hR => Yx.weak (lw_s (lw_z (lw_z lw_0))) (bd_X12_readHours C t ht s0 r h hR))
def FX12_read (t : Nat) (s0 : SS) : Option (Int32 × SS) :=
  bd (FX12_empty (lk t 1) s0) (fun (s1 : SS) => nm (pI s1 t 12 (nI 0)) (fun (s2 : SS) => nm (pI s2 t 13 (-1 : Int32)) (fun (s3 : SS) => bd (FX12_next t s3) (fun (s4 : SS) => bd (if (gI s4 t 14) = (nI 100) then some ((nI 1)) else (some ((nI 0)))) (fun (j5 : Int32) => bd (FX12_must t j5 s4) (fun (s6 : SS) => bd (FX12_goOnReading t s6) (fun (s7 : SS) => bd (FX12_end t s7) (fun (s8 : SS) => nm (nI 1) (fun (i9 : Int32) => bd (lp FUEL (u2 (fun (n10 : Int32) (s11 : SS) => if (gI s11 t 13) = (-1 : Int32) then if (gI s11 t 14) = (-1 : Int32) then some (Sum.inr (n10, s11)) else (bd (if (gI s11 t 14) = (nI 101) then bd (FX12_readWinds t s11) (fun (s13 : SS) => some (s13)) else (if (gI s11 t 14) = (nI 102) then bd (FX12_readUser t s11) (fun (s15 : SS) => some (s15)) else (if (gI s11 t 14) = (nI 103) then bd (FX12_readSuit t s11) (fun (s17 : SS) => some (s17)) else (if (gI s11 t 14) = (nI 104) then bd (FX12_readHours t s11) (fun (s19 : SS) => some (s19)) else (bd (FX12_must t (nI 0) s11) (fun (s20 : SS) => some (s20))))))) (fun (s21 : SS) => nm (n10 + (nI 1)) (fun (i22 : Int32) => some (Sum.inl (i22, s21))))) else (some (Sum.inr (n10, s11))))) (i9, s8)) (u2 (fun (e23 : Int32) (s24 : SS) => if (gI s24 t 13) = (-1 : Int32) then nm (nI 0) (fun (i25 : Int32) => bd (lp FUEL (u2 (fun (n26 : Int32) (s27 : SS) => if (nI 378) ≤ n26 then some (Sum.inr s27) else (gd (inb n26 (ln (lk t 1))) (gd (inb n26 (ln (lk t 0))) (nm (pI s27 (lk t 0) (Int32.toNatClampNeg n26) (gI s27 (lk t 1) (Int32.toNatClampNeg n26))) (fun (s28 : SS) => nm (n26 + (nI 1)) (fun (i29 : Int32) => some (Sum.inl (i29, s28))))))))) (i25, s24)) (fun (s30 : SS) => some ((e23, s30)))) else (some ((((-10 : Int32) - (gI s24 t 13)), s24))))))))))))))
set_option maxRecDepth 100000 in
set_option maxHeartbeats 4000000 in
theorem bd_X12_read {o : Om} (C : Cx o RX12 cX12_read 3 (some .int) (rmx 6 145) 1) (t : Nat) (ht : kd t = 10) (s0 : SS) : Xo (FX12_read t s0) (fun r => RT o cX12_read (some (.int r.1)) r.2) (Yx o 0 [some (.ref t), none, none] [] s0) := by
  unfold FX12_read
  refine x_aload_n C (pc := 0) dX12_read_0 rfl ?_
  refine x_getR C (pc := 1) fg_X12_13 dX12_read_1 ht ?_
  refine x_callSv C (pc := 4) ms_X12_93 [.ref (lk t 1)] (fun _ hr => ct_X12_empty _ (lkd_10_1 ht) _ _ hr) ⟨Nat.le_of_ble_eq_true rfl, Nat.le_of_ble_eq_true rfl⟩ rfl (Nat.le_of_ble_eq_true rfl) rfl dX12_read_4 (fun s1 => ?_)
  refine x_aload_n C (pc := 7) dX12_read_7 rfl ?_
  refine x_iconst C (pc := 8) dX12_read_8 kc_i_0 ?_
  refine x_putIn C (pc := 9) fp_X12_125 dX12_read_9 ht (fun s2 => ?_)
  refine x_aload_n C (pc := 12) dX12_read_12 rfl ?_
  refine x_iconst C (pc := 13) dX12_read_13 kc_i_m1 ?_
  refine x_putIn C (pc := 14) fp_X12_42 dX12_read_14 ht (fun s3 => ?_)
  refine x_aload_n C (pc := 17) dX12_read_17 rfl ?_
  refine x_callVv C (pc := 18) mv_X12_142 ht rfl [] (fun _ hr => ct_X12_next _ ht _ _ hr) ⟨Nat.le_of_ble_eq_true rfl, Nat.le_of_ble_eq_true rfl⟩ rfl (Nat.le_of_ble_eq_true rfl) rfl dX12_read_18 (fun s4 => ?_)
  refine x_aload_n C (pc := 21) dX12_read_21 rfl ?_
  refine x_aload_n C (pc := 22) dX12_read_22 rfl ?_
  refine x_getI C (pc := 23) fg_X12_128 dX12_read_23 ht ?_
  refine x_bipush C (pc := 26) dX12_read_26 kc_b_100 ?_
  refine xb_1 (Z1 := fun j5 => Yx o 36 [some (.ref t), none, none] [.int j5, .ref t] s4) ?_ (fun j5 => ?_)
  · skip
    refine x_icmp_ne C (pc := 28) (tgt := 35) dX12_read_28 (by decide) (fun _ => ?_) (fun _ => ?_)
    · skip
      refine x_iconst C (pc := 31) dX12_read_31 kc_i_1 ?_
      refine x_goto C (pc := 32) (tgt := 36) dX12_read_32 (by decide) ?_
      exact Xo.done (fun h => Yx.weak (lw_s (lw_n (lw_n lw_0))) h)
    · skip
      refine x_iconst C (pc := 35) dX12_read_35 kc_i_0 ?_
      exact Xo.done (fun h => Yx.weak (lw_s (lw_n (lw_n lw_0))) h)
  refine x_callVv C (pc := 36) mv_X12_145 ht rfl [.int j5] (fun _ hr => ct_X12_must _ ht _ _ _ hr) ⟨Nat.le_of_ble_eq_true rfl, Nat.le_of_ble_eq_true rfl⟩ rfl (Nat.le_of_ble_eq_true rfl) rfl dX12_read_36 (fun s6 => ?_)
  refine x_aload_n C (pc := 39) dX12_read_39 rfl ?_
  refine x_callVv C (pc := 40) mv_X12_149 ht rfl [] (fun _ hr => ct_X12_goOnReading _ ht _ _ hr) ⟨Nat.le_of_ble_eq_true rfl, Nat.le_of_ble_eq_true rfl⟩ rfl (Nat.le_of_ble_eq_true rfl) rfl dX12_read_40 (fun s7 => ?_)
  refine x_aload_n C (pc := 43) dX12_read_43 rfl ?_
  refine x_callVv C (pc := 44) mv_X12_155 ht rfl [] (fun _ hr => ct_X12_end _ ht _ _ hr) ⟨Nat.le_of_ble_eq_true rfl, Nat.le_of_ble_eq_true rfl⟩ rfl (Nat.le_of_ble_eq_true rfl) rfl dX12_read_44 (fun s8 => ?_)
  refine x_iconst C (pc := 47) dX12_read_47 kc_i_1 ?_
  refine x_istore_n C (pc := 48) (L' := fun i9 => [some (.ref t), some (.int i9), none]) dX12_read_48 (by decide) (fun _ => rfl) (fun i9 => ?_)
  refine xb_2 (Z1 := (fun e23 s24 => Yx o 139 [some (.ref t), some (.int e23), none] [] s24)) ?_ (fun e23 s24 => ?_)
  · refine Xo.mono (Yx.weak (lw_s (lw_s (lw_n lw_0)))) (x_lp2 (fr := fun n10 s11 => Yx o 49 [some (.ref t), some (.int n10), none] [] s11) _ _ (fun n10 s11 => ?_))
    refine x_aload_n C (pc := 49) dX12_read_49 rfl ?_
    refine x_getI C (pc := 50) fg_X12_42 dX12_read_50 ht ?_
    refine x_iconst C (pc := 53) dX12_read_53 kc_i_m1 ?_
    refine x_icmp_ne C (pc := 54) (tgt := 139) dX12_read_54 (by decide) (fun _ => ?_) (fun _ => ?_)
    · skip
      refine x_aload_n C (pc := 57) dX12_read_57 rfl ?_
      refine x_getI C (pc := 58) fg_X12_128 dX12_read_58 ht ?_
      refine x_iconst C (pc := 61) dX12_read_61 kc_i_m1 ?_
      refine x_icmp_eq C (pc := 62) (tgt := 139) dX12_read_62 (by decide) (fun _ => ?_) (fun _ => ?_)
      · skip
        exact Xo.done (fun h => Yx.weak (lw_s (lw_s (lw_n lw_0))) h)
      · skip
        refine x_aload_n C (pc := 65) dX12_read_65 rfl ?_
        refine x_getI C (pc := 66) fg_X12_128 dX12_read_66 ht ?_
        refine xb_1 (Z1 := fun s21 => Yx o 133 [some (.ref t), some (.int n10), none] [] s21) ?_ (fun s21 => ?_)
        · skip
          refine Xo.ite (fun hq12 => ?_) (fun hq12 => ?_)
          · refine x_tabI C (pc := 69) (tgt := 100) (off := 31) dX12_read_69 hq12 (by decide +kernel) (by decide +kernel) (by decide +kernel) (by decide) ?_
            refine x_aload_n C (pc := 100) dX12_read_100 rfl ?_
            refine x_callVv C (pc := 101) mv_X12_165 ht rfl [] (fun _ hr => ct_X12_readWinds _ ht _ _ hr) ⟨Nat.le_of_ble_eq_true rfl, Nat.le_of_ble_eq_true rfl⟩ rfl (Nat.le_of_ble_eq_true rfl) rfl dX12_read_101 (fun s13 => ?_)
            refine x_goto C (pc := 104) (tgt := 133) dX12_read_104 (by decide) ?_
            exact Xo.done (fun h => Yx.weak (lw_s (lw_s (lw_n lw_0))) h)
          refine Xo.ite (fun hq14 => ?_) (fun hq14 => ?_)
          · refine x_tabI C (pc := 69) (tgt := 107) (off := 38) dX12_read_69 hq14 (by decide +kernel) (by decide +kernel) (by decide +kernel) (by decide) ?_
            refine x_aload_n C (pc := 107) dX12_read_107 rfl ?_
            refine x_callVv C (pc := 108) mv_X12_168 ht rfl [] (fun _ hr => ct_X12_readUser _ ht _ _ hr) ⟨Nat.le_of_ble_eq_true rfl, Nat.le_of_ble_eq_true rfl⟩ rfl (Nat.le_of_ble_eq_true rfl) rfl dX12_read_108 (fun s15 => ?_)
            refine x_goto C (pc := 111) (tgt := 133) dX12_read_111 (by decide) ?_
            exact Xo.done (fun h => Yx.weak (lw_s (lw_s (lw_n lw_0))) h)
          refine Xo.ite (fun hq16 => ?_) (fun hq16 => ?_)
          · refine x_tabI C (pc := 69) (tgt := 114) (off := 45) dX12_read_69 hq16 (by decide +kernel) (by decide +kernel) (by decide +kernel) (by decide) ?_
            refine x_aload_n C (pc := 114) dX12_read_114 rfl ?_
            refine x_callVv C (pc := 115) mv_X12_171 ht rfl [] (fun _ hr => ct_X12_readSuit _ ht _ _ hr) ⟨Nat.le_of_ble_eq_true rfl, Nat.le_of_ble_eq_true rfl⟩ rfl (Nat.le_of_ble_eq_true rfl) rfl dX12_read_115 (fun s17 => ?_)
            refine x_goto C (pc := 118) (tgt := 133) dX12_read_118 (by decide) ?_
            exact Xo.done (fun h => Yx.weak (lw_s (lw_s (lw_n lw_0))) h)
          refine Xo.ite (fun hq18 => ?_) (fun hq18 => ?_)
          · refine x_tabI C (pc := 69) (tgt := 121) (off := 52) dX12_read_69 hq18 (by decide +kernel) (by decide +kernel) (by decide +kernel) (by decide) ?_
            refine x_aload_n C (pc := 121) dX12_read_121 rfl ?_
            refine x_callVv C (pc := 122) mv_X12_174 ht rfl [] (fun _ hr => ct_X12_readHours _ ht _ _ hr) ⟨Nat.le_of_ble_eq_true rfl, Nat.le_of_ble_eq_true rfl⟩ rfl (Nat.le_of_ble_eq_true rfl) rfl dX12_read_122 (fun s19 => ?_)
            refine x_goto C (pc := 125) (tgt := 133) dX12_read_125 (by decide) ?_
            exact Xo.done (fun h => Yx.weak (lw_s (lw_s (lw_n lw_0))) h)
          have hT := tab_out (x := (gI s11 t 14)) (lo := 101) (hi := 104) 4 (fun j hj => by
            rcases j with _ | j
            · exact lv_neT hq12 (by decide +kernel)
            rcases j with _ | j
            · exact lv_neT hq14 (by decide +kernel)
            rcases j with _ | j
            · exact lv_neT hq16 (by decide +kernel)
            rcases j with _ | j
            · exact lv_neT hq18 (by decide +kernel)
            exact absurd hj (by omega)) (by decide)
          refine x_tabO C (pc := 69) (tgt := 128) dX12_read_69 hT (by decide) ?_
          refine x_aload_n C (pc := 128) dX12_read_128 rfl ?_
          refine x_iconst C (pc := 129) dX12_read_129 kc_i_0 ?_
          refine x_callVv C (pc := 130) mv_X12_145 ht rfl [.int (nI 0)] (fun _ hr => ct_X12_must _ ht _ _ _ hr) ⟨Nat.le_of_ble_eq_true rfl, Nat.le_of_ble_eq_true rfl⟩ rfl (Nat.le_of_ble_eq_true rfl) rfl dX12_read_130 (fun s20 => ?_)
          exact Xo.done (fun h => Yx.weak (lw_s (lw_s (lw_n lw_0))) h)
        refine x_iinc C (pc := 133) (L' := fun i22 => [some (.ref t), some (.int i22), none]) dX12_read_133 rfl kc_i_1 (by decide) (fun _ => rfl) (fun i22 => ?_)
        refine x_goto C (pc := 136) (tgt := 49) dX12_read_136 (by decide) ?_
        exact Xo.done (fun h => Yx.weak (lw_s (lw_s (lw_n lw_0))) h)
    · skip
      exact Xo.done (fun h => Yx.weak (lw_s (lw_s (lw_n lw_0))) h)
  refine x_aload_n C (pc := 139) dX12_read_139 rfl ?_
  refine x_getI C (pc := 140) fg_X12_42 dX12_read_140 ht ?_
  refine x_iconst C (pc := 143) dX12_read_143 kc_i_m1 ?_
  refine x_icmp_eq C (pc := 144) (tgt := 155) dX12_read_144 (by decide) (fun _ => ?_) (fun _ => ?_)
  · skip
    refine x_iconst C (pc := 155) dX12_read_155 kc_i_0 ?_
    refine x_istore_n C (pc := 156) (L' := fun i25 => [some (.ref t), some (.int e23), some (.int i25)]) dX12_read_156 (by decide) (fun _ => rfl) (fun i25 => ?_)
    refine xb_1 (Z1 := (fun s30 => Yx o 182 [none, some (.int e23), none] [] s30)) ?_ (fun s30 => ?_)
    · refine Xo.mono (Yx.weak (lw_s (lw_s (lw_s lw_0)))) (x_lp2 (fr := fun n26 s27 => Yx o 157 [some (.ref t), some (.int e23), some (.int n26)] [] s27) _ _ (fun n26 s27 => ?_))
      refine x_iload_n C (pc := 157) dX12_read_157 rfl ?_
      refine x_sipush C (pc := 158) dX12_read_158 kc_s_378 ?_
      refine x_icmp_ge C (pc := 161) (tgt := 182) dX12_read_161 (by decide) (fun _ => ?_) (fun _ => ?_)
      · skip
        exact Xo.done (fun h => Yx.weak (lw_n (lw_s (lw_n lw_0))) h)
      · skip
        refine x_aload_n C (pc := 164) dX12_read_164 rfl ?_
        refine x_getR C (pc := 165) fg_X12_7 dX12_read_165 ht ?_
        refine x_iload_n C (pc := 168) dX12_read_168 rfl ?_
        refine x_aload_n C (pc := 169) dX12_read_169 rfl ?_
        refine x_getR C (pc := 170) fg_X12_13 dX12_read_170 ht ?_
        refine x_iload_n C (pc := 173) dX12_read_173 rfl ?_
        refine x_iald C (pc := 174) dX12_read_174 (lkd_10_1 ht) (fun _ => ?_)
        refine x_iastn C (pc := 175) dX12_read_175 (lkd_10_0 ht) (fun s28 => ?_)
        refine x_iinc C (pc := 176) (L' := fun i29 => [some (.ref t), some (.int e23), some (.int i29)]) dX12_read_176 rfl kc_i_1 (by decide) (fun _ => rfl) (fun i29 => ?_)
        refine x_goto C (pc := 179) (tgt := 157) dX12_read_179 (by decide) ?_
        exact Xo.done (fun h => Yx.weak (lw_s (lw_s (lw_s lw_0))) h)
    refine x_iload_n C (pc := 182) dX12_read_182 rfl ?_
    exact x_ret dX12_read_183 (fun h => h)
  · skip
    refine x_bipush C (pc := 147) dX12_read_147 kc_b_m10 ?_
    refine x_aload_n C (pc := 149) dX12_read_149 rfl ?_
    refine x_getI C (pc := 150) fg_X12_42 dX12_read_150 ht ?_
    refine x_isub C (pc := 153) dX12_read_153 ?_
    exact x_ret dX12_read_154 (fun h => h)
theorem ct_X12_read (t : Nat) (ht : kd t = 10) (s0 : SS) (r : Int32) (s2 : SS) (h : FX12_read t s0 = some (r, s2)) : CT 1 yX12_read cX12_read 3 (some .int) 6 145 [.ref t] s0 (some (.int r)) s2 :=
  ct_of (by decide +kernel) (Or.inr (Or.inl ⟨_, rfl, _, rfl, rfl⟩)) (lx_args [.ref t]) (lx_entry [.ref t] (fun _ => Nat.le_of_ble_eq_true rfl)) (fun o C hR => Yx.weak (lw_s (lw_z (lw_z lw_0))) (bd_X12_read C t ht s0 (r, s2) h hR))
def FX12_no (t : Nat) (s0 : SS) : Option (Int32 × SS) :=
  gd (inb (nI 1) (ln (lk t 6))) (gd (inb (nI 1) (ln (lk t 6))) (nm (pI s0 (lk t 6) (Int32.toNatClampNeg (nI 1)) ((gI s0 (lk t 6) (Int32.toNatClampNeg (nI 1))) + (nI 1))) (fun (s1 : SS) => some (((-3 : Int32), s1)))))
set_option maxRecDepth 100000 in
set_option maxHeartbeats 4000000 in
theorem bd_X12_no {o : Om} (C : Cx o RX12 cX12_no 1 (some .int) (rmx 0 0) 1) (t : Nat) (ht : kd t = 10) (s0 : SS) : Xo (FX12_no t s0) (fun r => RT o cX12_no (some (.int r.1)) r.2) (Yx o 0 [some (.ref t)] [] s0) := by
  unfold FX12_no
  refine x_aload_n C (pc := 0) dX12_no_0 rfl ?_
  refine x_getR C (pc := 1) fg_X12_27 dX12_no_1 ht ?_
  refine x_iconst C (pc := 4) dX12_no_4 kc_i_1 ?_
  refine x_dup2 C (pc := 5) dX12_no_5 rfl rfl ?_
  refine x_iald C (pc := 6) dX12_no_6 (lkd_10_6 ht) (fun _ => ?_)
  refine x_iconst C (pc := 7) dX12_no_7 kc_i_1 ?_
  refine x_iadd C (pc := 8) dX12_no_8 ?_
  refine x_iastn C (pc := 9) dX12_no_9 (lkd_10_6 ht) (fun s1 => ?_)
  refine x_bipush C (pc := 10) dX12_no_10 kc_b_m3 ?_
  exact x_ret dX12_no_12 (fun h => h)
theorem ct_X12_no (t : Nat) (ht : kd t = 10) (s0 : SS) (r : Int32) (s2 : SS) (h : FX12_no t s0 = some (r, s2)) : CT 1 yX12_no cX12_no 1 (some .int) 0 0 [.ref t] s0 (some (.int r)) s2 :=
  ct_of (by decide +kernel) (Or.inr (Or.inl ⟨_, rfl, _, rfl, rfl⟩)) (lx_args [.ref t]) (lx_entry [.ref t] (fun _ => Nat.le_of_ble_eq_true rfl)) (fun o C hR => Yx.weak (lw_s lw_0) (bd_X12_no C t ht s0 (r, s2) h hR))
def FX12_undo (t : Nat) (s0 : SS) : Option (Int32 × SS) :=
  gd (inb (nI 137) (ln (lk t 0))) (if (gI s0 (lk t 0) (Int32.toNatClampNeg (nI 137))) = 0 then bd2 (FX12_no t s0) (fun (r1 : Int32) (s2 : SS) => some ((r1, s2))) else (gd (inb (nI 137) (ln (lk t 0))) (gd (inb (nI 137) (ln (lk t 0))) (nm (pI s0 (lk t 0) (Int32.toNatClampNeg (nI 137)) ((gI s0 (lk t 0) (Int32.toNatClampNeg (nI 137))) - (nI 1))) (fun (s3 : SS) => gd (inb (nI 137) (ln (lk t 0))) (nm ((nI 138) + ((nI 30) * (gI s3 (lk t 0) (Int32.toNatClampNeg (nI 137))))) (fun (i4 : Int32) => nm (nI 0) (fun (i5 : Int32) => bd (lp FUEL (u2 (fun (n6 : Int32) (s7 : SS) => if (nI 7) ≤ n6 then some (Sum.inr s7) else (gd (inb (i4 + n6) (ln (lk t 0))) (gd (inb ((nI 20) + ((nI 4) * n6)) (ln (lk t 0))) (nm (pI s7 (lk t 0) (Int32.toNatClampNeg ((nI 20) + ((nI 4) * n6))) (gI s7 (lk t 0) (Int32.toNatClampNeg (i4 + n6)))) (fun (s8 : SS) => nm (n6 + (nI 1)) (fun (i9 : Int32) => some (Sum.inl (i9, s8))))))))) (i5, s3)) (fun (s10 : SS) => nm (nI 0) (fun (i11 : Int32) => bd (lp FUEL (u2 (fun (n12 : Int32) (s13 : SS) => if (nI 23) ≤ n12 then some (Sum.inr s13) else (gd (inb ((i4 + (nI 7)) + n12) (ln (lk t 0))) (gd (inb ((nI 45) + n12) (ln (lk t 0))) (nm (pI s13 (lk t 0) (Int32.toNatClampNeg ((nI 45) + n12)) (gI s13 (lk t 0) (Int32.toNatClampNeg ((i4 + (nI 7)) + n12)))) (fun (s14 : SS) => nm (n12 + (nI 1)) (fun (i15 : Int32) => some (Sum.inl (i15, s14))))))))) (i11, s10)) (fun (s16 : SS) => gd (inb (nI 66) (ln (lk t 0))) (some (((gI s16 (lk t 0) (Int32.toNatClampNeg (nI 66))), s16))))))))))))))
set_option maxRecDepth 100000 in
set_option maxHeartbeats 4000000 in
theorem bd_X12_undo {o : Om} (C : Cx o RX12 cX12_undo 3 (some .int) (rmx 1 20) 1) (t : Nat) (ht : kd t = 10) (s0 : SS) : Xo (FX12_undo t s0) (fun r => RT o cX12_undo (some (.int r.1)) r.2) (Yx o 0 [some (.ref t), none, none] [] s0) := by
  unfold FX12_undo
  refine x_aload_n C (pc := 0) dX12_undo_0 rfl ?_
  refine x_getR C (pc := 1) fg_X12_7 dX12_undo_1 ht ?_
  refine x_sipush C (pc := 4) dX12_undo_4 kc_s_137 ?_
  refine x_iald C (pc := 7) dX12_undo_7 (lkd_10_0 ht) (fun _ => ?_)
  refine x_if_ne C (pc := 8) (tgt := 16) dX12_undo_8 (by decide) (fun _ => ?_) (fun _ => ?_)
  · skip
    refine x_aload_n C (pc := 11) dX12_undo_11 rfl ?_
    refine x_callVim C (pc := 12) mv_X12_177 ht rfl [] (fun _ _ hr => ct_X12_no _ ht _ _ _ hr) ⟨Nat.le_of_ble_eq_true rfl, Nat.le_of_ble_eq_true rfl⟩ rfl (Nat.le_of_ble_eq_true rfl) rfl dX12_undo_12 (fun r1 s2 => ?_)
    exact x_ret dX12_undo_15 (fun h => h)
  · skip
    refine x_aload_n C (pc := 16) dX12_undo_16 rfl ?_
    refine x_getR C (pc := 17) fg_X12_7 dX12_undo_17 ht ?_
    refine x_sipush C (pc := 20) dX12_undo_20 kc_s_137 ?_
    refine x_dup2 C (pc := 23) dX12_undo_23 rfl rfl ?_
    refine x_iald C (pc := 24) dX12_undo_24 (lkd_10_0 ht) (fun _ => ?_)
    refine x_iconst C (pc := 25) dX12_undo_25 kc_i_1 ?_
    refine x_isub C (pc := 26) dX12_undo_26 ?_
    refine x_iastn C (pc := 27) dX12_undo_27 (lkd_10_0 ht) (fun s3 => ?_)
    refine x_sipush C (pc := 28) dX12_undo_28 kc_s_138 ?_
    refine x_bipush C (pc := 31) dX12_undo_31 kc_b_30 ?_
    refine x_aload_n C (pc := 33) dX12_undo_33 rfl ?_
    refine x_getR C (pc := 34) fg_X12_7 dX12_undo_34 ht ?_
    refine x_sipush C (pc := 37) dX12_undo_37 kc_s_137 ?_
    refine x_iald C (pc := 40) dX12_undo_40 (lkd_10_0 ht) (fun _ => ?_)
    refine x_imul C (pc := 41) dX12_undo_41 ?_
    refine x_iadd C (pc := 42) dX12_undo_42 ?_
    refine x_istore_n C (pc := 43) (L' := fun i4 => [some (.ref t), some (.int i4), none]) dX12_undo_43 (by decide) (fun _ => rfl) (fun i4 => ?_)
    refine x_iconst C (pc := 44) dX12_undo_44 kc_i_0 ?_
    refine x_istore_n C (pc := 45) (L' := fun i5 => [some (.ref t), some (.int i4), some (.int i5)]) dX12_undo_45 (by decide) (fun _ => rfl) (fun i5 => ?_)
    refine xb_1 (Z1 := (fun s10 => Yx o 77 [some (.ref t), some (.int i4), none] [] s10)) ?_ (fun s10 => ?_)
    · refine Xo.mono (Yx.weak (lw_s (lw_s (lw_s lw_0)))) (x_lp2 (fr := fun n6 s7 => Yx o 46 [some (.ref t), some (.int i4), some (.int n6)] [] s7) _ _ (fun n6 s7 => ?_))
      refine x_iload_n C (pc := 46) dX12_undo_46 rfl ?_
      refine x_bipush C (pc := 47) dX12_undo_47 kc_b_7 ?_
      refine x_icmp_ge C (pc := 49) (tgt := 77) dX12_undo_49 (by decide) (fun _ => ?_) (fun _ => ?_)
      · skip
        exact Xo.done (fun h => Yx.weak (lw_s (lw_s (lw_n lw_0))) h)
      · skip
        refine x_aload_n C (pc := 52) dX12_undo_52 rfl ?_
        refine x_getR C (pc := 53) fg_X12_7 dX12_undo_53 ht ?_
        refine x_bipush C (pc := 56) dX12_undo_56 kc_b_20 ?_
        refine x_iconst C (pc := 58) dX12_undo_58 kc_i_4 ?_
        refine x_iload_n C (pc := 59) dX12_undo_59 rfl ?_
        refine x_imul C (pc := 60) dX12_undo_60 ?_
        refine x_iadd C (pc := 61) dX12_undo_61 ?_
        refine x_aload_n C (pc := 62) dX12_undo_62 rfl ?_
        refine x_getR C (pc := 63) fg_X12_7 dX12_undo_63 ht ?_
        refine x_iload_n C (pc := 66) dX12_undo_66 rfl ?_
        refine x_iload_n C (pc := 67) dX12_undo_67 rfl ?_
        refine x_iadd C (pc := 68) dX12_undo_68 ?_
        refine x_iald C (pc := 69) dX12_undo_69 (lkd_10_0 ht) (fun _ => ?_)
        refine x_iastn C (pc := 70) dX12_undo_70 (lkd_10_0 ht) (fun s8 => ?_)
        refine x_iinc C (pc := 71) (L' := fun i9 => [some (.ref t), some (.int i4), some (.int i9)]) dX12_undo_71 rfl kc_i_1 (by decide) (fun _ => rfl) (fun i9 => ?_)
        refine x_goto C (pc := 74) (tgt := 46) dX12_undo_74 (by decide) ?_
        exact Xo.done (fun h => Yx.weak (lw_s (lw_s (lw_s lw_0))) h)
    refine x_iconst C (pc := 77) dX12_undo_77 kc_i_0 ?_
    refine x_istore_n C (pc := 78) (L' := fun i11 => [some (.ref t), some (.int i4), some (.int i11)]) dX12_undo_78 (by decide) (fun _ => rfl) (fun i11 => ?_)
    refine xb_1 (Z1 := (fun s16 => Yx o 111 [some (.ref t), none, none] [] s16)) ?_ (fun s16 => ?_)
    · refine Xo.mono (Yx.weak (lw_s (lw_s (lw_s lw_0)))) (x_lp2 (fr := fun n12 s13 => Yx o 79 [some (.ref t), some (.int i4), some (.int n12)] [] s13) _ _ (fun n12 s13 => ?_))
      refine x_iload_n C (pc := 79) dX12_undo_79 rfl ?_
      refine x_bipush C (pc := 80) dX12_undo_80 kc_b_23 ?_
      refine x_icmp_ge C (pc := 82) (tgt := 111) dX12_undo_82 (by decide) (fun _ => ?_) (fun _ => ?_)
      · skip
        exact Xo.done (fun h => Yx.weak (lw_s (lw_n (lw_n lw_0))) h)
      · skip
        refine x_aload_n C (pc := 85) dX12_undo_85 rfl ?_
        refine x_getR C (pc := 86) fg_X12_7 dX12_undo_86 ht ?_
        refine x_bipush C (pc := 89) dX12_undo_89 kc_b_45 ?_
        refine x_iload_n C (pc := 91) dX12_undo_91 rfl ?_
        refine x_iadd C (pc := 92) dX12_undo_92 ?_
        refine x_aload_n C (pc := 93) dX12_undo_93 rfl ?_
        refine x_getR C (pc := 94) fg_X12_7 dX12_undo_94 ht ?_
        refine x_iload_n C (pc := 97) dX12_undo_97 rfl ?_
        refine x_bipush C (pc := 98) dX12_undo_98 kc_b_7 ?_
        refine x_iadd C (pc := 100) dX12_undo_100 ?_
        refine x_iload_n C (pc := 101) dX12_undo_101 rfl ?_
        refine x_iadd C (pc := 102) dX12_undo_102 ?_
        refine x_iald C (pc := 103) dX12_undo_103 (lkd_10_0 ht) (fun _ => ?_)
        refine x_iastn C (pc := 104) dX12_undo_104 (lkd_10_0 ht) (fun s14 => ?_)
        refine x_iinc C (pc := 105) (L' := fun i15 => [some (.ref t), some (.int i4), some (.int i15)]) dX12_undo_105 rfl kc_i_1 (by decide) (fun _ => rfl) (fun i15 => ?_)
        refine x_goto C (pc := 108) (tgt := 79) dX12_undo_108 (by decide) ?_
        exact Xo.done (fun h => Yx.weak (lw_s (lw_s (lw_s lw_0))) h)
    refine x_aload_n C (pc := 111) dX12_undo_111 rfl ?_
    refine x_getR C (pc := 112) fg_X12_7 dX12_undo_112 ht ?_
    refine x_bipush C (pc := 115) dX12_undo_115 kc_b_66 ?_
    refine x_iald C (pc := 117) dX12_undo_117 (lkd_10_0 ht) (fun _ => ?_)
    exact x_ret dX12_undo_118 (fun h => h)
theorem ct_X12_undo (t : Nat) (ht : kd t = 10) (s0 : SS) (r : Int32) (s2 : SS) (h : FX12_undo t s0 = some (r, s2)) : CT 1 yX12_undo cX12_undo 3 (some .int) 1 20 [.ref t] s0 (some (.int r)) s2 :=
  ct_of (by decide +kernel) (Or.inr (Or.inl ⟨_, rfl, _, rfl, rfl⟩)) (lx_args [.ref t]) (lx_entry [.ref t] (fun _ => Nat.le_of_ble_eq_true rfl)) (fun o C hR => Yx.weak (lw_s (lw_z (lw_z lw_0))) (bd_X12_undo C t ht s0 (r, s2) h hR))
def FX12_keep (t : Nat) (s0 : SS) : Option (SS) :=
  gd (inb (nI 137) (ln (lk t 0))) (bd (if (gI s0 (lk t 0) (Int32.toNatClampNeg (nI 137))) = (nI 8) then nm (nI 0) (fun (i1 : Int32) => bd (lp FUEL (u2 (fun (n2 : Int32) (s3 : SS) => if (nI 210) ≤ n2 then some (Sum.inr s3) else (gd (inb (((nI 138) + n2) + (nI 30)) (ln (lk t 0))) (gd (inb ((nI 138) + n2) (ln (lk t 0))) (nm (pI s3 (lk t 0) (Int32.toNatClampNeg ((nI 138) + n2)) (gI s3 (lk t 0) (Int32.toNatClampNeg (((nI 138) + n2) + (nI 30))))) (fun (s4 : SS) => nm (n2 + (nI 1)) (fun (i5 : Int32) => some (Sum.inl (i5, s4))))))))) (i1, s0)) (fun (s6 : SS) => gd (inb (nI 137) (ln (lk t 0))) (gd (inb (nI 137) (ln (lk t 0))) (nm (pI s6 (lk t 0) (Int32.toNatClampNeg (nI 137)) ((gI s6 (lk t 0) (Int32.toNatClampNeg (nI 137))) - (nI 1))) (fun (s7 : SS) => some (s7)))))) else (some (s0))) (fun (s8 : SS) => gd (inb (nI 137) (ln (lk t 0))) (nm ((nI 138) + ((nI 30) * (gI s8 (lk t 0) (Int32.toNatClampNeg (nI 137))))) (fun (i9 : Int32) => nm (nI 0) (fun (i10 : Int32) => bd (lp FUEL (u2 (fun (n11 : Int32) (s12 : SS) => if (nI 7) ≤ n11 then some (Sum.inr s12) else (bd (FX12_userOf (lk t 0) n11 (nI 3) s12) (fun (r13 : Int32) => gd (inb (i9 + n11) (ln (lk t 0))) (nm (pI s12 (lk t 0) (Int32.toNatClampNeg (i9 + n11)) r13) (fun (s14 : SS) => nm (n11 + (nI 1)) (fun (i15 : Int32) => some (Sum.inl (i15, s14))))))))) (i10, s8)) (fun (s16 : SS) => nm (nI 0) (fun (i17 : Int32) => bd (lp FUEL (u2 (fun (n18 : Int32) (s19 : SS) => if (nI 23) ≤ n18 then some (Sum.inr s19) else (gd (inb ((nI 45) + n18) (ln (lk t 0))) (gd (inb ((i9 + (nI 7)) + n18) (ln (lk t 0))) (nm (pI s19 (lk t 0) (Int32.toNatClampNeg ((i9 + (nI 7)) + n18)) (gI s19 (lk t 0) (Int32.toNatClampNeg ((nI 45) + n18)))) (fun (s20 : SS) => nm (n18 + (nI 1)) (fun (i21 : Int32) => some (Sum.inl (i21, s20))))))))) (i17, s16)) (fun (s22 : SS) => gd (inb (nI 137) (ln (lk t 0))) (gd (inb (nI 137) (ln (lk t 0))) (nm (pI s22 (lk t 0) (Int32.toNatClampNeg (nI 137)) ((gI s22 (lk t 0) (Int32.toNatClampNeg (nI 137))) + (nI 1))) (fun (s23 : SS) => some (s23))))))))))))
set_option maxRecDepth 100000 in
set_option maxHeartbeats 4000000 in
theorem bd_X12_keep {o : Om} (C : Cx o RX12 cX12_keep 3 none (rmx 1 22) 1) (t : Nat) (ht : kd t = 10) (s0 : SS) : Xo (FX12_keep t s0) (fun r => RT o cX12_keep none r) (Yx o 0 [some (.ref t), none, none] [] s0) := by
  unfold FX12_keep
  refine x_aload_n C (pc := 0) dX12_keep_0 rfl ?_
  refine x_getR C (pc := 1) fg_X12_7 dX12_keep_1 ht ?_
  refine x_sipush C (pc := 4) dX12_keep_4 kc_s_137 ?_
  refine x_iald C (pc := 7) dX12_keep_7 (lkd_10_0 ht) (fun _ => ?_)
  refine x_bipush C (pc := 8) dX12_keep_8 kc_b_8 ?_
  refine xb_1 (Z1 := fun s8 => Yx o 63 [some (.ref t), none, none] [] s8) ?_ (fun s8 => ?_)
  · skip
    refine x_icmp_ne C (pc := 10) (tgt := 63) dX12_keep_10 (by decide) (fun _ => ?_) (fun _ => ?_)
    · skip
      refine x_iconst C (pc := 13) dX12_keep_13 kc_i_0 ?_
      refine x_istore_n C (pc := 14) (L' := fun i1 => [some (.ref t), some (.int i1), none]) dX12_keep_14 (by decide) (fun _ => rfl) (fun i1 => ?_)
      refine xb_1 (Z1 := (fun s6 => Yx o 51 [some (.ref t), none, none] [] s6)) ?_ (fun s6 => ?_)
      · refine Xo.mono (Yx.weak (lw_s (lw_s (lw_n lw_0)))) (x_lp2 (fr := fun n2 s3 => Yx o 15 [some (.ref t), some (.int n2), none] [] s3) _ _ (fun n2 s3 => ?_))
        refine x_iload_n C (pc := 15) dX12_keep_15 rfl ?_
        refine x_sipush C (pc := 16) dX12_keep_16 kc_s_210 ?_
        refine x_icmp_ge C (pc := 19) (tgt := 51) dX12_keep_19 (by decide) (fun _ => ?_) (fun _ => ?_)
        · skip
          exact Xo.done (fun h => Yx.weak (lw_s (lw_n (lw_n lw_0))) h)
        · skip
          refine x_aload_n C (pc := 22) dX12_keep_22 rfl ?_
          refine x_getR C (pc := 23) fg_X12_7 dX12_keep_23 ht ?_
          refine x_sipush C (pc := 26) dX12_keep_26 kc_s_138 ?_
          refine x_iload_n C (pc := 29) dX12_keep_29 rfl ?_
          refine x_iadd C (pc := 30) dX12_keep_30 ?_
          refine x_aload_n C (pc := 31) dX12_keep_31 rfl ?_
          refine x_getR C (pc := 32) fg_X12_7 dX12_keep_32 ht ?_
          refine x_sipush C (pc := 35) dX12_keep_35 kc_s_138 ?_
          refine x_iload_n C (pc := 38) dX12_keep_38 rfl ?_
          refine x_iadd C (pc := 39) dX12_keep_39 ?_
          refine x_bipush C (pc := 40) dX12_keep_40 kc_b_30 ?_
          refine x_iadd C (pc := 42) dX12_keep_42 ?_
          refine x_iald C (pc := 43) dX12_keep_43 (lkd_10_0 ht) (fun _ => ?_)
          refine x_iastn C (pc := 44) dX12_keep_44 (lkd_10_0 ht) (fun s4 => ?_)
          refine x_iinc C (pc := 45) (L' := fun i5 => [some (.ref t), some (.int i5), none]) dX12_keep_45 rfl kc_i_1 (by decide) (fun _ => rfl) (fun i5 => ?_)
          refine x_goto C (pc := 48) (tgt := 15) dX12_keep_48 (by decide) ?_
          exact Xo.done (fun h => Yx.weak (lw_s (lw_s (lw_n lw_0))) h)
      refine x_aload_n C (pc := 51) dX12_keep_51 rfl ?_
      refine x_getR C (pc := 52) fg_X12_7 dX12_keep_52 ht ?_
      refine x_sipush C (pc := 55) dX12_keep_55 kc_s_137 ?_
      refine x_dup2 C (pc := 58) dX12_keep_58 rfl rfl ?_
      refine x_iald C (pc := 59) dX12_keep_59 (lkd_10_0 ht) (fun _ => ?_)
      refine x_iconst C (pc := 60) dX12_keep_60 kc_i_1 ?_
      refine x_isub C (pc := 61) dX12_keep_61 ?_
      refine x_iastn C (pc := 62) dX12_keep_62 (lkd_10_0 ht) (fun s7 => ?_)
      exact Xo.done (fun h => Yx.weak (lw_s (lw_n (lw_n lw_0))) h)
    · skip
      exact Xo.done (fun h => Yx.weak (lw_s (lw_n (lw_n lw_0))) h)
  refine x_sipush C (pc := 63) dX12_keep_63 kc_s_138 ?_
  refine x_bipush C (pc := 66) dX12_keep_66 kc_b_30 ?_
  refine x_aload_n C (pc := 68) dX12_keep_68 rfl ?_
  refine x_getR C (pc := 69) fg_X12_7 dX12_keep_69 ht ?_
  refine x_sipush C (pc := 72) dX12_keep_72 kc_s_137 ?_
  refine x_iald C (pc := 75) dX12_keep_75 (lkd_10_0 ht) (fun _ => ?_)
  refine x_imul C (pc := 76) dX12_keep_76 ?_
  refine x_iadd C (pc := 77) dX12_keep_77 ?_
  refine x_istore_n C (pc := 78) (L' := fun i9 => [some (.ref t), some (.int i9), none]) dX12_keep_78 (by decide) (fun _ => rfl) (fun i9 => ?_)
  refine x_iconst C (pc := 79) dX12_keep_79 kc_i_0 ?_
  refine x_istore_n C (pc := 80) (L' := fun i10 => [some (.ref t), some (.int i9), some (.int i10)]) dX12_keep_80 (by decide) (fun _ => rfl) (fun i10 => ?_)
  refine xb_1 (Z1 := (fun s16 => Yx o 110 [some (.ref t), some (.int i9), none] [] s16)) ?_ (fun s16 => ?_)
  · refine Xo.mono (Yx.weak (lw_s (lw_s (lw_s lw_0)))) (x_lp2 (fr := fun n11 s12 => Yx o 81 [some (.ref t), some (.int i9), some (.int n11)] [] s12) _ _ (fun n11 s12 => ?_))
    refine x_iload_n C (pc := 81) dX12_keep_81 rfl ?_
    refine x_bipush C (pc := 82) dX12_keep_82 kc_b_7 ?_
    refine x_icmp_ge C (pc := 84) (tgt := 110) dX12_keep_84 (by decide) (fun _ => ?_) (fun _ => ?_)
    · skip
      exact Xo.done (fun h => Yx.weak (lw_s (lw_s (lw_n lw_0))) h)
    · skip
      refine x_aload_n C (pc := 87) dX12_keep_87 rfl ?_
      refine x_getR C (pc := 88) fg_X12_7 dX12_keep_88 ht ?_
      refine x_iload_n C (pc := 91) dX12_keep_91 rfl ?_
      refine x_iload_n C (pc := 92) dX12_keep_92 rfl ?_
      refine x_iadd C (pc := 93) dX12_keep_93 ?_
      refine x_aload_n C (pc := 94) dX12_keep_94 rfl ?_
      refine x_getR C (pc := 95) fg_X12_7 dX12_keep_95 ht ?_
      refine x_iload_n C (pc := 98) dX12_keep_98 rfl ?_
      refine x_iconst C (pc := 99) dX12_keep_99 kc_i_3 ?_
      refine x_callSi C (pc := 100) ms_X12_66 [.ref (lk t 0), .int n11, .int (nI 3)] (fun _ hr => ct_X12_userOf _ (lkd_10_0 ht) _ _ _ _ hr) ⟨Nat.le_of_ble_eq_true rfl, Nat.le_of_ble_eq_true rfl⟩ rfl (Nat.le_of_ble_eq_true rfl) rfl dX12_keep_100 (fun r13 => ?_)
      refine x_iastn C (pc := 103) dX12_keep_103 (lkd_10_0 ht) (fun s14 => ?_)
      refine x_iinc C (pc := 104) (L' := fun i15 => [some (.ref t), some (.int i9), some (.int i15)]) dX12_keep_104 rfl kc_i_1 (by decide) (fun _ => rfl) (fun i15 => ?_)
      refine x_goto C (pc := 107) (tgt := 81) dX12_keep_107 (by decide) ?_
      exact Xo.done (fun h => Yx.weak (lw_s (lw_s (lw_s lw_0))) h)
  refine x_iconst C (pc := 110) dX12_keep_110 kc_i_0 ?_
  refine x_istore_n C (pc := 111) (L' := fun i17 => [some (.ref t), some (.int i9), some (.int i17)]) dX12_keep_111 (by decide) (fun _ => rfl) (fun i17 => ?_)
  refine xb_1 (Z1 := (fun s22 => Yx o 144 [some (.ref t), none, none] [] s22)) ?_ (fun s22 => ?_)
  · refine Xo.mono (Yx.weak (lw_s (lw_s (lw_s lw_0)))) (x_lp2 (fr := fun n18 s19 => Yx o 112 [some (.ref t), some (.int i9), some (.int n18)] [] s19) _ _ (fun n18 s19 => ?_))
    refine x_iload_n C (pc := 112) dX12_keep_112 rfl ?_
    refine x_bipush C (pc := 113) dX12_keep_113 kc_b_23 ?_
    refine x_icmp_ge C (pc := 115) (tgt := 144) dX12_keep_115 (by decide) (fun _ => ?_) (fun _ => ?_)
    · skip
      exact Xo.done (fun h => Yx.weak (lw_s (lw_n (lw_n lw_0))) h)
    · skip
      refine x_aload_n C (pc := 118) dX12_keep_118 rfl ?_
      refine x_getR C (pc := 119) fg_X12_7 dX12_keep_119 ht ?_
      refine x_iload_n C (pc := 122) dX12_keep_122 rfl ?_
      refine x_bipush C (pc := 123) dX12_keep_123 kc_b_7 ?_
      refine x_iadd C (pc := 125) dX12_keep_125 ?_
      refine x_iload_n C (pc := 126) dX12_keep_126 rfl ?_
      refine x_iadd C (pc := 127) dX12_keep_127 ?_
      refine x_aload_n C (pc := 128) dX12_keep_128 rfl ?_
      refine x_getR C (pc := 129) fg_X12_7 dX12_keep_129 ht ?_
      refine x_bipush C (pc := 132) dX12_keep_132 kc_b_45 ?_
      refine x_iload_n C (pc := 134) dX12_keep_134 rfl ?_
      refine x_iadd C (pc := 135) dX12_keep_135 ?_
      refine x_iald C (pc := 136) dX12_keep_136 (lkd_10_0 ht) (fun _ => ?_)
      refine x_iastn C (pc := 137) dX12_keep_137 (lkd_10_0 ht) (fun s20 => ?_)
      refine x_iinc C (pc := 138) (L' := fun i21 => [some (.ref t), some (.int i9), some (.int i21)]) dX12_keep_138 rfl kc_i_1 (by decide) (fun _ => rfl) (fun i21 => ?_)
      refine x_goto C (pc := 141) (tgt := 112) dX12_keep_141 (by decide) ?_
      exact Xo.done (fun h => Yx.weak (lw_s (lw_s (lw_s lw_0))) h)
  refine x_aload_n C (pc := 144) dX12_keep_144 rfl ?_
  refine x_getR C (pc := 145) fg_X12_7 dX12_keep_145 ht ?_
  refine x_sipush C (pc := 148) dX12_keep_148 kc_s_137 ?_
  refine x_dup2 C (pc := 151) dX12_keep_151 rfl rfl ?_
  refine x_iald C (pc := 152) dX12_keep_152 (lkd_10_0 ht) (fun _ => ?_)
  refine x_iconst C (pc := 153) dX12_keep_153 kc_i_1 ?_
  refine x_iadd C (pc := 154) dX12_keep_154 ?_
  refine x_iastn C (pc := 155) dX12_keep_155 (lkd_10_0 ht) (fun s23 => ?_)
  exact x_vret dX12_keep_156 (fun h => h)
theorem ct_X12_keep (t : Nat) (ht : kd t = 10) (s0 : SS) (r : SS) (h : FX12_keep t s0 = some r) : CT 1 yX12_keep cX12_keep 3 none 1 22 [.ref t] s0 none r :=
  ct_of (by decide +kernel) (Or.inl ⟨rfl, rfl⟩) (lx_args [.ref t]) (lx_entry [.ref t] (fun _ => Nat.le_of_ble_eq_true rfl)) (fun o C hR => Yx.weak (lw_s (lw_z (lw_z lw_0))) (bd_X12_keep C t ht s0 r h hR))
def FX12_hour (t : Nat) (a : Int32) (s0 : SS) : Option (Int32 × SS) :=
  bd (FX12_in (Int32.toInt64 a) (lN 1) (99 : Int64) s0) (fun (r1 : Int32) => if r1 = 0 then bd2 (FX12_bad t s0) (fun (r2 : Int32) (s3 : SS) => some ((r2, s3))) else (bd (FX12_keep t s0) (fun (s4 : SS) => bd2 (FX12_hoursOf t (lk t 0) a s4) (fun (r5 : Int32) (s6 : SS) => some ((r5, s6))))))
set_option maxRecDepth 100000 in
set_option maxHeartbeats 4000000 in
theorem bd_X12_hour {o : Om} (C : Cx o RX12 cX12_hour 2 (some .int) (rmx 5 123) 1) (t : Nat) (ht : kd t = 10) (a : Int32) (s0 : SS) : Xo (FX12_hour t a s0) (fun r => RT o cX12_hour (some (.int r.1)) r.2) (Yx o 0 [some (.ref t), some (.int a)] [] s0) := by
  unfold FX12_hour
  refine x_iload_n C (pc := 0) dX12_hour_0 rfl ?_
  refine x_i2l C (pc := 1) dX12_hour_1 ?_
  refine x_lconst C (pc := 2) dX12_hour_2 (v := lN 1) rfl ?_
  refine x_ldc2 C (pc := 3) dX12_hour_3 cl_X12_180 ?_
  refine x_callSi C (pc := 6) ms_X12_55 [.long (Int32.toInt64 a), .long (lN 1), .long (99 : Int64)] (fun _ hr => ct_X12_in _ _ _ _ _ hr) ⟨Nat.le_of_ble_eq_true rfl, Nat.le_of_ble_eq_true rfl⟩ rfl (Nat.le_of_ble_eq_true rfl) rfl dX12_hour_6 (fun r1 => ?_)
  refine x_if_ne C (pc := 9) (tgt := 17) dX12_hour_9 (by decide) (fun _ => ?_) (fun _ => ?_)
  · skip
    refine x_aload_n C (pc := 12) dX12_hour_12 rfl ?_
    refine x_callVim C (pc := 13) mv_X12_101 ht rfl [] (fun _ _ hr => ct_X12_bad _ ht _ _ _ hr) ⟨Nat.le_of_ble_eq_true rfl, Nat.le_of_ble_eq_true rfl⟩ rfl (Nat.le_of_ble_eq_true rfl) rfl dX12_hour_13 (fun r2 s3 => ?_)
    exact x_ret dX12_hour_16 (fun h => h)
  · skip
    refine x_aload_n C (pc := 17) dX12_hour_17 rfl ?_
    refine x_callVv C (pc := 18) mv_X12_182 ht rfl [] (fun _ hr => ct_X12_keep _ ht _ _ hr) ⟨Nat.le_of_ble_eq_true rfl, Nat.le_of_ble_eq_true rfl⟩ rfl (Nat.le_of_ble_eq_true rfl) rfl dX12_hour_18 (fun s4 => ?_)
    refine x_aload_n C (pc := 21) dX12_hour_21 rfl ?_
    refine x_aload_n C (pc := 22) dX12_hour_22 rfl ?_
    refine x_getR C (pc := 23) fg_X12_7 dX12_hour_23 ht ?_
    refine x_iload_n C (pc := 26) dX12_hour_26 rfl ?_
    refine x_callVim C (pc := 27) mv_X12_161 ht rfl [.ref (lk t 0), .int a] (fun _ _ hr => ct_X12_hoursOf _ ht _ (lkd_10_0 ht) _ _ _ _ hr) ⟨Nat.le_of_ble_eq_true rfl, Nat.le_of_ble_eq_true rfl⟩ rfl (Nat.le_of_ble_eq_true rfl) rfl dX12_hour_27 (fun r5 s6 => ?_)
    exact x_ret dX12_hour_30 (fun h => h)
theorem ct_X12_hour (t : Nat) (ht : kd t = 10) (a : Int32) (s0 : SS) (r : Int32) (s2 : SS) (h : FX12_hour t a s0 = some (r, s2)) : CT 1 yX12_hour cX12_hour 2 (some .int) 5 123 [.ref t, .int a] s0 (some (.int r)) s2 :=
  ct_of (by decide +kernel) (Or.inr (Or.inl ⟨_, rfl, _, rfl, rfl⟩)) (lx_args [.ref t, .int a]) (lx_entry [.ref t, .int a] (fun _ => Nat.le_of_ble_eq_true rfl)) (fun o C hR => Yx.weak (lw_s (lw_s lw_0)) (bd_X12_hour C t ht a s0 (r, s2) h hR))
def FX12_isUser (t : Nat) (a : Int32) (s0 : SS) : Option (Int32) :=
  gd (inb (nI 16) (ln (lk t 0))) (bd (FX12_in (Int32.toInt64 a) (lN 0) (Int32.toInt64 ((gI s0 (lk t 0) (Int32.toNatClampNeg (nI 16))) - (nI 1))) s0) (fun (r1 : Int32) => gd (zb r1) (some (r1))))
set_option maxRecDepth 100000 in
set_option maxHeartbeats 4000000 in
theorem bd_X12_isUser {o : Om} (C : Cx o RX12 cX12_isUser 2 (some .boolean) (rmx 1 25) 1) (t : Nat) (ht : kd t = 10) (a : Int32) (s0 : SS) : Xo (FX12_isUser t a s0) (fun r => zb r = true → RT o cX12_isUser (some (.int r)) s0) (Yx o 0 [some (.ref t), some (.int a)] [] s0) := by
  unfold FX12_isUser
  refine x_iload_n C (pc := 0) dX12_isUser_0 rfl ?_
  refine x_i2l C (pc := 1) dX12_isUser_1 ?_
  refine x_lconst C (pc := 2) dX12_isUser_2 (v := lN 0) rfl ?_
  refine x_aload_n C (pc := 3) dX12_isUser_3 rfl ?_
  refine x_getR C (pc := 4) fg_X12_7 dX12_isUser_4 ht ?_
  refine x_bipush C (pc := 7) dX12_isUser_7 kc_b_16 ?_
  refine x_iald C (pc := 9) dX12_isUser_9 (lkd_10_0 ht) (fun _ => ?_)
  refine x_iconst C (pc := 10) dX12_isUser_10 kc_i_1 ?_
  refine x_isub C (pc := 11) dX12_isUser_11 ?_
  refine x_i2l C (pc := 12) dX12_isUser_12 ?_
  refine x_callSi C (pc := 13) ms_X12_55 [.long (Int32.toInt64 a), .long (lN 0), .long (Int32.toInt64 ((gI s0 (lk t 0) (Int32.toNatClampNeg (nI 16))) - (nI 1)))] (fun _ hr => ct_X12_in _ _ _ _ _ hr) ⟨Nat.le_of_ble_eq_true rfl, Nat.le_of_ble_eq_true rfl⟩ rfl (Nat.le_of_ble_eq_true rfl) rfl dX12_isUser_13 (fun r1 => ?_)
  refine Xo.gd (fun hz => ?_)
  exact x_ret dX12_isUser_16 (fun h => h hz)
theorem ct_X12_isUser (t : Nat) (ht : kd t = 10) (a : Int32) (s0 : SS) (r : Int32) (h : FX12_isUser t a s0 = some r) : CT 1 yX12_isUser cX12_isUser 2 (some .boolean) 1 25 [.ref t, .int a] s0 (some (.int r)) s0 :=
  ct_ofz (by decide +kernel) rfl (lx_args [.ref t, .int a]) (lx_entry [.ref t, .int a] (fun _ => Nat.le_of_ble_eq_true rfl)) (fun o C hR => Yx.weak (lw_s (lw_s lw_0)) (bd_X12_isUser C t ht a s0 r h hR))
def FX12_suit (t : Nat) (a : Int32) (b : Int32) (s0 : SS) : Option (Int32 × SS) :=
  bd (FX12_in (Int32.toInt64 a) (lN 0) (5 : Int64) s0) (fun (r1 : Int32) => if r1 = 0 then bd2 (FX12_bad t s0) (fun (r2 : Int32) (s3 : SS) => some ((r2, s3))) else (bd (FX12_isUser t b s0) (fun (r4 : Int32) => if r4 = 0 then bd2 (FX12_bad t s0) (fun (r5 : Int32) (s6 : SS) => some ((r5, s6))) else (gd (inb (nI 45) (ln (lk t 0))) (if (gI s0 (lk t 0) (Int32.toNatClampNeg (nI 45))) = (nI 5) then bd2 (FX12_full t s0) (fun (r7 : Int32) (s8 : SS) => some ((r7, s8))) else (bd (FX12_keep t s0) (fun (s9 : SS) => bd (FX12_files (lk t 0) a b s9) (fun (s10 : SS) => gd (inb (nI 45) (ln (lk t 0))) (some ((((gI s10 (lk t 0) (Int32.toNatClampNeg (nI 45))) - (nI 1)), s10)))))))))))
set_option maxRecDepth 100000 in
set_option maxHeartbeats 4000000 in
theorem bd_X12_suit {o : Om} (C : Cx o RX12 cX12_suit 3 (some .int) (rmx 2 46) 1) (t : Nat) (ht : kd t = 10) (a : Int32) (b : Int32) (s0 : SS) : Xo (FX12_suit t a b s0) (fun r => RT o cX12_suit (some (.int r.1)) r.2) (Yx o 0 [some (.ref t), some (.int a), some (.int b)] [] s0) := by
  unfold FX12_suit
  refine x_iload_n C (pc := 0) dX12_suit_0 rfl ?_
  refine x_i2l C (pc := 1) dX12_suit_1 ?_
  refine x_lconst C (pc := 2) dX12_suit_2 (v := lN 0) rfl ?_
  refine x_ldc2 C (pc := 3) dX12_suit_3 cl_X12_105 ?_
  refine x_callSi C (pc := 6) ms_X12_55 [.long (Int32.toInt64 a), .long (lN 0), .long (5 : Int64)] (fun _ hr => ct_X12_in _ _ _ _ _ hr) ⟨Nat.le_of_ble_eq_true rfl, Nat.le_of_ble_eq_true rfl⟩ rfl (Nat.le_of_ble_eq_true rfl) rfl dX12_suit_6 (fun r1 => ?_)
  refine x_if_eq C (pc := 9) (tgt := 20) dX12_suit_9 (by decide) (fun _ => ?_) (fun _ => ?_)
  · skip
    refine x_aload_n C (pc := 20) dX12_suit_20 rfl ?_
    refine x_callVim C (pc := 21) mv_X12_101 ht rfl [] (fun _ _ hr => ct_X12_bad _ ht _ _ _ hr) ⟨Nat.le_of_ble_eq_true rfl, Nat.le_of_ble_eq_true rfl⟩ rfl (Nat.le_of_ble_eq_true rfl) rfl dX12_suit_21 (fun r2 s3 => ?_)
    exact x_ret dX12_suit_24 (fun h => h)
  · skip
    refine x_aload_n C (pc := 12) dX12_suit_12 rfl ?_
    refine x_iload_n C (pc := 13) dX12_suit_13 rfl ?_
    refine x_callVi C (pc := 14) mv_X12_185 ht rfl [.int b] (fun _ hr => ct_X12_isUser _ ht _ _ _ hr) ⟨Nat.le_of_ble_eq_true rfl, Nat.le_of_ble_eq_true rfl⟩ rfl (Nat.le_of_ble_eq_true rfl) rfl dX12_suit_14 (fun r4 => ?_)
    refine x_if_ne C (pc := 17) (tgt := 25) dX12_suit_17 (by decide) (fun _ => ?_) (fun _ => ?_)
    · skip
      refine x_aload_n C (pc := 20) dX12_suit_20 rfl ?_
      refine x_callVim C (pc := 21) mv_X12_101 ht rfl [] (fun _ _ hr => ct_X12_bad _ ht _ _ _ hr) ⟨Nat.le_of_ble_eq_true rfl, Nat.le_of_ble_eq_true rfl⟩ rfl (Nat.le_of_ble_eq_true rfl) rfl dX12_suit_21 (fun r5 s6 => ?_)
      exact x_ret dX12_suit_24 (fun h => h)
    · skip
      refine x_aload_n C (pc := 25) dX12_suit_25 rfl ?_
      refine x_getR C (pc := 26) fg_X12_7 dX12_suit_26 ht ?_
      refine x_bipush C (pc := 29) dX12_suit_29 kc_b_45 ?_
      refine x_iald C (pc := 31) dX12_suit_31 (lkd_10_0 ht) (fun _ => ?_)
      refine x_iconst C (pc := 32) dX12_suit_32 kc_i_5 ?_
      refine x_icmp_ne C (pc := 33) (tgt := 41) dX12_suit_33 (by decide) (fun _ => ?_) (fun _ => ?_)
      · skip
        refine x_aload_n C (pc := 36) dX12_suit_36 rfl ?_
        refine x_callVim C (pc := 37) mv_X12_111 ht rfl [] (fun _ _ hr => ct_X12_full _ ht _ _ _ hr) ⟨Nat.le_of_ble_eq_true rfl, Nat.le_of_ble_eq_true rfl⟩ rfl (Nat.le_of_ble_eq_true rfl) rfl dX12_suit_37 (fun r7 s8 => ?_)
        exact x_ret dX12_suit_40 (fun h => h)
      · skip
        refine x_aload_n C (pc := 41) dX12_suit_41 rfl ?_
        refine x_callVv C (pc := 42) mv_X12_182 ht rfl [] (fun _ hr => ct_X12_keep _ ht _ _ hr) ⟨Nat.le_of_ble_eq_true rfl, Nat.le_of_ble_eq_true rfl⟩ rfl (Nat.le_of_ble_eq_true rfl) rfl dX12_suit_42 (fun s9 => ?_)
        refine x_aload_n C (pc := 45) dX12_suit_45 rfl ?_
        refine x_getR C (pc := 46) fg_X12_7 dX12_suit_46 ht ?_
        refine x_iload_n C (pc := 49) dX12_suit_49 rfl ?_
        refine x_iload_n C (pc := 50) dX12_suit_50 rfl ?_
        refine x_callSv C (pc := 51) ms_X12_158 [.ref (lk t 0), .int a, .int b] (fun _ hr => ct_X12_files _ (lkd_10_0 ht) _ _ _ _ hr) ⟨Nat.le_of_ble_eq_true rfl, Nat.le_of_ble_eq_true rfl⟩ rfl (Nat.le_of_ble_eq_true rfl) rfl dX12_suit_51 (fun s10 => ?_)
        refine x_aload_n C (pc := 54) dX12_suit_54 rfl ?_
        refine x_getR C (pc := 55) fg_X12_7 dX12_suit_55 ht ?_
        refine x_bipush C (pc := 58) dX12_suit_58 kc_b_45 ?_
        refine x_iald C (pc := 60) dX12_suit_60 (lkd_10_0 ht) (fun _ => ?_)
        refine x_iconst C (pc := 61) dX12_suit_61 kc_i_1 ?_
        refine x_isub C (pc := 62) dX12_suit_62 ?_
        exact x_ret dX12_suit_63 (fun h => h)
theorem ct_X12_suit (t : Nat) (ht : kd t = 10) (a : Int32) (b : Int32) (s0 : SS) (r : Int32) (s2 : SS) (h : FX12_suit t a b s0 = some (r, s2)) : CT 1 yX12_suit cX12_suit 3 (some .int) 2 46 [.ref t, .int a, .int b] s0 (some (.int r)) s2 :=
  ct_of (by decide +kernel) (Or.inr (Or.inl ⟨_, rfl, _, rfl, rfl⟩)) (lx_args [.ref t, .int a, .int b]) (lx_entry [.ref t, .int a, .int b] (fun _ => Nat.le_of_ble_eq_true rfl)) (fun o C hR => Yx.weak (lw_s (lw_s (lw_s lw_0))) (bd_X12_suit C t ht a b s0 (r, s2) h hR))
def FX12_isSuit (t : Nat) (a : Int32) (s0 : SS) : Option (Int32) :=
  gd (inb (nI 45) (ln (lk t 0))) (bd (FX12_in (Int32.toInt64 a) (lN 0) (Int32.toInt64 ((gI s0 (lk t 0) (Int32.toNatClampNeg (nI 45))) - (nI 1))) s0) (fun (r1 : Int32) => gd (zb r1) (some (r1))))
set_option maxRecDepth 100000 in
set_option maxHeartbeats 4000000 in
theorem bd_X12_isSuit {o : Om} (C : Cx o RX12 cX12_isSuit 2 (some .boolean) (rmx 1 25) 1) (t : Nat) (ht : kd t = 10) (a : Int32) (s0 : SS) : Xo (FX12_isSuit t a s0) (fun r => zb r = true → RT o cX12_isSuit (some (.int r)) s0) (Yx o 0 [some (.ref t), some (.int a)] [] s0) := by
  unfold FX12_isSuit
  refine x_iload_n C (pc := 0) dX12_isSuit_0 rfl ?_
  refine x_i2l C (pc := 1) dX12_isSuit_1 ?_
  refine x_lconst C (pc := 2) dX12_isSuit_2 (v := lN 0) rfl ?_
  refine x_aload_n C (pc := 3) dX12_isSuit_3 rfl ?_
  refine x_getR C (pc := 4) fg_X12_7 dX12_isSuit_4 ht ?_
  refine x_bipush C (pc := 7) dX12_isSuit_7 kc_b_45 ?_
  refine x_iald C (pc := 9) dX12_isSuit_9 (lkd_10_0 ht) (fun _ => ?_)
  refine x_iconst C (pc := 10) dX12_isSuit_10 kc_i_1 ?_
  refine x_isub C (pc := 11) dX12_isSuit_11 ?_
  refine x_i2l C (pc := 12) dX12_isSuit_12 ?_
  refine x_callSi C (pc := 13) ms_X12_55 [.long (Int32.toInt64 a), .long (lN 0), .long (Int32.toInt64 ((gI s0 (lk t 0) (Int32.toNatClampNeg (nI 45))) - (nI 1)))] (fun _ hr => ct_X12_in _ _ _ _ _ hr) ⟨Nat.le_of_ble_eq_true rfl, Nat.le_of_ble_eq_true rfl⟩ rfl (Nat.le_of_ble_eq_true rfl) rfl dX12_isSuit_13 (fun r1 => ?_)
  refine Xo.gd (fun hz => ?_)
  exact x_ret dX12_isSuit_16 (fun h => h hz)
theorem ct_X12_isSuit (t : Nat) (ht : kd t = 10) (a : Int32) (s0 : SS) (r : Int32) (h : FX12_isSuit t a s0 = some r) : CT 1 yX12_isSuit cX12_isSuit 2 (some .boolean) 1 25 [.ref t, .int a] s0 (some (.int r)) s0 :=
  ct_ofz (by decide +kernel) rfl (lx_args [.ref t, .int a]) (lx_entry [.ref t, .int a] (fun _ => Nat.le_of_ble_eq_true rfl)) (fun o C hR => Yx.weak (lw_s (lw_s lw_0)) (bd_X12_isSuit C t ht a s0 r h hR))
def FX12_suitOf (a : Nat) (b : Int32) (c : Int32) (s0 : SS) : Option (Int32) :=
  gd (inb (((nI 46) + ((nI 4) * b)) + c) (ln a)) (some ((gI s0 a (Int32.toNatClampNeg (((nI 46) + ((nI 4) * b)) + c)))))
set_option maxRecDepth 100000 in
set_option maxHeartbeats 4000000 in
theorem bd_X12_suitOf {o : Om} (C : Cx o RX12 cX12_suitOf 3 (some .int) (rmx 0 0) 1) (a : Nat) (ha : kd a = 21) (b : Int32) (c : Int32) (s0 : SS) : Xo (FX12_suitOf a b c s0) (fun r => RT o cX12_suitOf (some (.int r)) s0) (Yx o 0 [some (.ref a), some (.int b), some (.int c)] [] s0) := by
  unfold FX12_suitOf
  refine x_aload_n C (pc := 0) dX12_suitOf_0 rfl ?_
  refine x_bipush C (pc := 1) dX12_suitOf_1 kc_b_46 ?_
  refine x_iconst C (pc := 3) dX12_suitOf_3 kc_i_4 ?_
  refine x_iload_n C (pc := 4) dX12_suitOf_4 rfl ?_
  refine x_imul C (pc := 5) dX12_suitOf_5 ?_
  refine x_iadd C (pc := 6) dX12_suitOf_6 ?_
  refine x_iload_n C (pc := 7) dX12_suitOf_7 rfl ?_
  refine x_iadd C (pc := 8) dX12_suitOf_8 ?_
  refine x_iald C (pc := 9) dX12_suitOf_9 ha (fun _ => ?_)
  exact x_ret dX12_suitOf_10 (fun h => h)
theorem ct_X12_suitOf (a : Nat) (ha : kd a = 21) (b : Int32) (c : Int32) (s0 : SS) (r : Int32) (h : FX12_suitOf a b c s0 = some r) : CT 1 yX12_suitOf cX12_suitOf 3 (some .int) 0 0 [.ref a, .int b, .int c] s0 (some (.int r)) s0 :=
  ct_of (by decide +kernel) (Or.inr (Or.inl ⟨_, rfl, _, rfl, rfl⟩)) (lx_args [.ref a, .int b, .int c]) (lx_entry [.ref a, .int b, .int c] (fun _ => Nat.le_of_ble_eq_true rfl)) (fun o C hR => Yx.weak (lw_s (lw_s (lw_s lw_0))) (bd_X12_suitOf C a ha b c s0 r h hR))
def FX12_isHeard (t : Nat) (a : Int32) (s0 : SS) : Option (Int32) :=
  bd (FX12_suitOf (lk t 0) a (nI 3) s0) (fun (r1 : Int32) => if r1 = (nI 1) then some ((nI 1)) else (some ((nI 0))))
set_option maxRecDepth 100000 in
set_option maxHeartbeats 4000000 in
theorem bd_X12_isHeard {o : Om} (C : Cx o RX12 cX12_isHeard 2 (some .boolean) (rmx 1 22) 1) (t : Nat) (ht : kd t = 10) (a : Int32) (s0 : SS) : Xo (FX12_isHeard t a s0) (fun r => zb r = true → RT o cX12_isHeard (some (.int r)) s0) (Yx o 0 [some (.ref t), some (.int a)] [] s0) := by
  unfold FX12_isHeard
  refine x_aload_n C (pc := 0) dX12_isHeard_0 rfl ?_
  refine x_getR C (pc := 1) fg_X12_7 dX12_isHeard_1 ht ?_
  refine x_iload_n C (pc := 4) dX12_isHeard_4 rfl ?_
  refine x_iconst C (pc := 5) dX12_isHeard_5 kc_i_3 ?_
  refine x_callSi C (pc := 6) ms_X12_188 [.ref (lk t 0), .int a, .int (nI 3)] (fun _ hr => ct_X12_suitOf _ (lkd_10_0 ht) _ _ _ _ hr) ⟨Nat.le_of_ble_eq_true rfl, Nat.le_of_ble_eq_true rfl⟩ rfl (Nat.le_of_ble_eq_true rfl) rfl dX12_isHeard_6 (fun r1 => ?_)
  refine x_iconst C (pc := 9) dX12_isHeard_9 kc_i_1 ?_
  refine x_icmp_ne C (pc := 10) (tgt := 17) dX12_isHeard_10 (by decide) (fun _ => ?_) (fun _ => ?_)
  · skip
    refine x_iconst C (pc := 13) dX12_isHeard_13 kc_i_1 ?_
    refine x_goto C (pc := 14) (tgt := 18) dX12_isHeard_14 (by decide) ?_
    exact x_ret dX12_isHeard_18 (fun h => h zb_1)
  · skip
    refine x_iconst C (pc := 17) dX12_isHeard_17 kc_i_0 ?_
    exact x_ret dX12_isHeard_18 (fun h => h zb_0)
theorem ct_X12_isHeard (t : Nat) (ht : kd t = 10) (a : Int32) (s0 : SS) (r : Int32) (h : FX12_isHeard t a s0 = some r) : CT 1 yX12_isHeard cX12_isHeard 2 (some .boolean) 1 22 [.ref t, .int a] s0 (some (.int r)) s0 :=
  ct_ofz (by decide +kernel) rfl (lx_args [.ref t, .int a]) (lx_entry [.ref t, .int a] (fun _ => Nat.le_of_ble_eq_true rfl)) (fun o C hR => Yx.weak (lw_s (lw_s lw_0)) (bd_X12_isHeard C t ht a s0 r h hR))
def FX12_duesOf (t : Nat) (a : Int32) (s0 : SS) : Option (Int32) :=
  bd (FX12_userOf (lk t 0) a (nI 3) s0) (fun (r1 : Int32) => some (r1))
set_option maxRecDepth 100000 in
set_option maxHeartbeats 4000000 in
theorem bd_X12_duesOf {o : Om} (C : Cx o RX12 cX12_duesOf 2 (some .int) (rmx 1 22) 1) (t : Nat) (ht : kd t = 10) (a : Int32) (s0 : SS) : Xo (FX12_duesOf t a s0) (fun r => RT o cX12_duesOf (some (.int r)) s0) (Yx o 0 [some (.ref t), some (.int a)] [] s0) := by
  unfold FX12_duesOf
  refine x_aload_n C (pc := 0) dX12_duesOf_0 rfl ?_
  refine x_getR C (pc := 1) fg_X12_7 dX12_duesOf_1 ht ?_
  refine x_iload_n C (pc := 4) dX12_duesOf_4 rfl ?_
  refine x_iconst C (pc := 5) dX12_duesOf_5 kc_i_3 ?_
  refine x_callSi C (pc := 6) ms_X12_66 [.ref (lk t 0), .int a, .int (nI 3)] (fun _ hr => ct_X12_userOf _ (lkd_10_0 ht) _ _ _ _ hr) ⟨Nat.le_of_ble_eq_true rfl, Nat.le_of_ble_eq_true rfl⟩ rfl (Nat.le_of_ble_eq_true rfl) rfl dX12_duesOf_6 (fun r1 => ?_)
  exact x_ret dX12_duesOf_9 (fun h => h)
theorem ct_X12_duesOf (t : Nat) (ht : kd t = 10) (a : Int32) (s0 : SS) (r : Int32) (h : FX12_duesOf t a s0 = some r) : CT 1 yX12_duesOf cX12_duesOf 2 (some .int) 1 22 [.ref t, .int a] s0 (some (.int r)) s0 :=
  ct_of (by decide +kernel) (Or.inr (Or.inl ⟨_, rfl, _, rfl, rfl⟩)) (lx_args [.ref t, .int a]) (lx_entry [.ref t, .int a] (fun _ => Nat.le_of_ble_eq_true rfl)) (fun o C hR => Yx.weak (lw_s (lw_s lw_0)) (bd_X12_duesOf C t ht a s0 r h hR))
def FX12_ageOf (t : Nat) (a : Int32) (s0 : SS) : Option (Int32) :=
  gd (inb (nI 66) (ln (lk t 0))) (bd (FX12_suitOf (lk t 0) a (nI 2) s0) (fun (r1 : Int32) => some (((gI s0 (lk t 0) (Int32.toNatClampNeg (nI 66))) - r1))))
set_option maxRecDepth 100000 in
set_option maxHeartbeats 4000000 in
theorem bd_X12_ageOf {o : Om} (C : Cx o RX12 cX12_ageOf 2 (some .int) (rmx 1 22) 1) (t : Nat) (ht : kd t = 10) (a : Int32) (s0 : SS) : Xo (FX12_ageOf t a s0) (fun r => RT o cX12_ageOf (some (.int r)) s0) (Yx o 0 [some (.ref t), some (.int a)] [] s0) := by
  unfold FX12_ageOf
  refine x_aload_n C (pc := 0) dX12_ageOf_0 rfl ?_
  refine x_getR C (pc := 1) fg_X12_7 dX12_ageOf_1 ht ?_
  refine x_bipush C (pc := 4) dX12_ageOf_4 kc_b_66 ?_
  refine x_iald C (pc := 6) dX12_ageOf_6 (lkd_10_0 ht) (fun _ => ?_)
  refine x_aload_n C (pc := 7) dX12_ageOf_7 rfl ?_
  refine x_getR C (pc := 8) fg_X12_7 dX12_ageOf_8 ht ?_
  refine x_iload_n C (pc := 11) dX12_ageOf_11 rfl ?_
  refine x_iconst C (pc := 12) dX12_ageOf_12 kc_i_2 ?_
  refine x_callSi C (pc := 13) ms_X12_188 [.ref (lk t 0), .int a, .int (nI 2)] (fun _ hr => ct_X12_suitOf _ (lkd_10_0 ht) _ _ _ _ hr) ⟨Nat.le_of_ble_eq_true rfl, Nat.le_of_ble_eq_true rfl⟩ rfl (Nat.le_of_ble_eq_true rfl) rfl dX12_ageOf_13 (fun r1 => ?_)
  refine x_isub C (pc := 16) dX12_ageOf_16 ?_
  exact x_ret dX12_ageOf_17 (fun h => h)
theorem ct_X12_ageOf (t : Nat) (ht : kd t = 10) (a : Int32) (s0 : SS) (r : Int32) (h : FX12_ageOf t a s0 = some r) : CT 1 yX12_ageOf cX12_ageOf 2 (some .int) 1 22 [.ref t, .int a] s0 (some (.int r)) s0 :=
  ct_of (by decide +kernel) (Or.inr (Or.inl ⟨_, rfl, _, rfl, rfl⟩)) (lx_args [.ref t, .int a]) (lx_entry [.ref t, .int a] (fun _ => Nat.le_of_ble_eq_true rfl)) (fun o C hR => Yx.weak (lw_s (lw_s lw_0)) (bd_X12_ageOf C t ht a s0 r h hR))
def FX12_awardOf (a : Int32) (b : Int32) (c : Int32) (s0 : SS) : Option (Int32) :=
  if a = (nI 0) then some (b) else (if a = (nI 1) then some (((nI 2) * b)) else (if a = (nI 2) then some ((b + c)) else (if a = (nI 3) then some (((b + (nI 1)) / (nI 2))) else (if a = (nI 4) then if (nI 8) ≤ c then some (((nI 2) * (b + c))) else (some ((nI 0))) else (if (nI 40) ≤ ((nI 2) * b) then some ((nI 40)) else (some (((nI 2) * b))))))))
set_option maxRecDepth 100000 in
set_option maxHeartbeats 4000000 in
theorem bd_X12_awardOf {o : Om} (C : Cx o RX12 cX12_awardOf 3 (some .int) (rmx 0 0) 1) (a : Int32) (b : Int32) (c : Int32) (s0 : SS) : Xo (FX12_awardOf a b c s0) (fun r => RT o cX12_awardOf (some (.int r)) s0) (Yx o 0 [some (.int a), some (.int b), some (.int c)] [] s0) := by
  unfold FX12_awardOf
  refine x_iload_n C (pc := 0) dX12_awardOf_0 rfl ?_
  refine Xo.ite (fun hq1 => ?_) (fun hq1 => ?_)
  · refine x_tabI C (pc := 1) (tgt := 36) (off := 35) dX12_awardOf_1 hq1 (by decide +kernel) (by decide +kernel) (by decide +kernel) (by decide) ?_
    refine x_iload_n C (pc := 36) dX12_awardOf_36 rfl ?_
    exact x_ret dX12_awardOf_37 (fun h => h)
  refine Xo.ite (fun hq2 => ?_) (fun hq2 => ?_)
  · refine x_tabI C (pc := 1) (tgt := 38) (off := 37) dX12_awardOf_1 hq2 (by decide +kernel) (by decide +kernel) (by decide +kernel) (by decide) ?_
    refine x_iconst C (pc := 38) dX12_awardOf_38 kc_i_2 ?_
    refine x_iload_n C (pc := 39) dX12_awardOf_39 rfl ?_
    refine x_imul C (pc := 40) dX12_awardOf_40 ?_
    exact x_ret dX12_awardOf_41 (fun h => h)
  refine Xo.ite (fun hq3 => ?_) (fun hq3 => ?_)
  · refine x_tabI C (pc := 1) (tgt := 42) (off := 41) dX12_awardOf_1 hq3 (by decide +kernel) (by decide +kernel) (by decide +kernel) (by decide) ?_
    refine x_iload_n C (pc := 42) dX12_awardOf_42 rfl ?_
    refine x_iload_n C (pc := 43) dX12_awardOf_43 rfl ?_
    refine x_iadd C (pc := 44) dX12_awardOf_44 ?_
    exact x_ret dX12_awardOf_45 (fun h => h)
  refine Xo.ite (fun hq4 => ?_) (fun hq4 => ?_)
  · refine x_tabI C (pc := 1) (tgt := 46) (off := 45) dX12_awardOf_1 hq4 (by decide +kernel) (by decide +kernel) (by decide +kernel) (by decide) ?_
    refine x_iload_n C (pc := 46) dX12_awardOf_46 rfl ?_
    refine x_iconst C (pc := 47) dX12_awardOf_47 kc_i_1 ?_
    refine x_iadd C (pc := 48) dX12_awardOf_48 ?_
    refine x_iconst C (pc := 49) dX12_awardOf_49 kc_i_2 ?_
    refine x_idiv C (pc := 50) dX12_awardOf_50 (by decide +kernel) ?_
    exact x_ret dX12_awardOf_51 (fun h => h)
  refine Xo.ite (fun hq5 => ?_) (fun hq5 => ?_)
  · refine x_tabI C (pc := 1) (tgt := 52) (off := 51) dX12_awardOf_1 hq5 (by decide +kernel) (by decide +kernel) (by decide +kernel) (by decide) ?_
    refine x_iload_n C (pc := 52) dX12_awardOf_52 rfl ?_
    refine x_bipush C (pc := 53) dX12_awardOf_53 kc_b_8 ?_
    refine x_icmp_ge C (pc := 55) (tgt := 62) dX12_awardOf_55 (by decide) (fun _ => ?_) (fun _ => ?_)
    · skip
      refine x_iconst C (pc := 62) dX12_awardOf_62 kc_i_2 ?_
      refine x_iload_n C (pc := 63) dX12_awardOf_63 rfl ?_
      refine x_iload_n C (pc := 64) dX12_awardOf_64 rfl ?_
      refine x_iadd C (pc := 65) dX12_awardOf_65 ?_
      refine x_imul C (pc := 66) dX12_awardOf_66 ?_
      exact x_ret dX12_awardOf_67 (fun h => h)
    · skip
      refine x_iconst C (pc := 58) dX12_awardOf_58 kc_i_0 ?_
      refine x_goto C (pc := 59) (tgt := 67) dX12_awardOf_59 (by decide) ?_
      exact x_ret dX12_awardOf_67 (fun h => h)
  have hT := tab_out (x := a) (lo := 0) (hi := 4) 5 (fun j hj => by
    rcases j with _ | j
    · exact lv_neT hq1 (by decide +kernel)
    rcases j with _ | j
    · exact lv_neT hq2 (by decide +kernel)
    rcases j with _ | j
    · exact lv_neT hq3 (by decide +kernel)
    rcases j with _ | j
    · exact lv_neT hq4 (by decide +kernel)
    rcases j with _ | j
    · exact lv_neT hq5 (by decide +kernel)
    exact absurd hj (by omega)) (by decide)
  refine x_tabO C (pc := 1) (tgt := 68) dX12_awardOf_1 hT (by decide) ?_
  refine x_iconst C (pc := 68) dX12_awardOf_68 kc_i_2 ?_
  refine x_iload_n C (pc := 69) dX12_awardOf_69 rfl ?_
  refine x_imul C (pc := 70) dX12_awardOf_70 ?_
  refine x_bipush C (pc := 71) dX12_awardOf_71 kc_b_40 ?_
  refine x_icmp_ge C (pc := 73) (tgt := 82) dX12_awardOf_73 (by decide) (fun _ => ?_) (fun _ => ?_)
  · skip
    refine x_bipush C (pc := 82) dX12_awardOf_82 kc_b_40 ?_
    exact x_ret dX12_awardOf_84 (fun h => h)
  · skip
    refine x_iconst C (pc := 76) dX12_awardOf_76 kc_i_2 ?_
    refine x_iload_n C (pc := 77) dX12_awardOf_77 rfl ?_
    refine x_imul C (pc := 78) dX12_awardOf_78 ?_
    refine x_goto C (pc := 79) (tgt := 84) dX12_awardOf_79 (by decide) ?_
    exact x_ret dX12_awardOf_84 (fun h => h)
theorem ct_X12_awardOf (a : Int32) (b : Int32) (c : Int32) (s0 : SS) (r : Int32) (h : FX12_awardOf a b c s0 = some r) : CT 1 yX12_awardOf cX12_awardOf 3 (some .int) 0 0 [.int a, .int b, .int c] s0 (some (.int r)) s0 :=
  ct_of (by decide +kernel) (Or.inr (Or.inl ⟨_, rfl, _, rfl, rfl⟩)) (lx_args [.int a, .int b, .int c]) (lx_entry [.int a, .int b, .int c] (fun _ => Nat.le_of_ble_eq_true rfl)) (fun o C hR => Yx.weak (lw_s (lw_s (lw_s lw_0))) (bd_X12_awardOf C a b c s0 r h hR))
def FX12_awardNow (t : Nat) (a : Int32) (s0 : SS) : Option (Int32) :=
  bd (FX12_isHeard t a s0) (fun (r1 : Int32) => if r1 = 0 then bd (FX12_suitOf (lk t 0) a (nI 0) s0) (fun (r2 : Int32) => bd (FX12_suitOf (lk t 0) a (nI 1) s0) (fun (r3 : Int32) => bd (FX12_duesOf t r3 s0) (fun (r4 : Int32) => bd (FX12_ageOf t a s0) (fun (r5 : Int32) => bd (FX12_awardOf r2 r4 r5 s0) (fun (r6 : Int32) => some (r6)))))) else (some ((nI 0))))
set_option maxRecDepth 100000 in
set_option maxHeartbeats 4000000 in
theorem bd_X12_awardNow {o : Om} (C : Cx o RX12 cX12_awardNow 2 (some .int) (rmx 2 43) 1) (t : Nat) (ht : kd t = 10) (a : Int32) (s0 : SS) : Xo (FX12_awardNow t a s0) (fun r => RT o cX12_awardNow (some (.int r)) s0) (Yx o 0 [some (.ref t), some (.int a)] [] s0) := by
  unfold FX12_awardNow
  refine x_aload_n C (pc := 0) dX12_awardNow_0 rfl ?_
  refine x_iload_n C (pc := 1) dX12_awardNow_1 rfl ?_
  refine x_callVi C (pc := 2) mv_X12_191 ht rfl [.int a] (fun _ hr => ct_X12_isHeard _ ht _ _ _ hr) ⟨Nat.le_of_ble_eq_true rfl, Nat.le_of_ble_eq_true rfl⟩ rfl (Nat.le_of_ble_eq_true rfl) rfl dX12_awardNow_2 (fun r1 => ?_)
  refine x_if_eq C (pc := 5) (tgt := 12) dX12_awardNow_5 (by decide) (fun _ => ?_) (fun _ => ?_)
  · skip
    refine x_aload_n C (pc := 12) dX12_awardNow_12 rfl ?_
    refine x_getR C (pc := 13) fg_X12_7 dX12_awardNow_13 ht ?_
    refine x_iload_n C (pc := 16) dX12_awardNow_16 rfl ?_
    refine x_iconst C (pc := 17) dX12_awardNow_17 kc_i_0 ?_
    refine x_callSi C (pc := 18) ms_X12_188 [.ref (lk t 0), .int a, .int (nI 0)] (fun _ hr => ct_X12_suitOf _ (lkd_10_0 ht) _ _ _ _ hr) ⟨Nat.le_of_ble_eq_true rfl, Nat.le_of_ble_eq_true rfl⟩ rfl (Nat.le_of_ble_eq_true rfl) rfl dX12_awardNow_18 (fun r2 => ?_)
    refine x_aload_n C (pc := 21) dX12_awardNow_21 rfl ?_
    refine x_aload_n C (pc := 22) dX12_awardNow_22 rfl ?_
    refine x_getR C (pc := 23) fg_X12_7 dX12_awardNow_23 ht ?_
    refine x_iload_n C (pc := 26) dX12_awardNow_26 rfl ?_
    refine x_iconst C (pc := 27) dX12_awardNow_27 kc_i_1 ?_
    refine x_callSi C (pc := 28) ms_X12_188 [.ref (lk t 0), .int a, .int (nI 1)] (fun _ hr => ct_X12_suitOf _ (lkd_10_0 ht) _ _ _ _ hr) ⟨Nat.le_of_ble_eq_true rfl, Nat.le_of_ble_eq_true rfl⟩ rfl (Nat.le_of_ble_eq_true rfl) rfl dX12_awardNow_28 (fun r3 => ?_)
    refine x_callVi C (pc := 31) mv_X12_194 ht rfl [.int r3] (fun _ hr => ct_X12_duesOf _ ht _ _ _ hr) ⟨Nat.le_of_ble_eq_true rfl, Nat.le_of_ble_eq_true rfl⟩ rfl (Nat.le_of_ble_eq_true rfl) rfl dX12_awardNow_31 (fun r4 => ?_)
    refine x_aload_n C (pc := 34) dX12_awardNow_34 rfl ?_
    refine x_iload_n C (pc := 35) dX12_awardNow_35 rfl ?_
    refine x_callVi C (pc := 36) mv_X12_197 ht rfl [.int a] (fun _ hr => ct_X12_ageOf _ ht _ _ _ hr) ⟨Nat.le_of_ble_eq_true rfl, Nat.le_of_ble_eq_true rfl⟩ rfl (Nat.le_of_ble_eq_true rfl) rfl dX12_awardNow_36 (fun r5 => ?_)
    refine x_callSi C (pc := 39) ms_X12_200 [.int r2, .int r4, .int r5] (fun _ hr => ct_X12_awardOf _ _ _ _ _ hr) ⟨Nat.le_of_ble_eq_true rfl, Nat.le_of_ble_eq_true rfl⟩ rfl (Nat.le_of_ble_eq_true rfl) rfl dX12_awardNow_39 (fun r6 => ?_)
    exact x_ret dX12_awardNow_42 (fun h => h)
  · skip
    refine x_iconst C (pc := 8) dX12_awardNow_8 kc_i_0 ?_
    refine x_goto C (pc := 9) (tgt := 42) dX12_awardNow_9 (by decide) ?_
    exact x_ret dX12_awardNow_42 (fun h => h)
theorem ct_X12_awardNow (t : Nat) (ht : kd t = 10) (a : Int32) (s0 : SS) (r : Int32) (h : FX12_awardNow t a s0 = some r) : CT 1 yX12_awardNow cX12_awardNow 2 (some .int) 2 43 [.ref t, .int a] s0 (some (.int r)) s0 :=
  ct_of (by decide +kernel) (Or.inr (Or.inl ⟨_, rfl, _, rfl, rfl⟩)) (lx_args [.ref t, .int a]) (lx_entry [.ref t, .int a] (fun _ => Nat.le_of_ble_eq_true rfl)) (fun o C hR => Yx.weak (lw_s (lw_s lw_0)) (bd_X12_awardNow C t ht a s0 r h hR))
def FX12_hears (t : Nat) (a : Int32) (s0 : SS) : Option (Int32 × SS) :=
  bd (FX12_isSuit t a s0) (fun (r1 : Int32) => if r1 = 0 then bd2 (FX12_bad t s0) (fun (r2 : Int32) (s3 : SS) => some ((r2, s3))) else (bd (FX12_isHeard t a s0) (fun (r4 : Int32) => if r4 = 0 then bd (FX12_keep t s0) (fun (s5 : SS) => bd (FX12_awardNow t a s5) (fun (r6 : Int32) => nm r6 (fun (i7 : Int32) => gd (inb (nI 67) (ln (lk t 0))) (gd (inb (nI 67) (ln (lk t 0))) (nm (pI s5 (lk t 0) (Int32.toNatClampNeg (nI 67)) ((gI s5 (lk t 0) (Int32.toNatClampNeg (nI 67))) + i7)) (fun (s8 : SS) => bd (FX12_suitOf (lk t 0) a (nI 1) s8) (fun (r9 : Int32) => gd (inb ((nI 20) + ((nI 4) * r9)) (ln (lk t 0))) (nm (pI s8 (lk t 0) (Int32.toNatClampNeg ((nI 20) + ((nI 4) * r9))) (nI 0)) (fun (s10 : SS) => gd (inb ((nI 49) + ((nI 4) * a)) (ln (lk t 0))) (nm (pI s10 (lk t 0) (Int32.toNatClampNeg ((nI 49) + ((nI 4) * a))) (nI 1)) (fun (s11 : SS) => some ((i7, s11))))))))))))) else (bd2 (FX12_no t s0) (fun (r12 : Int32) (s13 : SS) => some ((r12, s13)))))))
set_option maxRecDepth 100000 in
set_option maxHeartbeats 4000000 in
theorem bd_X12_hears {o : Om} (C : Cx o RX12 cX12_hears 3 (some .int) (rmx 3 64) 1) (t : Nat) (ht : kd t = 10) (a : Int32) (s0 : SS) : Xo (FX12_hears t a s0) (fun r => RT o cX12_hears (some (.int r.1)) r.2) (Yx o 0 [some (.ref t), some (.int a), none] [] s0) := by
  unfold FX12_hears
  refine x_aload_n C (pc := 0) dX12_hears_0 rfl ?_
  refine x_iload_n C (pc := 1) dX12_hears_1 rfl ?_
  refine x_callVi C (pc := 2) mv_X12_203 ht rfl [.int a] (fun _ hr => ct_X12_isSuit _ ht _ _ _ hr) ⟨Nat.le_of_ble_eq_true rfl, Nat.le_of_ble_eq_true rfl⟩ rfl (Nat.le_of_ble_eq_true rfl) rfl dX12_hears_2 (fun r1 => ?_)
  refine x_if_ne C (pc := 5) (tgt := 13) dX12_hears_5 (by decide) (fun _ => ?_) (fun _ => ?_)
  · skip
    refine x_aload_n C (pc := 8) dX12_hears_8 rfl ?_
    refine x_callVim C (pc := 9) mv_X12_101 ht rfl [] (fun _ _ hr => ct_X12_bad _ ht _ _ _ hr) ⟨Nat.le_of_ble_eq_true rfl, Nat.le_of_ble_eq_true rfl⟩ rfl (Nat.le_of_ble_eq_true rfl) rfl dX12_hears_9 (fun r2 s3 => ?_)
    exact x_ret dX12_hears_12 (fun h => h)
  · skip
    refine x_aload_n C (pc := 13) dX12_hears_13 rfl ?_
    refine x_iload_n C (pc := 14) dX12_hears_14 rfl ?_
    refine x_callVi C (pc := 15) mv_X12_191 ht rfl [.int a] (fun _ hr => ct_X12_isHeard _ ht _ _ _ hr) ⟨Nat.le_of_ble_eq_true rfl, Nat.le_of_ble_eq_true rfl⟩ rfl (Nat.le_of_ble_eq_true rfl) rfl dX12_hears_15 (fun r4 => ?_)
    refine x_if_eq C (pc := 18) (tgt := 26) dX12_hears_18 (by decide) (fun _ => ?_) (fun _ => ?_)
    · skip
      refine x_aload_n C (pc := 26) dX12_hears_26 rfl ?_
      refine x_callVv C (pc := 27) mv_X12_182 ht rfl [] (fun _ hr => ct_X12_keep _ ht _ _ hr) ⟨Nat.le_of_ble_eq_true rfl, Nat.le_of_ble_eq_true rfl⟩ rfl (Nat.le_of_ble_eq_true rfl) rfl dX12_hears_27 (fun s5 => ?_)
      refine x_aload_n C (pc := 30) dX12_hears_30 rfl ?_
      refine x_iload_n C (pc := 31) dX12_hears_31 rfl ?_
      refine x_callVi C (pc := 32) mv_X12_206 ht rfl [.int a] (fun _ hr => ct_X12_awardNow _ ht _ _ _ hr) ⟨Nat.le_of_ble_eq_true rfl, Nat.le_of_ble_eq_true rfl⟩ rfl (Nat.le_of_ble_eq_true rfl) rfl dX12_hears_32 (fun r6 => ?_)
      refine x_istore_n C (pc := 35) (L' := fun i7 => [some (.ref t), some (.int a), some (.int i7)]) dX12_hears_35 (by decide) (fun _ => rfl) (fun i7 => ?_)
      refine x_aload_n C (pc := 36) dX12_hears_36 rfl ?_
      refine x_getR C (pc := 37) fg_X12_7 dX12_hears_37 ht ?_
      refine x_bipush C (pc := 40) dX12_hears_40 kc_b_67 ?_
      refine x_dup2 C (pc := 42) dX12_hears_42 rfl rfl ?_
      refine x_iald C (pc := 43) dX12_hears_43 (lkd_10_0 ht) (fun _ => ?_)
      refine x_iload_n C (pc := 44) dX12_hears_44 rfl ?_
      refine x_iadd C (pc := 45) dX12_hears_45 ?_
      refine x_iastn C (pc := 46) dX12_hears_46 (lkd_10_0 ht) (fun s8 => ?_)
      refine x_aload_n C (pc := 47) dX12_hears_47 rfl ?_
      refine x_getR C (pc := 48) fg_X12_7 dX12_hears_48 ht ?_
      refine x_bipush C (pc := 51) dX12_hears_51 kc_b_20 ?_
      refine x_iconst C (pc := 53) dX12_hears_53 kc_i_4 ?_
      refine x_aload_n C (pc := 54) dX12_hears_54 rfl ?_
      refine x_getR C (pc := 55) fg_X12_7 dX12_hears_55 ht ?_
      refine x_iload_n C (pc := 58) dX12_hears_58 rfl ?_
      refine x_iconst C (pc := 59) dX12_hears_59 kc_i_1 ?_
      refine x_callSi C (pc := 60) ms_X12_188 [.ref (lk t 0), .int a, .int (nI 1)] (fun _ hr => ct_X12_suitOf _ (lkd_10_0 ht) _ _ _ _ hr) ⟨Nat.le_of_ble_eq_true rfl, Nat.le_of_ble_eq_true rfl⟩ rfl (Nat.le_of_ble_eq_true rfl) rfl dX12_hears_60 (fun r9 => ?_)
      refine x_imul C (pc := 63) dX12_hears_63 ?_
      refine x_iadd C (pc := 64) dX12_hears_64 ?_
      refine x_iconst C (pc := 65) dX12_hears_65 kc_i_0 ?_
      refine x_iastn C (pc := 66) dX12_hears_66 (lkd_10_0 ht) (fun s10 => ?_)
      refine x_aload_n C (pc := 67) dX12_hears_67 rfl ?_
      refine x_getR C (pc := 68) fg_X12_7 dX12_hears_68 ht ?_
      refine x_bipush C (pc := 71) dX12_hears_71 kc_b_49 ?_
      refine x_iconst C (pc := 73) dX12_hears_73 kc_i_4 ?_
      refine x_iload_n C (pc := 74) dX12_hears_74 rfl ?_
      refine x_imul C (pc := 75) dX12_hears_75 ?_
      refine x_iadd C (pc := 76) dX12_hears_76 ?_
      refine x_iconst C (pc := 77) dX12_hears_77 kc_i_1 ?_
      refine x_iastn C (pc := 78) dX12_hears_78 (lkd_10_0 ht) (fun s11 => ?_)
      refine x_iload_n C (pc := 79) dX12_hears_79 rfl ?_
      exact x_ret dX12_hears_80 (fun h => h)
    · skip
      refine x_aload_n C (pc := 21) dX12_hears_21 rfl ?_
      refine x_callVim C (pc := 22) mv_X12_177 ht rfl [] (fun _ _ hr => ct_X12_no _ ht _ _ _ hr) ⟨Nat.le_of_ble_eq_true rfl, Nat.le_of_ble_eq_true rfl⟩ rfl (Nat.le_of_ble_eq_true rfl) rfl dX12_hears_22 (fun r12 s13 => ?_)
      exact x_ret dX12_hears_25 (fun h => h)
theorem ct_X12_hears (t : Nat) (ht : kd t = 10) (a : Int32) (s0 : SS) (r : Int32) (s2 : SS) (h : FX12_hears t a s0 = some (r, s2)) : CT 1 yX12_hears cX12_hears 3 (some .int) 3 64 [.ref t, .int a] s0 (some (.int r)) s2 :=
  ct_of (by decide +kernel) (Or.inr (Or.inl ⟨_, rfl, _, rfl, rfl⟩)) (lx_args [.ref t, .int a]) (lx_entry [.ref t, .int a] (fun _ => Nat.le_of_ble_eq_true rfl)) (fun o C hR => Yx.weak (lw_s (lw_s (lw_z lw_0))) (bd_X12_hears C t ht a s0 (r, s2) h hR))
def FX12_pays (t : Nat) (a : Int32) (s0 : SS) : Option (Int32 × SS) :=
  bd (FX12_isUser t a s0) (fun (r1 : Int32) => if r1 = 0 then bd2 (FX12_bad t s0) (fun (r2 : Int32) (s3 : SS) => some ((r2, s3))) else (bd (FX12_keep t s0) (fun (s4 : SS) => bd (FX12_duesOf t a s4) (fun (r5 : Int32) => nm r5 (fun (i6 : Int32) => gd (inb ((nI 20) + ((nI 4) * a)) (ln (lk t 0))) (nm (pI s4 (lk t 0) (Int32.toNatClampNeg ((nI 20) + ((nI 4) * a))) (nI 0)) (fun (s7 : SS) => some ((i6, s7)))))))))
set_option maxRecDepth 100000 in
set_option maxHeartbeats 4000000 in
theorem bd_X12_pays {o : Om} (C : Cx o RX12 cX12_pays 3 (some .int) (rmx 2 46) 1) (t : Nat) (ht : kd t = 10) (a : Int32) (s0 : SS) : Xo (FX12_pays t a s0) (fun r => RT o cX12_pays (some (.int r.1)) r.2) (Yx o 0 [some (.ref t), some (.int a), none] [] s0) := by
  unfold FX12_pays
  refine x_aload_n C (pc := 0) dX12_pays_0 rfl ?_
  refine x_iload_n C (pc := 1) dX12_pays_1 rfl ?_
  refine x_callVi C (pc := 2) mv_X12_185 ht rfl [.int a] (fun _ hr => ct_X12_isUser _ ht _ _ _ hr) ⟨Nat.le_of_ble_eq_true rfl, Nat.le_of_ble_eq_true rfl⟩ rfl (Nat.le_of_ble_eq_true rfl) rfl dX12_pays_2 (fun r1 => ?_)
  refine x_if_ne C (pc := 5) (tgt := 13) dX12_pays_5 (by decide) (fun _ => ?_) (fun _ => ?_)
  · skip
    refine x_aload_n C (pc := 8) dX12_pays_8 rfl ?_
    refine x_callVim C (pc := 9) mv_X12_101 ht rfl [] (fun _ _ hr => ct_X12_bad _ ht _ _ _ hr) ⟨Nat.le_of_ble_eq_true rfl, Nat.le_of_ble_eq_true rfl⟩ rfl (Nat.le_of_ble_eq_true rfl) rfl dX12_pays_9 (fun r2 s3 => ?_)
    exact x_ret dX12_pays_12 (fun h => h)
  · skip
    refine x_aload_n C (pc := 13) dX12_pays_13 rfl ?_
    refine x_callVv C (pc := 14) mv_X12_182 ht rfl [] (fun _ hr => ct_X12_keep _ ht _ _ hr) ⟨Nat.le_of_ble_eq_true rfl, Nat.le_of_ble_eq_true rfl⟩ rfl (Nat.le_of_ble_eq_true rfl) rfl dX12_pays_14 (fun s4 => ?_)
    refine x_aload_n C (pc := 17) dX12_pays_17 rfl ?_
    refine x_iload_n C (pc := 18) dX12_pays_18 rfl ?_
    refine x_callVi C (pc := 19) mv_X12_194 ht rfl [.int a] (fun _ hr => ct_X12_duesOf _ ht _ _ _ hr) ⟨Nat.le_of_ble_eq_true rfl, Nat.le_of_ble_eq_true rfl⟩ rfl (Nat.le_of_ble_eq_true rfl) rfl dX12_pays_19 (fun r5 => ?_)
    refine x_istore_n C (pc := 22) (L' := fun i6 => [some (.ref t), some (.int a), some (.int i6)]) dX12_pays_22 (by decide) (fun _ => rfl) (fun i6 => ?_)
    refine x_aload_n C (pc := 23) dX12_pays_23 rfl ?_
    refine x_getR C (pc := 24) fg_X12_7 dX12_pays_24 ht ?_
    refine x_bipush C (pc := 27) dX12_pays_27 kc_b_20 ?_
    refine x_iconst C (pc := 29) dX12_pays_29 kc_i_4 ?_
    refine x_iload_n C (pc := 30) dX12_pays_30 rfl ?_
    refine x_imul C (pc := 31) dX12_pays_31 ?_
    refine x_iadd C (pc := 32) dX12_pays_32 ?_
    refine x_iconst C (pc := 33) dX12_pays_33 kc_i_0 ?_
    refine x_iastn C (pc := 34) dX12_pays_34 (lkd_10_0 ht) (fun s7 => ?_)
    refine x_iload_n C (pc := 35) dX12_pays_35 rfl ?_
    exact x_ret dX12_pays_36 (fun h => h)
theorem ct_X12_pays (t : Nat) (ht : kd t = 10) (a : Int32) (s0 : SS) (r : Int32) (s2 : SS) (h : FX12_pays t a s0 = some (r, s2)) : CT 1 yX12_pays cX12_pays 3 (some .int) 2 46 [.ref t, .int a] s0 (some (.int r)) s2 :=
  ct_of (by decide +kernel) (Or.inr (Or.inl ⟨_, rfl, _, rfl, rfl⟩)) (lx_args [.ref t, .int a]) (lx_entry [.ref t, .int a] (fun _ => Nat.le_of_ble_eq_true rfl)) (fun o C hR => Yx.weak (lw_s (lw_s (lw_z lw_0))) (bd_X12_pays C t ht a s0 (r, s2) h hR))
def FX12_of (t : Nat) (a : Int32) (b : Int32) (s0 : SS) : Option (Int32 × SS) :=
  bd (FX12_isUser t a s0) (fun (r1 : Int32) => if r1 = 0 then bd2 (FX12_bad t s0) (fun (r2 : Int32) (s3 : SS) => some ((r2, s3))) else (bd (FX12_in (Int32.toInt64 b) (lN 0) (3 : Int64) s0) (fun (r4 : Int32) => if r4 = 0 then bd2 (FX12_bad t s0) (fun (r5 : Int32) (s6 : SS) => some ((r5, s6))) else (bd (FX12_userOf (lk t 0) a b s0) (fun (r7 : Int32) => some ((r7, s0)))))))
set_option maxRecDepth 100000 in
set_option maxHeartbeats 4000000 in
theorem bd_X12_of {o : Om} (C : Cx o RX12 cX12_of 3 (some .int) (rmx 2 46) 1) (t : Nat) (ht : kd t = 10) (a : Int32) (b : Int32) (s0 : SS) : Xo (FX12_of t a b s0) (fun r => RT o cX12_of (some (.int r.1)) r.2) (Yx o 0 [some (.ref t), some (.int a), some (.int b)] [] s0) := by
  unfold FX12_of
  refine x_aload_n C (pc := 0) dX12_of_0 rfl ?_
  refine x_iload_n C (pc := 1) dX12_of_1 rfl ?_
  refine x_callVi C (pc := 2) mv_X12_185 ht rfl [.int a] (fun _ hr => ct_X12_isUser _ ht _ _ _ hr) ⟨Nat.le_of_ble_eq_true rfl, Nat.le_of_ble_eq_true rfl⟩ rfl (Nat.le_of_ble_eq_true rfl) rfl dX12_of_2 (fun r1 => ?_)
  refine x_if_eq C (pc := 5) (tgt := 32) dX12_of_5 (by decide) (fun _ => ?_) (fun _ => ?_)
  · skip
    refine x_aload_n C (pc := 32) dX12_of_32 rfl ?_
    refine x_callVim C (pc := 33) mv_X12_101 ht rfl [] (fun _ _ hr => ct_X12_bad _ ht _ _ _ hr) ⟨Nat.le_of_ble_eq_true rfl, Nat.le_of_ble_eq_true rfl⟩ rfl (Nat.le_of_ble_eq_true rfl) rfl dX12_of_33 (fun r2 s3 => ?_)
    exact x_ret dX12_of_36 (fun h => h)
  · skip
    refine x_iload_n C (pc := 8) dX12_of_8 rfl ?_
    refine x_i2l C (pc := 9) dX12_of_9 ?_
    refine x_lconst C (pc := 10) dX12_of_10 (v := lN 0) rfl ?_
    refine x_ldc2 C (pc := 11) dX12_of_11 cl_X12_209 ?_
    refine x_callSi C (pc := 14) ms_X12_55 [.long (Int32.toInt64 b), .long (lN 0), .long (3 : Int64)] (fun _ hr => ct_X12_in _ _ _ _ _ hr) ⟨Nat.le_of_ble_eq_true rfl, Nat.le_of_ble_eq_true rfl⟩ rfl (Nat.le_of_ble_eq_true rfl) rfl dX12_of_14 (fun r4 => ?_)
    refine x_if_eq C (pc := 17) (tgt := 32) dX12_of_17 (by decide) (fun _ => ?_) (fun _ => ?_)
    · skip
      refine x_aload_n C (pc := 32) dX12_of_32 rfl ?_
      refine x_callVim C (pc := 33) mv_X12_101 ht rfl [] (fun _ _ hr => ct_X12_bad _ ht _ _ _ hr) ⟨Nat.le_of_ble_eq_true rfl, Nat.le_of_ble_eq_true rfl⟩ rfl (Nat.le_of_ble_eq_true rfl) rfl dX12_of_33 (fun r5 s6 => ?_)
      exact x_ret dX12_of_36 (fun h => h)
    · skip
      refine x_aload_n C (pc := 20) dX12_of_20 rfl ?_
      refine x_getR C (pc := 21) fg_X12_7 dX12_of_21 ht ?_
      refine x_iload_n C (pc := 24) dX12_of_24 rfl ?_
      refine x_iload_n C (pc := 25) dX12_of_25 rfl ?_
      refine x_callSi C (pc := 26) ms_X12_66 [.ref (lk t 0), .int a, .int b] (fun _ hr => ct_X12_userOf _ (lkd_10_0 ht) _ _ _ _ hr) ⟨Nat.le_of_ble_eq_true rfl, Nat.le_of_ble_eq_true rfl⟩ rfl (Nat.le_of_ble_eq_true rfl) rfl dX12_of_26 (fun r7 => ?_)
      refine x_goto C (pc := 29) (tgt := 36) dX12_of_29 (by decide) ?_
      exact x_ret dX12_of_36 (fun h => h)
theorem ct_X12_of (t : Nat) (ht : kd t = 10) (a : Int32) (b : Int32) (s0 : SS) (r : Int32) (s2 : SS) (h : FX12_of t a b s0 = some (r, s2)) : CT 1 yX12_of cX12_of 3 (some .int) 2 46 [.ref t, .int a, .int b] s0 (some (.int r)) s2 :=
  ct_of (by decide +kernel) (Or.inr (Or.inl ⟨_, rfl, _, rfl, rfl⟩)) (lx_args [.ref t, .int a, .int b]) (lx_entry [.ref t, .int a, .int b] (fun _ => Nat.le_of_ble_eq_true rfl)) (fun o C hR => Yx.weak (lw_s (lw_s (lw_s lw_0))) (bd_X12_of C t ht a b s0 (r, s2) h hR))
def FX12_about (t : Nat) (a : Int32) (b : Int32) (s0 : SS) : Option (Int32 × SS) :=
  bd (FX12_isSuit t a s0) (fun (r1 : Int32) => if r1 = 0 then bd2 (FX12_bad t s0) (fun (r2 : Int32) (s3 : SS) => some ((r2, s3))) else (bd (FX12_in (Int32.toInt64 b) (lN 0) (3 : Int64) s0) (fun (r4 : Int32) => if r4 = 0 then bd2 (FX12_bad t s0) (fun (r5 : Int32) (s6 : SS) => some ((r5, s6))) else (bd (FX12_suitOf (lk t 0) a b s0) (fun (r7 : Int32) => some ((r7, s0)))))))
set_option maxRecDepth 100000 in
set_option maxHeartbeats 4000000 in
theorem bd_X12_about {o : Om} (C : Cx o RX12 cX12_about 3 (some .int) (rmx 2 46) 1) (t : Nat) (ht : kd t = 10) (a : Int32) (b : Int32) (s0 : SS) : Xo (FX12_about t a b s0) (fun r => RT o cX12_about (some (.int r.1)) r.2) (Yx o 0 [some (.ref t), some (.int a), some (.int b)] [] s0) := by
  unfold FX12_about
  refine x_aload_n C (pc := 0) dX12_about_0 rfl ?_
  refine x_iload_n C (pc := 1) dX12_about_1 rfl ?_
  refine x_callVi C (pc := 2) mv_X12_203 ht rfl [.int a] (fun _ hr => ct_X12_isSuit _ ht _ _ _ hr) ⟨Nat.le_of_ble_eq_true rfl, Nat.le_of_ble_eq_true rfl⟩ rfl (Nat.le_of_ble_eq_true rfl) rfl dX12_about_2 (fun r1 => ?_)
  refine x_if_eq C (pc := 5) (tgt := 32) dX12_about_5 (by decide) (fun _ => ?_) (fun _ => ?_)
  · skip
    refine x_aload_n C (pc := 32) dX12_about_32 rfl ?_
    refine x_callVim C (pc := 33) mv_X12_101 ht rfl [] (fun _ _ hr => ct_X12_bad _ ht _ _ _ hr) ⟨Nat.le_of_ble_eq_true rfl, Nat.le_of_ble_eq_true rfl⟩ rfl (Nat.le_of_ble_eq_true rfl) rfl dX12_about_33 (fun r2 s3 => ?_)
    exact x_ret dX12_about_36 (fun h => h)
  · skip
    refine x_iload_n C (pc := 8) dX12_about_8 rfl ?_
    refine x_i2l C (pc := 9) dX12_about_9 ?_
    refine x_lconst C (pc := 10) dX12_about_10 (v := lN 0) rfl ?_
    refine x_ldc2 C (pc := 11) dX12_about_11 cl_X12_209 ?_
    refine x_callSi C (pc := 14) ms_X12_55 [.long (Int32.toInt64 b), .long (lN 0), .long (3 : Int64)] (fun _ hr => ct_X12_in _ _ _ _ _ hr) ⟨Nat.le_of_ble_eq_true rfl, Nat.le_of_ble_eq_true rfl⟩ rfl (Nat.le_of_ble_eq_true rfl) rfl dX12_about_14 (fun r4 => ?_)
    refine x_if_eq C (pc := 17) (tgt := 32) dX12_about_17 (by decide) (fun _ => ?_) (fun _ => ?_)
    · skip
      refine x_aload_n C (pc := 32) dX12_about_32 rfl ?_
      refine x_callVim C (pc := 33) mv_X12_101 ht rfl [] (fun _ _ hr => ct_X12_bad _ ht _ _ _ hr) ⟨Nat.le_of_ble_eq_true rfl, Nat.le_of_ble_eq_true rfl⟩ rfl (Nat.le_of_ble_eq_true rfl) rfl dX12_about_33 (fun r5 s6 => ?_)
      exact x_ret dX12_about_36 (fun h => h)
    · skip
      refine x_aload_n C (pc := 20) dX12_about_20 rfl ?_
      refine x_getR C (pc := 21) fg_X12_7 dX12_about_21 ht ?_
      refine x_iload_n C (pc := 24) dX12_about_24 rfl ?_
      refine x_iload_n C (pc := 25) dX12_about_25 rfl ?_
      refine x_callSi C (pc := 26) ms_X12_188 [.ref (lk t 0), .int a, .int b] (fun _ hr => ct_X12_suitOf _ (lkd_10_0 ht) _ _ _ _ hr) ⟨Nat.le_of_ble_eq_true rfl, Nat.le_of_ble_eq_true rfl⟩ rfl (Nat.le_of_ble_eq_true rfl) rfl dX12_about_26 (fun r7 => ?_)
      refine x_goto C (pc := 29) (tgt := 36) dX12_about_29 (by decide) ?_
      exact x_ret dX12_about_36 (fun h => h)
theorem ct_X12_about (t : Nat) (ht : kd t = 10) (a : Int32) (b : Int32) (s0 : SS) (r : Int32) (s2 : SS) (h : FX12_about t a b s0 = some (r, s2)) : CT 1 yX12_about cX12_about 3 (some .int) 2 46 [.ref t, .int a, .int b] s0 (some (.int r)) s2 :=
  ct_of (by decide +kernel) (Or.inr (Or.inl ⟨_, rfl, _, rfl, rfl⟩)) (lx_args [.ref t, .int a, .int b]) (lx_entry [.ref t, .int a, .int b] (fun _ => Nat.le_of_ble_eq_true rfl)) (fun o C hR => Yx.weak (lw_s (lw_s (lw_s lw_0))) (bd_X12_about C t ht a b s0 (r, s2) h hR))
def FX12_blows (t : Nat) (a : Int32) (b : Int32) (c : Int32) (s0 : SS) : Option (Int32 × SS) :=
  bd (FX12_in (Int32.toInt64 a) (lN 0) (11 : Int64) s0) (fun (r1 : Int32) => if r1 = 0 then bd2 (FX12_bad t s0) (fun (r2 : Int32) (s3 : SS) => some ((r2, s3))) else (bd (FX12_in (Int32.toInt64 b) (lN 0) (7 : Int64) s0) (fun (r4 : Int32) => if r4 = 0 then bd2 (FX12_bad t s0) (fun (r5 : Int32) (s6 : SS) => some ((r5, s6))) else (bd (FX12_in (Int32.toInt64 c) (lN 0) (lN 1) s0) (fun (r7 : Int32) => if r7 = 0 then bd2 (FX12_bad t s0) (fun (r8 : Int32) (s9 : SS) => some ((r8, s9))) else (bd (FX12_everyone (lk t 0) s0) (fun (r10 : Int32) => bd (FX12_blowOf t (lk t 0) b r10 s0) (fun (s11 : SS) => if c = 0 then gd (inb a (ln (lk t 8))) (some (((gI s11 (lk t 8) (Int32.toNatClampNeg a)), s11))) else (gd (inb a (ln (lk t 9))) (some (((gI s11 (lk t 9) (Int32.toNatClampNeg a)), s11))))))))))))
set_option maxRecDepth 100000 in
set_option maxHeartbeats 4000000 in
theorem bd_X12_blows {o : Om} (C : Cx o RX12 cX12_blows 4 (some .int) (rmx 3 75) 1) (t : Nat) (ht : kd t = 10) (a : Int32) (b : Int32) (c : Int32) (s0 : SS) : Xo (FX12_blows t a b c s0) (fun r => RT o cX12_blows (some (.int r.1)) r.2) (Yx o 0 [some (.ref t), some (.int a), some (.int b), some (.int c)] [] s0) := by
  unfold FX12_blows
  refine x_iload_n C (pc := 0) dX12_blows_0 rfl ?_
  refine x_i2l C (pc := 1) dX12_blows_1 ?_
  refine x_lconst C (pc := 2) dX12_blows_2 (v := lN 0) rfl ?_
  refine x_ldc2 C (pc := 3) dX12_blows_3 cl_X12_107 ?_
  refine x_callSi C (pc := 6) ms_X12_55 [.long (Int32.toInt64 a), .long (lN 0), .long (11 : Int64)] (fun _ hr => ct_X12_in _ _ _ _ _ hr) ⟨Nat.le_of_ble_eq_true rfl, Nat.le_of_ble_eq_true rfl⟩ rfl (Nat.le_of_ble_eq_true rfl) rfl dX12_blows_6 (fun r1 => ?_)
  refine x_if_eq C (pc := 9) (tgt := 34) dX12_blows_9 (by decide) (fun _ => ?_) (fun _ => ?_)
  · skip
    refine x_aload_n C (pc := 34) dX12_blows_34 rfl ?_
    refine x_callVim C (pc := 35) mv_X12_101 ht rfl [] (fun _ _ hr => ct_X12_bad _ ht _ _ _ hr) ⟨Nat.le_of_ble_eq_true rfl, Nat.le_of_ble_eq_true rfl⟩ rfl (Nat.le_of_ble_eq_true rfl) rfl dX12_blows_35 (fun r2 s3 => ?_)
    exact x_ret dX12_blows_38 (fun h => h)
  · skip
    refine x_iload_n C (pc := 12) dX12_blows_12 rfl ?_
    refine x_i2l C (pc := 13) dX12_blows_13 ?_
    refine x_lconst C (pc := 14) dX12_blows_14 (v := lN 0) rfl ?_
    refine x_ldc2 C (pc := 15) dX12_blows_15 cl_X12_97 ?_
    refine x_callSi C (pc := 18) ms_X12_55 [.long (Int32.toInt64 b), .long (lN 0), .long (7 : Int64)] (fun _ hr => ct_X12_in _ _ _ _ _ hr) ⟨Nat.le_of_ble_eq_true rfl, Nat.le_of_ble_eq_true rfl⟩ rfl (Nat.le_of_ble_eq_true rfl) rfl dX12_blows_18 (fun r4 => ?_)
    refine x_if_eq C (pc := 21) (tgt := 34) dX12_blows_21 (by decide) (fun _ => ?_) (fun _ => ?_)
    · skip
      refine x_aload_n C (pc := 34) dX12_blows_34 rfl ?_
      refine x_callVim C (pc := 35) mv_X12_101 ht rfl [] (fun _ _ hr => ct_X12_bad _ ht _ _ _ hr) ⟨Nat.le_of_ble_eq_true rfl, Nat.le_of_ble_eq_true rfl⟩ rfl (Nat.le_of_ble_eq_true rfl) rfl dX12_blows_35 (fun r5 s6 => ?_)
      exact x_ret dX12_blows_38 (fun h => h)
    · skip
      refine x_iload_n C (pc := 24) dX12_blows_24 rfl ?_
      refine x_i2l C (pc := 25) dX12_blows_25 ?_
      refine x_lconst C (pc := 26) dX12_blows_26 (v := lN 0) rfl ?_
      refine x_lconst C (pc := 27) dX12_blows_27 (v := lN 1) rfl ?_
      refine x_callSi C (pc := 28) ms_X12_55 [.long (Int32.toInt64 c), .long (lN 0), .long (lN 1)] (fun _ hr => ct_X12_in _ _ _ _ _ hr) ⟨Nat.le_of_ble_eq_true rfl, Nat.le_of_ble_eq_true rfl⟩ rfl (Nat.le_of_ble_eq_true rfl) rfl dX12_blows_28 (fun r7 => ?_)
      refine x_if_ne C (pc := 31) (tgt := 39) dX12_blows_31 (by decide) (fun _ => ?_) (fun _ => ?_)
      · skip
        refine x_aload_n C (pc := 34) dX12_blows_34 rfl ?_
        refine x_callVim C (pc := 35) mv_X12_101 ht rfl [] (fun _ _ hr => ct_X12_bad _ ht _ _ _ hr) ⟨Nat.le_of_ble_eq_true rfl, Nat.le_of_ble_eq_true rfl⟩ rfl (Nat.le_of_ble_eq_true rfl) rfl dX12_blows_35 (fun r8 s9 => ?_)
        exact x_ret dX12_blows_38 (fun h => h)
      · skip
        refine x_aload_n C (pc := 39) dX12_blows_39 rfl ?_
        refine x_aload_n C (pc := 40) dX12_blows_40 rfl ?_
        refine x_getR C (pc := 41) fg_X12_7 dX12_blows_41 ht ?_
        refine x_iload_n C (pc := 44) dX12_blows_44 rfl ?_
        refine x_aload_n C (pc := 45) dX12_blows_45 rfl ?_
        refine x_getR C (pc := 46) fg_X12_7 dX12_blows_46 ht ?_
        refine x_callSi C (pc := 49) ms_X12_82 [.ref (lk t 0)] (fun _ hr => ct_X12_everyone _ (lkd_10_0 ht) _ _ hr) ⟨Nat.le_of_ble_eq_true rfl, Nat.le_of_ble_eq_true rfl⟩ rfl (Nat.le_of_ble_eq_true rfl) rfl dX12_blows_49 (fun r10 => ?_)
        refine x_callVv C (pc := 52) mv_X12_78 ht rfl [.ref (lk t 0), .int b, .int r10] (fun _ hr => ct_X12_blowOf _ ht _ (lkd_10_0 ht) _ _ _ _ hr) ⟨Nat.le_of_ble_eq_true rfl, Nat.le_of_ble_eq_true rfl⟩ rfl (Nat.le_of_ble_eq_true rfl) rfl dX12_blows_52 (fun s11 => ?_)
        refine x_iload_n C (pc := 55) dX12_blows_55 rfl ?_
        refine x_if_ne C (pc := 56) (tgt := 68) dX12_blows_56 (by decide) (fun _ => ?_) (fun _ => ?_)
        · skip
          refine x_aload_n C (pc := 59) dX12_blows_59 rfl ?_
          refine x_getR C (pc := 60) fg_X12_33 dX12_blows_60 ht ?_
          refine x_iload_n C (pc := 63) dX12_blows_63 rfl ?_
          refine x_iald C (pc := 64) dX12_blows_64 (lkd_10_8 ht) (fun _ => ?_)
          refine x_goto C (pc := 65) (tgt := 74) dX12_blows_65 (by decide) ?_
          exact x_ret dX12_blows_74 (fun h => h)
        · skip
          refine x_aload_n C (pc := 68) dX12_blows_68 rfl ?_
          refine x_getR C (pc := 69) fg_X12_36 dX12_blows_69 ht ?_
          refine x_iload_n C (pc := 72) dX12_blows_72 rfl ?_
          refine x_iald C (pc := 73) dX12_blows_73 (lkd_10_9 ht) (fun _ => ?_)
          exact x_ret dX12_blows_74 (fun h => h)
theorem ct_X12_blows (t : Nat) (ht : kd t = 10) (a : Int32) (b : Int32) (c : Int32) (s0 : SS) (r : Int32) (s2 : SS) (h : FX12_blows t a b c s0 = some (r, s2)) : CT 1 yX12_blows cX12_blows 4 (some .int) 3 75 [.ref t, .int a, .int b, .int c] s0 (some (.int r)) s2 :=
  ct_of (by decide +kernel) (Or.inr (Or.inl ⟨_, rfl, _, rfl, rfl⟩)) (lx_args [.ref t, .int a, .int b, .int c]) (lx_entry [.ref t, .int a, .int b, .int c] (fun _ => Nat.le_of_ble_eq_true rfl)) (fun o C hR => Yx.weak (lw_s (lw_s (lw_s (lw_s lw_0)))) (bd_X12_blows C t ht a b c s0 (r, s2) h hR))
def FX12_takes (t : Nat) (a : Int32) (b : Int32) (s0 : SS) : Option (Int32 × SS) :=
  bd (FX12_isUser t a s0) (fun (r1 : Int32) => if r1 = 0 then bd2 (FX12_bad t s0) (fun (r2 : Int32) (s3 : SS) => some ((r2, s3))) else (bd (FX12_in (Int32.toInt64 b) (lN 0) (7 : Int64) s0) (fun (r4 : Int32) => if r4 = 0 then bd2 (FX12_bad t s0) (fun (r5 : Int32) (s6 : SS) => some ((r5, s6))) else (bd (FX12_everyone (lk t 0) s0) (fun (r7 : Int32) => bd (FX12_blowOf t (lk t 0) b r7 s0) (fun (s8 : SS) => gd (inb a (ln (lk t 7))) (some (((gI s8 (lk t 7) (Int32.toNatClampNeg a)), s8)))))))))
set_option maxRecDepth 100000 in
set_option maxHeartbeats 4000000 in
theorem bd_X12_takes {o : Om} (C : Cx o RX12 cX12_takes 3 (some .int) (rmx 3 75) 1) (t : Nat) (ht : kd t = 10) (a : Int32) (b : Int32) (s0 : SS) : Xo (FX12_takes t a b s0) (fun r => RT o cX12_takes (some (.int r.1)) r.2) (Yx o 0 [some (.ref t), some (.int a), some (.int b)] [] s0) := by
  unfold FX12_takes
  refine x_aload_n C (pc := 0) dX12_takes_0 rfl ?_
  refine x_iload_n C (pc := 1) dX12_takes_1 rfl ?_
  refine x_callVi C (pc := 2) mv_X12_185 ht rfl [.int a] (fun _ hr => ct_X12_isUser _ ht _ _ _ hr) ⟨Nat.le_of_ble_eq_true rfl, Nat.le_of_ble_eq_true rfl⟩ rfl (Nat.le_of_ble_eq_true rfl) rfl dX12_takes_2 (fun r1 => ?_)
  refine x_if_eq C (pc := 5) (tgt := 20) dX12_takes_5 (by decide) (fun _ => ?_) (fun _ => ?_)
  · skip
    refine x_aload_n C (pc := 20) dX12_takes_20 rfl ?_
    refine x_callVim C (pc := 21) mv_X12_101 ht rfl [] (fun _ _ hr => ct_X12_bad _ ht _ _ _ hr) ⟨Nat.le_of_ble_eq_true rfl, Nat.le_of_ble_eq_true rfl⟩ rfl (Nat.le_of_ble_eq_true rfl) rfl dX12_takes_21 (fun r2 s3 => ?_)
    exact x_ret dX12_takes_24 (fun h => h)
  · skip
    refine x_iload_n C (pc := 8) dX12_takes_8 rfl ?_
    refine x_i2l C (pc := 9) dX12_takes_9 ?_
    refine x_lconst C (pc := 10) dX12_takes_10 (v := lN 0) rfl ?_
    refine x_ldc2 C (pc := 11) dX12_takes_11 cl_X12_97 ?_
    refine x_callSi C (pc := 14) ms_X12_55 [.long (Int32.toInt64 b), .long (lN 0), .long (7 : Int64)] (fun _ hr => ct_X12_in _ _ _ _ _ hr) ⟨Nat.le_of_ble_eq_true rfl, Nat.le_of_ble_eq_true rfl⟩ rfl (Nat.le_of_ble_eq_true rfl) rfl dX12_takes_14 (fun r4 => ?_)
    refine x_if_ne C (pc := 17) (tgt := 25) dX12_takes_17 (by decide) (fun _ => ?_) (fun _ => ?_)
    · skip
      refine x_aload_n C (pc := 20) dX12_takes_20 rfl ?_
      refine x_callVim C (pc := 21) mv_X12_101 ht rfl [] (fun _ _ hr => ct_X12_bad _ ht _ _ _ hr) ⟨Nat.le_of_ble_eq_true rfl, Nat.le_of_ble_eq_true rfl⟩ rfl (Nat.le_of_ble_eq_true rfl) rfl dX12_takes_21 (fun r5 s6 => ?_)
      exact x_ret dX12_takes_24 (fun h => h)
    · skip
      refine x_aload_n C (pc := 25) dX12_takes_25 rfl ?_
      refine x_aload_n C (pc := 26) dX12_takes_26 rfl ?_
      refine x_getR C (pc := 27) fg_X12_7 dX12_takes_27 ht ?_
      refine x_iload_n C (pc := 30) dX12_takes_30 rfl ?_
      refine x_aload_n C (pc := 31) dX12_takes_31 rfl ?_
      refine x_getR C (pc := 32) fg_X12_7 dX12_takes_32 ht ?_
      refine x_callSi C (pc := 35) ms_X12_82 [.ref (lk t 0)] (fun _ hr => ct_X12_everyone _ (lkd_10_0 ht) _ _ hr) ⟨Nat.le_of_ble_eq_true rfl, Nat.le_of_ble_eq_true rfl⟩ rfl (Nat.le_of_ble_eq_true rfl) rfl dX12_takes_35 (fun r7 => ?_)
      refine x_callVv C (pc := 38) mv_X12_78 ht rfl [.ref (lk t 0), .int b, .int r7] (fun _ hr => ct_X12_blowOf _ ht _ (lkd_10_0 ht) _ _ _ _ hr) ⟨Nat.le_of_ble_eq_true rfl, Nat.le_of_ble_eq_true rfl⟩ rfl (Nat.le_of_ble_eq_true rfl) rfl dX12_takes_38 (fun s8 => ?_)
      refine x_aload_n C (pc := 41) dX12_takes_41 rfl ?_
      refine x_getR C (pc := 42) fg_X12_30 dX12_takes_42 ht ?_
      refine x_iload_n C (pc := 45) dX12_takes_45 rfl ?_
      refine x_iald C (pc := 46) dX12_takes_46 (lkd_10_7 ht) (fun _ => ?_)
      exact x_ret dX12_takes_47 (fun h => h)
theorem ct_X12_takes (t : Nat) (ht : kd t = 10) (a : Int32) (b : Int32) (s0 : SS) (r : Int32) (s2 : SS) (h : FX12_takes t a b s0 = some (r, s2)) : CT 1 yX12_takes cX12_takes 3 (some .int) 3 75 [.ref t, .int a, .int b] s0 (some (.int r)) s2 :=
  ct_of (by decide +kernel) (Or.inr (Or.inl ⟨_, rfl, _, rfl, rfl⟩)) (lx_args [.ref t, .int a, .int b]) (lx_entry [.ref t, .int a, .int b] (fun _ => Nat.le_of_ble_eq_true rfl)) (fun o C hR => Yx.weak (lw_s (lw_s (lw_s lw_0))) (bd_X12_takes C t ht a b s0 (r, s2) h hR))
def FX12_layFresh (t : Nat) (s0 : SS) : Option (SS) :=
  nm (nI 0) (fun (i1 : Int32) => bd (lp FUEL (u2 (fun (n2 : Int32) (s3 : SS) => if (nI 378) ≤ n2 then some (Sum.inr s3) else (gd (inb n2 (ln (lk t 0))) (gd (inb n2 (ln (lk t 1))) (nm (pI s3 (lk t 1) (Int32.toNatClampNeg n2) (gI s3 (lk t 0) (Int32.toNatClampNeg n2))) (fun (s4 : SS) => nm (n2 + (nI 1)) (fun (i5 : Int32) => some (Sum.inl (i5, s4))))))))) (i1, s0)) (fun (s6 : SS) => some (s6)))
set_option maxRecDepth 100000 in
set_option maxHeartbeats 4000000 in
theorem bd_X12_layFresh {o : Om} (C : Cx o RX12 cX12_layFresh 2 none (rmx 0 0) 1) (t : Nat) (ht : kd t = 10) (s0 : SS) : Xo (FX12_layFresh t s0) (fun r => RT o cX12_layFresh none r) (Yx o 0 [some (.ref t), none] [] s0) := by
  unfold FX12_layFresh
  refine x_iconst C (pc := 0) dX12_layFresh_0 kc_i_0 ?_
  refine x_istore_n C (pc := 1) (L' := fun i1 => [some (.ref t), some (.int i1)]) dX12_layFresh_1 (by decide) (fun _ => rfl) (fun i1 => ?_)
  refine xb_1 (Z1 := (fun s6 => Yx o 27 [none, none] [] s6)) ?_ (fun s6 => ?_)
  · refine Xo.mono (Yx.weak (lw_s (lw_s lw_0))) (x_lp2 (fr := fun n2 s3 => Yx o 2 [some (.ref t), some (.int n2)] [] s3) _ _ (fun n2 s3 => ?_))
    refine x_iload_n C (pc := 2) dX12_layFresh_2 rfl ?_
    refine x_sipush C (pc := 3) dX12_layFresh_3 kc_s_378 ?_
    refine x_icmp_ge C (pc := 6) (tgt := 27) dX12_layFresh_6 (by decide) (fun _ => ?_) (fun _ => ?_)
    · skip
      exact Xo.done (fun h => Yx.weak (lw_n (lw_n lw_0)) h)
    · skip
      refine x_aload_n C (pc := 9) dX12_layFresh_9 rfl ?_
      refine x_getR C (pc := 10) fg_X12_13 dX12_layFresh_10 ht ?_
      refine x_iload_n C (pc := 13) dX12_layFresh_13 rfl ?_
      refine x_aload_n C (pc := 14) dX12_layFresh_14 rfl ?_
      refine x_getR C (pc := 15) fg_X12_7 dX12_layFresh_15 ht ?_
      refine x_iload_n C (pc := 18) dX12_layFresh_18 rfl ?_
      refine x_iald C (pc := 19) dX12_layFresh_19 (lkd_10_0 ht) (fun _ => ?_)
      refine x_iastn C (pc := 20) dX12_layFresh_20 (lkd_10_1 ht) (fun s4 => ?_)
      refine x_iinc C (pc := 21) (L' := fun i5 => [some (.ref t), some (.int i5)]) dX12_layFresh_21 rfl kc_i_1 (by decide) (fun _ => rfl) (fun i5 => ?_)
      refine x_goto C (pc := 24) (tgt := 2) dX12_layFresh_24 (by decide) ?_
      exact Xo.done (fun h => Yx.weak (lw_s (lw_s lw_0)) h)
  exact x_vret dX12_layFresh_27 (fun h => h)
theorem ct_X12_layFresh (t : Nat) (ht : kd t = 10) (s0 : SS) (r : SS) (h : FX12_layFresh t s0 = some r) : CT 1 yX12_layFresh cX12_layFresh 2 none 0 0 [.ref t] s0 none r :=
  ct_of (by decide +kernel) (Or.inl ⟨rfl, rfl⟩) (lx_args [.ref t]) (lx_entry [.ref t] (fun _ => Nat.le_of_ble_eq_true rfl)) (fun o C hR => Yx.weak (lw_s (lw_z lw_0)) (bd_X12_layFresh C t ht s0 r h hR))
