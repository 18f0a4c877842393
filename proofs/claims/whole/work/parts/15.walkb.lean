def FX12_from (t : Nat) (a : Int32) (s0 : SS) : Option (Int32 × SS) :=
  bd (FX12_in (Int32.toInt64 a) (lN 0) (lN 1) s0) (fun (r1 : Int32) => if r1 = 0 then bd2 (FX12_bad t s0) (fun (r2 : Int32) (s3 : SS) => some ((r2, s3))) else (gd (inb a (ln (lk t 3))) (if (gI s0 (lk t 3) (Int32.toNatClampNeg a)) = 0 then bd2 (FX12_no t s0) (fun (r4 : Int32) (s5 : SS) => some ((r4, s5))) else (nm (nI 0) (fun (i6 : Int32) => bd (lp FUEL (u2 (fun (n7 : Int32) (s8 : SS) => if (nI 378) ≤ n7 then some (Sum.inr s8) else (gd (inb (((nI 378) * a) + n7) (ln (lk t 2))) (gd (inb n7 (ln (lk t 0))) (nm (pI s8 (lk t 0) (Int32.toNatClampNeg n7) (gI s8 (lk t 2) (Int32.toNatClampNeg (((nI 378) * a) + n7)))) (fun (s9 : SS) => nm (n7 + (nI 1)) (fun (i10 : Int32) => some (Sum.inl (i10, s9))))))))) (i6, s0)) (fun (s11 : SS) => some (((nI 1), s11))))))))
set_option maxRecDepth 100000 in
set_option maxHeartbeats 4000000 in
theorem bd_X12_from {o : Om} (C : Cx o RX12 cX12_from 3 (some .int) (rmx 1 25) 1) (t : Nat) (ht : kd t = 10) (a : Int32) (s0 : SS) : Xo (FX12_from t a s0) (fun r => RT o cX12_from (some (.int r.1)) r.2) (Yx o 0 [some (.ref t), some (.int a), none] [] s0) := by
  unfold FX12_from
  refine x_iload_n C (pc := 0) dX12_from_0 rfl ?_
  refine x_i2l C (pc := 1) dX12_from_1 ?_
  refine x_lconst C (pc := 2) dX12_from_2 (v := lN 0) rfl ?_
  refine x_lconst C (pc := 3) dX12_from_3 (v := lN 1) rfl ?_
  refine x_callSi C (pc := 4) ms_X12_55 [.long (Int32.toInt64 a), .long (lN 0), .long (lN 1)] (fun _ hr => ct_X12_in _ _ _ _ _ hr) ⟨Nat.le_of_ble_eq_true rfl, Nat.le_of_ble_eq_true rfl⟩ rfl (Nat.le_of_ble_eq_true rfl) rfl dX12_from_4 (fun r1 => ?_)
  refine x_if_ne C (pc := 7) (tgt := 15) dX12_from_7 (by decide) (fun _ => ?_) (fun _ => ?_)
  · skip
    refine x_aload_n C (pc := 10) dX12_from_10 rfl ?_
    refine x_callVim C (pc := 11) mv_X12_101 ht rfl [] (fun _ _ hr => ct_X12_bad _ ht _ _ _ hr) ⟨Nat.le_of_ble_eq_true rfl, Nat.le_of_ble_eq_true rfl⟩ rfl (Nat.le_of_ble_eq_true rfl) rfl dX12_from_11 (fun r2 s3 => ?_)
    exact x_ret dX12_from_14 (fun h => h)
  · skip
    refine x_aload_n C (pc := 15) dX12_from_15 rfl ?_
    refine x_getR C (pc := 16) fg_X12_19 dX12_from_16 ht ?_
    refine x_iload_n C (pc := 19) dX12_from_19 rfl ?_
    refine x_bald C (pc := 20) dX12_from_20 (lkd_10_3 ht) rfl (fun _ => ?_)
    refine x_if_ne C (pc := 21) (tgt := 29) dX12_from_21 (by decide) (fun _ => ?_) (fun _ => ?_)
    · skip
      refine x_aload_n C (pc := 24) dX12_from_24 rfl ?_
      refine x_callVim C (pc := 25) mv_X12_177 ht rfl [] (fun _ _ hr => ct_X12_no _ ht _ _ _ hr) ⟨Nat.le_of_ble_eq_true rfl, Nat.le_of_ble_eq_true rfl⟩ rfl (Nat.le_of_ble_eq_true rfl) rfl dX12_from_25 (fun r4 s5 => ?_)
      exact x_ret dX12_from_28 (fun h => h)
    · skip
      refine x_iconst C (pc := 29) dX12_from_29 kc_i_0 ?_
      refine x_istore_n C (pc := 30) (L' := fun i6 => [some (.ref t), some (.int a), some (.int i6)]) dX12_from_30 (by decide) (fun _ => rfl) (fun i6 => ?_)
      refine xb_1 (Z1 := (fun s11 => Yx o 62 [none, none, none] [] s11)) ?_ (fun s11 => ?_)
      · refine Xo.mono (Yx.weak (lw_s (lw_s (lw_s lw_0)))) (x_lp2 (fr := fun n7 s8 => Yx o 31 [some (.ref t), some (.int a), some (.int n7)] [] s8) _ _ (fun n7 s8 => ?_))
        refine x_iload_n C (pc := 31) dX12_from_31 rfl ?_
        refine x_sipush C (pc := 32) dX12_from_32 kc_s_378 ?_
        refine x_icmp_ge C (pc := 35) (tgt := 62) dX12_from_35 (by decide) (fun _ => ?_) (fun _ => ?_)
        · skip
          exact Xo.done (fun h => Yx.weak (lw_n (lw_n (lw_n lw_0))) h)
        · skip
          refine x_aload_n C (pc := 38) dX12_from_38 rfl ?_
          refine x_getR C (pc := 39) fg_X12_7 dX12_from_39 ht ?_
          refine x_iload_n C (pc := 42) dX12_from_42 rfl ?_
          refine x_aload_n C (pc := 43) dX12_from_43 rfl ?_
          refine x_getR C (pc := 44) fg_X12_16 dX12_from_44 ht ?_
          refine x_sipush C (pc := 47) dX12_from_47 kc_s_378 ?_
          refine x_iload_n C (pc := 50) dX12_from_50 rfl ?_
          refine x_imul C (pc := 51) dX12_from_51 ?_
          refine x_iload_n C (pc := 52) dX12_from_52 rfl ?_
          refine x_iadd C (pc := 53) dX12_from_53 ?_
          refine x_iald C (pc := 54) dX12_from_54 (lkd_10_2 ht) (fun _ => ?_)
          refine x_iastn C (pc := 55) dX12_from_55 (lkd_10_0 ht) (fun s9 => ?_)
          refine x_iinc C (pc := 56) (L' := fun i10 => [some (.ref t), some (.int a), some (.int i10)]) dX12_from_56 rfl kc_i_1 (by decide) (fun _ => rfl) (fun i10 => ?_)
          refine x_goto C (pc := 59) (tgt := 31) dX12_from_59 (by decide) ?_
          exact Xo.done (fun h => Yx.weak (lw_s (lw_s (lw_s lw_0))) h)
      refine x_iconst C (pc := 62) dX12_from_62 kc_i_1 ?_
      exact x_ret dX12_from_63 (fun h => h)
theorem ct_X12_from (t : Nat) (ht : kd t = 10) (a : Int32) (s0 : SS) (r : Int32) (s2 : SS) (h : FX12_from t a s0 = some (r, s2)) : CT 1 yX12_from cX12_from 3 (some .int) 1 25 [.ref t, .int a] s0 (some (.int r)) s2 :=
  ct_of (by decide +kernel) (Or.inr (Or.inl ⟨_, rfl, _, rfl, rfl⟩)) (lx_args [.ref t, .int a]) (lx_entry [.ref t, .int a] (fun _ => Nat.le_of_ble_eq_true rfl)) (fun o C hR => Yx.weak (lw_s (lw_s (lw_z lw_0))) (bd_X12_from C t ht a s0 (r, s2) h hR))
def FX12_status (t : Nat) (a : Int32) (s0 : SS) : Option (Int32 × SS) :=
  bd (FX12_in (Int32.toInt64 a) (lN 0) (2 : Int64) s0) (fun (r1 : Int32) => if r1 = 0 then gd (inb (nI 0) (ln (lk t 6))) (gd (inb (nI 0) (ln (lk t 6))) (nm (pI s0 (lk t 6) (Int32.toNatClampNeg (nI 0)) ((gI s0 (lk t 6) (Int32.toNatClampNeg (nI 0))) + (nI 1))) (fun (s2 : SS) => some (((-1 : Int32), s2))))) else (gd (inb a (ln (lk t 6))) (some (((gI s0 (lk t 6) (Int32.toNatClampNeg a)), s0)))))
set_option maxRecDepth 100000 in
set_option maxHeartbeats 4000000 in
theorem bd_X12_status {o : Om} (C : Cx o RX12 cX12_status 2 (some .int) (rmx 1 25) 1) (t : Nat) (ht : kd t = 10) (a : Int32) (s0 : SS) : Xo (FX12_status t a s0) (fun r => RT o cX12_status (some (.int r.1)) r.2) (Yx o 0 [some (.ref t), some (.int a)] [] s0) := by
  unfold FX12_status
  refine x_iload_n C (pc := 0) dX12_status_0 rfl ?_
  refine x_i2l C (pc := 1) dX12_status_1 ?_
  refine x_lconst C (pc := 2) dX12_status_2 (v := lN 0) rfl ?_
  refine x_ldc2 C (pc := 3) dX12_status_3 cl_X12_234 ?_
  refine x_callSi C (pc := 6) ms_X12_55 [.long (Int32.toInt64 a), .long (lN 0), .long (2 : Int64)] (fun _ hr => ct_X12_in _ _ _ _ _ hr) ⟨Nat.le_of_ble_eq_true rfl, Nat.le_of_ble_eq_true rfl⟩ rfl (Nat.le_of_ble_eq_true rfl) rfl dX12_status_6 (fun r1 => ?_)
  refine x_if_ne C (pc := 9) (tgt := 24) dX12_status_9 (by decide) (fun _ => ?_) (fun _ => ?_)
  · skip
    refine x_aload_n C (pc := 12) dX12_status_12 rfl ?_
    refine x_getR C (pc := 13) fg_X12_27 dX12_status_13 ht ?_
    refine x_iconst C (pc := 16) dX12_status_16 kc_i_0 ?_
    refine x_dup2 C (pc := 17) dX12_status_17 rfl rfl ?_
    refine x_iald C (pc := 18) dX12_status_18 (lkd_10_6 ht) (fun _ => ?_)
    refine x_iconst C (pc := 19) dX12_status_19 kc_i_1 ?_
    refine x_iadd C (pc := 20) dX12_status_20 ?_
    refine x_iastn C (pc := 21) dX12_status_21 (lkd_10_6 ht) (fun s2 => ?_)
    refine x_iconst C (pc := 22) dX12_status_22 kc_i_m1 ?_
    exact x_ret dX12_status_23 (fun h => h)
  · skip
    refine x_aload_n C (pc := 24) dX12_status_24 rfl ?_
    refine x_getR C (pc := 25) fg_X12_27 dX12_status_25 ht ?_
    refine x_iload_n C (pc := 28) dX12_status_28 rfl ?_
    refine x_iald C (pc := 29) dX12_status_29 (lkd_10_6 ht) (fun _ => ?_)
    exact x_ret dX12_status_30 (fun h => h)
theorem ct_X12_status (t : Nat) (ht : kd t = 10) (a : Int32) (s0 : SS) (r : Int32) (s2 : SS) (h : FX12_status t a s0 = some (r, s2)) : CT 1 yX12_status cX12_status 2 (some .int) 1 25 [.ref t, .int a] s0 (some (.int r)) s2 :=
  ct_of (by decide +kernel) (Or.inr (Or.inl ⟨_, rfl, _, rfl, rfl⟩)) (lx_args [.ref t, .int a]) (lx_entry [.ref t, .int a] (fun _ => Nat.le_of_ble_eq_true rfl)) (fun o C hR => Yx.weak (lw_s (lw_s lw_0)) (bd_X12_status C t ht a s0 (r, s2) h hR))
def FX12_counted (t : Nat) (a : Int32) (s0 : SS) : Option (Int32) :=
  nm (nI 0) (fun (i1 : Int32) => nm (nI 0) (fun (i2 : Int32) => bd (lp FUEL (u2 (fun (n3 : Int32) (n4 : Int32) => gd (inb (nI 16) (ln (lk t 0))) (if (gI s0 (lk t 0) (Int32.toNatClampNeg (nI 16))) ≤ n4 then some (Sum.inr n3) else (bd (FX12_duesOf t n4 s0) (fun (r5 : Int32) => nm (n3 + r5) (fun (i6 : Int32) => nm (n4 + (nI 1)) (fun (i7 : Int32) => some (Sum.inl (i6, i7))))))))) (i1, i2)) (fun (e8 : Int32) => if a = (nI 0) then gd (inb (nI 16) (ln (lk t 0))) (some ((gI s0 (lk t 0) (Int32.toNatClampNeg (nI 16))))) else (if a = (nI 1) then gd (inb (nI 45) (ln (lk t 0))) (some ((gI s0 (lk t 0) (Int32.toNatClampNeg (nI 45))))) else (if a = (nI 2) then gd (inb (nI 66) (ln (lk t 0))) (some ((gI s0 (lk t 0) (Int32.toNatClampNeg (nI 66))))) else (if a = (nI 3) then some (e8) else (if a = (nI 4) then gd (inb (nI 67) (ln (lk t 0))) (some ((gI s0 (lk t 0) (Int32.toNatClampNeg (nI 67))))) else (if a = (nI 5) then gd (inb (nI 68) (ln (lk t 0))) (some ((gI s0 (lk t 0) (Int32.toNatClampNeg (nI 68))))) else (if a = (nI 6) then gd (inb (nI 81) (ln (lk t 0))) (some ((gI s0 (lk t 0) (Int32.toNatClampNeg (nI 81))))) else (if a = (nI 7) then gd (inb (nI 112) (ln (lk t 0))) (some ((gI s0 (lk t 0) (Int32.toNatClampNeg (nI 112))))) else (if a = (nI 8) then gd (inb (nI 137) (ln (lk t 0))) (some ((gI s0 (lk t 0) (Int32.toNatClampNeg (nI 137))))) else (some ((gI s0 t 11))))))))))))))
set_option maxRecDepth 100000 in
set_option maxHeartbeats 4000000 in
theorem bd_X12_counted {o : Om} (C : Cx o RX12 cX12_counted 4 (some .int) (rmx 2 43) 1) (t : Nat) (ht : kd t = 10) (a : Int32) (s0 : SS) : Xo (FX12_counted t a s0) (fun r => RT o cX12_counted (some (.int r)) s0) (Yx o 0 [some (.ref t), some (.int a), none, none] [] s0) := by
  unfold FX12_counted
  refine x_iconst C (pc := 0) dX12_counted_0 kc_i_0 ?_
  refine x_istore_n C (pc := 1) (L' := fun i1 => [some (.ref t), some (.int a), some (.int i1), none]) dX12_counted_1 (by decide) (fun _ => rfl) (fun i1 => ?_)
  refine x_iconst C (pc := 2) dX12_counted_2 kc_i_0 ?_
  refine x_istore_n C (pc := 3) (L' := fun i2 => [some (.ref t), some (.int a), some (.int i1), some (.int i2)]) dX12_counted_3 (by decide) (fun _ => rfl) (fun i2 => ?_)
  refine xb_1 (Z1 := (fun e8 => Yx o 29 [some (.ref t), some (.int a), some (.int e8), none] [] s0)) ?_ (fun e8 => ?_)
  · refine Xo.mono (Yx.weak (lw_s (lw_s (lw_s (lw_s lw_0))))) (x_lp2 (fr := fun n3 n4 => Yx o 4 [some (.ref t), some (.int a), some (.int n3), some (.int n4)] [] s0) _ _ (fun n3 n4 => ?_))
    refine x_iload_n C (pc := 4) dX12_counted_4 rfl ?_
    refine x_aload_n C (pc := 5) dX12_counted_5 rfl ?_
    refine x_getR C (pc := 6) fg_X12_7 dX12_counted_6 ht ?_
    refine x_bipush C (pc := 9) dX12_counted_9 kc_b_16 ?_
    refine x_iald C (pc := 11) dX12_counted_11 (lkd_10_0 ht) (fun _ => ?_)
    refine x_icmp_ge C (pc := 12) (tgt := 29) dX12_counted_12 (by decide) (fun _ => ?_) (fun _ => ?_)
    · skip
      exact Xo.done (fun h => Yx.weak (lw_s (lw_s (lw_s (lw_n lw_0)))) h)
    · skip
      refine x_iload_n C (pc := 15) dX12_counted_15 rfl ?_
      refine x_aload_n C (pc := 16) dX12_counted_16 rfl ?_
      refine x_iload_n C (pc := 17) dX12_counted_17 rfl ?_
      refine x_callVi C (pc := 18) mv_X12_194 ht rfl [.int n4] (fun _ hr => ct_X12_duesOf _ ht _ _ _ hr) ⟨Nat.le_of_ble_eq_true rfl, Nat.le_of_ble_eq_true rfl⟩ rfl (Nat.le_of_ble_eq_true rfl) rfl dX12_counted_18 (fun r5 => ?_)
      refine x_iadd C (pc := 21) dX12_counted_21 ?_
      refine x_istore_n C (pc := 22) (L' := fun i6 => [some (.ref t), some (.int a), some (.int i6), some (.int n4)]) dX12_counted_22 (by decide) (fun _ => rfl) (fun i6 => ?_)
      refine x_iinc C (pc := 23) (L' := fun i7 => [some (.ref t), some (.int a), some (.int i6), some (.int i7)]) dX12_counted_23 rfl kc_i_1 (by decide) (fun _ => rfl) (fun i7 => ?_)
      refine x_goto C (pc := 26) (tgt := 4) dX12_counted_26 (by decide) ?_
      exact Xo.done (fun h => Yx.weak (lw_s (lw_s (lw_s (lw_s lw_0)))) h)
  refine x_iload_n C (pc := 29) dX12_counted_29 rfl ?_
  refine Xo.ite (fun hq9 => ?_) (fun hq9 => ?_)
  · refine x_tabI C (pc := 30) (tgt := 80) (off := 50) dX12_counted_30 hq9 (by decide +kernel) (by decide +kernel) (by decide +kernel) (by decide) ?_
    refine x_aload_n C (pc := 80) dX12_counted_80 rfl ?_
    refine x_getR C (pc := 81) fg_X12_7 dX12_counted_81 ht ?_
    refine x_bipush C (pc := 84) dX12_counted_84 kc_b_16 ?_
    refine x_iald C (pc := 86) dX12_counted_86 (lkd_10_0 ht) (fun _ => ?_)
    exact x_ret dX12_counted_87 (fun h => h)
  refine Xo.ite (fun hq10 => ?_) (fun hq10 => ?_)
  · refine x_tabI C (pc := 30) (tgt := 88) (off := 58) dX12_counted_30 hq10 (by decide +kernel) (by decide +kernel) (by decide +kernel) (by decide) ?_
    refine x_aload_n C (pc := 88) dX12_counted_88 rfl ?_
    refine x_getR C (pc := 89) fg_X12_7 dX12_counted_89 ht ?_
    refine x_bipush C (pc := 92) dX12_counted_92 kc_b_45 ?_
    refine x_iald C (pc := 94) dX12_counted_94 (lkd_10_0 ht) (fun _ => ?_)
    exact x_ret dX12_counted_95 (fun h => h)
  refine Xo.ite (fun hq11 => ?_) (fun hq11 => ?_)
  · refine x_tabI C (pc := 30) (tgt := 96) (off := 66) dX12_counted_30 hq11 (by decide +kernel) (by decide +kernel) (by decide +kernel) (by decide) ?_
    refine x_aload_n C (pc := 96) dX12_counted_96 rfl ?_
    refine x_getR C (pc := 97) fg_X12_7 dX12_counted_97 ht ?_
    refine x_bipush C (pc := 100) dX12_counted_100 kc_b_66 ?_
    refine x_iald C (pc := 102) dX12_counted_102 (lkd_10_0 ht) (fun _ => ?_)
    exact x_ret dX12_counted_103 (fun h => h)
  refine Xo.ite (fun hq12 => ?_) (fun hq12 => ?_)
  · refine x_tabI C (pc := 30) (tgt := 104) (off := 74) dX12_counted_30 hq12 (by decide +kernel) (by decide +kernel) (by decide +kernel) (by decide) ?_
    refine x_iload_n C (pc := 104) dX12_counted_104 rfl ?_
    exact x_ret dX12_counted_105 (fun h => h)
  refine Xo.ite (fun hq13 => ?_) (fun hq13 => ?_)
  · refine x_tabI C (pc := 30) (tgt := 106) (off := 76) dX12_counted_30 hq13 (by decide +kernel) (by decide +kernel) (by decide +kernel) (by decide) ?_
    refine x_aload_n C (pc := 106) dX12_counted_106 rfl ?_
    refine x_getR C (pc := 107) fg_X12_7 dX12_counted_107 ht ?_
    refine x_bipush C (pc := 110) dX12_counted_110 kc_b_67 ?_
    refine x_iald C (pc := 112) dX12_counted_112 (lkd_10_0 ht) (fun _ => ?_)
    exact x_ret dX12_counted_113 (fun h => h)
  refine Xo.ite (fun hq14 => ?_) (fun hq14 => ?_)
  · refine x_tabI C (pc := 30) (tgt := 114) (off := 84) dX12_counted_30 hq14 (by decide +kernel) (by decide +kernel) (by decide +kernel) (by decide) ?_
    refine x_aload_n C (pc := 114) dX12_counted_114 rfl ?_
    refine x_getR C (pc := 115) fg_X12_7 dX12_counted_115 ht ?_
    refine x_bipush C (pc := 118) dX12_counted_118 kc_b_68 ?_
    refine x_iald C (pc := 120) dX12_counted_120 (lkd_10_0 ht) (fun _ => ?_)
    exact x_ret dX12_counted_121 (fun h => h)
  refine Xo.ite (fun hq15 => ?_) (fun hq15 => ?_)
  · refine x_tabI C (pc := 30) (tgt := 122) (off := 92) dX12_counted_30 hq15 (by decide +kernel) (by decide +kernel) (by decide +kernel) (by decide) ?_
    refine x_aload_n C (pc := 122) dX12_counted_122 rfl ?_
    refine x_getR C (pc := 123) fg_X12_7 dX12_counted_123 ht ?_
    refine x_bipush C (pc := 126) dX12_counted_126 kc_b_81 ?_
    refine x_iald C (pc := 128) dX12_counted_128 (lkd_10_0 ht) (fun _ => ?_)
    exact x_ret dX12_counted_129 (fun h => h)
  refine Xo.ite (fun hq16 => ?_) (fun hq16 => ?_)
  · refine x_tabI C (pc := 30) (tgt := 130) (off := 100) dX12_counted_30 hq16 (by decide +kernel) (by decide +kernel) (by decide +kernel) (by decide) ?_
    refine x_aload_n C (pc := 130) dX12_counted_130 rfl ?_
    refine x_getR C (pc := 131) fg_X12_7 dX12_counted_131 ht ?_
    refine x_bipush C (pc := 134) dX12_counted_134 kc_b_112 ?_
    refine x_iald C (pc := 136) dX12_counted_136 (lkd_10_0 ht) (fun _ => ?_)
    exact x_ret dX12_counted_137 (fun h => h)
  refine Xo.ite (fun hq17 => ?_) (fun hq17 => ?_)
  · refine x_tabI C (pc := 30) (tgt := 138) (off := 108) dX12_counted_30 hq17 (by decide +kernel) (by decide +kernel) (by decide +kernel) (by decide) ?_
    refine x_aload_n C (pc := 138) dX12_counted_138 rfl ?_
    refine x_getR C (pc := 139) fg_X12_7 dX12_counted_139 ht ?_
    refine x_sipush C (pc := 142) dX12_counted_142 kc_s_137 ?_
    refine x_iald C (pc := 145) dX12_counted_145 (lkd_10_0 ht) (fun _ => ?_)
    exact x_ret dX12_counted_146 (fun h => h)
  have hT := tab_out (x := a) (lo := 0) (hi := 8) 9 (fun j hj => by
    rcases j with _ | j
    · exact lv_neT hq9 (by decide +kernel)
    rcases j with _ | j
    · exact lv_neT hq10 (by decide +kernel)
    rcases j with _ | j
    · exact lv_neT hq11 (by decide +kernel)
    rcases j with _ | j
    · exact lv_neT hq12 (by decide +kernel)
    rcases j with _ | j
    · exact lv_neT hq13 (by decide +kernel)
    rcases j with _ | j
    · exact lv_neT hq14 (by decide +kernel)
    rcases j with _ | j
    · exact lv_neT hq15 (by decide +kernel)
    rcases j with _ | j
    · exact lv_neT hq16 (by decide +kernel)
    rcases j with _ | j
    · exact lv_neT hq17 (by decide +kernel)
    exact absurd hj (by omega)) (by decide)
  refine x_tabO C (pc := 30) (tgt := 147) dX12_counted_30 hT (by decide) ?_
  refine x_aload_n C (pc := 147) dX12_counted_147 rfl ?_
  refine x_getI C (pc := 148) fg_X12_119 dX12_counted_148 ht ?_
  exact x_ret dX12_counted_151 (fun h => h)
theorem ct_X12_counted (t : Nat) (ht : kd t = 10) (a : Int32) (s0 : SS) (r : Int32) (h : FX12_counted t a s0 = some r) : CT 1 yX12_counted cX12_counted 4 (some .int) 2 43 [.ref t, .int a] s0 (some (.int r)) s0 :=
  ct_of (by decide +kernel) (Or.inr (Or.inl ⟨_, rfl, _, rfl, rfl⟩)) (lx_args [.ref t, .int a]) (lx_entry [.ref t, .int a] (fun _ => Nat.le_of_ble_eq_true rfl)) (fun o C hR => Yx.weak (lw_s (lw_s (lw_z (lw_z lw_0)))) (bd_X12_counted C t ht a s0 r h hR))
def FX12_count (t : Nat) (a : Int32) (s0 : SS) : Option (Int32 × SS) :=
  bd (FX12_in (Int32.toInt64 a) (lN 0) (9 : Int64) s0) (fun (r1 : Int32) => if r1 = 0 then bd2 (FX12_bad t s0) (fun (r2 : Int32) (s3 : SS) => some ((r2, s3))) else (bd (FX12_counted t a s0) (fun (r4 : Int32) => some ((r4, s0)))))
set_option maxRecDepth 100000 in
set_option maxHeartbeats 4000000 in
theorem bd_X12_count {o : Om} (C : Cx o RX12 cX12_count 2 (some .int) (rmx 3 66) 1) (t : Nat) (ht : kd t = 10) (a : Int32) (s0 : SS) : Xo (FX12_count t a s0) (fun r => RT o cX12_count (some (.int r.1)) r.2) (Yx o 0 [some (.ref t), some (.int a)] [] s0) := by
  unfold FX12_count
  refine x_iload_n C (pc := 0) dX12_count_0 rfl ?_
  refine x_i2l C (pc := 1) dX12_count_1 ?_
  refine x_lconst C (pc := 2) dX12_count_2 (v := lN 0) rfl ?_
  refine x_ldc2 C (pc := 3) dX12_count_3 cl_X12_272 ?_
  refine x_callSi C (pc := 6) ms_X12_55 [.long (Int32.toInt64 a), .long (lN 0), .long (9 : Int64)] (fun _ hr => ct_X12_in _ _ _ _ _ hr) ⟨Nat.le_of_ble_eq_true rfl, Nat.le_of_ble_eq_true rfl⟩ rfl (Nat.le_of_ble_eq_true rfl) rfl dX12_count_6 (fun r1 => ?_)
  refine x_if_eq C (pc := 9) (tgt := 20) dX12_count_9 (by decide) (fun _ => ?_) (fun _ => ?_)
  · skip
    refine x_aload_n C (pc := 20) dX12_count_20 rfl ?_
    refine x_callVim C (pc := 21) mv_X12_101 ht rfl [] (fun _ _ hr => ct_X12_bad _ ht _ _ _ hr) ⟨Nat.le_of_ble_eq_true rfl, Nat.le_of_ble_eq_true rfl⟩ rfl (Nat.le_of_ble_eq_true rfl) rfl dX12_count_21 (fun r2 s3 => ?_)
    exact x_ret dX12_count_24 (fun h => h)
  · skip
    refine x_aload_n C (pc := 12) dX12_count_12 rfl ?_
    refine x_iload_n C (pc := 13) dX12_count_13 rfl ?_
    refine x_callVi C (pc := 14) mv_X12_274 ht rfl [.int a] (fun _ hr => ct_X12_counted _ ht _ _ _ hr) ⟨Nat.le_of_ble_eq_true rfl, Nat.le_of_ble_eq_true rfl⟩ rfl (Nat.le_of_ble_eq_true rfl) rfl dX12_count_14 (fun r4 => ?_)
    refine x_goto C (pc := 17) (tgt := 24) dX12_count_17 (by decide) ?_
    exact x_ret dX12_count_24 (fun h => h)
theorem ct_X12_count (t : Nat) (ht : kd t = 10) (a : Int32) (s0 : SS) (r : Int32) (s2 : SS) (h : FX12_count t a s0 = some (r, s2)) : CT 1 yX12_count cX12_count 2 (some .int) 3 66 [.ref t, .int a] s0 (some (.int r)) s2 :=
  ct_of (by decide +kernel) (Or.inr (Or.inl ⟨_, rfl, _, rfl, rfl⟩)) (lx_args [.ref t, .int a]) (lx_entry [.ref t, .int a] (fun _ => Nat.le_of_ble_eq_true rfl)) (fun o C hR => Yx.weak (lw_s (lw_s lw_0)) (bd_X12_count C t ht a s0 (r, s2) h hR))
def FX12_digestOf (t : Nat) (a : Int64) (b : Int32) (c : Int32) (s0 : SS) : Option (Int64) :=
  nm a (fun (l1 : Int64) => nm (nI 0) (fun (i2 : Int32) => bd (lp FUEL (u2 (fun (m3 : Int64) (n4 : Int32) => if c ≤ n4 then some (Sum.inr m3) else (gd (inb (b + n4) (ln (lk t 0))) (nm (((31 : Int64) * m3) + (Int32.toInt64 (gI s0 (lk t 0) (Int32.toNatClampNeg (b + n4))))) (fun (l5 : Int64) => nm (n4 + (nI 1)) (fun (i6 : Int32) => some (Sum.inl (l5, i6)))))))) (l1, i2)) (fun (f7 : Int64) => some (f7))))
set_option maxRecDepth 100000 in
set_option maxHeartbeats 4000000 in
theorem bd_X12_digestOf {o : Om} (C : Cx o RX12 cX12_digestOf 8 (some .long) (rmx 0 0) 1) (t : Nat) (ht : kd t = 10) (a : Int64) (b : Int32) (c : Int32) (s0 : SS) : Xo (FX12_digestOf t a b c s0) (fun r => RT o cX12_digestOf (some (.long r)) s0) (Yx o 0 [some (.ref t), some (.long a), none, some (.int b), some (.int c), none, none, none] [] s0) := by
  unfold FX12_digestOf
  refine x_lload_n C (pc := 0) dX12_digestOf_0 rfl ?_
  refine x_lstore C (pc := 1) (L' := fun l1 => [some (.ref t), some (.long a), none, some (.int b), some (.int c), some (.long l1), none, none]) dX12_digestOf_1 (by decide) (fun _ => rfl) (fun l1 => ?_)
  refine x_iconst C (pc := 3) dX12_digestOf_3 kc_i_0 ?_
  refine x_istore C (pc := 4) (L' := fun i2 => [some (.ref t), some (.long a), none, some (.int b), some (.int c), some (.long l1), none, some (.int i2)]) dX12_digestOf_4 (by decide) (fun _ => rfl) (fun i2 => ?_)
  refine xb_1 (Z1 := (fun f7 => Yx o 38 [none, none, none, none, none, some (.long f7), none, none] [] s0)) ?_ (fun f7 => ?_)
  · refine Xo.mono (Yx.weak (lw_s (lw_n (lw_n (lw_s (lw_s (lw_s (lw_n (lw_s lw_0))))))))) (x_lp2 (fr := fun m3 n4 => Yx o 6 [some (.ref t), none, none, some (.int b), some (.int c), some (.long m3), none, some (.int n4)] [] s0) _ _ (fun m3 n4 => ?_))
    refine x_iload C (pc := 6) dX12_digestOf_6 rfl ?_
    refine x_iload C (pc := 8) dX12_digestOf_8 rfl ?_
    refine x_icmp_ge C (pc := 10) (tgt := 38) dX12_digestOf_10 (by decide) (fun _ => ?_) (fun _ => ?_)
    · skip
      exact Xo.done (fun h => Yx.weak (lw_n (lw_n (lw_n (lw_n (lw_n (lw_s (lw_n (lw_n lw_0)))))))) h)
    · skip
      refine x_ldc2 C (pc := 13) dX12_digestOf_13 cl_X12_277 ?_
      refine x_lload C (pc := 16) dX12_digestOf_16 rfl ?_
      refine x_lmul C (pc := 18) dX12_digestOf_18 ?_
      refine x_aload_n C (pc := 19) dX12_digestOf_19 rfl ?_
      refine x_getR C (pc := 20) fg_X12_7 dX12_digestOf_20 ht ?_
      refine x_iload_n C (pc := 23) dX12_digestOf_23 rfl ?_
      refine x_iload C (pc := 24) dX12_digestOf_24 rfl ?_
      refine x_iadd C (pc := 26) dX12_digestOf_26 ?_
      refine x_iald C (pc := 27) dX12_digestOf_27 (lkd_10_0 ht) (fun _ => ?_)
      refine x_i2l C (pc := 28) dX12_digestOf_28 ?_
      refine x_ladd C (pc := 29) dX12_digestOf_29 ?_
      refine x_lstore C (pc := 30) (L' := fun l5 => [some (.ref t), none, none, some (.int b), some (.int c), some (.long l5), none, some (.int n4)]) dX12_digestOf_30 (by decide) (fun _ => rfl) (fun l5 => ?_)
      refine x_iinc C (pc := 32) (L' := fun i6 => [some (.ref t), none, none, some (.int b), some (.int c), some (.long l5), none, some (.int i6)]) dX12_digestOf_32 rfl kc_i_1 (by decide) (fun _ => rfl) (fun i6 => ?_)
      refine x_goto C (pc := 35) (tgt := 6) dX12_digestOf_35 (by decide) ?_
      exact Xo.done (fun h => Yx.weak (lw_s (lw_n (lw_n (lw_s (lw_s (lw_s (lw_n (lw_s lw_0)))))))) h)
  refine x_lload C (pc := 38) dX12_digestOf_38 rfl ?_
  exact x_lret dX12_digestOf_40 (fun h => h)
theorem ct_X12_digestOf (t : Nat) (ht : kd t = 10) (a : Int64) (b : Int32) (c : Int32) (s0 : SS) (r : Int64) (h : FX12_digestOf t a b c s0 = some r) : CT 1 yX12_digestOf cX12_digestOf 8 (some .long) 0 0 [.ref t, .long a, .int b, .int c] s0 (some (.long r)) s0 :=
  ct_of (by decide +kernel) (Or.inr (Or.inr ⟨_, rfl, rfl⟩)) (lx_args [.ref t, .long a, .int b, .int c]) (lx_entry [.ref t, .long a, .int b, .int c] (fun _ => Nat.le_of_ble_eq_true rfl)) (fun o C hR => Yx.weak (lw_s (lw_s (lw_s (lw_s (lw_s (lw_z (lw_z (lw_z lw_0)))))))) (bd_X12_digestOf C t ht a b c s0 r h hR))
def FX12_digest (t : Nat) (s0 : SS) : Option (Int64) :=
  nm (1493 : Int64) (fun (l1 : Int64) => nm (nI 0) (fun (i2 : Int32) => bd (lp FUEL (u2 (fun (m3 : Int64) (n4 : Int32) => if (nI 10) ≤ n4 then some (Sum.inr m3) else (bd (FX12_counted t n4 s0) (fun (r5 : Int32) => nm (((31 : Int64) * m3) + (Int32.toInt64 r5)) (fun (l6 : Int64) => nm (n4 + (nI 1)) (fun (i7 : Int32) => some (Sum.inl (l6, i7)))))))) (l1, i2)) (fun (f8 : Int64) => bd (FX12_digestOf t f8 (nI 0) (nI 16) s0) (fun (r9 : Int64) => nm r9 (fun (l10 : Int64) => gd (inb (nI 16) (ln (lk t 0))) (bd (FX12_digestOf t l10 (nI 17) ((nI 4) * (gI s0 (lk t 0) (Int32.toNatClampNeg (nI 16)))) s0) (fun (r11 : Int64) => nm r11 (fun (l12 : Int64) => gd (inb (nI 45) (ln (lk t 0))) (bd (FX12_digestOf t l12 (nI 46) ((nI 4) * (gI s0 (lk t 0) (Int32.toNatClampNeg (nI 45)))) s0) (fun (r13 : Int64) => nm r13 (fun (l14 : Int64) => gd (inb (nI 68) (ln (lk t 0))) (bd (FX12_digestOf t l14 (nI 69) ((nI 3) * (gI s0 (lk t 0) (Int32.toNatClampNeg (nI 68)))) s0) (fun (r15 : Int64) => nm r15 (fun (l16 : Int64) => gd (inb (nI 81) (ln (lk t 0))) (bd (FX12_digestOf t l16 (nI 82) ((nI 5) * (gI s0 (lk t 0) (Int32.toNatClampNeg (nI 81)))) s0) (fun (r17 : Int64) => nm r17 (fun (l18 : Int64) => gd (inb (nI 112) (ln (lk t 0))) (bd (FX12_digestOf t l18 (nI 113) ((nI 4) * (gI s0 (lk t 0) (Int32.toNatClampNeg (nI 112)))) s0) (fun (r19 : Int64) => nm r19 (fun (l20 : Int64) => some ((((31 : Int64) * (((31 : Int64) * l20) + (gL s0 t 4))) + (gL s0 t 5)))))))))))))))))))))))
set_option maxRecDepth 100000 in
set_option maxHeartbeats 4000000 in
theorem bd_X12_digest {o : Om} (C : Cx o RX12 cX12_digest 4 (some .long) (rmx 3 66) 1) (t : Nat) (ht : kd t = 10) (s0 : SS) : Xo (FX12_digest t s0) (fun r => RT o cX12_digest (some (.long r)) s0) (Yx o 0 [some (.ref t), none, none, none] [] s0) := by
  unfold FX12_digest
  refine x_ldc2 C (pc := 0) dX12_digest_0 cl_X12_279 ?_
  refine x_lstore_n C (pc := 3) (L' := fun l1 => [some (.ref t), some (.long l1), none, none]) dX12_digest_3 (by decide) (fun _ => rfl) (fun l1 => ?_)
  refine x_iconst C (pc := 4) dX12_digest_4 kc_i_0 ?_
  refine x_istore_n C (pc := 5) (L' := fun i2 => [some (.ref t), some (.long l1), none, some (.int i2)]) dX12_digest_5 (by decide) (fun _ => rfl) (fun i2 => ?_)
  refine xb_1 (Z1 := (fun f8 => Yx o 31 [some (.ref t), some (.long f8), none, none] [] s0)) ?_ (fun f8 => ?_)
  · refine Xo.mono (Yx.weak (lw_s (lw_s (lw_n (lw_s lw_0))))) (x_lp2 (fr := fun m3 n4 => Yx o 6 [some (.ref t), some (.long m3), none, some (.int n4)] [] s0) _ _ (fun m3 n4 => ?_))
    refine x_iload_n C (pc := 6) dX12_digest_6 rfl ?_
    refine x_bipush C (pc := 7) dX12_digest_7 kc_b_10 ?_
    refine x_icmp_ge C (pc := 9) (tgt := 31) dX12_digest_9 (by decide) (fun _ => ?_) (fun _ => ?_)
    · skip
      exact Xo.done (fun h => Yx.weak (lw_s (lw_s (lw_n (lw_n lw_0)))) h)
    · skip
      refine x_ldc2 C (pc := 12) dX12_digest_12 cl_X12_277 ?_
      refine x_lload_n C (pc := 15) dX12_digest_15 rfl ?_
      refine x_lmul C (pc := 16) dX12_digest_16 ?_
      refine x_aload_n C (pc := 17) dX12_digest_17 rfl ?_
      refine x_iload_n C (pc := 18) dX12_digest_18 rfl ?_
      refine x_callVi C (pc := 19) mv_X12_274 ht rfl [.int n4] (fun _ hr => ct_X12_counted _ ht _ _ _ hr) ⟨Nat.le_of_ble_eq_true rfl, Nat.le_of_ble_eq_true rfl⟩ rfl (Nat.le_of_ble_eq_true rfl) rfl dX12_digest_19 (fun r5 => ?_)
      refine x_i2l C (pc := 22) dX12_digest_22 ?_
      refine x_ladd C (pc := 23) dX12_digest_23 ?_
      refine x_lstore_n C (pc := 24) (L' := fun l6 => [some (.ref t), some (.long l6), none, some (.int n4)]) dX12_digest_24 (by decide) (fun _ => rfl) (fun l6 => ?_)
      refine x_iinc C (pc := 25) (L' := fun i7 => [some (.ref t), some (.long l6), none, some (.int i7)]) dX12_digest_25 rfl kc_i_1 (by decide) (fun _ => rfl) (fun i7 => ?_)
      refine x_goto C (pc := 28) (tgt := 6) dX12_digest_28 (by decide) ?_
      exact Xo.done (fun h => Yx.weak (lw_s (lw_s (lw_n (lw_s lw_0)))) h)
  refine x_aload_n C (pc := 31) dX12_digest_31 rfl ?_
  refine x_lload_n C (pc := 32) dX12_digest_32 rfl ?_
  refine x_iconst C (pc := 33) dX12_digest_33 kc_i_0 ?_
  refine x_bipush C (pc := 34) dX12_digest_34 kc_b_16 ?_
  refine x_callVl C (pc := 36) mv_X12_281 ht rfl [.long f8, .int (nI 0), .int (nI 16)] (fun _ hr => ct_X12_digestOf _ ht _ _ _ _ _ hr) ⟨Nat.le_of_ble_eq_true rfl, Nat.le_of_ble_eq_true rfl⟩ rfl (Nat.le_of_ble_eq_true rfl) rfl dX12_digest_36 (fun r9 => ?_)
  refine x_lstore_n C (pc := 39) (L' := fun l10 => [some (.ref t), some (.long l10), none, none]) dX12_digest_39 (by decide) (fun _ => rfl) (fun l10 => ?_)
  refine x_aload_n C (pc := 40) dX12_digest_40 rfl ?_
  refine x_lload_n C (pc := 41) dX12_digest_41 rfl ?_
  refine x_bipush C (pc := 42) dX12_digest_42 kc_b_17 ?_
  refine x_iconst C (pc := 44) dX12_digest_44 kc_i_4 ?_
  refine x_aload_n C (pc := 45) dX12_digest_45 rfl ?_
  refine x_getR C (pc := 46) fg_X12_7 dX12_digest_46 ht ?_
  refine x_bipush C (pc := 49) dX12_digest_49 kc_b_16 ?_
  refine x_iald C (pc := 51) dX12_digest_51 (lkd_10_0 ht) (fun _ => ?_)
  refine x_imul C (pc := 52) dX12_digest_52 ?_
  refine x_callVl C (pc := 53) mv_X12_281 ht rfl [.long l10, .int (nI 17), .int ((nI 4) * (gI s0 (lk t 0) (Int32.toNatClampNeg (nI 16))))] (fun _ hr => ct_X12_digestOf _ ht _ _ _ _ _ hr) ⟨Nat.le_of_ble_eq_true rfl, Nat.le_of_ble_eq_true rfl⟩ rfl (Nat.le_of_ble_eq_true rfl) rfl dX12_digest_53 (fun r11 => ?_)
  refine x_lstore_n C (pc := 56) (L' := fun l12 => [some (.ref t), some (.long l12), none, none]) dX12_digest_56 (by decide) (fun _ => rfl) (fun l12 => ?_)
  refine x_aload_n C (pc := 57) dX12_digest_57 rfl ?_
  refine x_lload_n C (pc := 58) dX12_digest_58 rfl ?_
  refine x_bipush C (pc := 59) dX12_digest_59 kc_b_46 ?_
  refine x_iconst C (pc := 61) dX12_digest_61 kc_i_4 ?_
  refine x_aload_n C (pc := 62) dX12_digest_62 rfl ?_
  refine x_getR C (pc := 63) fg_X12_7 dX12_digest_63 ht ?_
  refine x_bipush C (pc := 66) dX12_digest_66 kc_b_45 ?_
  refine x_iald C (pc := 68) dX12_digest_68 (lkd_10_0 ht) (fun _ => ?_)
  refine x_imul C (pc := 69) dX12_digest_69 ?_
  refine x_callVl C (pc := 70) mv_X12_281 ht rfl [.long l12, .int (nI 46), .int ((nI 4) * (gI s0 (lk t 0) (Int32.toNatClampNeg (nI 45))))] (fun _ hr => ct_X12_digestOf _ ht _ _ _ _ _ hr) ⟨Nat.le_of_ble_eq_true rfl, Nat.le_of_ble_eq_true rfl⟩ rfl (Nat.le_of_ble_eq_true rfl) rfl dX12_digest_70 (fun r13 => ?_)
  refine x_lstore_n C (pc := 73) (L' := fun l14 => [some (.ref t), some (.long l14), none, none]) dX12_digest_73 (by decide) (fun _ => rfl) (fun l14 => ?_)
  refine x_aload_n C (pc := 74) dX12_digest_74 rfl ?_
  refine x_lload_n C (pc := 75) dX12_digest_75 rfl ?_
  refine x_bipush C (pc := 76) dX12_digest_76 kc_b_69 ?_
  refine x_iconst C (pc := 78) dX12_digest_78 kc_i_3 ?_
  refine x_aload_n C (pc := 79) dX12_digest_79 rfl ?_
  refine x_getR C (pc := 80) fg_X12_7 dX12_digest_80 ht ?_
  refine x_bipush C (pc := 83) dX12_digest_83 kc_b_68 ?_
  refine x_iald C (pc := 85) dX12_digest_85 (lkd_10_0 ht) (fun _ => ?_)
  refine x_imul C (pc := 86) dX12_digest_86 ?_
  refine x_callVl C (pc := 87) mv_X12_281 ht rfl [.long l14, .int (nI 69), .int ((nI 3) * (gI s0 (lk t 0) (Int32.toNatClampNeg (nI 68))))] (fun _ hr => ct_X12_digestOf _ ht _ _ _ _ _ hr) ⟨Nat.le_of_ble_eq_true rfl, Nat.le_of_ble_eq_true rfl⟩ rfl (Nat.le_of_ble_eq_true rfl) rfl dX12_digest_87 (fun r15 => ?_)
  refine x_lstore_n C (pc := 90) (L' := fun l16 => [some (.ref t), some (.long l16), none, none]) dX12_digest_90 (by decide) (fun _ => rfl) (fun l16 => ?_)
  refine x_aload_n C (pc := 91) dX12_digest_91 rfl ?_
  refine x_lload_n C (pc := 92) dX12_digest_92 rfl ?_
  refine x_bipush C (pc := 93) dX12_digest_93 kc_b_82 ?_
  refine x_iconst C (pc := 95) dX12_digest_95 kc_i_5 ?_
  refine x_aload_n C (pc := 96) dX12_digest_96 rfl ?_
  refine x_getR C (pc := 97) fg_X12_7 dX12_digest_97 ht ?_
  refine x_bipush C (pc := 100) dX12_digest_100 kc_b_81 ?_
  refine x_iald C (pc := 102) dX12_digest_102 (lkd_10_0 ht) (fun _ => ?_)
  refine x_imul C (pc := 103) dX12_digest_103 ?_
  refine x_callVl C (pc := 104) mv_X12_281 ht rfl [.long l16, .int (nI 82), .int ((nI 5) * (gI s0 (lk t 0) (Int32.toNatClampNeg (nI 81))))] (fun _ hr => ct_X12_digestOf _ ht _ _ _ _ _ hr) ⟨Nat.le_of_ble_eq_true rfl, Nat.le_of_ble_eq_true rfl⟩ rfl (Nat.le_of_ble_eq_true rfl) rfl dX12_digest_104 (fun r17 => ?_)
  refine x_lstore_n C (pc := 107) (L' := fun l18 => [some (.ref t), some (.long l18), none, none]) dX12_digest_107 (by decide) (fun _ => rfl) (fun l18 => ?_)
  refine x_aload_n C (pc := 108) dX12_digest_108 rfl ?_
  refine x_lload_n C (pc := 109) dX12_digest_109 rfl ?_
  refine x_bipush C (pc := 110) dX12_digest_110 kc_b_113 ?_
  refine x_iconst C (pc := 112) dX12_digest_112 kc_i_4 ?_
  refine x_aload_n C (pc := 113) dX12_digest_113 rfl ?_
  refine x_getR C (pc := 114) fg_X12_7 dX12_digest_114 ht ?_
  refine x_bipush C (pc := 117) dX12_digest_117 kc_b_112 ?_
  refine x_iald C (pc := 119) dX12_digest_119 (lkd_10_0 ht) (fun _ => ?_)
  refine x_imul C (pc := 120) dX12_digest_120 ?_
  refine x_callVl C (pc := 121) mv_X12_281 ht rfl [.long l18, .int (nI 113), .int ((nI 4) * (gI s0 (lk t 0) (Int32.toNatClampNeg (nI 112))))] (fun _ hr => ct_X12_digestOf _ ht _ _ _ _ _ hr) ⟨Nat.le_of_ble_eq_true rfl, Nat.le_of_ble_eq_true rfl⟩ rfl (Nat.le_of_ble_eq_true rfl) rfl dX12_digest_121 (fun r19 => ?_)
  refine x_lstore_n C (pc := 124) (L' := fun l20 => [some (.ref t), some (.long l20), none, none]) dX12_digest_124 (by decide) (fun _ => rfl) (fun l20 => ?_)
  refine x_ldc2 C (pc := 125) dX12_digest_125 cl_X12_277 ?_
  refine x_ldc2 C (pc := 128) dX12_digest_128 cl_X12_277 ?_
  refine x_lload_n C (pc := 131) dX12_digest_131 rfl ?_
  refine x_lmul C (pc := 132) dX12_digest_132 ?_
  refine x_aload_n C (pc := 133) dX12_digest_133 rfl ?_
  refine x_getL C (pc := 134) fg_X12_59 dX12_digest_134 ht ?_
  refine x_ladd C (pc := 137) dX12_digest_137 ?_
  refine x_lmul C (pc := 138) dX12_digest_138 ?_
  refine x_aload_n C (pc := 139) dX12_digest_139 rfl ?_
  refine x_getL C (pc := 140) fg_X12_23 dX12_digest_140 ht ?_
  refine x_ladd C (pc := 143) dX12_digest_143 ?_
  exact x_lret dX12_digest_144 (fun h => h)
theorem ct_X12_digest (t : Nat) (ht : kd t = 10) (s0 : SS) (r : Int64) (h : FX12_digest t s0 = some r) : CT 1 yX12_digest cX12_digest 4 (some .long) 3 66 [.ref t] s0 (some (.long r)) s0 :=
  ct_of (by decide +kernel) (Or.inr (Or.inr ⟨_, rfl, rfl⟩)) (lx_args [.ref t]) (lx_entry [.ref t] (fun _ => Nat.le_of_ble_eq_true rfl)) (fun o C hR => Yx.weak (lw_s (lw_z (lw_z (lw_z lw_0)))) (bd_X12_digest C t ht s0 r h hR))
