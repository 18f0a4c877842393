def FX12_then (t : Nat) (a : Int32) (b : Int32) (s0 : SS) : Option (Int32 × SS) :=
  bd (FX12_isUser t a s0) (fun (r1 : Int32) => if r1 = 0 then bd2 (FX12_bad t s0) (fun (r2 : Int32) (s3 : SS) => some ((r2, s3))) else (bd (FX12_in (Int32.toInt64 b) (lN 0) (99 : Int64) s0) (fun (r4 : Int32) => if r4 = 0 then bd2 (FX12_bad t s0) (fun (r5 : Int32) (s6 : SS) => some ((r5, s6))) else (bd (FX12_layFresh t s0) (fun (s7 : SS) => nm (nI 0) (fun (i8 : Int32) => bd (lp FUEL (u2 (fun (n9 : Int32) (s10 : SS) => if b ≤ n9 then some (Sum.inr s10) else (bd2 (FX12_goOn t (lk t 1) s10) (fun (r11 : Int32) (s12 : SS) => nm r11 (fun (i13 : Int32) => nm (n9 + (nI 1)) (fun (i14 : Int32) => some (Sum.inl (i14, s12)))))))) (i8, s7)) (fun (s15 : SS) => bd (FX12_userOf (lk t 1) a (nI 3) s15) (fun (r16 : Int32) => some ((r16, s15))))))))))
set_option maxRecDepth 100000 in
set_option maxHeartbeats 4000000 in
theorem bd_X12_then {o : Om} (C : Cx o RX12 cX12_then 5 (some .int) (rmx 4 99) 1) (t : Nat) (ht : kd t = 10) (a : Int32) (b : Int32) (s0 : SS) : Xo (FX12_then t a b s0) (fun r => RT o cX12_then (some (.int r.1)) r.2) (Yx o 0 [some (.ref t), some (.int a), some (.int b), none, none] [] s0) := by
  unfold FX12_then
  refine x_aload_n C (pc := 0) dX12_then_0 rfl ?_
  refine x_iload_n C (pc := 1) dX12_then_1 rfl ?_
  refine x_callVi C (pc := 2) mv_X12_185 ht rfl [.int a] (fun _ hr => ct_X12_isUser _ ht _ _ _ hr) ⟨Nat.le_of_ble_eq_true rfl, Nat.le_of_ble_eq_true rfl⟩ rfl (Nat.le_of_ble_eq_true rfl) rfl dX12_then_2 (fun r1 => ?_)
  refine x_if_eq C (pc := 5) (tgt := 20) dX12_then_5 (by decide) (fun _ => ?_) (fun _ => ?_)
  · skip
    refine x_aload_n C (pc := 20) dX12_then_20 rfl ?_
    refine x_callVim C (pc := 21) mv_X12_101 ht rfl [] (fun _ _ hr => ct_X12_bad _ ht _ _ _ hr) ⟨Nat.le_of_ble_eq_true rfl, Nat.le_of_ble_eq_true rfl⟩ rfl (Nat.le_of_ble_eq_true rfl) rfl dX12_then_21 (fun r2 s3 => ?_)
    exact x_ret dX12_then_24 (fun h => h)
  · skip
    refine x_iload_n C (pc := 8) dX12_then_8 rfl ?_
    refine x_i2l C (pc := 9) dX12_then_9 ?_
    refine x_lconst C (pc := 10) dX12_then_10 (v := lN 0) rfl ?_
    refine x_ldc2 C (pc := 11) dX12_then_11 cl_X12_180 ?_
    refine x_callSi C (pc := 14) ms_X12_55 [.long (Int32.toInt64 b), .long (lN 0), .long (99 : Int64)] (fun _ hr => ct_X12_in _ _ _ _ _ hr) ⟨Nat.le_of_ble_eq_true rfl, Nat.le_of_ble_eq_true rfl⟩ rfl (Nat.le_of_ble_eq_true rfl) rfl dX12_then_14 (fun r4 => ?_)
    refine x_if_ne C (pc := 17) (tgt := 25) dX12_then_17 (by decide) (fun _ => ?_) (fun _ => ?_)
    · skip
      refine x_aload_n C (pc := 20) dX12_then_20 rfl ?_
      refine x_callVim C (pc := 21) mv_X12_101 ht rfl [] (fun _ _ hr => ct_X12_bad _ ht _ _ _ hr) ⟨Nat.le_of_ble_eq_true rfl, Nat.le_of_ble_eq_true rfl⟩ rfl (Nat.le_of_ble_eq_true rfl) rfl dX12_then_21 (fun r5 s6 => ?_)
      exact x_ret dX12_then_24 (fun h => h)
    · skip
      refine x_aload_n C (pc := 25) dX12_then_25 rfl ?_
      refine x_callVv C (pc := 26) mv_X12_211 ht rfl [] (fun _ hr => ct_X12_layFresh _ ht _ _ hr) ⟨Nat.le_of_ble_eq_true rfl, Nat.le_of_ble_eq_true rfl⟩ rfl (Nat.le_of_ble_eq_true rfl) rfl dX12_then_26 (fun s7 => ?_)
      refine x_iconst C (pc := 29) dX12_then_29 kc_i_0 ?_
      refine x_istore_n C (pc := 30) (L' := fun i8 => [some (.ref t), some (.int a), some (.int b), some (.int i8), none]) dX12_then_30 (by decide) (fun _ => rfl) (fun i8 => ?_)
      refine xb_1 (Z1 := (fun s15 => Yx o 52 [some (.ref t), some (.int a), none, none, none] [] s15)) ?_ (fun s15 => ?_)
      · refine Xo.mono (Yx.weak (lw_s (lw_s (lw_s (lw_s (lw_n lw_0)))))) (x_lp2 (fr := fun n9 s10 => Yx o 31 [some (.ref t), some (.int a), some (.int b), some (.int n9), none] [] s10) _ _ (fun n9 s10 => ?_))
        refine x_iload_n C (pc := 31) dX12_then_31 rfl ?_
        refine x_iload_n C (pc := 32) dX12_then_32 rfl ?_
        refine x_icmp_ge C (pc := 33) (tgt := 52) dX12_then_33 (by decide) (fun _ => ?_) (fun _ => ?_)
        · skip
          exact Xo.done (fun h => Yx.weak (lw_s (lw_s (lw_n (lw_n (lw_n lw_0))))) h)
        · skip
          refine x_aload_n C (pc := 36) dX12_then_36 rfl ?_
          refine x_aload_n C (pc := 37) dX12_then_37 rfl ?_
          refine x_getR C (pc := 38) fg_X12_13 dX12_then_38 ht ?_
          refine x_callVim C (pc := 41) mv_X12_90 ht rfl [.ref (lk t 1)] (fun _ _ hr => ct_X12_goOn _ ht _ (lkd_10_1 ht) _ _ _ hr) ⟨Nat.le_of_ble_eq_true rfl, Nat.le_of_ble_eq_true rfl⟩ rfl (Nat.le_of_ble_eq_true rfl) rfl dX12_then_41 (fun r11 s12 => ?_)
          refine x_istore C (pc := 44) (L' := fun i13 => [some (.ref t), some (.int a), some (.int b), some (.int n9), some (.int i13)]) dX12_then_44 (by decide) (fun _ => rfl) (fun i13 => ?_)
          refine x_iinc C (pc := 46) (L' := fun i14 => [some (.ref t), some (.int a), some (.int b), some (.int i14), some (.int i13)]) dX12_then_46 rfl kc_i_1 (by decide) (fun _ => rfl) (fun i14 => ?_)
          refine x_goto C (pc := 49) (tgt := 31) dX12_then_49 (by decide) ?_
          exact Xo.done (fun h => Yx.weak (lw_s (lw_s (lw_s (lw_s (lw_n lw_0))))) h)
      refine x_aload_n C (pc := 52) dX12_then_52 rfl ?_
      refine x_getR C (pc := 53) fg_X12_13 dX12_then_53 ht ?_
      refine x_iload_n C (pc := 56) dX12_then_56 rfl ?_
      refine x_iconst C (pc := 57) dX12_then_57 kc_i_3 ?_
      refine x_callSi C (pc := 58) ms_X12_66 [.ref (lk t 1), .int a, .int (nI 3)] (fun _ hr => ct_X12_userOf _ (lkd_10_1 ht) _ _ _ _ hr) ⟨Nat.le_of_ble_eq_true rfl, Nat.le_of_ble_eq_true rfl⟩ rfl (Nat.le_of_ble_eq_true rfl) rfl dX12_then_58 (fun r16 => ?_)
      exact x_ret dX12_then_61 (fun h => h)
theorem ct_X12_then (t : Nat) (ht : kd t = 10) (a : Int32) (b : Int32) (s0 : SS) (r : Int32) (s2 : SS) (h : FX12_then t a b s0 = some (r, s2)) : CT 1 yX12_then cX12_then 5 (some .int) 4 99 [.ref t, .int a, .int b] s0 (some (.int r)) s2 :=
  ct_of (by decide +kernel) (Or.inr (Or.inl ⟨_, rfl, _, rfl, rfl⟩)) (lx_args [.ref t, .int a, .int b]) (lx_entry [.ref t, .int a, .int b] (fun _ => Nat.le_of_ble_eq_true rfl)) (fun o C hR => Yx.weak (lw_s (lw_s (lw_s (lw_z (lw_z lw_0))))) (bd_X12_then C t ht a b s0 (r, s2) h hR))
def FX12_calm (t : Nat) (a : Int32) (s0 : SS) : Option (Int32 × SS) :=
  bd (FX12_isUser t a s0) (fun (r1 : Int32) => if r1 = 0 then bd2 (FX12_bad t s0) (fun (r2 : Int32) (s3 : SS) => some ((r2, s3))) else (nm (nI 0) (fun (i4 : Int32) => bde (lp FUEL (u2 (fun (n5 : Int32) (s6 : SS) => if (nI 24) ≤ n5 then some (Sum.inr (Sum.inl s6)) else (gd (inb (nI 66) (ln (lk t 0))) (bd (FX12_everyone (lk t 0) s6) (fun (r7 : Int32) => bd (FX12_blowOf t (lk t 0) ((gI s6 (lk t 0) (Int32.toNatClampNeg (nI 66))) + n5) r7 s6) (fun (s8 : SS) => gd (inb a (ln (lk t 7))) (if (gI s8 (lk t 7) (Int32.toNatClampNeg a)) = 0 then some (Sum.inr (Sum.inr ((n5, s8)))) else (nm (n5 + (nI 1)) (fun (i9 : Int32) => some (Sum.inl (i9, s8))))))))))) (i4, s0)) (fun (s10 : SS) => some (((-1 : Int32), s10))))))
set_option maxRecDepth 100000 in
set_option maxHeartbeats 4000000 in
theorem bd_X12_calm {o : Om} (C : Cx o RX12 cX12_calm 3 (some .int) (rmx 3 75) 1) (t : Nat) (ht : kd t = 10) (a : Int32) (s0 : SS) : Xo (FX12_calm t a s0) (fun r => RT o cX12_calm (some (.int r.1)) r.2) (Yx o 0 [some (.ref t), some (.int a), none] [] s0) := by
  unfold FX12_calm
  refine x_aload_n C (pc := 0) dX12_calm_0 rfl ?_
  refine x_iload_n C (pc := 1) dX12_calm_1 rfl ?_
  refine x_callVi C (pc := 2) mv_X12_185 ht rfl [.int a] (fun _ hr => ct_X12_isUser _ ht _ _ _ hr) ⟨Nat.le_of_ble_eq_true rfl, Nat.le_of_ble_eq_true rfl⟩ rfl (Nat.le_of_ble_eq_true rfl) rfl dX12_calm_2 (fun r1 => ?_)
  refine x_if_ne C (pc := 5) (tgt := 13) dX12_calm_5 (by decide) (fun _ => ?_) (fun _ => ?_)
  · skip
    refine x_aload_n C (pc := 8) dX12_calm_8 rfl ?_
    refine x_callVim C (pc := 9) mv_X12_101 ht rfl [] (fun _ _ hr => ct_X12_bad _ ht _ _ _ hr) ⟨Nat.le_of_ble_eq_true rfl, Nat.le_of_ble_eq_true rfl⟩ rfl (Nat.le_of_ble_eq_true rfl) rfl dX12_calm_9 (fun r2 s3 => ?_)
    exact x_ret dX12_calm_12 (fun h => h)
  · skip
    refine x_iconst C (pc := 13) dX12_calm_13 kc_i_0 ?_
    refine x_istore_n C (pc := 14) (L' := fun i4 => [some (.ref t), some (.int a), some (.int i4)]) dX12_calm_14 (by decide) (fun _ => rfl) (fun i4 => ?_)
    refine xe_1 (Z1 := (fun s10 => Yx o 62 [none, none, none] [] s10)) ?_ (fun s10 => ?_)
    · refine Xo.mono (Yx.weak (lw_s (lw_s (lw_s lw_0)))) (x_lp2 (fr := fun n5 s6 => Yx o 15 [some (.ref t), some (.int a), some (.int n5)] [] s6) _ _ (fun n5 s6 => ?_))
      refine x_iload_n C (pc := 15) dX12_calm_15 rfl ?_
      refine x_bipush C (pc := 16) dX12_calm_16 kc_b_24 ?_
      refine x_icmp_ge C (pc := 18) (tgt := 62) dX12_calm_18 (by decide) (fun _ => ?_) (fun _ => ?_)
      · skip
        exact Xo.done (fun h => Yx.weak (lw_n (lw_n (lw_n lw_0))) h)
      · skip
        refine x_aload_n C (pc := 21) dX12_calm_21 rfl ?_
        refine x_aload_n C (pc := 22) dX12_calm_22 rfl ?_
        refine x_getR C (pc := 23) fg_X12_7 dX12_calm_23 ht ?_
        refine x_aload_n C (pc := 26) dX12_calm_26 rfl ?_
        refine x_getR C (pc := 27) fg_X12_7 dX12_calm_27 ht ?_
        refine x_bipush C (pc := 30) dX12_calm_30 kc_b_66 ?_
        refine x_iald C (pc := 32) dX12_calm_32 (lkd_10_0 ht) (fun _ => ?_)
        refine x_iload_n C (pc := 33) dX12_calm_33 rfl ?_
        refine x_iadd C (pc := 34) dX12_calm_34 ?_
        refine x_aload_n C (pc := 35) dX12_calm_35 rfl ?_
        refine x_getR C (pc := 36) fg_X12_7 dX12_calm_36 ht ?_
        refine x_callSi C (pc := 39) ms_X12_82 [.ref (lk t 0)] (fun _ hr => ct_X12_everyone _ (lkd_10_0 ht) _ _ hr) ⟨Nat.le_of_ble_eq_true rfl, Nat.le_of_ble_eq_true rfl⟩ rfl (Nat.le_of_ble_eq_true rfl) rfl dX12_calm_39 (fun r7 => ?_)
        refine x_callVv C (pc := 42) mv_X12_78 ht rfl [.ref (lk t 0), .int ((gI s6 (lk t 0) (Int32.toNatClampNeg (nI 66))) + n5), .int r7] (fun _ hr => ct_X12_blowOf _ ht _ (lkd_10_0 ht) _ _ _ _ hr) ⟨Nat.le_of_ble_eq_true rfl, Nat.le_of_ble_eq_true rfl⟩ rfl (Nat.le_of_ble_eq_true rfl) rfl dX12_calm_42 (fun s8 => ?_)
        refine x_aload_n C (pc := 45) dX12_calm_45 rfl ?_
        refine x_getR C (pc := 46) fg_X12_30 dX12_calm_46 ht ?_
        refine x_iload_n C (pc := 49) dX12_calm_49 rfl ?_
        refine x_iald C (pc := 50) dX12_calm_50 (lkd_10_7 ht) (fun _ => ?_)
        refine x_if_ne C (pc := 51) (tgt := 56) dX12_calm_51 (by decide) (fun _ => ?_) (fun _ => ?_)
        · skip
          refine x_iload_n C (pc := 54) dX12_calm_54 rfl ?_
          exact x_ret dX12_calm_55 (fun h => h)
        · skip
          refine x_iinc C (pc := 56) (L' := fun i9 => [some (.ref t), some (.int a), some (.int i9)]) dX12_calm_56 rfl kc_i_1 (by decide) (fun _ => rfl) (fun i9 => ?_)
          refine x_goto C (pc := 59) (tgt := 15) dX12_calm_59 (by decide) ?_
          exact Xo.done (fun h => Yx.weak (lw_s (lw_s (lw_s lw_0))) h)
    refine x_iconst C (pc := 62) dX12_calm_62 kc_i_m1 ?_
    exact x_ret dX12_calm_63 (fun h => h)
theorem ct_X12_calm (t : Nat) (ht : kd t = 10) (a : Int32) (s0 : SS) (r : Int32) (s2 : SS) (h : FX12_calm t a s0 = some (r, s2)) : CT 1 yX12_calm cX12_calm 3 (some .int) 3 75 [.ref t, .int a] s0 (some (.int r)) s2 :=
  ct_of (by decide +kernel) (Or.inr (Or.inl ⟨_, rfl, _, rfl, rfl⟩)) (lx_args [.ref t, .int a]) (lx_entry [.ref t, .int a] (fun _ => Nat.le_of_ble_eq_true rfl)) (fun o C hR => Yx.weak (lw_s (lw_s (lw_z lw_0))) (bd_X12_calm C t ht a s0 (r, s2) h hR))
def FX12_dayOf (t : Nat) (a : Nat) (b : Int32) (c : Int32) (s0 : SS) : Option (Int32 × SS) :=
  nm (nI 0) (fun (i1 : Int32) => nm (nI 0) (fun (i2 : Int32) => bd (lp FUEL (u3 (fun (n3 : Int32) (n4 : Int32) (s5 : SS) => if (nI 8) ≤ n4 then some (Sum.inr (n3, s5)) else (bd (FX12_blowOf t a n4 b s5) (fun (s6 : SS) => nm (nI 0) (fun (i7 : Int32) => bd (lp FUEL (u2 (fun (n8 : Int32) (n9 : Int32) => gd (inb (nI 16) (ln a)) (if (gI s6 a (Int32.toNatClampNeg (nI 16))) ≤ n9 then some (Sum.inr n8) else (bd (FX12_has c n9 s6) (fun (r10 : Int32) => bd (if r10 = 0 then some ((nI 0)) else (gd (inb n9 (ln (lk t 7))) (some ((gI s6 (lk t 7) (Int32.toNatClampNeg n9)))))) (fun (j11 : Int32) => nm (n8 + j11) (fun (i12 : Int32) => nm (n9 + (nI 1)) (fun (i13 : Int32) => some (Sum.inl (i12, i13)))))))))) (n3, i7)) (fun (e14 : Int32) => nm (n4 + (nI 1)) (fun (i15 : Int32) => some (Sum.inl (e14, i15, s6))))))))) (i1, i2, s0)) (u2 (fun (e16 : Int32) (s17 : SS) => some ((e16, s17))))))
set_option maxRecDepth 100000 in
set_option maxHeartbeats 4000000 in
theorem bd_X12_dayOf {o : Om} (C : Cx o RX12 cX12_dayOf 7 (some .int) (rmx 3 75) 1) (t : Nat) (ht : kd t = 10) (a : Nat) (ha : kd a = 21) (b : Int32) (c : Int32) (s0 : SS) : Xo (FX12_dayOf t a b c s0) (fun r => RT o cX12_dayOf (some (.int r.1)) r.2) (Yx o 0 [some (.ref t), some (.ref a), some (.int b), some (.int c), none, none, none] [] s0) := by
  unfold FX12_dayOf
  refine x_iconst C (pc := 0) dX12_dayOf_0 kc_i_0 ?_
  refine x_istore C (pc := 1) (L' := fun i1 => [some (.ref t), some (.ref a), some (.int b), some (.int c), some (.int i1), none, none]) dX12_dayOf_1 (by decide) (fun _ => rfl) (fun i1 => ?_)
  refine x_iconst C (pc := 3) dX12_dayOf_3 kc_i_0 ?_
  refine x_istore C (pc := 4) (L' := fun i2 => [some (.ref t), some (.ref a), some (.int b), some (.int c), some (.int i1), some (.int i2), none]) dX12_dayOf_4 (by decide) (fun _ => rfl) (fun i2 => ?_)
  refine xb_2 (Z1 := (fun e16 s17 => Yx o 70 [none, none, none, none, some (.int e16), none, none] [] s17)) ?_ (fun e16 s17 => ?_)
  · refine Xo.mono (Yx.weak (lw_s (lw_s (lw_s (lw_s (lw_s (lw_s (lw_n lw_0)))))))) (x_lp3 (fr := fun n3 n4 s5 => Yx o 6 [some (.ref t), some (.ref a), some (.int b), some (.int c), some (.int n3), some (.int n4), none] [] s5) _ _ _ (fun n3 n4 s5 => ?_))
    refine x_iload C (pc := 6) dX12_dayOf_6 rfl ?_
    refine x_bipush C (pc := 8) dX12_dayOf_8 kc_b_8 ?_
    refine x_icmp_ge C (pc := 10) (tgt := 70) dX12_dayOf_10 (by decide) (fun _ => ?_) (fun _ => ?_)
    · skip
      exact Xo.done (fun h => Yx.weak (lw_n (lw_n (lw_n (lw_n (lw_s (lw_n (lw_n lw_0))))))) h)
    · skip
      refine x_aload_n C (pc := 13) dX12_dayOf_13 rfl ?_
      refine x_aload_n C (pc := 14) dX12_dayOf_14 rfl ?_
      refine x_iload C (pc := 15) dX12_dayOf_15 rfl ?_
      refine x_iload_n C (pc := 17) dX12_dayOf_17 rfl ?_
      refine x_callVv C (pc := 18) mv_X12_78 ht rfl [.ref a, .int n4, .int b] (fun _ hr => ct_X12_blowOf _ ht _ ha _ _ _ _ hr) ⟨Nat.le_of_ble_eq_true rfl, Nat.le_of_ble_eq_true rfl⟩ rfl (Nat.le_of_ble_eq_true rfl) rfl dX12_dayOf_18 (fun s6 => ?_)
      refine x_iconst C (pc := 21) dX12_dayOf_21 kc_i_0 ?_
      refine x_istore C (pc := 22) (L' := fun i7 => [some (.ref t), some (.ref a), some (.int b), some (.int c), some (.int n3), some (.int n4), some (.int i7)]) dX12_dayOf_22 (by decide) (fun _ => rfl) (fun i7 => ?_)
      refine xb_1 (Z1 := (fun e14 => Yx o 64 [some (.ref t), some (.ref a), some (.int b), some (.int c), some (.int e14), some (.int n4), none] [] s6)) ?_ (fun e14 => ?_)
      · refine Xo.mono (Yx.weak (lw_s (lw_s (lw_s (lw_s (lw_s (lw_s (lw_s lw_0)))))))) (x_lp2 (fr := fun n8 n9 => Yx o 24 [some (.ref t), some (.ref a), some (.int b), some (.int c), some (.int n8), some (.int n4), some (.int n9)] [] s6) _ _ (fun n8 n9 => ?_))
        refine x_iload C (pc := 24) dX12_dayOf_24 rfl ?_
        refine x_aload_n C (pc := 26) dX12_dayOf_26 rfl ?_
        refine x_bipush C (pc := 27) dX12_dayOf_27 kc_b_16 ?_
        refine x_iald C (pc := 29) dX12_dayOf_29 ha (fun _ => ?_)
        refine x_icmp_ge C (pc := 30) (tgt := 64) dX12_dayOf_30 (by decide) (fun _ => ?_) (fun _ => ?_)
        · skip
          exact Xo.done (fun h => Yx.weak (lw_s (lw_s (lw_s (lw_s (lw_s (lw_s (lw_n lw_0))))))) h)
        · skip
          refine x_iload C (pc := 33) dX12_dayOf_33 rfl ?_
          refine x_iload_n C (pc := 35) dX12_dayOf_35 rfl ?_
          refine x_iload C (pc := 36) dX12_dayOf_36 rfl ?_
          refine x_callSi C (pc := 38) ms_X12_62 [.int c, .int n9] (fun _ hr => ct_X12_has _ _ _ _ hr) ⟨Nat.le_of_ble_eq_true rfl, Nat.le_of_ble_eq_true rfl⟩ rfl (Nat.le_of_ble_eq_true rfl) rfl dX12_dayOf_38 (fun r10 => ?_)
          refine xb_1 (Z1 := fun j11 => Yx o 55 [some (.ref t), some (.ref a), some (.int b), some (.int c), none, some (.int n4), some (.int n9)] [.int j11, .int n8] s6) ?_ (fun j11 => ?_)
          · skip
            refine x_if_eq C (pc := 41) (tgt := 54) dX12_dayOf_41 (by decide) (fun _ => ?_) (fun _ => ?_)
            · skip
              refine x_iconst C (pc := 54) dX12_dayOf_54 kc_i_0 ?_
              exact Xo.done (fun h => Yx.weak (lw_s (lw_s (lw_s (lw_s (lw_n (lw_s (lw_s lw_0))))))) h)
            · skip
              refine x_aload_n C (pc := 44) dX12_dayOf_44 rfl ?_
              refine x_getR C (pc := 45) fg_X12_30 dX12_dayOf_45 ht ?_
              refine x_iload C (pc := 48) dX12_dayOf_48 rfl ?_
              refine x_iald C (pc := 50) dX12_dayOf_50 (lkd_10_7 ht) (fun _ => ?_)
              refine x_goto C (pc := 51) (tgt := 55) dX12_dayOf_51 (by decide) ?_
              exact Xo.done (fun h => Yx.weak (lw_s (lw_s (lw_s (lw_s (lw_n (lw_s (lw_s lw_0))))))) h)
          refine x_iadd C (pc := 55) dX12_dayOf_55 ?_
          refine x_istore C (pc := 56) (L' := fun i12 => [some (.ref t), some (.ref a), some (.int b), some (.int c), some (.int i12), some (.int n4), some (.int n9)]) dX12_dayOf_56 (by decide) (fun _ => rfl) (fun i12 => ?_)
          refine x_iinc C (pc := 58) (L' := fun i13 => [some (.ref t), some (.ref a), some (.int b), some (.int c), some (.int i12), some (.int n4), some (.int i13)]) dX12_dayOf_58 rfl kc_i_1 (by decide) (fun _ => rfl) (fun i13 => ?_)
          refine x_goto C (pc := 61) (tgt := 24) dX12_dayOf_61 (by decide) ?_
          exact Xo.done (fun h => Yx.weak (lw_s (lw_s (lw_s (lw_s (lw_s (lw_s (lw_s lw_0))))))) h)
      refine x_iinc C (pc := 64) (L' := fun i15 => [some (.ref t), some (.ref a), some (.int b), some (.int c), some (.int e14), some (.int i15), none]) dX12_dayOf_64 rfl kc_i_1 (by decide) (fun _ => rfl) (fun i15 => ?_)
      refine x_goto C (pc := 67) (tgt := 6) dX12_dayOf_67 (by decide) ?_
      exact Xo.done (fun h => Yx.weak (lw_s (lw_s (lw_s (lw_s (lw_s (lw_s (lw_n lw_0))))))) h)
  refine x_iload C (pc := 70) dX12_dayOf_70 rfl ?_
  exact x_ret dX12_dayOf_72 (fun h => h)
theorem ct_X12_dayOf (t : Nat) (ht : kd t = 10) (a : Nat) (ha : kd a = 21) (b : Int32) (c : Int32) (s0 : SS) (r : Int32) (s2 : SS) (h : FX12_dayOf t a b c s0 = some (r, s2)) : CT 1 yX12_dayOf cX12_dayOf 7 (some .int) 3 75 [.ref t, .ref a, .int b, .int c] s0 (some (.int r)) s2 :=
  ct_of (by decide +kernel) (Or.inr (Or.inl ⟨_, rfl, _, rfl, rfl⟩)) (lx_args [.ref t, .ref a, .int b, .int c]) (lx_entry [.ref t, .ref a, .int b, .int c] (fun _ => Nat.le_of_ble_eq_true rfl)) (fun o C hR => Yx.weak (lw_s (lw_s (lw_s (lw_s (lw_z (lw_z (lw_z lw_0))))))) (bd_X12_dayOf C t ht a ha b c s0 (r, s2) h hR))
def FX12_place (t : Nat) (a : Int32) (b : Int32) (c : Int32) (s0 : SS) : Option (Int32 × SS) :=
  bd (FX12_in (Int32.toInt64 a) (lN 0) (5 : Int64) s0) (fun (r1 : Int32) => if r1 = 0 then bd2 (FX12_bad t s0) (fun (r2 : Int32) (s3 : SS) => some ((r2, s3))) else (bd (FX12_in (Int32.toInt64 b) (lN 1) (4 : Int64) s0) (fun (r4 : Int32) => if r4 = 0 then bd2 (FX12_bad t s0) (fun (r5 : Int32) (s6 : SS) => some ((r5, s6))) else (bd (FX12_in (Int32.toInt64 c) (lN 0) (lN 1) s0) (fun (r7 : Int32) => if r7 = 0 then bd2 (FX12_bad t s0) (fun (r8 : Int32) (s9 : SS) => some ((r8, s9))) else (gd (inb (nI 16) (ln (lk t 0))) (if (gI s0 (lk t 0) (Int32.toNatClampNeg (nI 16))) = (nI 7) then bd2 (FX12_full t s0) (fun (r10 : Int32) (s11 : SS) => some ((r10, s11))) else (bd (FX12_everyone (lk t 0) s0) (fun (r12 : Int32) => nm r12 (fun (i13 : Int32) => bd2 (FX12_dayOf t (lk t 0) i13 i13 s0) (fun (r14 : Int32) (s15 : SS) => nm r14 (fun (i16 : Int32) => nm (-1 : Int32) (fun (i17 : Int32) => nm (nI 0) (fun (i18 : Int32) => nm (nI 0) (fun (i19 : Int32) => bd (lp FUEL (u4 (fun (n20 : Int32) (n21 : Int32) (n22 : Int32) (s23 : SS) => if (nI 12) ≤ n22 then some (Sum.inr (n20, n21, s23)) else (bd (FX12_layFresh t s23) (fun (s24 : SS) => bd (FX12_comes (lk t 1) a n22 b s24) (fun (s25 : SS) => bd (FX12_everyone (lk t 1) s25) (fun (r26 : Int32) => bd2 (FX12_dayOf t (lk t 1) r26 i13 s25) (fun (r27 : Int32) (s28 : SS) => nm (i16 - r27) (fun (i29 : Int32) => bd (if 0 ≤ i29 then some (i29) else (some ((nI 0)))) (fun (j30 : Int32) => nm j30 (fun (i31 : Int32) => bd (if n20 = (-1 : Int32) then some ((nI 1)) else (if n21 ≤ i31 then some ((nI 0)) else (some ((nI 1))))) (fun (j32 : Int32) => nm j32 (fun (i33 : Int32) => bd (if i33 = 0 then some (n20) else (some (n22))) (fun (j34 : Int32) => nm j34 (fun (i35 : Int32) => bd (if i33 = 0 then some (n21) else (some (i31))) (fun (j36 : Int32) => nm j36 (fun (i37 : Int32) => nm (n22 + (nI 1)) (fun (i38 : Int32) => some (Sum.inl (i35, i37, i38, s28))))))))))))))))))) (i17, i18, i19, s15)) (u3 (fun (e39 : Int32) (e40 : Int32) (s41 : SS) => if c = 0 then some ((e39, s41)) else (some ((e40, s41))))))))))))))))))))
set_option maxRecDepth 100000 in
set_option maxHeartbeats 4000000 in
theorem bd_X12_place {o : Om} (C : Cx o RX12 cX12_place 11 (some .int) (rmx 4 101) 1) (t : Nat) (ht : kd t = 10) (a : Int32) (b : Int32) (c : Int32) (s0 : SS) : Xo (FX12_place t a b c s0) (fun r => RT o cX12_place (some (.int r.1)) r.2) (Yx o 0 [some (.ref t), some (.int a), some (.int b), some (.int c), none, none, none, none, none, none, none] [] s0) := by
  unfold FX12_place
  refine x_iload_n C (pc := 0) dX12_place_0 rfl ?_
  refine x_i2l C (pc := 1) dX12_place_1 ?_
  refine x_lconst C (pc := 2) dX12_place_2 (v := lN 0) rfl ?_
  refine x_ldc2 C (pc := 3) dX12_place_3 cl_X12_105 ?_
  refine x_callSi C (pc := 6) ms_X12_55 [.long (Int32.toInt64 a), .long (lN 0), .long (5 : Int64)] (fun _ hr => ct_X12_in _ _ _ _ _ hr) ⟨Nat.le_of_ble_eq_true rfl, Nat.le_of_ble_eq_true rfl⟩ rfl (Nat.le_of_ble_eq_true rfl) rfl dX12_place_6 (fun r1 => ?_)
  refine x_if_eq C (pc := 9) (tgt := 34) dX12_place_9 (by decide) (fun _ => ?_) (fun _ => ?_)
  · skip
    refine x_aload_n C (pc := 34) dX12_place_34 rfl ?_
    refine x_callVim C (pc := 35) mv_X12_101 ht rfl [] (fun _ _ hr => ct_X12_bad _ ht _ _ _ hr) ⟨Nat.le_of_ble_eq_true rfl, Nat.le_of_ble_eq_true rfl⟩ rfl (Nat.le_of_ble_eq_true rfl) rfl dX12_place_35 (fun r2 s3 => ?_)
    exact x_ret dX12_place_38 (fun h => h)
  · skip
    refine x_iload_n C (pc := 12) dX12_place_12 rfl ?_
    refine x_i2l C (pc := 13) dX12_place_13 ?_
    refine x_lconst C (pc := 14) dX12_place_14 (v := lN 1) rfl ?_
    refine x_ldc2 C (pc := 15) dX12_place_15 cl_X12_109 ?_
    refine x_callSi C (pc := 18) ms_X12_55 [.long (Int32.toInt64 b), .long (lN 1), .long (4 : Int64)] (fun _ hr => ct_X12_in _ _ _ _ _ hr) ⟨Nat.le_of_ble_eq_true rfl, Nat.le_of_ble_eq_true rfl⟩ rfl (Nat.le_of_ble_eq_true rfl) rfl dX12_place_18 (fun r4 => ?_)
    refine x_if_eq C (pc := 21) (tgt := 34) dX12_place_21 (by decide) (fun _ => ?_) (fun _ => ?_)
    · skip
      refine x_aload_n C (pc := 34) dX12_place_34 rfl ?_
      refine x_callVim C (pc := 35) mv_X12_101 ht rfl [] (fun _ _ hr => ct_X12_bad _ ht _ _ _ hr) ⟨Nat.le_of_ble_eq_true rfl, Nat.le_of_ble_eq_true rfl⟩ rfl (Nat.le_of_ble_eq_true rfl) rfl dX12_place_35 (fun r5 s6 => ?_)
      exact x_ret dX12_place_38 (fun h => h)
    · skip
      refine x_iload_n C (pc := 24) dX12_place_24 rfl ?_
      refine x_i2l C (pc := 25) dX12_place_25 ?_
      refine x_lconst C (pc := 26) dX12_place_26 (v := lN 0) rfl ?_
      refine x_lconst C (pc := 27) dX12_place_27 (v := lN 1) rfl ?_
      refine x_callSi C (pc := 28) ms_X12_55 [.long (Int32.toInt64 c), .long (lN 0), .long (lN 1)] (fun _ hr => ct_X12_in _ _ _ _ _ hr) ⟨Nat.le_of_ble_eq_true rfl, Nat.le_of_ble_eq_true rfl⟩ rfl (Nat.le_of_ble_eq_true rfl) rfl dX12_place_28 (fun r7 => ?_)
      refine x_if_ne C (pc := 31) (tgt := 39) dX12_place_31 (by decide) (fun _ => ?_) (fun _ => ?_)
      · skip
        refine x_aload_n C (pc := 34) dX12_place_34 rfl ?_
        refine x_callVim C (pc := 35) mv_X12_101 ht rfl [] (fun _ _ hr => ct_X12_bad _ ht _ _ _ hr) ⟨Nat.le_of_ble_eq_true rfl, Nat.le_of_ble_eq_true rfl⟩ rfl (Nat.le_of_ble_eq_true rfl) rfl dX12_place_35 (fun r8 s9 => ?_)
        exact x_ret dX12_place_38 (fun h => h)
      · skip
        refine x_aload_n C (pc := 39) dX12_place_39 rfl ?_
        refine x_getR C (pc := 40) fg_X12_7 dX12_place_40 ht ?_
        refine x_bipush C (pc := 43) dX12_place_43 kc_b_16 ?_
        refine x_iald C (pc := 45) dX12_place_45 (lkd_10_0 ht) (fun _ => ?_)
        refine x_bipush C (pc := 46) dX12_place_46 kc_b_7 ?_
        refine x_icmp_ne C (pc := 48) (tgt := 56) dX12_place_48 (by decide) (fun _ => ?_) (fun _ => ?_)
        · skip
          refine x_aload_n C (pc := 51) dX12_place_51 rfl ?_
          refine x_callVim C (pc := 52) mv_X12_111 ht rfl [] (fun _ _ hr => ct_X12_full _ ht _ _ _ hr) ⟨Nat.le_of_ble_eq_true rfl, Nat.le_of_ble_eq_true rfl⟩ rfl (Nat.le_of_ble_eq_true rfl) rfl dX12_place_52 (fun r10 s11 => ?_)
          exact x_ret dX12_place_55 (fun h => h)
        · skip
          refine x_aload_n C (pc := 56) dX12_place_56 rfl ?_
          refine x_getR C (pc := 57) fg_X12_7 dX12_place_57 ht ?_
          refine x_callSi C (pc := 60) ms_X12_82 [.ref (lk t 0)] (fun _ hr => ct_X12_everyone _ (lkd_10_0 ht) _ _ hr) ⟨Nat.le_of_ble_eq_true rfl, Nat.le_of_ble_eq_true rfl⟩ rfl (Nat.le_of_ble_eq_true rfl) rfl dX12_place_60 (fun r12 => ?_)
          refine x_istore C (pc := 63) (L' := fun i13 => [some (.ref t), some (.int a), some (.int b), some (.int c), some (.int i13), none, none, none, none, none, none]) dX12_place_63 (by decide) (fun _ => rfl) (fun i13 => ?_)
          refine x_aload_n C (pc := 65) dX12_place_65 rfl ?_
          refine x_aload_n C (pc := 66) dX12_place_66 rfl ?_
          refine x_getR C (pc := 67) fg_X12_7 dX12_place_67 ht ?_
          refine x_iload C (pc := 70) dX12_place_70 rfl ?_
          refine x_iload C (pc := 72) dX12_place_72 rfl ?_
          refine x_callVim C (pc := 74) mv_X12_214 ht rfl [.ref (lk t 0), .int i13, .int i13] (fun _ _ hr => ct_X12_dayOf _ ht _ (lkd_10_0 ht) _ _ _ _ _ hr) ⟨Nat.le_of_ble_eq_true rfl, Nat.le_of_ble_eq_true rfl⟩ rfl (Nat.le_of_ble_eq_true rfl) rfl dX12_place_74 (fun r14 s15 => ?_)
          refine x_istore C (pc := 77) (L' := fun i16 => [some (.ref t), some (.int a), some (.int b), some (.int c), some (.int i13), some (.int i16), none, none, none, none, none]) dX12_place_77 (by decide) (fun _ => rfl) (fun i16 => ?_)
          refine x_iconst C (pc := 79) dX12_place_79 kc_i_m1 ?_
          refine x_istore C (pc := 80) (L' := fun i17 => [some (.ref t), some (.int a), some (.int b), some (.int c), some (.int i13), some (.int i16), some (.int i17), none, none, none, none]) dX12_place_80 (by decide) (fun _ => rfl) (fun i17 => ?_)
          refine x_iconst C (pc := 82) dX12_place_82 kc_i_0 ?_
          refine x_istore C (pc := 83) (L' := fun i18 => [some (.ref t), some (.int a), some (.int b), some (.int c), some (.int i13), some (.int i16), some (.int i17), some (.int i18), none, none, none]) dX12_place_83 (by decide) (fun _ => rfl) (fun i18 => ?_)
          refine x_iconst C (pc := 85) dX12_place_85 kc_i_0 ?_
          refine x_istore C (pc := 86) (L' := fun i19 => [some (.ref t), some (.int a), some (.int b), some (.int c), some (.int i13), some (.int i16), some (.int i17), some (.int i18), some (.int i19), none, none]) dX12_place_86 (by decide) (fun _ => rfl) (fun i19 => ?_)
          refine xb_3 (Z1 := (fun e39 e40 s41 => Yx o 199 [none, none, none, some (.int c), none, none, some (.int e39), some (.int e40), none, none, none] [] s41)) ?_ (fun e39 e40 s41 => ?_)
          · refine Xo.mono (Yx.weak (lw_s (lw_s (lw_s (lw_s (lw_s (lw_s (lw_s (lw_s (lw_s (lw_n (lw_n lw_0)))))))))))) (x_lp4 (fr := fun n20 n21 n22 s23 => Yx o 88 [some (.ref t), some (.int a), some (.int b), some (.int c), some (.int i13), some (.int i16), some (.int n20), some (.int n21), some (.int n22), none, none] [] s23) _ _ _ _ (fun n20 n21 n22 s23 => ?_))
            refine x_iload C (pc := 88) dX12_place_88 rfl ?_
            refine x_bipush C (pc := 90) dX12_place_90 kc_b_12 ?_
            refine x_icmp_ge C (pc := 92) (tgt := 199) dX12_place_92 (by decide) (fun _ => ?_) (fun _ => ?_)
            · skip
              exact Xo.done (fun h => Yx.weak (lw_n (lw_n (lw_n (lw_s (lw_n (lw_n (lw_s (lw_s (lw_n (lw_n (lw_n lw_0))))))))))) h)
            · skip
              refine x_aload_n C (pc := 95) dX12_place_95 rfl ?_
              refine x_callVv C (pc := 96) mv_X12_211 ht rfl [] (fun _ hr => ct_X12_layFresh _ ht _ _ hr) ⟨Nat.le_of_ble_eq_true rfl, Nat.le_of_ble_eq_true rfl⟩ rfl (Nat.le_of_ble_eq_true rfl) rfl dX12_place_96 (fun s24 => ?_)
              refine x_aload_n C (pc := 99) dX12_place_99 rfl ?_
              refine x_getR C (pc := 100) fg_X12_13 dX12_place_100 ht ?_
              refine x_iload_n C (pc := 103) dX12_place_103 rfl ?_
              refine x_iload C (pc := 104) dX12_place_104 rfl ?_
              refine x_iload_n C (pc := 106) dX12_place_106 rfl ?_
              refine x_callSv C (pc := 107) ms_X12_114 [.ref (lk t 1), .int a, .int n22, .int b] (fun _ hr => ct_X12_comes _ (lkd_10_1 ht) _ _ _ _ _ hr) ⟨Nat.le_of_ble_eq_true rfl, Nat.le_of_ble_eq_true rfl⟩ rfl (Nat.le_of_ble_eq_true rfl) rfl dX12_place_107 (fun s25 => ?_)
              refine x_iload C (pc := 110) dX12_place_110 rfl ?_
              refine x_aload_n C (pc := 112) dX12_place_112 rfl ?_
              refine x_aload_n C (pc := 113) dX12_place_113 rfl ?_
              refine x_getR C (pc := 114) fg_X12_13 dX12_place_114 ht ?_
              refine x_aload_n C (pc := 117) dX12_place_117 rfl ?_
              refine x_getR C (pc := 118) fg_X12_13 dX12_place_118 ht ?_
              refine x_callSi C (pc := 121) ms_X12_82 [.ref (lk t 1)] (fun _ hr => ct_X12_everyone _ (lkd_10_1 ht) _ _ hr) ⟨Nat.le_of_ble_eq_true rfl, Nat.le_of_ble_eq_true rfl⟩ rfl (Nat.le_of_ble_eq_true rfl) rfl dX12_place_121 (fun r26 => ?_)
              refine x_iload C (pc := 124) dX12_place_124 rfl ?_
              refine x_callVim C (pc := 126) mv_X12_214 ht rfl [.ref (lk t 1), .int r26, .int i13] (fun _ _ hr => ct_X12_dayOf _ ht _ (lkd_10_1 ht) _ _ _ _ _ hr) ⟨Nat.le_of_ble_eq_true rfl, Nat.le_of_ble_eq_true rfl⟩ rfl (Nat.le_of_ble_eq_true rfl) rfl dX12_place_126 (fun r27 s28 => ?_)
              refine x_isub C (pc := 129) dX12_place_129 ?_
              refine x_istore C (pc := 130) (L' := fun i29 => [some (.ref t), some (.int a), some (.int b), some (.int c), some (.int i13), some (.int i16), some (.int n20), some (.int n21), some (.int n22), some (.int i29), none]) dX12_place_130 (by decide) (fun _ => rfl) (fun i29 => ?_)
              refine x_iload C (pc := 132) dX12_place_132 rfl ?_
              refine xb_1 (Z1 := fun j30 => Yx o 143 [some (.ref t), some (.int a), some (.int b), some (.int c), some (.int i13), some (.int i16), some (.int n20), some (.int n21), some (.int n22), none, none] [.int j30] s28) ?_ (fun j30 => ?_)
              · skip
                refine x_if_ge C (pc := 134) (tgt := 141) dX12_place_134 (by decide) (fun _ => ?_) (fun _ => ?_)
                · skip
                  refine x_iload C (pc := 141) dX12_place_141 rfl ?_
                  exact Xo.done (fun h => Yx.weak (lw_s (lw_s (lw_s (lw_s (lw_s (lw_s (lw_s (lw_s (lw_s (lw_n (lw_n lw_0))))))))))) h)
                · skip
                  refine x_iconst C (pc := 137) dX12_place_137 kc_i_0 ?_
                  refine x_goto C (pc := 138) (tgt := 143) dX12_place_138 (by decide) ?_
                  exact Xo.done (fun h => Yx.weak (lw_s (lw_s (lw_s (lw_s (lw_s (lw_s (lw_s (lw_s (lw_s (lw_n (lw_n lw_0))))))))))) h)
              refine x_istore C (pc := 143) (L' := fun i31 => [some (.ref t), some (.int a), some (.int b), some (.int c), some (.int i13), some (.int i16), some (.int n20), some (.int n21), some (.int n22), some (.int i31), none]) dX12_place_143 (by decide) (fun _ => rfl) (fun i31 => ?_)
              refine x_iload C (pc := 145) dX12_place_145 rfl ?_
              refine x_iconst C (pc := 147) dX12_place_147 kc_i_m1 ?_
              refine xb_1 (Z1 := fun j32 => Yx o 163 [some (.ref t), some (.int a), some (.int b), some (.int c), some (.int i13), some (.int i16), some (.int n20), some (.int n21), some (.int n22), some (.int i31), none] [.int j32] s28) ?_ (fun j32 => ?_)
              · skip
                refine x_icmp_eq C (pc := 148) (tgt := 158) dX12_place_148 (by decide) (fun _ => ?_) (fun _ => ?_)
                · skip
                  refine x_iconst C (pc := 158) dX12_place_158 kc_i_1 ?_
                  refine x_goto C (pc := 159) (tgt := 163) dX12_place_159 (by decide) ?_
                  exact Xo.done (fun h => Yx.weak (lw_s (lw_s (lw_s (lw_s (lw_s (lw_s (lw_s (lw_s (lw_s (lw_s (lw_n lw_0))))))))))) h)
                · skip
                  refine x_iload C (pc := 151) dX12_place_151 rfl ?_
                  refine x_iload C (pc := 153) dX12_place_153 rfl ?_
                  refine x_icmp_ge C (pc := 155) (tgt := 162) dX12_place_155 (by decide) (fun _ => ?_) (fun _ => ?_)
                  · skip
                    refine x_iconst C (pc := 162) dX12_place_162 kc_i_0 ?_
                    exact Xo.done (fun h => Yx.weak (lw_s (lw_s (lw_s (lw_s (lw_s (lw_s (lw_s (lw_s (lw_s (lw_s (lw_n lw_0))))))))))) h)
                  · skip
                    refine x_iconst C (pc := 158) dX12_place_158 kc_i_1 ?_
                    refine x_goto C (pc := 159) (tgt := 163) dX12_place_159 (by decide) ?_
                    exact Xo.done (fun h => Yx.weak (lw_s (lw_s (lw_s (lw_s (lw_s (lw_s (lw_s (lw_s (lw_s (lw_s (lw_n lw_0))))))))))) h)
              refine x_istore C (pc := 163) (L' := fun i33 => [some (.ref t), some (.int a), some (.int b), some (.int c), some (.int i13), some (.int i16), some (.int n20), some (.int n21), some (.int n22), some (.int i31), some (.int i33)]) dX12_place_163 (by decide) (fun _ => rfl) (fun i33 => ?_)
              refine x_iload C (pc := 165) dX12_place_165 rfl ?_
              refine xb_1 (Z1 := fun j34 => Yx o 177 [some (.ref t), some (.int a), some (.int b), some (.int c), some (.int i13), some (.int i16), none, some (.int n21), some (.int n22), some (.int i31), some (.int i33)] [.int j34] s28) ?_ (fun j34 => ?_)
              · skip
                refine x_if_eq C (pc := 167) (tgt := 175) dX12_place_167 (by decide) (fun _ => ?_) (fun _ => ?_)
                · skip
                  refine x_iload C (pc := 175) dX12_place_175 rfl ?_
                  exact Xo.done (fun h => Yx.weak (lw_s (lw_s (lw_s (lw_s (lw_s (lw_s (lw_n (lw_s (lw_s (lw_s (lw_s lw_0))))))))))) h)
                · skip
                  refine x_iload C (pc := 170) dX12_place_170 rfl ?_
                  refine x_goto C (pc := 172) (tgt := 177) dX12_place_172 (by decide) ?_
                  exact Xo.done (fun h => Yx.weak (lw_s (lw_s (lw_s (lw_s (lw_s (lw_s (lw_n (lw_s (lw_s (lw_s (lw_s lw_0))))))))))) h)
              refine x_istore C (pc := 177) (L' := fun i35 => [some (.ref t), some (.int a), some (.int b), some (.int c), some (.int i13), some (.int i16), some (.int i35), some (.int n21), some (.int n22), some (.int i31), some (.int i33)]) dX12_place_177 (by decide) (fun _ => rfl) (fun i35 => ?_)
              refine x_iload C (pc := 179) dX12_place_179 rfl ?_
              refine xb_1 (Z1 := fun j36 => Yx o 191 [some (.ref t), some (.int a), some (.int b), some (.int c), some (.int i13), some (.int i16), some (.int i35), none, some (.int n22), none, none] [.int j36] s28) ?_ (fun j36 => ?_)
              · skip
                refine x_if_eq C (pc := 181) (tgt := 189) dX12_place_181 (by decide) (fun _ => ?_) (fun _ => ?_)
                · skip
                  refine x_iload C (pc := 189) dX12_place_189 rfl ?_
                  exact Xo.done (fun h => Yx.weak (lw_s (lw_s (lw_s (lw_s (lw_s (lw_s (lw_s (lw_n (lw_s (lw_n (lw_n lw_0))))))))))) h)
                · skip
                  refine x_iload C (pc := 184) dX12_place_184 rfl ?_
                  refine x_goto C (pc := 186) (tgt := 191) dX12_place_186 (by decide) ?_
                  exact Xo.done (fun h => Yx.weak (lw_s (lw_s (lw_s (lw_s (lw_s (lw_s (lw_s (lw_n (lw_s (lw_n (lw_n lw_0))))))))))) h)
              refine x_istore C (pc := 191) (L' := fun i37 => [some (.ref t), some (.int a), some (.int b), some (.int c), some (.int i13), some (.int i16), some (.int i35), some (.int i37), some (.int n22), none, none]) dX12_place_191 (by decide) (fun _ => rfl) (fun i37 => ?_)
              refine x_iinc C (pc := 193) (L' := fun i38 => [some (.ref t), some (.int a), some (.int b), some (.int c), some (.int i13), some (.int i16), some (.int i35), some (.int i37), some (.int i38), none, none]) dX12_place_193 rfl kc_i_1 (by decide) (fun _ => rfl) (fun i38 => ?_)
              refine x_goto C (pc := 196) (tgt := 88) dX12_place_196 (by decide) ?_
              exact Xo.done (fun h => Yx.weak (lw_s (lw_s (lw_s (lw_s (lw_s (lw_s (lw_s (lw_s (lw_s (lw_n (lw_n lw_0))))))))))) h)
          refine x_iload_n C (pc := 199) dX12_place_199 rfl ?_
          refine x_if_ne C (pc := 200) (tgt := 208) dX12_place_200 (by decide) (fun _ => ?_) (fun _ => ?_)
          · skip
            refine x_iload C (pc := 203) dX12_place_203 rfl ?_
            refine x_goto C (pc := 205) (tgt := 210) dX12_place_205 (by decide) ?_
            exact x_ret dX12_place_210 (fun h => h)
          · skip
            refine x_iload C (pc := 208) dX12_place_208 rfl ?_
            exact x_ret dX12_place_210 (fun h => h)
theorem ct_X12_place (t : Nat) (ht : kd t = 10) (a : Int32) (b : Int32) (c : Int32) (s0 : SS) (r : Int32) (s2 : SS) (h : FX12_place t a b c s0 = some (r, s2)) : CT 1 yX12_place cX12_place 11 (some .int) 4 101 [.ref t, .int a, .int b, .int c] s0 (some (.int r)) s2 :=
  ct_of (by decide +kernel) (Or.inr (Or.inl ⟨_, rfl, _, rfl, rfl⟩)) (lx_args [.ref t, .int a, .int b, .int c]) (lx_entry [.ref t, .int a, .int b, .int c] (fun _ => Nat.le_of_ble_eq_true rfl)) (fun o C hR => Yx.weak (lw_s (lw_s (lw_s (lw_s (lw_z (lw_z (lw_z (lw_z (lw_z (lw_z (lw_z lw_0))))))))))) (bd_X12_place C t ht a b c s0 (r, s2) h hR))
def FX12_bits (a : Int32) (s0 : SS) : Option (Int32) :=
  nm (nI 0) (fun (i1 : Int32) => nm (nI 0) (fun (i2 : Int32) => bd (lp FUEL (u2 (fun (n3 : Int32) (n4 : Int32) => if (nI 7) ≤ n4 then some (Sum.inr n3) else (nm (n3 + ((a >>> (n4 &&& 31)) &&& (nI 1))) (fun (i5 : Int32) => nm (n4 + (nI 1)) (fun (i6 : Int32) => some (Sum.inl (i5, i6))))))) (i1, i2)) (fun (e7 : Int32) => some (e7))))
set_option maxRecDepth 100000 in
set_option maxHeartbeats 4000000 in
theorem bd_X12_bits {o : Om} (C : Cx o RX12 cX12_bits 3 (some .int) (rmx 0 0) 1) (a : Int32) (s0 : SS) : Xo (FX12_bits a s0) (fun r => RT o cX12_bits (some (.int r)) s0) (Yx o 0 [some (.int a), none, none] [] s0) := by
  unfold FX12_bits
  refine x_iconst C (pc := 0) dX12_bits_0 kc_i_0 ?_
  refine x_istore_n C (pc := 1) (L' := fun i1 => [some (.int a), some (.int i1), none]) dX12_bits_1 (by decide) (fun _ => rfl) (fun i1 => ?_)
  refine x_iconst C (pc := 2) dX12_bits_2 kc_i_0 ?_
  refine x_istore_n C (pc := 3) (L' := fun i2 => [some (.int a), some (.int i1), some (.int i2)]) dX12_bits_3 (by decide) (fun _ => rfl) (fun i2 => ?_)
  refine xb_1 (Z1 := (fun e7 => Yx o 24 [none, some (.int e7), none] [] s0)) ?_ (fun e7 => ?_)
  · refine Xo.mono (Yx.weak (lw_s (lw_s (lw_s lw_0)))) (x_lp2 (fr := fun n3 n4 => Yx o 4 [some (.int a), some (.int n3), some (.int n4)] [] s0) _ _ (fun n3 n4 => ?_))
    refine x_iload_n C (pc := 4) dX12_bits_4 rfl ?_
    refine x_bipush C (pc := 5) dX12_bits_5 kc_b_7 ?_
    refine x_icmp_ge C (pc := 7) (tgt := 24) dX12_bits_7 (by decide) (fun _ => ?_) (fun _ => ?_)
    · skip
      exact Xo.done (fun h => Yx.weak (lw_n (lw_s (lw_n lw_0))) h)
    · skip
      refine x_iload_n C (pc := 10) dX12_bits_10 rfl ?_
      refine x_iload_n C (pc := 11) dX12_bits_11 rfl ?_
      refine x_iload_n C (pc := 12) dX12_bits_12 rfl ?_
      refine x_ishr C (pc := 13) dX12_bits_13 ?_
      refine x_iconst C (pc := 14) dX12_bits_14 kc_i_1 ?_
      refine x_iand C (pc := 15) dX12_bits_15 ?_
      refine x_iadd C (pc := 16) dX12_bits_16 ?_
      refine x_istore_n C (pc := 17) (L' := fun i5 => [some (.int a), some (.int i5), some (.int n4)]) dX12_bits_17 (by decide) (fun _ => rfl) (fun i5 => ?_)
      refine x_iinc C (pc := 18) (L' := fun i6 => [some (.int a), some (.int i5), some (.int i6)]) dX12_bits_18 rfl kc_i_1 (by decide) (fun _ => rfl) (fun i6 => ?_)
      refine x_goto C (pc := 21) (tgt := 4) dX12_bits_21 (by decide) ?_
      exact Xo.done (fun h => Yx.weak (lw_s (lw_s (lw_s lw_0))) h)
  refine x_iload_n C (pc := 24) dX12_bits_24 rfl ?_
  exact x_ret dX12_bits_25 (fun h => h)
theorem ct_X12_bits (a : Int32) (s0 : SS) (r : Int32) (h : FX12_bits a s0 = some r) : CT 1 yX12_bits cX12_bits 3 (some .int) 0 0 [.int a] s0 (some (.int r)) s0 :=
  ct_of (by decide +kernel) (Or.inr (Or.inl ⟨_, rfl, _, rfl, rfl⟩)) (lx_args [.int a]) (lx_entry [.int a] (fun _ => Nat.le_of_ble_eq_true rfl)) (fun o C hR => Yx.weak (lw_s (lw_z (lw_z lw_0))) (bd_X12_bits C a s0 r h hR))
def FX12_orders (a : Int32) (s0 : SS) : Option (Int64) :=
  nm (lN 1) (fun (l1 : Int64) => nm (nI 2) (fun (i2 : Int32) => bd (lp FUEL (u2 (fun (m3 : Int64) (n4 : Int32) => if a < n4 then some (Sum.inr m3) else (nm (m3 * (Int32.toInt64 n4)) (fun (l5 : Int64) => nm (n4 + (nI 1)) (fun (i6 : Int32) => some (Sum.inl (l5, i6))))))) (l1, i2)) (fun (f7 : Int64) => some (f7))))
set_option maxRecDepth 100000 in
set_option maxHeartbeats 4000000 in
theorem bd_X12_orders {o : Om} (C : Cx o RX12 cX12_orders 4 (some .long) (rmx 0 0) 1) (a : Int32) (s0 : SS) : Xo (FX12_orders a s0) (fun r => RT o cX12_orders (some (.long r)) s0) (Yx o 0 [some (.int a), none, none, none] [] s0) := by
  unfold FX12_orders
  refine x_lconst C (pc := 0) dX12_orders_0 (v := lN 1) rfl ?_
  refine x_lstore_n C (pc := 1) (L' := fun l1 => [some (.int a), some (.long l1), none, none]) dX12_orders_1 (by decide) (fun _ => rfl) (fun l1 => ?_)
  refine x_iconst C (pc := 2) dX12_orders_2 kc_i_2 ?_
  refine x_istore_n C (pc := 3) (L' := fun i2 => [some (.int a), some (.long l1), none, some (.int i2)]) dX12_orders_3 (by decide) (fun _ => rfl) (fun i2 => ?_)
  refine xb_1 (Z1 := (fun f7 => Yx o 20 [none, some (.long f7), none, none] [] s0)) ?_ (fun f7 => ?_)
  · refine Xo.mono (Yx.weak (lw_s (lw_s (lw_n (lw_s lw_0))))) (x_lp2 (fr := fun m3 n4 => Yx o 4 [some (.int a), some (.long m3), none, some (.int n4)] [] s0) _ _ (fun m3 n4 => ?_))
    refine x_iload_n C (pc := 4) dX12_orders_4 rfl ?_
    refine x_iload_n C (pc := 5) dX12_orders_5 rfl ?_
    refine x_icmp_gt C (pc := 6) (tgt := 20) dX12_orders_6 (by decide) (fun _ => ?_) (fun _ => ?_)
    · skip
      exact Xo.done (fun h => Yx.weak (lw_n (lw_s (lw_n (lw_n lw_0)))) h)
    · skip
      refine x_lload_n C (pc := 9) dX12_orders_9 rfl ?_
      refine x_iload_n C (pc := 10) dX12_orders_10 rfl ?_
      refine x_i2l C (pc := 11) dX12_orders_11 ?_
      refine x_lmul C (pc := 12) dX12_orders_12 ?_
      refine x_lstore_n C (pc := 13) (L' := fun l5 => [some (.int a), some (.long l5), none, some (.int n4)]) dX12_orders_13 (by decide) (fun _ => rfl) (fun l5 => ?_)
      refine x_iinc C (pc := 14) (L' := fun i6 => [some (.int a), some (.long l5), none, some (.int i6)]) dX12_orders_14 rfl kc_i_1 (by decide) (fun _ => rfl) (fun i6 => ?_)
      refine x_goto C (pc := 17) (tgt := 4) dX12_orders_17 (by decide) ?_
      exact Xo.done (fun h => Yx.weak (lw_s (lw_s (lw_n (lw_s lw_0)))) h)
  refine x_lload_n C (pc := 20) dX12_orders_20 rfl ?_
  exact x_lret dX12_orders_21 (fun h => h)
theorem ct_X12_orders (a : Int32) (s0 : SS) (r : Int64) (h : FX12_orders a s0 = some r) : CT 1 yX12_orders cX12_orders 4 (some .long) 0 0 [.int a] s0 (some (.long r)) s0 :=
  ct_of (by decide +kernel) (Or.inr (Or.inr ⟨_, rfl, rfl⟩)) (lx_args [.int a]) (lx_entry [.int a] (fun _ => Nat.le_of_ble_eq_true rfl)) (fun o C hR => Yx.weak (lw_s (lw_z (lw_z (lw_z lw_0)))) (bd_X12_orders C a s0 r h hR))
def FX12_fraction (t : Nat) (a : Int64) (b : Int64) (s0 : SS) : Option (Int32 × SS) :=
  bd (if 0 ≤ (lg_cmp a (lN 0)) then some (a) else (some ((-a)))) (fun (k1 : Int64) => nm k1 (fun (l2 : Int64) => nm b (fun (l3 : Int64) => bd (lp FUEL (u2 (fun (m4 : Int64) (m5 : Int64) => if (lg_cmp m5 (lN 0)) = 0 then some (Sum.inr m4) else (gd (decide (¬ m5 = 0)) (nm (m4 - m4 / m5 * m5) (fun (l6 : Int64) => nm m5 (fun (l7 : Int64) => nm l6 (fun (l8 : Int64) => some (Sum.inl (l7, l8))))))))) (l2, l3)) (fun (f9 : Int64) => gd (decide (¬ f9 = 0)) (nm (pL s0 t 4 (a / f9)) (fun (s10 : SS) => gd (decide (¬ f9 = 0)) (nm (pL s10 t 5 (b / f9)) (fun (s11 : SS) => some (((nI 1), s11))))))))))
set_option maxRecDepth 100000 in
set_option maxHeartbeats 4000000 in
theorem bd_X12_fraction {o : Om} (C : Cx o RX12 cX12_fraction 11 (some .int) (rmx 0 0) 1) (t : Nat) (ht : kd t = 10) (a : Int64) (b : Int64) (s0 : SS) : Xo (FX12_fraction t a b s0) (fun r => RT o cX12_fraction (some (.int r.1)) r.2) (Yx o 0 [some (.ref t), some (.long a), none, some (.long b), none, none, none, none, none, none, none] [] s0) := by
  unfold FX12_fraction
  refine x_lload_n C (pc := 0) dX12_fraction_0 rfl ?_
  refine x_lconst C (pc := 1) dX12_fraction_1 (v := lN 0) rfl ?_
  refine x_lcmp C (pc := 2) dX12_fraction_2 ?_
  refine xb_1 (Z1 := fun k1 => Yx o 12 [some (.ref t), some (.long a), none, some (.long b), none, none, none, none, none, none, none] [.long k1] s0) ?_ (fun k1 => ?_)
  · skip
    refine x_if_ge C (pc := 3) (tgt := 11) dX12_fraction_3 (by decide) (fun _ => ?_) (fun _ => ?_)
    · skip
      refine x_lload_n C (pc := 11) dX12_fraction_11 rfl ?_
      exact Xo.done (fun h => Yx.weak (lw_s (lw_s (lw_n (lw_s (lw_n (lw_n (lw_n (lw_n (lw_n (lw_n (lw_n lw_0))))))))))) h)
    · skip
      refine x_lload_n C (pc := 6) dX12_fraction_6 rfl ?_
      refine x_lneg C (pc := 7) dX12_fraction_7 ?_
      refine x_goto C (pc := 8) (tgt := 12) dX12_fraction_8 (by decide) ?_
      exact Xo.done (fun h => Yx.weak (lw_s (lw_s (lw_n (lw_s (lw_n (lw_n (lw_n (lw_n (lw_n (lw_n (lw_n lw_0))))))))))) h)
  refine x_lstore C (pc := 12) (L' := fun l2 => [some (.ref t), some (.long a), none, some (.long b), none, some (.long l2), none, none, none, none, none]) dX12_fraction_12 (by decide) (fun _ => rfl) (fun l2 => ?_)
  refine x_lload_n C (pc := 14) dX12_fraction_14 rfl ?_
  refine x_lstore C (pc := 15) (L' := fun l3 => [some (.ref t), some (.long a), none, some (.long b), none, some (.long l2), none, some (.long l3), none, none, none]) dX12_fraction_15 (by decide) (fun _ => rfl) (fun l3 => ?_)
  refine xb_1 (Z1 := (fun f9 => Yx o 42 [some (.ref t), some (.long a), none, some (.long b), none, some (.long f9), none, none, none, none, none] [] s0)) ?_ (fun f9 => ?_)
  · refine Xo.mono (Yx.weak (lw_s (lw_s (lw_n (lw_s (lw_n (lw_s (lw_n (lw_s (lw_n (lw_n (lw_n lw_0)))))))))))) (x_lp2 (fr := fun m4 m5 => Yx o 17 [some (.ref t), some (.long a), none, some (.long b), none, some (.long m4), none, some (.long m5), none, none, none] [] s0) _ _ (fun m4 m5 => ?_))
    refine x_lload C (pc := 17) dX12_fraction_17 rfl ?_
    refine x_lconst C (pc := 19) dX12_fraction_19 (v := lN 0) rfl ?_
    refine x_lcmp C (pc := 20) dX12_fraction_20 ?_
    refine x_if_eq C (pc := 21) (tgt := 42) dX12_fraction_21 (by decide) (fun _ => ?_) (fun _ => ?_)
    · skip
      exact Xo.done (fun h => Yx.weak (lw_s (lw_s (lw_n (lw_s (lw_n (lw_s (lw_n (lw_n (lw_n (lw_n (lw_n lw_0))))))))))) h)
    · skip
      refine x_lload C (pc := 24) dX12_fraction_24 rfl ?_
      refine x_lload C (pc := 26) dX12_fraction_26 rfl ?_
      refine Xo.gd (fun hz => ?_)
      refine x_lrem C (pc := 28) dX12_fraction_28 (of_decide_eq_true hz) ?_
      refine x_lstore C (pc := 29) (L' := fun l6 => [some (.ref t), some (.long a), none, some (.long b), none, some (.long m4), none, some (.long m5), none, some (.long l6), none]) dX12_fraction_29 (by decide) (fun _ => rfl) (fun l6 => ?_)
      refine x_lload C (pc := 31) dX12_fraction_31 rfl ?_
      refine x_lstore C (pc := 33) (L' := fun l7 => [some (.ref t), some (.long a), none, some (.long b), none, some (.long l7), none, some (.long m5), none, some (.long l6), none]) dX12_fraction_33 (by decide) (fun _ => rfl) (fun l7 => ?_)
      refine x_lload C (pc := 35) dX12_fraction_35 rfl ?_
      refine x_lstore C (pc := 37) (L' := fun l8 => [some (.ref t), some (.long a), none, some (.long b), none, some (.long l7), none, some (.long l8), none, some (.long l6), none]) dX12_fraction_37 (by decide) (fun _ => rfl) (fun l8 => ?_)
      refine x_goto C (pc := 39) (tgt := 17) dX12_fraction_39 (by decide) ?_
      exact Xo.done (fun h => Yx.weak (lw_s (lw_s (lw_n (lw_s (lw_n (lw_s (lw_n (lw_s (lw_n (lw_n (lw_n lw_0))))))))))) h)
  refine x_aload_n C (pc := 42) dX12_fraction_42 rfl ?_
  refine x_lload_n C (pc := 43) dX12_fraction_43 rfl ?_
  refine x_lload C (pc := 44) dX12_fraction_44 rfl ?_
  refine Xo.gd (fun hz => ?_)
  refine x_ldiv C (pc := 46) dX12_fraction_46 (of_decide_eq_true hz) ?_
  refine x_putLn C (pc := 47) fp_X12_59 dX12_fraction_47 ht (fun s10 => ?_)
  refine x_aload_n C (pc := 50) dX12_fraction_50 rfl ?_
  refine x_lload_n C (pc := 51) dX12_fraction_51 rfl ?_
  refine x_lload C (pc := 52) dX12_fraction_52 rfl ?_
  refine Xo.gd (fun hz => ?_)
  refine x_ldiv C (pc := 54) dX12_fraction_54 (of_decide_eq_true hz) ?_
  refine x_putLn C (pc := 55) fp_X12_23 dX12_fraction_55 ht (fun s11 => ?_)
  refine x_iconst C (pc := 58) dX12_fraction_58 kc_i_1 ?_
  exact x_ret dX12_fraction_59 (fun h => h)
theorem ct_X12_fraction (t : Nat) (ht : kd t = 10) (a : Int64) (b : Int64) (s0 : SS) (r : Int32) (s2 : SS) (h : FX12_fraction t a b s0 = some (r, s2)) : CT 1 yX12_fraction cX12_fraction 11 (some .int) 0 0 [.ref t, .long a, .long b] s0 (some (.int r)) s2 :=
  ct_of (by decide +kernel) (Or.inr (Or.inl ⟨_, rfl, _, rfl, rfl⟩)) (lx_args [.ref t, .long a, .long b]) (lx_entry [.ref t, .long a, .long b] (fun _ => Nat.le_of_ble_eq_true rfl)) (fun o C hR => Yx.weak (lw_s (lw_s (lw_s (lw_s (lw_s (lw_z (lw_z (lw_z (lw_z (lw_z (lw_z lw_0))))))))))) (bd_X12_fraction C t ht a b s0 (r, s2) h hR))
def FX12_share (t : Nat) (a : Int32) (s0 : SS) : Option (Int32 × SS) :=
  bd (FX12_isUser t a s0) (fun (r1 : Int32) => if r1 = 0 then bd2 (FX12_bad t s0) (fun (r2 : Int32) (s3 : SS) => some ((r2, s3))) else (bd (FX12_everyone (lk t 0) s0) (fun (r4 : Int32) => nm r4 (fun (i5 : Int32) => nm (lN 0) (fun (l6 : Int64) => nm (nI 0) (fun (i7 : Int32) => bd (lp FUEL (u3 (fun (m8 : Int64) (n9 : Int32) (s10 : SS) => if i5 < n9 then some (Sum.inr (m8, s10)) else (bd (FX12_has n9 a s10) (fun (r11 : Int32) => bd (if r11 = 0 then nm (n9 ||| ((nI 1) <<< (a &&& 31))) (fun (i12 : Int32) => bd2 (FX12_dayOf t (lk t 0) i12 i12 s10) (fun (r13 : Int32) (s14 : SS) => bd2 (FX12_dayOf t (lk t 0) n9 n9 s14) (fun (r15 : Int32) (s16 : SS) => nm (r13 - r15) (fun (i17 : Int32) => bd (FX12_bits n9 s16) (fun (r18 : Int32) => bd (FX12_orders r18 s16) (fun (r19 : Int64) => gd (inb (nI 16) (ln (lk t 0))) (bd (FX12_bits n9 s16) (fun (r20 : Int32) => bd (FX12_orders (((gI s16 (lk t 0) (Int32.toNatClampNeg (nI 16))) - (nI 1)) - r20) s16) (fun (r21 : Int64) => nm (m8 + (((Int32.toInt64 i17) * r19) * r21)) (fun (l22 : Int64) => some ((l22, s16)))))))))))) else (some ((m8, s10)))) (u2 (fun (k23 : Int64) (s24 : SS) => nm (n9 + (nI 1)) (fun (i25 : Int32) => some (Sum.inl (k23, i25, s24))))))))) (l6, i7, s0)) (u2 (fun (f26 : Int64) (s27 : SS) => gd (inb (nI 16) (ln (lk t 0))) (bd (FX12_orders (gI s27 (lk t 0) (Int32.toNatClampNeg (nI 16))) s27) (fun (r28 : Int64) => bd2 (FX12_fraction t f26 r28 s27) (fun (r29 : Int32) (s30 : SS) => some ((r29, s30)))))))))))))
set_option maxRecDepth 100000 in
set_option maxHeartbeats 4000000 in
theorem bd_X12_share {o : Om} (C : Cx o RX12 cX12_share 8 (some .int) (rmx 4 101) 1) (t : Nat) (ht : kd t = 10) (a : Int32) (s0 : SS) : Xo (FX12_share t a s0) (fun r => RT o cX12_share (some (.int r.1)) r.2) (Yx o 0 [some (.ref t), some (.int a), none, none, none, none, none, none] [] s0) := by
  unfold FX12_share
  refine x_aload_n C (pc := 0) dX12_share_0 rfl ?_
  refine x_iload_n C (pc := 1) dX12_share_1 rfl ?_
  refine x_callVi C (pc := 2) mv_X12_185 ht rfl [.int a] (fun _ hr => ct_X12_isUser _ ht _ _ _ hr) ⟨Nat.le_of_ble_eq_true rfl, Nat.le_of_ble_eq_true rfl⟩ rfl (Nat.le_of_ble_eq_true rfl) rfl dX12_share_2 (fun r1 => ?_)
  refine x_if_ne C (pc := 5) (tgt := 13) dX12_share_5 (by decide) (fun _ => ?_) (fun _ => ?_)
  · skip
    refine x_aload_n C (pc := 8) dX12_share_8 rfl ?_
    refine x_callVim C (pc := 9) mv_X12_101 ht rfl [] (fun _ _ hr => ct_X12_bad _ ht _ _ _ hr) ⟨Nat.le_of_ble_eq_true rfl, Nat.le_of_ble_eq_true rfl⟩ rfl (Nat.le_of_ble_eq_true rfl) rfl dX12_share_9 (fun r2 s3 => ?_)
    exact x_ret dX12_share_12 (fun h => h)
  · skip
    refine x_aload_n C (pc := 13) dX12_share_13 rfl ?_
    refine x_getR C (pc := 14) fg_X12_7 dX12_share_14 ht ?_
    refine x_callSi C (pc := 17) ms_X12_82 [.ref (lk t 0)] (fun _ hr => ct_X12_everyone _ (lkd_10_0 ht) _ _ hr) ⟨Nat.le_of_ble_eq_true rfl, Nat.le_of_ble_eq_true rfl⟩ rfl (Nat.le_of_ble_eq_true rfl) rfl dX12_share_17 (fun r4 => ?_)
    refine x_istore_n C (pc := 20) (L' := fun i5 => [some (.ref t), some (.int a), some (.int i5), none, none, none, none, none]) dX12_share_20 (by decide) (fun _ => rfl) (fun i5 => ?_)
    refine x_lconst C (pc := 21) dX12_share_21 (v := lN 0) rfl ?_
    refine x_lstore_n C (pc := 22) (L' := fun l6 => [some (.ref t), some (.int a), some (.int i5), some (.long l6), none, none, none, none]) dX12_share_22 (by decide) (fun _ => rfl) (fun l6 => ?_)
    refine x_iconst C (pc := 23) dX12_share_23 kc_i_0 ?_
    refine x_istore C (pc := 24) (L' := fun i7 => [some (.ref t), some (.int a), some (.int i5), some (.long l6), none, some (.int i7), none, none]) dX12_share_24 (by decide) (fun _ => rfl) (fun i7 => ?_)
    refine xb_2 (Z1 := (fun f26 s27 => Yx o 116 [some (.ref t), none, none, some (.long f26), none, none, none, none] [] s27)) ?_ (fun f26 s27 => ?_)
    · refine Xo.mono (Yx.weak (lw_s (lw_s (lw_s (lw_s (lw_n (lw_s (lw_n (lw_n lw_0))))))))) (x_lp3 (fr := fun m8 n9 s10 => Yx o 26 [some (.ref t), some (.int a), some (.int i5), some (.long m8), none, some (.int n9), none, none] [] s10) _ _ _ (fun m8 n9 s10 => ?_))
      refine x_iload C (pc := 26) dX12_share_26 rfl ?_
      refine x_iload_n C (pc := 28) dX12_share_28 rfl ?_
      refine x_icmp_gt C (pc := 29) (tgt := 116) dX12_share_29 (by decide) (fun _ => ?_) (fun _ => ?_)
      · skip
        exact Xo.done (fun h => Yx.weak (lw_s (lw_n (lw_n (lw_s (lw_n (lw_n (lw_n (lw_n lw_0)))))))) h)
      · skip
        refine x_iload C (pc := 32) dX12_share_32 rfl ?_
        refine x_iload_n C (pc := 34) dX12_share_34 rfl ?_
        refine x_callSi C (pc := 35) ms_X12_62 [.int n9, .int a] (fun _ hr => ct_X12_has _ _ _ _ hr) ⟨Nat.le_of_ble_eq_true rfl, Nat.le_of_ble_eq_true rfl⟩ rfl (Nat.le_of_ble_eq_true rfl) rfl dX12_share_35 (fun r11 => ?_)
        refine xb_2 (Z1 := fun k23 s24 => Yx o 110 [some (.ref t), some (.int a), some (.int i5), some (.long k23), none, some (.int n9), none, none] [] s24) ?_ (fun k23 s24 => ?_)
        · skip
          refine x_if_ne C (pc := 38) (tgt := 110) dX12_share_38 (by decide) (fun _ => ?_) (fun _ => ?_)
          · skip
            refine x_iload C (pc := 41) dX12_share_41 rfl ?_
            refine x_iconst C (pc := 43) dX12_share_43 kc_i_1 ?_
            refine x_iload_n C (pc := 44) dX12_share_44 rfl ?_
            refine x_ishl C (pc := 45) dX12_share_45 ?_
            refine x_ior C (pc := 46) dX12_share_46 ?_
            refine x_istore C (pc := 47) (L' := fun i12 => [some (.ref t), some (.int a), some (.int i5), some (.long m8), none, some (.int n9), some (.int i12), none]) dX12_share_47 (by decide) (fun _ => rfl) (fun i12 => ?_)
            refine x_aload_n C (pc := 49) dX12_share_49 rfl ?_
            refine x_aload_n C (pc := 50) dX12_share_50 rfl ?_
            refine x_getR C (pc := 51) fg_X12_7 dX12_share_51 ht ?_
            refine x_iload C (pc := 54) dX12_share_54 rfl ?_
            refine x_iload C (pc := 56) dX12_share_56 rfl ?_
            refine x_callVim C (pc := 58) mv_X12_214 ht rfl [.ref (lk t 0), .int i12, .int i12] (fun _ _ hr => ct_X12_dayOf _ ht _ (lkd_10_0 ht) _ _ _ _ _ hr) ⟨Nat.le_of_ble_eq_true rfl, Nat.le_of_ble_eq_true rfl⟩ rfl (Nat.le_of_ble_eq_true rfl) rfl dX12_share_58 (fun r13 s14 => ?_)
            refine x_aload_n C (pc := 61) dX12_share_61 rfl ?_
            refine x_aload_n C (pc := 62) dX12_share_62 rfl ?_
            refine x_getR C (pc := 63) fg_X12_7 dX12_share_63 ht ?_
            refine x_iload C (pc := 66) dX12_share_66 rfl ?_
            refine x_iload C (pc := 68) dX12_share_68 rfl ?_
            refine x_callVim C (pc := 70) mv_X12_214 ht rfl [.ref (lk t 0), .int n9, .int n9] (fun _ _ hr => ct_X12_dayOf _ ht _ (lkd_10_0 ht) _ _ _ _ _ hr) ⟨Nat.le_of_ble_eq_true rfl, Nat.le_of_ble_eq_true rfl⟩ rfl (Nat.le_of_ble_eq_true rfl) rfl dX12_share_70 (fun r15 s16 => ?_)
            refine x_isub C (pc := 73) dX12_share_73 ?_
            refine x_istore C (pc := 74) (L' := fun i17 => [some (.ref t), some (.int a), some (.int i5), some (.long m8), none, some (.int n9), some (.int i12), some (.int i17)]) dX12_share_74 (by decide) (fun _ => rfl) (fun i17 => ?_)
            refine x_lload_n C (pc := 76) dX12_share_76 rfl ?_
            refine x_iload C (pc := 77) dX12_share_77 rfl ?_
            refine x_i2l C (pc := 79) dX12_share_79 ?_
            refine x_iload C (pc := 80) dX12_share_80 rfl ?_
            refine x_callSi C (pc := 82) ms_X12_217 [.int n9] (fun _ hr => ct_X12_bits _ _ _ hr) ⟨Nat.le_of_ble_eq_true rfl, Nat.le_of_ble_eq_true rfl⟩ rfl (Nat.le_of_ble_eq_true rfl) rfl dX12_share_82 (fun r18 => ?_)
            refine x_callSl C (pc := 85) ms_X12_220 [.int r18] (fun _ hr => ct_X12_orders _ _ _ hr) ⟨Nat.le_of_ble_eq_true rfl, Nat.le_of_ble_eq_true rfl⟩ rfl (Nat.le_of_ble_eq_true rfl) rfl dX12_share_85 (fun r19 => ?_)
            refine x_lmul C (pc := 88) dX12_share_88 ?_
            refine x_aload_n C (pc := 89) dX12_share_89 rfl ?_
            refine x_getR C (pc := 90) fg_X12_7 dX12_share_90 ht ?_
            refine x_bipush C (pc := 93) dX12_share_93 kc_b_16 ?_
            refine x_iald C (pc := 95) dX12_share_95 (lkd_10_0 ht) (fun _ => ?_)
            refine x_iconst C (pc := 96) dX12_share_96 kc_i_1 ?_
            refine x_isub C (pc := 97) dX12_share_97 ?_
            refine x_iload C (pc := 98) dX12_share_98 rfl ?_
            refine x_callSi C (pc := 100) ms_X12_217 [.int n9] (fun _ hr => ct_X12_bits _ _ _ hr) ⟨Nat.le_of_ble_eq_true rfl, Nat.le_of_ble_eq_true rfl⟩ rfl (Nat.le_of_ble_eq_true rfl) rfl dX12_share_100 (fun r20 => ?_)
            refine x_isub C (pc := 103) dX12_share_103 ?_
            refine x_callSl C (pc := 104) ms_X12_220 [.int (((gI s16 (lk t 0) (Int32.toNatClampNeg (nI 16))) - (nI 1)) - r20)] (fun _ hr => ct_X12_orders _ _ _ hr) ⟨Nat.le_of_ble_eq_true rfl, Nat.le_of_ble_eq_true rfl⟩ rfl (Nat.le_of_ble_eq_true rfl) rfl dX12_share_104 (fun r21 => ?_)
            refine x_lmul C (pc := 107) dX12_share_107 ?_
            refine x_ladd C (pc := 108) dX12_share_108 ?_
            refine x_lstore_n C (pc := 109) (L' := fun l22 => [some (.ref t), some (.int a), some (.int i5), some (.long l22), none, some (.int n9), some (.int i12), some (.int i17)]) dX12_share_109 (by decide) (fun _ => rfl) (fun l22 => ?_)
            exact Xo.done (fun h => Yx.weak (lw_s (lw_s (lw_s (lw_s (lw_n (lw_s (lw_n (lw_n lw_0)))))))) h)
          · skip
            exact Xo.done (fun h => Yx.weak (lw_s (lw_s (lw_s (lw_s (lw_n (lw_s (lw_n (lw_n lw_0)))))))) h)
        refine x_iinc C (pc := 110) (L' := fun i25 => [some (.ref t), some (.int a), some (.int i5), some (.long k23), none, some (.int i25), none, none]) dX12_share_110 rfl kc_i_1 (by decide) (fun _ => rfl) (fun i25 => ?_)
        refine x_goto C (pc := 113) (tgt := 26) dX12_share_113 (by decide) ?_
        exact Xo.done (fun h => Yx.weak (lw_s (lw_s (lw_s (lw_s (lw_n (lw_s (lw_n (lw_n lw_0)))))))) h)
    refine x_aload_n C (pc := 116) dX12_share_116 rfl ?_
    refine x_lload_n C (pc := 117) dX12_share_117 rfl ?_
    refine x_aload_n C (pc := 118) dX12_share_118 rfl ?_
    refine x_getR C (pc := 119) fg_X12_7 dX12_share_119 ht ?_
    refine x_bipush C (pc := 122) dX12_share_122 kc_b_16 ?_
    refine x_iald C (pc := 124) dX12_share_124 (lkd_10_0 ht) (fun _ => ?_)
    refine x_callSl C (pc := 125) ms_X12_220 [.int (gI s27 (lk t 0) (Int32.toNatClampNeg (nI 16)))] (fun _ hr => ct_X12_orders _ _ _ hr) ⟨Nat.le_of_ble_eq_true rfl, Nat.le_of_ble_eq_true rfl⟩ rfl (Nat.le_of_ble_eq_true rfl) rfl dX12_share_125 (fun r28 => ?_)
    refine x_callVim C (pc := 128) mv_X12_224 ht rfl [.long f26, .long r28] (fun _ _ hr => ct_X12_fraction _ ht _ _ _ _ _ hr) ⟨Nat.le_of_ble_eq_true rfl, Nat.le_of_ble_eq_true rfl⟩ rfl (Nat.le_of_ble_eq_true rfl) rfl dX12_share_128 (fun r29 s30 => ?_)
    exact x_ret dX12_share_131 (fun h => h)
theorem ct_X12_share (t : Nat) (ht : kd t = 10) (a : Int32) (s0 : SS) (r : Int32) (s2 : SS) (h : FX12_share t a s0 = some (r, s2)) : CT 1 yX12_share cX12_share 8 (some .int) 4 101 [.ref t, .int a] s0 (some (.int r)) s2 :=
  ct_of (by decide +kernel) (Or.inr (Or.inl ⟨_, rfl, _, rfl, rfl⟩)) (lx_args [.ref t, .int a]) (lx_entry [.ref t, .int a] (fun _ => Nat.le_of_ble_eq_true rfl)) (fun o C hR => Yx.weak (lw_s (lw_s (lw_z (lw_z (lw_z (lw_z (lw_z (lw_z lw_0)))))))) (bd_X12_share C t ht a s0 (r, s2) h hR))
def FX12_award (t : Nat) (a : Int32) (s0 : SS) : Option (Int32 × SS) :=
  bd (FX12_isSuit t a s0) (fun (r1 : Int32) => if r1 = 0 then bd2 (FX12_bad t s0) (fun (r2 : Int32) (s3 : SS) => some ((r2, s3))) else (bd (FX12_awardNow t a s0) (fun (r4 : Int32) => some ((r4, s0)))))
set_option maxRecDepth 100000 in
set_option maxHeartbeats 4000000 in
theorem bd_X12_award {o : Om} (C : Cx o RX12 cX12_award 2 (some .int) (rmx 3 64) 1) (t : Nat) (ht : kd t = 10) (a : Int32) (s0 : SS) : Xo (FX12_award t a s0) (fun r => RT o cX12_award (some (.int r.1)) r.2) (Yx o 0 [some (.ref t), some (.int a)] [] s0) := by
  unfold FX12_award
  refine x_aload_n C (pc := 0) dX12_award_0 rfl ?_
  refine x_iload_n C (pc := 1) dX12_award_1 rfl ?_
  refine x_callVi C (pc := 2) mv_X12_203 ht rfl [.int a] (fun _ hr => ct_X12_isSuit _ ht _ _ _ hr) ⟨Nat.le_of_ble_eq_true rfl, Nat.le_of_ble_eq_true rfl⟩ rfl (Nat.le_of_ble_eq_true rfl) rfl dX12_award_2 (fun r1 => ?_)
  refine x_if_eq C (pc := 5) (tgt := 16) dX12_award_5 (by decide) (fun _ => ?_) (fun _ => ?_)
  · skip
    refine x_aload_n C (pc := 16) dX12_award_16 rfl ?_
    refine x_callVim C (pc := 17) mv_X12_101 ht rfl [] (fun _ _ hr => ct_X12_bad _ ht _ _ _ hr) ⟨Nat.le_of_ble_eq_true rfl, Nat.le_of_ble_eq_true rfl⟩ rfl (Nat.le_of_ble_eq_true rfl) rfl dX12_award_17 (fun r2 s3 => ?_)
    exact x_ret dX12_award_20 (fun h => h)
  · skip
    refine x_aload_n C (pc := 8) dX12_award_8 rfl ?_
    refine x_iload_n C (pc := 9) dX12_award_9 rfl ?_
    refine x_callVi C (pc := 10) mv_X12_206 ht rfl [.int a] (fun _ hr => ct_X12_awardNow _ ht _ _ _ hr) ⟨Nat.le_of_ble_eq_true rfl, Nat.le_of_ble_eq_true rfl⟩ rfl (Nat.le_of_ble_eq_true rfl) rfl dX12_award_10 (fun r4 => ?_)
    refine x_goto C (pc := 13) (tgt := 20) dX12_award_13 (by decide) ?_
    exact x_ret dX12_award_20 (fun h => h)
theorem ct_X12_award (t : Nat) (ht : kd t = 10) (a : Int32) (s0 : SS) (r : Int32) (s2 : SS) (h : FX12_award t a s0 = some (r, s2)) : CT 1 yX12_award cX12_award 2 (some .int) 3 64 [.ref t, .int a] s0 (some (.int r)) s2 :=
  ct_of (by decide +kernel) (Or.inr (Or.inl ⟨_, rfl, _, rfl, rfl⟩)) (lx_args [.ref t, .int a]) (lx_entry [.ref t, .int a] (fun _ => Nat.le_of_ble_eq_true rfl)) (fun o C hR => Yx.weak (lw_s (lw_s lw_0)) (bd_X12_award C t ht a s0 (r, s2) h hR))
def FX12_wonBy (t : Nat) (a : Int32) (s0 : SS) : Option (Int32 × SS) :=
  nm (nI 0) (fun (i1 : Int32) => bd (lp FUEL (u2 (fun (n2 : Int32) (s3 : SS) => gd (inb (nI 16) (ln (lk t 0))) (if (gI s3 (lk t 0) (Int32.toNatClampNeg (nI 16))) ≤ n2 then some (Sum.inr s3) else (bd (FX12_duesOf t n2 s3) (fun (r4 : Int32) => gd (inb n2 (ln (lk t 18))) (nm (pI s3 (lk t 18) (Int32.toNatClampNeg n2) r4) (fun (s5 : SS) => nm (n2 + (nI 1)) (fun (i6 : Int32) => some (Sum.inl (i6, s5)))))))))) (i1, s0)) (fun (s7 : SS) => nm (nI 0) (fun (i8 : Int32) => nm (nI 0) (fun (i9 : Int32) => bd (lp FUEL (u3 (fun (n10 : Int32) (n11 : Int32) (s12 : SS) => if a ≤ n11 then some (Sum.inr (n10, s12)) else (gd (inb n11 (ln (lk t 16))) (bd (FX12_suitOf (lk t 0) (gI s12 (lk t 16) (Int32.toNatClampNeg n11)) (nI 1) s12) (fun (r13 : Int32) => nm r13 (fun (i14 : Int32) => gd (inb n11 (ln (lk t 16))) (bd (FX12_suitOf (lk t 0) (gI s12 (lk t 16) (Int32.toNatClampNeg n11)) (nI 0) s12) (fun (r15 : Int32) => gd (inb i14 (ln (lk t 18))) (gd (inb n11 (ln (lk t 16))) (bd (FX12_ageOf t (gI s12 (lk t 16) (Int32.toNatClampNeg n11)) s12) (fun (r16 : Int32) => bd (FX12_awardOf r15 (gI s12 (lk t 18) (Int32.toNatClampNeg i14)) (r16 + n11) s12) (fun (r17 : Int32) => nm (n10 + r17) (fun (i18 : Int32) => gd (inb i14 (ln (lk t 18))) (nm (pI s12 (lk t 18) (Int32.toNatClampNeg i14) (nI 0)) (fun (s19 : SS) => nm (n11 + (nI 1)) (fun (i20 : Int32) => some (Sum.inl (i18, i20, s19)))))))))))))))))) (i8, i9, s7)) (u2 (fun (e21 : Int32) (s22 : SS) => some ((e21, s22))))))))
set_option maxRecDepth 100000 in
set_option maxHeartbeats 4000000 in
theorem bd_X12_wonBy {o : Om} (C : Cx o RX12 cX12_wonBy 5 (some .int) (rmx 2 43) 1) (t : Nat) (ht : kd t = 10) (a : Int32) (s0 : SS) : Xo (FX12_wonBy t a s0) (fun r => RT o cX12_wonBy (some (.int r.1)) r.2) (Yx o 0 [some (.ref t), some (.int a), none, none, none] [] s0) := by
  unfold FX12_wonBy
  refine x_iconst C (pc := 0) dX12_wonBy_0 kc_i_0 ?_
  refine x_istore_n C (pc := 1) (L' := fun i1 => [some (.ref t), some (.int a), some (.int i1), none, none]) dX12_wonBy_1 (by decide) (fun _ => rfl) (fun i1 => ?_)
  refine xb_1 (Z1 := (fun s7 => Yx o 30 [some (.ref t), some (.int a), none, none, none] [] s7)) ?_ (fun s7 => ?_)
  · refine Xo.mono (Yx.weak (lw_s (lw_s (lw_s (lw_n (lw_n lw_0)))))) (x_lp2 (fr := fun n2 s3 => Yx o 2 [some (.ref t), some (.int a), some (.int n2), none, none] [] s3) _ _ (fun n2 s3 => ?_))
    refine x_iload_n C (pc := 2) dX12_wonBy_2 rfl ?_
    refine x_aload_n C (pc := 3) dX12_wonBy_3 rfl ?_
    refine x_getR C (pc := 4) fg_X12_7 dX12_wonBy_4 ht ?_
    refine x_bipush C (pc := 7) dX12_wonBy_7 kc_b_16 ?_
    refine x_iald C (pc := 9) dX12_wonBy_9 (lkd_10_0 ht) (fun _ => ?_)
    refine x_icmp_ge C (pc := 10) (tgt := 30) dX12_wonBy_10 (by decide) (fun _ => ?_) (fun _ => ?_)
    · skip
      exact Xo.done (fun h => Yx.weak (lw_s (lw_s (lw_n (lw_n (lw_n lw_0))))) h)
    · skip
      refine x_aload_n C (pc := 13) dX12_wonBy_13 rfl ?_
      refine x_getR C (pc := 14) fg_X12_52 dX12_wonBy_14 ht ?_
      refine x_iload_n C (pc := 17) dX12_wonBy_17 rfl ?_
      refine x_aload_n C (pc := 18) dX12_wonBy_18 rfl ?_
      refine x_iload_n C (pc := 19) dX12_wonBy_19 rfl ?_
      refine x_callVi C (pc := 20) mv_X12_194 ht rfl [.int n2] (fun _ hr => ct_X12_duesOf _ ht _ _ _ hr) ⟨Nat.le_of_ble_eq_true rfl, Nat.le_of_ble_eq_true rfl⟩ rfl (Nat.le_of_ble_eq_true rfl) rfl dX12_wonBy_20 (fun r4 => ?_)
      refine x_iastn C (pc := 23) dX12_wonBy_23 (lkd_10_18 ht) (fun s5 => ?_)
      refine x_iinc C (pc := 24) (L' := fun i6 => [some (.ref t), some (.int a), some (.int i6), none, none]) dX12_wonBy_24 rfl kc_i_1 (by decide) (fun _ => rfl) (fun i6 => ?_)
      refine x_goto C (pc := 27) (tgt := 2) dX12_wonBy_27 (by decide) ?_
      exact Xo.done (fun h => Yx.weak (lw_s (lw_s (lw_s (lw_n (lw_n lw_0))))) h)
  refine x_iconst C (pc := 30) dX12_wonBy_30 kc_i_0 ?_
  refine x_istore_n C (pc := 31) (L' := fun i8 => [some (.ref t), some (.int a), some (.int i8), none, none]) dX12_wonBy_31 (by decide) (fun _ => rfl) (fun i8 => ?_)
  refine x_iconst C (pc := 32) dX12_wonBy_32 kc_i_0 ?_
  refine x_istore_n C (pc := 33) (L' := fun i9 => [some (.ref t), some (.int a), some (.int i8), some (.int i9), none]) dX12_wonBy_33 (by decide) (fun _ => rfl) (fun i9 => ?_)
  refine xb_2 (Z1 := (fun e21 s22 => Yx o 108 [none, none, some (.int e21), none, none] [] s22)) ?_ (fun e21 s22 => ?_)
  · refine Xo.mono (Yx.weak (lw_s (lw_s (lw_s (lw_s (lw_n lw_0)))))) (x_lp3 (fr := fun n10 n11 s12 => Yx o 34 [some (.ref t), some (.int a), some (.int n10), some (.int n11), none] [] s12) _ _ _ (fun n10 n11 s12 => ?_))
    refine x_iload_n C (pc := 34) dX12_wonBy_34 rfl ?_
    refine x_iload_n C (pc := 35) dX12_wonBy_35 rfl ?_
    refine x_icmp_ge C (pc := 36) (tgt := 108) dX12_wonBy_36 (by decide) (fun _ => ?_) (fun _ => ?_)
    · skip
      exact Xo.done (fun h => Yx.weak (lw_n (lw_n (lw_s (lw_n (lw_n lw_0))))) h)
    · skip
      refine x_aload_n C (pc := 39) dX12_wonBy_39 rfl ?_
      refine x_getR C (pc := 40) fg_X12_7 dX12_wonBy_40 ht ?_
      refine x_aload_n C (pc := 43) dX12_wonBy_43 rfl ?_
      refine x_getR C (pc := 44) fg_X12_46 dX12_wonBy_44 ht ?_
      refine x_iload_n C (pc := 47) dX12_wonBy_47 rfl ?_
      refine x_iald C (pc := 48) dX12_wonBy_48 (lkd_10_16 ht) (fun _ => ?_)
      refine x_iconst C (pc := 49) dX12_wonBy_49 kc_i_1 ?_
      refine x_callSi C (pc := 50) ms_X12_188 [.ref (lk t 0), .int (gI s12 (lk t 16) (Int32.toNatClampNeg n11)), .int (nI 1)] (fun _ hr => ct_X12_suitOf _ (lkd_10_0 ht) _ _ _ _ hr) ⟨Nat.le_of_ble_eq_true rfl, Nat.le_of_ble_eq_true rfl⟩ rfl (Nat.le_of_ble_eq_true rfl) rfl dX12_wonBy_50 (fun r13 => ?_)
      refine x_istore C (pc := 53) (L' := fun i14 => [some (.ref t), some (.int a), some (.int n10), some (.int n11), some (.int i14)]) dX12_wonBy_53 (by decide) (fun _ => rfl) (fun i14 => ?_)
      refine x_iload_n C (pc := 55) dX12_wonBy_55 rfl ?_
      refine x_aload_n C (pc := 56) dX12_wonBy_56 rfl ?_
      refine x_getR C (pc := 57) fg_X12_7 dX12_wonBy_57 ht ?_
      refine x_aload_n C (pc := 60) dX12_wonBy_60 rfl ?_
      refine x_getR C (pc := 61) fg_X12_46 dX12_wonBy_61 ht ?_
      refine x_iload_n C (pc := 64) dX12_wonBy_64 rfl ?_
      refine x_iald C (pc := 65) dX12_wonBy_65 (lkd_10_16 ht) (fun _ => ?_)
      refine x_iconst C (pc := 66) dX12_wonBy_66 kc_i_0 ?_
      refine x_callSi C (pc := 67) ms_X12_188 [.ref (lk t 0), .int (gI s12 (lk t 16) (Int32.toNatClampNeg n11)), .int (nI 0)] (fun _ hr => ct_X12_suitOf _ (lkd_10_0 ht) _ _ _ _ hr) ⟨Nat.le_of_ble_eq_true rfl, Nat.le_of_ble_eq_true rfl⟩ rfl (Nat.le_of_ble_eq_true rfl) rfl dX12_wonBy_67 (fun r15 => ?_)
      refine x_aload_n C (pc := 70) dX12_wonBy_70 rfl ?_
      refine x_getR C (pc := 71) fg_X12_52 dX12_wonBy_71 ht ?_
      refine x_iload C (pc := 74) dX12_wonBy_74 rfl ?_
      refine x_iald C (pc := 76) dX12_wonBy_76 (lkd_10_18 ht) (fun _ => ?_)
      refine x_aload_n C (pc := 77) dX12_wonBy_77 rfl ?_
      refine x_aload_n C (pc := 78) dX12_wonBy_78 rfl ?_
      refine x_getR C (pc := 79) fg_X12_46 dX12_wonBy_79 ht ?_
      refine x_iload_n C (pc := 82) dX12_wonBy_82 rfl ?_
      refine x_iald C (pc := 83) dX12_wonBy_83 (lkd_10_16 ht) (fun _ => ?_)
      refine x_callVi C (pc := 84) mv_X12_197 ht rfl [.int (gI s12 (lk t 16) (Int32.toNatClampNeg n11))] (fun _ hr => ct_X12_ageOf _ ht _ _ _ hr) ⟨Nat.le_of_ble_eq_true rfl, Nat.le_of_ble_eq_true rfl⟩ rfl (Nat.le_of_ble_eq_true rfl) rfl dX12_wonBy_84 (fun r16 => ?_)
      refine x_iload_n C (pc := 87) dX12_wonBy_87 rfl ?_
      refine x_iadd C (pc := 88) dX12_wonBy_88 ?_
      refine x_callSi C (pc := 89) ms_X12_200 [.int r15, .int (gI s12 (lk t 18) (Int32.toNatClampNeg i14)), .int (r16 + n11)] (fun _ hr => ct_X12_awardOf _ _ _ _ _ hr) ⟨Nat.le_of_ble_eq_true rfl, Nat.le_of_ble_eq_true rfl⟩ rfl (Nat.le_of_ble_eq_true rfl) rfl dX12_wonBy_89 (fun r17 => ?_)
      refine x_iadd C (pc := 92) dX12_wonBy_92 ?_
      refine x_istore_n C (pc := 93) (L' := fun i18 => [some (.ref t), some (.int a), some (.int i18), some (.int n11), some (.int i14)]) dX12_wonBy_93 (by decide) (fun _ => rfl) (fun i18 => ?_)
      refine x_aload_n C (pc := 94) dX12_wonBy_94 rfl ?_
      refine x_getR C (pc := 95) fg_X12_52 dX12_wonBy_95 ht ?_
      refine x_iload C (pc := 98) dX12_wonBy_98 rfl ?_
      refine x_iconst C (pc := 100) dX12_wonBy_100 kc_i_0 ?_
      refine x_iastn C (pc := 101) dX12_wonBy_101 (lkd_10_18 ht) (fun s19 => ?_)
      refine x_iinc C (pc := 102) (L' := fun i20 => [some (.ref t), some (.int a), some (.int i18), some (.int i20), some (.int i14)]) dX12_wonBy_102 rfl kc_i_1 (by decide) (fun _ => rfl) (fun i20 => ?_)
      refine x_goto C (pc := 105) (tgt := 34) dX12_wonBy_105 (by decide) ?_
      exact Xo.done (fun h => Yx.weak (lw_s (lw_s (lw_s (lw_s (lw_n lw_0))))) h)
  refine x_iload_n C (pc := 108) dX12_wonBy_108 rfl ?_
  exact x_ret dX12_wonBy_109 (fun h => h)
theorem ct_X12_wonBy (t : Nat) (ht : kd t = 10) (a : Int32) (s0 : SS) (r : Int32) (s2 : SS) (h : FX12_wonBy t a s0 = some (r, s2)) : CT 1 yX12_wonBy cX12_wonBy 5 (some .int) 2 43 [.ref t, .int a] s0 (some (.int r)) s2 :=
  ct_of (by decide +kernel) (Or.inr (Or.inl ⟨_, rfl, _, rfl, rfl⟩)) (lx_args [.ref t, .int a]) (lx_entry [.ref t, .int a] (fun _ => Nat.le_of_ble_eq_true rfl)) (fun o C hR => Yx.weak (lw_s (lw_s (lw_z (lw_z (lw_z lw_0))))) (bd_X12_wonBy C t ht a s0 (r, s2) h hR))
def FX12_nextRow (t : Nat) (a : Int32) (s0 : SS) : Option (Int32 × SS) :=
  nm (a - (nI 2)) (fun (i1 : Int32) => bd (lp FUEL (fun (n2 : Int32) => if n2 < 0 then some (Sum.inr n2) else (gd (inb n2 (ln (lk t 16))) (gd (inb (n2 + (nI 1)) (ln (lk t 16))) (if (gI s0 (lk t 16) (Int32.toNatClampNeg n2)) ≤ (gI s0 (lk t 16) (Int32.toNatClampNeg (n2 + (nI 1)))) then some (Sum.inr n2) else (nm (n2 + (-1 : Int32)) (fun (i3 : Int32) => some (Sum.inl i3))))))) i1) (fun (e4 : Int32) => if 0 ≤ e4 then nm (a - (nI 1)) (fun (i5 : Int32) => bd (lp FUEL (fun (n6 : Int32) => gd (inb n6 (ln (lk t 16))) (gd (inb e4 (ln (lk t 16))) (if (gI s0 (lk t 16) (Int32.toNatClampNeg e4)) ≤ (gI s0 (lk t 16) (Int32.toNatClampNeg n6)) then some (Sum.inr n6) else (nm (n6 + (-1 : Int32)) (fun (i7 : Int32) => some (Sum.inl i7)))))) i5) (fun (e8 : Int32) => gd (inb e4 (ln (lk t 16))) (nm (gI s0 (lk t 16) (Int32.toNatClampNeg e4)) (fun (i9 : Int32) => gd (inb e8 (ln (lk t 16))) (gd (inb e4 (ln (lk t 16))) (nm (pI s0 (lk t 16) (Int32.toNatClampNeg e4) (gI s0 (lk t 16) (Int32.toNatClampNeg e8))) (fun (s10 : SS) => gd (inb e8 (ln (lk t 16))) (nm (pI s10 (lk t 16) (Int32.toNatClampNeg e8) i9) (fun (s11 : SS) => nm (e4 + (nI 1)) (fun (i12 : Int32) => nm (a - (nI 1)) (fun (i13 : Int32) => bd (lp FUEL (u3 (fun (n14 : Int32) (n15 : Int32) (s16 : SS) => if n15 ≤ n14 then some (Sum.inr s16) else (gd (inb n14 (ln (lk t 16))) (nm (gI s16 (lk t 16) (Int32.toNatClampNeg n14)) (fun (i17 : Int32) => gd (inb n15 (ln (lk t 16))) (gd (inb n14 (ln (lk t 16))) (nm (pI s16 (lk t 16) (Int32.toNatClampNeg n14) (gI s16 (lk t 16) (Int32.toNatClampNeg n15))) (fun (s18 : SS) => gd (inb n15 (ln (lk t 16))) (nm (pI s18 (lk t 16) (Int32.toNatClampNeg n15) i17) (fun (s19 : SS) => nm (n14 + (nI 1)) (fun (i20 : Int32) => nm (n15 + (-1 : Int32)) (fun (i21 : Int32) => some (Sum.inl (i20, i21, s19)))))))))))))) (i12, i13, s11)) (fun (s22 : SS) => some (((nI 1), s22)))))))))))))) else (some (((nI 0), s0)))))
set_option maxRecDepth 100000 in
set_option maxHeartbeats 4000000 in
theorem bd_X12_nextRow {o : Om} (C : Cx o RX12 cX12_nextRow 7 (some .boolean) (rmx 0 0) 1) (t : Nat) (ht : kd t = 10) (a : Int32) (s0 : SS) : Xo (FX12_nextRow t a s0) (fun r => zb r.1 = true → RT o cX12_nextRow (some (.int r.1)) r.2) (Yx o 0 [some (.ref t), some (.int a), none, none, none, none, none] [] s0) := by
  unfold FX12_nextRow
  refine x_iload_n C (pc := 0) dX12_nextRow_0 rfl ?_
  refine x_iconst C (pc := 1) dX12_nextRow_1 kc_i_2 ?_
  refine x_isub C (pc := 2) dX12_nextRow_2 ?_
  refine x_istore_n C (pc := 3) (L' := fun i1 => [some (.ref t), some (.int a), some (.int i1), none, none, none, none]) dX12_nextRow_3 (by decide) (fun _ => rfl) (fun i1 => ?_)
  refine xb_1 (Z1 := (fun e4 => Yx o 31 [some (.ref t), some (.int a), some (.int e4), none, none, none, none] [] s0)) ?_ (fun e4 => ?_)
  · refine Xo.mono (Yx.weak (lw_s (lw_s (lw_s (lw_n (lw_n (lw_n (lw_n lw_0)))))))) (x_lp1 (fr := fun n2 => Yx o 4 [some (.ref t), some (.int a), some (.int n2), none, none, none, none] [] s0) _ (fun n2 => ?_))
    refine x_iload_n C (pc := 4) dX12_nextRow_4 rfl ?_
    refine x_if_lt C (pc := 5) (tgt := 31) dX12_nextRow_5 (by decide) (fun _ => ?_) (fun _ => ?_)
    · skip
      exact Xo.done (fun h => Yx.weak (lw_s (lw_s (lw_s (lw_n (lw_n (lw_n (lw_n lw_0))))))) h)
    · skip
      refine x_aload_n C (pc := 8) dX12_nextRow_8 rfl ?_
      refine x_getR C (pc := 9) fg_X12_46 dX12_nextRow_9 ht ?_
      refine x_iload_n C (pc := 12) dX12_nextRow_12 rfl ?_
      refine x_iald C (pc := 13) dX12_nextRow_13 (lkd_10_16 ht) (fun _ => ?_)
      refine x_aload_n C (pc := 14) dX12_nextRow_14 rfl ?_
      refine x_getR C (pc := 15) fg_X12_46 dX12_nextRow_15 ht ?_
      refine x_iload_n C (pc := 18) dX12_nextRow_18 rfl ?_
      refine x_iconst C (pc := 19) dX12_nextRow_19 kc_i_1 ?_
      refine x_iadd C (pc := 20) dX12_nextRow_20 ?_
      refine x_iald C (pc := 21) dX12_nextRow_21 (lkd_10_16 ht) (fun _ => ?_)
      refine x_icmp_le C (pc := 22) (tgt := 31) dX12_nextRow_22 (by decide) (fun _ => ?_) (fun _ => ?_)
      · skip
        exact Xo.done (fun h => Yx.weak (lw_s (lw_s (lw_s (lw_n (lw_n (lw_n (lw_n lw_0))))))) h)
      · skip
        refine x_iinc C (pc := 25) (L' := fun i3 => [some (.ref t), some (.int a), some (.int i3), none, none, none, none]) dX12_nextRow_25 rfl kc_i_m1 (by decide) (fun _ => rfl) (fun i3 => ?_)
        refine x_goto C (pc := 28) (tgt := 4) dX12_nextRow_28 (by decide) ?_
        exact Xo.done (fun h => Yx.weak (lw_s (lw_s (lw_s (lw_n (lw_n (lw_n (lw_n lw_0))))))) h)
  refine x_iload_n C (pc := 31) dX12_nextRow_31 rfl ?_
  refine x_if_ge C (pc := 32) (tgt := 37) dX12_nextRow_32 (by decide) (fun _ => ?_) (fun _ => ?_)
  · skip
    refine x_iload_n C (pc := 37) dX12_nextRow_37 rfl ?_
    refine x_iconst C (pc := 38) dX12_nextRow_38 kc_i_1 ?_
    refine x_isub C (pc := 39) dX12_nextRow_39 ?_
    refine x_istore_n C (pc := 40) (L' := fun i5 => [some (.ref t), some (.int a), some (.int e4), some (.int i5), none, none, none]) dX12_nextRow_40 (by decide) (fun _ => rfl) (fun i5 => ?_)
    refine xb_1 (Z1 := (fun e8 => Yx o 62 [some (.ref t), some (.int a), some (.int e4), some (.int e8), none, none, none] [] s0)) ?_ (fun e8 => ?_)
    · refine Xo.mono (Yx.weak (lw_s (lw_s (lw_s (lw_s (lw_n (lw_n (lw_n lw_0)))))))) (x_lp1 (fr := fun n6 => Yx o 41 [some (.ref t), some (.int a), some (.int e4), some (.int n6), none, none, none] [] s0) _ (fun n6 => ?_))
      refine x_aload_n C (pc := 41) dX12_nextRow_41 rfl ?_
      refine x_getR C (pc := 42) fg_X12_46 dX12_nextRow_42 ht ?_
      refine x_iload_n C (pc := 45) dX12_nextRow_45 rfl ?_
      refine x_iald C (pc := 46) dX12_nextRow_46 (lkd_10_16 ht) (fun _ => ?_)
      refine x_aload_n C (pc := 47) dX12_nextRow_47 rfl ?_
      refine x_getR C (pc := 48) fg_X12_46 dX12_nextRow_48 ht ?_
      refine x_iload_n C (pc := 51) dX12_nextRow_51 rfl ?_
      refine x_iald C (pc := 52) dX12_nextRow_52 (lkd_10_16 ht) (fun _ => ?_)
      refine x_icmp_ge C (pc := 53) (tgt := 62) dX12_nextRow_53 (by decide) (fun _ => ?_) (fun _ => ?_)
      · skip
        exact Xo.done (fun h => Yx.weak (lw_s (lw_s (lw_s (lw_s (lw_n (lw_n (lw_n lw_0))))))) h)
      · skip
        refine x_iinc C (pc := 56) (L' := fun i7 => [some (.ref t), some (.int a), some (.int e4), some (.int i7), none, none, none]) dX12_nextRow_56 rfl kc_i_m1 (by decide) (fun _ => rfl) (fun i7 => ?_)
        refine x_goto C (pc := 59) (tgt := 41) dX12_nextRow_59 (by decide) ?_
        exact Xo.done (fun h => Yx.weak (lw_s (lw_s (lw_s (lw_s (lw_n (lw_n (lw_n lw_0))))))) h)
    refine x_aload_n C (pc := 62) dX12_nextRow_62 rfl ?_
    refine x_getR C (pc := 63) fg_X12_46 dX12_nextRow_63 ht ?_
    refine x_iload_n C (pc := 66) dX12_nextRow_66 rfl ?_
    refine x_iald C (pc := 67) dX12_nextRow_67 (lkd_10_16 ht) (fun _ => ?_)
    refine x_istore C (pc := 68) (L' := fun i9 => [some (.ref t), some (.int a), some (.int e4), some (.int e8), some (.int i9), none, none]) dX12_nextRow_68 (by decide) (fun _ => rfl) (fun i9 => ?_)
    refine x_aload_n C (pc := 70) dX12_nextRow_70 rfl ?_
    refine x_getR C (pc := 71) fg_X12_46 dX12_nextRow_71 ht ?_
    refine x_iload_n C (pc := 74) dX12_nextRow_74 rfl ?_
    refine x_aload_n C (pc := 75) dX12_nextRow_75 rfl ?_
    refine x_getR C (pc := 76) fg_X12_46 dX12_nextRow_76 ht ?_
    refine x_iload_n C (pc := 79) dX12_nextRow_79 rfl ?_
    refine x_iald C (pc := 80) dX12_nextRow_80 (lkd_10_16 ht) (fun _ => ?_)
    refine x_iastn C (pc := 81) dX12_nextRow_81 (lkd_10_16 ht) (fun s10 => ?_)
    refine x_aload_n C (pc := 82) dX12_nextRow_82 rfl ?_
    refine x_getR C (pc := 83) fg_X12_46 dX12_nextRow_83 ht ?_
    refine x_iload_n C (pc := 86) dX12_nextRow_86 rfl ?_
    refine x_iload C (pc := 87) dX12_nextRow_87 rfl ?_
    refine x_iastn C (pc := 89) dX12_nextRow_89 (lkd_10_16 ht) (fun s11 => ?_)
    refine x_iload_n C (pc := 90) dX12_nextRow_90 rfl ?_
    refine x_iconst C (pc := 91) dX12_nextRow_91 kc_i_1 ?_
    refine x_iadd C (pc := 92) dX12_nextRow_92 ?_
    refine x_istore C (pc := 93) (L' := fun i12 => [some (.ref t), some (.int a), some (.int e4), some (.int e8), some (.int i9), some (.int i12), none]) dX12_nextRow_93 (by decide) (fun _ => rfl) (fun i12 => ?_)
    refine x_iload_n C (pc := 95) dX12_nextRow_95 rfl ?_
    refine x_iconst C (pc := 96) dX12_nextRow_96 kc_i_1 ?_
    refine x_isub C (pc := 97) dX12_nextRow_97 ?_
    refine x_istore C (pc := 98) (L' := fun i13 => [some (.ref t), some (.int a), some (.int e4), some (.int e8), some (.int i9), some (.int i12), some (.int i13)]) dX12_nextRow_98 (by decide) (fun _ => rfl) (fun i13 => ?_)
    refine xb_1 (Z1 := (fun s22 => Yx o 148 [none, none, none, none, none, none, none] [] s22)) ?_ (fun s22 => ?_)
    · refine Xo.mono (Yx.weak (lw_s (lw_n (lw_n (lw_n (lw_n (lw_s (lw_s lw_0)))))))) (x_lp3 (fr := fun n14 n15 s16 => Yx o 100 [some (.ref t), none, none, none, none, some (.int n14), some (.int n15)] [] s16) _ _ _ (fun n14 n15 s16 => ?_))
      refine x_iload C (pc := 100) dX12_nextRow_100 rfl ?_
      refine x_iload C (pc := 102) dX12_nextRow_102 rfl ?_
      refine x_icmp_ge C (pc := 104) (tgt := 148) dX12_nextRow_104 (by decide) (fun _ => ?_) (fun _ => ?_)
      · skip
        exact Xo.done (fun h => Yx.weak (lw_n (lw_n (lw_n (lw_n (lw_n (lw_n (lw_n lw_0))))))) h)
      · skip
        refine x_aload_n C (pc := 107) dX12_nextRow_107 rfl ?_
        refine x_getR C (pc := 108) fg_X12_46 dX12_nextRow_108 ht ?_
        refine x_iload C (pc := 111) dX12_nextRow_111 rfl ?_
        refine x_iald C (pc := 113) dX12_nextRow_113 (lkd_10_16 ht) (fun _ => ?_)
        refine x_istore C (pc := 114) (L' := fun i17 => [some (.ref t), none, none, none, some (.int i17), some (.int n14), some (.int n15)]) dX12_nextRow_114 (by decide) (fun _ => rfl) (fun i17 => ?_)
        refine x_aload_n C (pc := 116) dX12_nextRow_116 rfl ?_
        refine x_getR C (pc := 117) fg_X12_46 dX12_nextRow_117 ht ?_
        refine x_iload C (pc := 120) dX12_nextRow_120 rfl ?_
        refine x_aload_n C (pc := 122) dX12_nextRow_122 rfl ?_
        refine x_getR C (pc := 123) fg_X12_46 dX12_nextRow_123 ht ?_
        refine x_iload C (pc := 126) dX12_nextRow_126 rfl ?_
        refine x_iald C (pc := 128) dX12_nextRow_128 (lkd_10_16 ht) (fun _ => ?_)
        refine x_iastn C (pc := 129) dX12_nextRow_129 (lkd_10_16 ht) (fun s18 => ?_)
        refine x_aload_n C (pc := 130) dX12_nextRow_130 rfl ?_
        refine x_getR C (pc := 131) fg_X12_46 dX12_nextRow_131 ht ?_
        refine x_iload C (pc := 134) dX12_nextRow_134 rfl ?_
        refine x_iload C (pc := 136) dX12_nextRow_136 rfl ?_
        refine x_iastn C (pc := 138) dX12_nextRow_138 (lkd_10_16 ht) (fun s19 => ?_)
        refine x_iinc C (pc := 139) (L' := fun i20 => [some (.ref t), none, none, none, some (.int i17), some (.int i20), some (.int n15)]) dX12_nextRow_139 rfl kc_i_1 (by decide) (fun _ => rfl) (fun i20 => ?_)
        refine x_iinc C (pc := 142) (L' := fun i21 => [some (.ref t), none, none, none, some (.int i17), some (.int i20), some (.int i21)]) dX12_nextRow_142 rfl kc_i_m1 (by decide) (fun _ => rfl) (fun i21 => ?_)
        refine x_goto C (pc := 145) (tgt := 100) dX12_nextRow_145 (by decide) ?_
        exact Xo.done (fun h => Yx.weak (lw_s (lw_n (lw_n (lw_n (lw_n (lw_s (lw_s lw_0))))))) h)
    refine x_iconst C (pc := 148) dX12_nextRow_148 kc_i_1 ?_
    exact x_ret dX12_nextRow_149 (fun h => h zb_1)
  · skip
    refine x_iconst C (pc := 35) dX12_nextRow_35 kc_i_0 ?_
    exact x_ret dX12_nextRow_36 (fun h => h zb_0)
theorem ct_X12_nextRow (t : Nat) (ht : kd t = 10) (a : Int32) (s0 : SS) (r : Int32) (s2 : SS) (h : FX12_nextRow t a s0 = some (r, s2)) : CT 1 yX12_nextRow cX12_nextRow 7 (some .boolean) 0 0 [.ref t, .int a] s0 (some (.int r)) s2 :=
  ct_ofz (by decide +kernel) rfl (lx_args [.ref t, .int a]) (lx_entry [.ref t, .int a] (fun _ => Nat.le_of_ble_eq_true rfl)) (fun o C hR => Yx.weak (lw_s (lw_s (lw_z (lw_z (lw_z (lw_z (lw_z lw_0))))))) (bd_X12_nextRow C t ht a s0 (r, s2) h hR))
def FX12_court (t : Nat) (a : Int32) (s0 : SS) : Option (Int32 × SS) :=
  if (-1 : Int32) ≤ a then nm (nI 0) (fun (i1 : Int32) => nm (nI 0) (fun (i2 : Int32) => bd (lp FUEL (u3 (fun (n3 : Int32) (n4 : Int32) (s5 : SS) => gd (inb (nI 45) (ln (lk t 0))) (if (gI s5 (lk t 0) (Int32.toNatClampNeg (nI 45))) ≤ n4 then some (Sum.inr (n3, s5)) else (bd (FX12_isHeard t n4 s5) (fun (r6 : Int32) => bd (if r6 = 0 then gd (inb n3 (ln (lk t 16))) (nm (pI s5 (lk t 16) (Int32.toNatClampNeg n3) n4) (fun (s7 : SS) => nm (n3 + (nI 1)) (fun (i8 : Int32) => some ((i8, s7))))) else (some ((n3, s5)))) (u2 (fun (j9 : Int32) (s10 : SS) => nm (n4 + (nI 1)) (fun (i11 : Int32) => some (Sum.inl (j9, i11, s10)))))))))) (i1, i2, s0)) (u2 (fun (e12 : Int32) (s13 : SS) => nm (-1 : Int32) (fun (i14 : Int32) => nm (nI 1) (fun (i15 : Int32) => bd (lp FUEL (u3 (fun (n16 : Int32) (n17 : Int32) (s18 : SS) => if n17 = 0 then some (Sum.inr (n16, s18)) else (bd2 (FX12_wonBy t e12 s18) (fun (r19 : Int32) (s20 : SS) => nm r19 (fun (i21 : Int32) => bd (if i21 ≤ n16 then some ((n16, s20)) else (nm i21 (fun (i22 : Int32) => nm (nI 0) (fun (i23 : Int32) => bd (lp FUEL (u2 (fun (n24 : Int32) (s25 : SS) => if e12 ≤ n24 then some (Sum.inr s25) else (gd (inb n24 (ln (lk t 16))) (gd (inb n24 (ln (lk t 17))) (nm (pI s25 (lk t 17) (Int32.toNatClampNeg n24) (gI s25 (lk t 16) (Int32.toNatClampNeg n24))) (fun (s26 : SS) => nm (n24 + (nI 1)) (fun (i27 : Int32) => some (Sum.inl (i27, s26))))))))) (i23, s20)) (fun (s28 : SS) => some ((i22, s28))))))) (u2 (fun (j29 : Int32) (s30 : SS) => bd2 (FX12_nextRow t e12 s30) (fun (r31 : Int32) (s32 : SS) => nm r31 (fun (i33 : Int32) => some (Sum.inl (j29, i33, s32))))))))))) (i14, i15, s13)) (u2 (fun (e34 : Int32) (s35 : SS) => if a = (-1 : Int32) then some ((e34, s35)) else (if e12 ≤ a then some (((-5 : Int32), s35)) else (gd (inb a (ln (lk t 17))) (some (((gI s35 (lk t 17) (Int32.toNatClampNeg a)), s35))))))))))))) else (gd (inb (nI 0) (ln (lk t 6))) (gd (inb (nI 0) (ln (lk t 6))) (nm (pI s0 (lk t 6) (Int32.toNatClampNeg (nI 0)) ((gI s0 (lk t 6) (Int32.toNatClampNeg (nI 0))) + (nI 1))) (fun (s36 : SS) => some (((-10 : Int32), s36))))))
set_option maxRecDepth 100000 in
set_option maxHeartbeats 4000000 in
theorem bd_X12_court {o : Om} (C : Cx o RX12 cX12_court 7 (some .int) (rmx 3 67) 1) (t : Nat) (ht : kd t = 10) (a : Int32) (s0 : SS) : Xo (FX12_court t a s0) (fun r => RT o cX12_court (some (.int r.1)) r.2) (Yx o 0 [some (.ref t), some (.int a), none, none, none, none, none] [] s0) := by
  unfold FX12_court
  refine x_iload_n C (pc := 0) dX12_court_0 rfl ?_
  refine x_iconst C (pc := 1) dX12_court_1 kc_i_m1 ?_
  refine x_icmp_ge C (pc := 2) (tgt := 18) dX12_court_2 (by decide) (fun _ => ?_) (fun _ => ?_)
  · skip
    refine x_iconst C (pc := 18) dX12_court_18 kc_i_0 ?_
    refine x_istore_n C (pc := 19) (L' := fun i1 => [some (.ref t), some (.int a), some (.int i1), none, none, none, none]) dX12_court_19 (by decide) (fun _ => rfl) (fun i1 => ?_)
    refine x_iconst C (pc := 20) dX12_court_20 kc_i_0 ?_
    refine x_istore_n C (pc := 21) (L' := fun i2 => [some (.ref t), some (.int a), some (.int i1), some (.int i2), none, none, none]) dX12_court_21 (by decide) (fun _ => rfl) (fun i2 => ?_)
    refine xb_2 (Z1 := (fun e12 s13 => Yx o 57 [some (.ref t), some (.int a), some (.int e12), none, none, none, none] [] s13)) ?_ (fun e12 s13 => ?_)
    · refine Xo.mono (Yx.weak (lw_s (lw_s (lw_s (lw_s (lw_n (lw_n (lw_n lw_0)))))))) (x_lp3 (fr := fun n3 n4 s5 => Yx o 22 [some (.ref t), some (.int a), some (.int n3), some (.int n4), none, none, none] [] s5) _ _ _ (fun n3 n4 s5 => ?_))
      refine x_iload_n C (pc := 22) dX12_court_22 rfl ?_
      refine x_aload_n C (pc := 23) dX12_court_23 rfl ?_
      refine x_getR C (pc := 24) fg_X12_7 dX12_court_24 ht ?_
      refine x_bipush C (pc := 27) dX12_court_27 kc_b_45 ?_
      refine x_iald C (pc := 29) dX12_court_29 (lkd_10_0 ht) (fun _ => ?_)
      refine x_icmp_ge C (pc := 30) (tgt := 57) dX12_court_30 (by decide) (fun _ => ?_) (fun _ => ?_)
      · skip
        exact Xo.done (fun h => Yx.weak (lw_s (lw_s (lw_s (lw_n (lw_n (lw_n (lw_n lw_0))))))) h)
      · skip
        refine x_aload_n C (pc := 33) dX12_court_33 rfl ?_
        refine x_iload_n C (pc := 34) dX12_court_34 rfl ?_
        refine x_callVi C (pc := 35) mv_X12_191 ht rfl [.int n4] (fun _ hr => ct_X12_isHeard _ ht _ _ _ hr) ⟨Nat.le_of_ble_eq_true rfl, Nat.le_of_ble_eq_true rfl⟩ rfl (Nat.le_of_ble_eq_true rfl) rfl dX12_court_35 (fun r6 => ?_)
        refine xb_2 (Z1 := fun j9 s10 => Yx o 51 [some (.ref t), some (.int a), some (.int j9), some (.int n4), none, none, none] [] s10) ?_ (fun j9 s10 => ?_)
        · skip
          refine x_if_ne C (pc := 38) (tgt := 51) dX12_court_38 (by decide) (fun _ => ?_) (fun _ => ?_)
          · skip
            refine x_aload_n C (pc := 41) dX12_court_41 rfl ?_
            refine x_getR C (pc := 42) fg_X12_46 dX12_court_42 ht ?_
            refine x_iload_n C (pc := 45) dX12_court_45 rfl ?_
            refine x_iload_n C (pc := 46) dX12_court_46 rfl ?_
            refine x_iastn C (pc := 47) dX12_court_47 (lkd_10_16 ht) (fun s7 => ?_)
            refine x_iinc C (pc := 48) (L' := fun i8 => [some (.ref t), some (.int a), some (.int i8), some (.int n4), none, none, none]) dX12_court_48 rfl kc_i_1 (by decide) (fun _ => rfl) (fun i8 => ?_)
            exact Xo.done (fun h => Yx.weak (lw_s (lw_s (lw_s (lw_s (lw_n (lw_n (lw_n lw_0))))))) h)
          · skip
            exact Xo.done (fun h => Yx.weak (lw_s (lw_s (lw_s (lw_s (lw_n (lw_n (lw_n lw_0))))))) h)
        refine x_iinc C (pc := 51) (L' := fun i11 => [some (.ref t), some (.int a), some (.int j9), some (.int i11), none, none, none]) dX12_court_51 rfl kc_i_1 (by decide) (fun _ => rfl) (fun i11 => ?_)
        refine x_goto C (pc := 54) (tgt := 22) dX12_court_54 (by decide) ?_
        exact Xo.done (fun h => Yx.weak (lw_s (lw_s (lw_s (lw_s (lw_n (lw_n (lw_n lw_0))))))) h)
    refine x_iconst C (pc := 57) dX12_court_57 kc_i_m1 ?_
    refine x_istore_n C (pc := 58) (L' := fun i14 => [some (.ref t), some (.int a), some (.int e12), some (.int i14), none, none, none]) dX12_court_58 (by decide) (fun _ => rfl) (fun i14 => ?_)
    refine x_iconst C (pc := 59) dX12_court_59 kc_i_1 ?_
    refine x_istore C (pc := 60) (L' := fun i15 => [some (.ref t), some (.int a), some (.int e12), some (.int i14), some (.int i15), none, none]) dX12_court_60 (by decide) (fun _ => rfl) (fun i15 => ?_)
    refine xb_2 (Z1 := (fun e34 s35 => Yx o 122 [some (.ref t), some (.int a), some (.int e12), some (.int e34), none, none, none] [] s35)) ?_ (fun e34 s35 => ?_)
    · refine Xo.mono (Yx.weak (lw_s (lw_s (lw_s (lw_s (lw_s (lw_n (lw_n lw_0)))))))) (x_lp3 (fr := fun n16 n17 s18 => Yx o 62 [some (.ref t), some (.int a), some (.int e12), some (.int n16), some (.int n17), none, none] [] s18) _ _ _ (fun n16 n17 s18 => ?_))
      refine x_iload C (pc := 62) dX12_court_62 rfl ?_
      refine x_if_eq C (pc := 64) (tgt := 122) dX12_court_64 (by decide) (fun _ => ?_) (fun _ => ?_)
      · skip
        exact Xo.done (fun h => Yx.weak (lw_s (lw_s (lw_s (lw_s (lw_n (lw_n (lw_n lw_0))))))) h)
      · skip
        refine x_aload_n C (pc := 67) dX12_court_67 rfl ?_
        refine x_iload_n C (pc := 68) dX12_court_68 rfl ?_
        refine x_callVim C (pc := 69) mv_X12_228 ht rfl [.int e12] (fun _ _ hr => ct_X12_wonBy _ ht _ _ _ _ hr) ⟨Nat.le_of_ble_eq_true rfl, Nat.le_of_ble_eq_true rfl⟩ rfl (Nat.le_of_ble_eq_true rfl) rfl dX12_court_69 (fun r19 s20 => ?_)
        refine x_istore C (pc := 72) (L' := fun i21 => [some (.ref t), some (.int a), some (.int e12), some (.int n16), some (.int n17), some (.int i21), none]) dX12_court_72 (by decide) (fun _ => rfl) (fun i21 => ?_)
        refine x_iload C (pc := 74) dX12_court_74 rfl ?_
        refine x_iload_n C (pc := 76) dX12_court_76 rfl ?_
        refine xb_2 (Z1 := fun j29 s30 => Yx o 112 [some (.ref t), some (.int a), some (.int e12), some (.int j29), none, none, none] [] s30) ?_ (fun j29 s30 => ?_)
        · skip
          refine x_icmp_le C (pc := 77) (tgt := 112) dX12_court_77 (by decide) (fun _ => ?_) (fun _ => ?_)
          · skip
            exact Xo.done (fun h => Yx.weak (lw_s (lw_s (lw_s (lw_s (lw_n (lw_n (lw_n lw_0))))))) h)
          · skip
            refine x_iload C (pc := 80) dX12_court_80 rfl ?_
            refine x_istore_n C (pc := 82) (L' := fun i22 => [some (.ref t), some (.int a), some (.int e12), some (.int i22), some (.int n17), some (.int i21), none]) dX12_court_82 (by decide) (fun _ => rfl) (fun i22 => ?_)
            refine x_iconst C (pc := 83) dX12_court_83 kc_i_0 ?_
            refine x_istore C (pc := 84) (L' := fun i23 => [some (.ref t), some (.int a), some (.int e12), some (.int i22), some (.int n17), some (.int i21), some (.int i23)]) dX12_court_84 (by decide) (fun _ => rfl) (fun i23 => ?_)
            refine xb_1 (Z1 := (fun s28 => Yx o 112 [some (.ref t), some (.int a), some (.int e12), some (.int i22), none, none, none] [] s28)) ?_ (fun s28 => ?_)
            · refine Xo.mono (Yx.weak (lw_s (lw_s (lw_s (lw_s (lw_n (lw_n (lw_s lw_0)))))))) (x_lp2 (fr := fun n24 s25 => Yx o 86 [some (.ref t), some (.int a), some (.int e12), some (.int i22), none, none, some (.int n24)] [] s25) _ _ (fun n24 s25 => ?_))
              refine x_iload C (pc := 86) dX12_court_86 rfl ?_
              refine x_iload_n C (pc := 88) dX12_court_88 rfl ?_
              refine x_icmp_ge C (pc := 89) (tgt := 112) dX12_court_89 (by decide) (fun _ => ?_) (fun _ => ?_)
              · skip
                exact Xo.done (fun h => Yx.weak (lw_s (lw_s (lw_s (lw_s (lw_n (lw_n (lw_n lw_0))))))) h)
              · skip
                refine x_aload_n C (pc := 92) dX12_court_92 rfl ?_
                refine x_getR C (pc := 93) fg_X12_49 dX12_court_93 ht ?_
                refine x_iload C (pc := 96) dX12_court_96 rfl ?_
                refine x_aload_n C (pc := 98) dX12_court_98 rfl ?_
                refine x_getR C (pc := 99) fg_X12_46 dX12_court_99 ht ?_
                refine x_iload C (pc := 102) dX12_court_102 rfl ?_
                refine x_iald C (pc := 104) dX12_court_104 (lkd_10_16 ht) (fun _ => ?_)
                refine x_iastn C (pc := 105) dX12_court_105 (lkd_10_17 ht) (fun s26 => ?_)
                refine x_iinc C (pc := 106) (L' := fun i27 => [some (.ref t), some (.int a), some (.int e12), some (.int i22), none, none, some (.int i27)]) dX12_court_106 rfl kc_i_1 (by decide) (fun _ => rfl) (fun i27 => ?_)
                refine x_goto C (pc := 109) (tgt := 86) dX12_court_109 (by decide) ?_
                exact Xo.done (fun h => Yx.weak (lw_s (lw_s (lw_s (lw_s (lw_n (lw_n (lw_s lw_0))))))) h)
            exact Xo.done (fun h => Yx.weak (lw_s (lw_s (lw_s (lw_s (lw_n (lw_n (lw_n lw_0))))))) h)
        refine x_aload_n C (pc := 112) dX12_court_112 rfl ?_
        refine x_iload_n C (pc := 113) dX12_court_113 rfl ?_
        refine x_callVim C (pc := 114) mv_X12_231 ht rfl [.int e12] (fun _ _ hr => ct_X12_nextRow _ ht _ _ _ _ hr) ⟨Nat.le_of_ble_eq_true rfl, Nat.le_of_ble_eq_true rfl⟩ rfl (Nat.le_of_ble_eq_true rfl) rfl dX12_court_114 (fun r31 s32 => ?_)
        refine x_istore C (pc := 117) (L' := fun i33 => [some (.ref t), some (.int a), some (.int e12), some (.int j29), some (.int i33), none, none]) dX12_court_117 (by decide) (fun _ => rfl) (fun i33 => ?_)
        refine x_goto C (pc := 119) (tgt := 62) dX12_court_119 (by decide) ?_
        exact Xo.done (fun h => Yx.weak (lw_s (lw_s (lw_s (lw_s (lw_s (lw_n (lw_n lw_0))))))) h)
    refine x_iload_n C (pc := 122) dX12_court_122 rfl ?_
    refine x_iconst C (pc := 123) dX12_court_123 kc_i_m1 ?_
    refine x_icmp_ne C (pc := 124) (tgt := 131) dX12_court_124 (by decide) (fun _ => ?_) (fun _ => ?_)
    · skip
      refine x_iload_n C (pc := 127) dX12_court_127 rfl ?_
      refine x_goto C (pc := 128) (tgt := 147) dX12_court_128 (by decide) ?_
      exact x_ret dX12_court_147 (fun h => h)
    · skip
      refine x_iload_n C (pc := 131) dX12_court_131 rfl ?_
      refine x_iload_n C (pc := 132) dX12_court_132 rfl ?_
      refine x_icmp_ge C (pc := 133) (tgt := 145) dX12_court_133 (by decide) (fun _ => ?_) (fun _ => ?_)
      · skip
        refine x_bipush C (pc := 145) dX12_court_145 kc_b_m5 ?_
        exact x_ret dX12_court_147 (fun h => h)
      · skip
        refine x_aload_n C (pc := 136) dX12_court_136 rfl ?_
        refine x_getR C (pc := 137) fg_X12_49 dX12_court_137 ht ?_
        refine x_iload_n C (pc := 140) dX12_court_140 rfl ?_
        refine x_iald C (pc := 141) dX12_court_141 (lkd_10_17 ht) (fun _ => ?_)
        refine x_goto C (pc := 142) (tgt := 147) dX12_court_142 (by decide) ?_
        exact x_ret dX12_court_147 (fun h => h)
  · skip
    refine x_aload_n C (pc := 5) dX12_court_5 rfl ?_
    refine x_getR C (pc := 6) fg_X12_27 dX12_court_6 ht ?_
    refine x_iconst C (pc := 9) dX12_court_9 kc_i_0 ?_
    refine x_dup2 C (pc := 10) dX12_court_10 rfl rfl ?_
    refine x_iald C (pc := 11) dX12_court_11 (lkd_10_6 ht) (fun _ => ?_)
    refine x_iconst C (pc := 12) dX12_court_12 kc_i_1 ?_
    refine x_iadd C (pc := 13) dX12_court_13 ?_
    refine x_iastn C (pc := 14) dX12_court_14 (lkd_10_6 ht) (fun s36 => ?_)
    refine x_bipush C (pc := 15) dX12_court_15 kc_b_m10 ?_
    exact x_ret dX12_court_17 (fun h => h)
theorem ct_X12_court (t : Nat) (ht : kd t = 10) (a : Int32) (s0 : SS) (r : Int32) (s2 : SS) (h : FX12_court t a s0 = some (r, s2)) : CT 1 yX12_court cX12_court 7 (some .int) 3 67 [.ref t, .int a] s0 (some (.int r)) s2 :=
  ct_of (by decide +kernel) (Or.inr (Or.inl ⟨_, rfl, _, rfl, rfl⟩)) (lx_args [.ref t, .int a]) (lx_entry [.ref t, .int a] (fun _ => Nat.le_of_ble_eq_true rfl)) (fun o C hR => Yx.weak (lw_s (lw_s (lw_z (lw_z (lw_z (lw_z (lw_z lw_0))))))) (bd_X12_court C t ht a s0 (r, s2) h hR))
def FX12_settle (t : Nat) (s0 : SS) : Option (Int32) :=
  nm (nI 0) (fun (i1 : Int32) => nm (nI 0) (fun (i2 : Int32) => bd (lp FUEL (u2 (fun (n3 : Int32) (n4 : Int32) => gd (inb (nI 45) (ln (lk t 0))) (if (gI s0 (lk t 0) (Int32.toNatClampNeg (nI 45))) ≤ n4 then some (Sum.inr n3) else (bd (FX12_isHeard t n4 s0) (fun (r5 : Int32) => bd (if r5 = 0 then bd (FX12_awardNow t n4 s0) (fun (r6 : Int32) => if r6 < (nI 10) then some ((nI 0)) else (some (((nI 1) <<< (n4 &&& 31))))) else (some ((nI 0)))) (fun (j7 : Int32) => nm (n3 ||| j7) (fun (i8 : Int32) => nm (n4 + (nI 1)) (fun (i9 : Int32) => some (Sum.inl (i8, i9)))))))))) (i1, i2)) (fun (e10 : Int32) => some (e10))))
set_option maxRecDepth 100000 in
set_option maxHeartbeats 4000000 in
theorem bd_X12_settle {o : Om} (C : Cx o RX12 cX12_settle 3 (some .int) (rmx 3 64) 1) (t : Nat) (ht : kd t = 10) (s0 : SS) : Xo (FX12_settle t s0) (fun r => RT o cX12_settle (some (.int r)) s0) (Yx o 0 [some (.ref t), none, none] [] s0) := by
  unfold FX12_settle
  refine x_iconst C (pc := 0) dX12_settle_0 kc_i_0 ?_
  refine x_istore_n C (pc := 1) (L' := fun i1 => [some (.ref t), some (.int i1), none]) dX12_settle_1 (by decide) (fun _ => rfl) (fun i1 => ?_)
  refine x_iconst C (pc := 2) dX12_settle_2 kc_i_0 ?_
  refine x_istore_n C (pc := 3) (L' := fun i2 => [some (.ref t), some (.int i1), some (.int i2)]) dX12_settle_3 (by decide) (fun _ => rfl) (fun i2 => ?_)
  refine xb_1 (Z1 := (fun e10 => Yx o 49 [none, some (.int e10), none] [] s0)) ?_ (fun e10 => ?_)
  · refine Xo.mono (Yx.weak (lw_s (lw_s (lw_s lw_0)))) (x_lp2 (fr := fun n3 n4 => Yx o 4 [some (.ref t), some (.int n3), some (.int n4)] [] s0) _ _ (fun n3 n4 => ?_))
    refine x_iload_n C (pc := 4) dX12_settle_4 rfl ?_
    refine x_aload_n C (pc := 5) dX12_settle_5 rfl ?_
    refine x_getR C (pc := 6) fg_X12_7 dX12_settle_6 ht ?_
    refine x_bipush C (pc := 9) dX12_settle_9 kc_b_45 ?_
    refine x_iald C (pc := 11) dX12_settle_11 (lkd_10_0 ht) (fun _ => ?_)
    refine x_icmp_ge C (pc := 12) (tgt := 49) dX12_settle_12 (by decide) (fun _ => ?_) (fun _ => ?_)
    · skip
      exact Xo.done (fun h => Yx.weak (lw_n (lw_s (lw_n lw_0))) h)
    · skip
      refine x_iload_n C (pc := 15) dX12_settle_15 rfl ?_
      refine x_aload_n C (pc := 16) dX12_settle_16 rfl ?_
      refine x_iload_n C (pc := 17) dX12_settle_17 rfl ?_
      refine x_callVi C (pc := 18) mv_X12_191 ht rfl [.int n4] (fun _ hr => ct_X12_isHeard _ ht _ _ _ hr) ⟨Nat.le_of_ble_eq_true rfl, Nat.le_of_ble_eq_true rfl⟩ rfl (Nat.le_of_ble_eq_true rfl) rfl dX12_settle_18 (fun r5 => ?_)
      refine xb_1 (Z1 := fun j7 => Yx o 41 [some (.ref t), none, some (.int n4)] [.int j7, .int n3] s0) ?_ (fun j7 => ?_)
      · skip
        refine x_if_ne C (pc := 21) (tgt := 40) dX12_settle_21 (by decide) (fun _ => ?_) (fun _ => ?_)
        · skip
          refine x_aload_n C (pc := 24) dX12_settle_24 rfl ?_
          refine x_iload_n C (pc := 25) dX12_settle_25 rfl ?_
          refine x_callVi C (pc := 26) mv_X12_206 ht rfl [.int n4] (fun _ hr => ct_X12_awardNow _ ht _ _ _ hr) ⟨Nat.le_of_ble_eq_true rfl, Nat.le_of_ble_eq_true rfl⟩ rfl (Nat.le_of_ble_eq_true rfl) rfl dX12_settle_26 (fun r6 => ?_)
          refine x_bipush C (pc := 29) dX12_settle_29 kc_b_10 ?_
          refine x_icmp_lt C (pc := 31) (tgt := 40) dX12_settle_31 (by decide) (fun _ => ?_) (fun _ => ?_)
          · skip
            refine x_iconst C (pc := 40) dX12_settle_40 kc_i_0 ?_
            exact Xo.done (fun h => Yx.weak (lw_s (lw_n (lw_s lw_0))) h)
          · skip
            refine x_iconst C (pc := 34) dX12_settle_34 kc_i_1 ?_
            refine x_iload_n C (pc := 35) dX12_settle_35 rfl ?_
            refine x_ishl C (pc := 36) dX12_settle_36 ?_
            refine x_goto C (pc := 37) (tgt := 41) dX12_settle_37 (by decide) ?_
            exact Xo.done (fun h => Yx.weak (lw_s (lw_n (lw_s lw_0))) h)
        · skip
          refine x_iconst C (pc := 40) dX12_settle_40 kc_i_0 ?_
          exact Xo.done (fun h => Yx.weak (lw_s (lw_n (lw_s lw_0))) h)
      refine x_ior C (pc := 41) dX12_settle_41 ?_
      refine x_istore_n C (pc := 42) (L' := fun i8 => [some (.ref t), some (.int i8), some (.int n4)]) dX12_settle_42 (by decide) (fun _ => rfl) (fun i8 => ?_)
      refine x_iinc C (pc := 43) (L' := fun i9 => [some (.ref t), some (.int i8), some (.int i9)]) dX12_settle_43 rfl kc_i_1 (by decide) (fun _ => rfl) (fun i9 => ?_)
      refine x_goto C (pc := 46) (tgt := 4) dX12_settle_46 (by decide) ?_
      exact Xo.done (fun h => Yx.weak (lw_s (lw_s (lw_s lw_0))) h)
  refine x_iload_n C (pc := 49) dX12_settle_49 rfl ?_
  exact x_ret dX12_settle_50 (fun h => h)
theorem ct_X12_settle (t : Nat) (ht : kd t = 10) (s0 : SS) (r : Int32) (h : FX12_settle t s0 = some r) : CT 1 yX12_settle cX12_settle 3 (some .int) 3 64 [.ref t] s0 (some (.int r)) s0 :=
  ct_of (by decide +kernel) (Or.inr (Or.inl ⟨_, rfl, _, rfl, rfl⟩)) (lx_args [.ref t]) (lx_entry [.ref t] (fun _ => Nat.le_of_ble_eq_true rfl)) (fun o C hR => Yx.weak (lw_s (lw_z (lw_z lw_0))) (bd_X12_settle C t ht s0 r h hR))
def FX12_reading (t : Nat) (a : Int32) (b : Int32) (c : Int32) (s0 : SS) : Option (Int32 × SS) :=
  bd (FX12_in (Int32.toInt64 a) (lN 0) (7 : Int64) s0) (fun (r1 : Int32) => if r1 = 0 then bd2 (FX12_bad t s0) (fun (r2 : Int32) (s3 : SS) => some ((r2, s3))) else (bd (FX12_in (Int32.toInt64 b) (lN 0) (11 : Int64) s0) (fun (r4 : Int32) => if r4 = 0 then bd2 (FX12_bad t s0) (fun (r5 : Int32) (s6 : SS) => some ((r5, s6))) else (bd (FX12_in (Int32.toInt64 c) (lN 0) (20 : Int64) s0) (fun (r7 : Int32) => if r7 = 0 then bd2 (FX12_bad t s0) (fun (r8 : Int32) (s9 : SS) => some ((r8, s9))) else (gd (inb (nI 68) (ln (lk t 0))) (if (gI s0 (lk t 0) (Int32.toNatClampNeg (nI 68))) = (nI 4) then bd2 (FX12_full t s0) (fun (r10 : Int32) (s11 : SS) => some ((r10, s11))) else (gd (inb (nI 68) (ln (lk t 0))) (nm ((nI 69) + ((nI 3) * (gI s0 (lk t 0) (Int32.toNatClampNeg (nI 68))))) (fun (i12 : Int32) => gd (inb i12 (ln (lk t 0))) (nm (pI s0 (lk t 0) (Int32.toNatClampNeg i12) a) (fun (s13 : SS) => gd (inb (i12 + (nI 1)) (ln (lk t 0))) (nm (pI s13 (lk t 0) (Int32.toNatClampNeg (i12 + (nI 1))) b) (fun (s14 : SS) => gd (inb (i12 + (nI 2)) (ln (lk t 0))) (nm (pI s14 (lk t 0) (Int32.toNatClampNeg (i12 + (nI 2))) c) (fun (s15 : SS) => gd (inb (nI 68) (ln (lk t 0))) (gd (inb (nI 68) (ln (lk t 0))) (nm (pI s15 (lk t 0) (Int32.toNatClampNeg (nI 68)) ((gI s15 (lk t 0) (Int32.toNatClampNeg (nI 68))) + (nI 1))) (fun (s16 : SS) => gd (inb (nI 68) (ln (lk t 0))) (some (((gI s16 (lk t 0) (Int32.toNatClampNeg (nI 68))), s16))))))))))))))))))))))
set_option maxRecDepth 100000 in
set_option maxHeartbeats 4000000 in
theorem bd_X12_reading {o : Om} (C : Cx o RX12 cX12_reading 5 (some .int) (rmx 1 25) 1) (t : Nat) (ht : kd t = 10) (a : Int32) (b : Int32) (c : Int32) (s0 : SS) : Xo (FX12_reading t a b c s0) (fun r => RT o cX12_reading (some (.int r.1)) r.2) (Yx o 0 [some (.ref t), some (.int a), some (.int b), some (.int c), none] [] s0) := by
  unfold FX12_reading
  refine x_iload_n C (pc := 0) dX12_reading_0 rfl ?_
  refine x_i2l C (pc := 1) dX12_reading_1 ?_
  refine x_lconst C (pc := 2) dX12_reading_2 (v := lN 0) rfl ?_
  refine x_ldc2 C (pc := 3) dX12_reading_3 cl_X12_97 ?_
  refine x_callSi C (pc := 6) ms_X12_55 [.long (Int32.toInt64 a), .long (lN 0), .long (7 : Int64)] (fun _ hr => ct_X12_in _ _ _ _ _ hr) ⟨Nat.le_of_ble_eq_true rfl, Nat.le_of_ble_eq_true rfl⟩ rfl (Nat.le_of_ble_eq_true rfl) rfl dX12_reading_6 (fun r1 => ?_)
  refine x_if_eq C (pc := 9) (tgt := 36) dX12_reading_9 (by decide) (fun _ => ?_) (fun _ => ?_)
  · skip
    refine x_aload_n C (pc := 36) dX12_reading_36 rfl ?_
    refine x_callVim C (pc := 37) mv_X12_101 ht rfl [] (fun _ _ hr => ct_X12_bad _ ht _ _ _ hr) ⟨Nat.le_of_ble_eq_true rfl, Nat.le_of_ble_eq_true rfl⟩ rfl (Nat.le_of_ble_eq_true rfl) rfl dX12_reading_37 (fun r2 s3 => ?_)
    exact x_ret dX12_reading_40 (fun h => h)
  · skip
    refine x_iload_n C (pc := 12) dX12_reading_12 rfl ?_
    refine x_i2l C (pc := 13) dX12_reading_13 ?_
    refine x_lconst C (pc := 14) dX12_reading_14 (v := lN 0) rfl ?_
    refine x_ldc2 C (pc := 15) dX12_reading_15 cl_X12_107 ?_
    refine x_callSi C (pc := 18) ms_X12_55 [.long (Int32.toInt64 b), .long (lN 0), .long (11 : Int64)] (fun _ hr => ct_X12_in _ _ _ _ _ hr) ⟨Nat.le_of_ble_eq_true rfl, Nat.le_of_ble_eq_true rfl⟩ rfl (Nat.le_of_ble_eq_true rfl) rfl dX12_reading_18 (fun r4 => ?_)
    refine x_if_eq C (pc := 21) (tgt := 36) dX12_reading_21 (by decide) (fun _ => ?_) (fun _ => ?_)
    · skip
      refine x_aload_n C (pc := 36) dX12_reading_36 rfl ?_
      refine x_callVim C (pc := 37) mv_X12_101 ht rfl [] (fun _ _ hr => ct_X12_bad _ ht _ _ _ hr) ⟨Nat.le_of_ble_eq_true rfl, Nat.le_of_ble_eq_true rfl⟩ rfl (Nat.le_of_ble_eq_true rfl) rfl dX12_reading_37 (fun r5 s6 => ?_)
      exact x_ret dX12_reading_40 (fun h => h)
    · skip
      refine x_iload_n C (pc := 24) dX12_reading_24 rfl ?_
      refine x_i2l C (pc := 25) dX12_reading_25 ?_
      refine x_lconst C (pc := 26) dX12_reading_26 (v := lN 0) rfl ?_
      refine x_ldc2 C (pc := 27) dX12_reading_27 cl_X12_99 ?_
      refine x_callSi C (pc := 30) ms_X12_55 [.long (Int32.toInt64 c), .long (lN 0), .long (20 : Int64)] (fun _ hr => ct_X12_in _ _ _ _ _ hr) ⟨Nat.le_of_ble_eq_true rfl, Nat.le_of_ble_eq_true rfl⟩ rfl (Nat.le_of_ble_eq_true rfl) rfl dX12_reading_30 (fun r7 => ?_)
      refine x_if_ne C (pc := 33) (tgt := 41) dX12_reading_33 (by decide) (fun _ => ?_) (fun _ => ?_)
      · skip
        refine x_aload_n C (pc := 36) dX12_reading_36 rfl ?_
        refine x_callVim C (pc := 37) mv_X12_101 ht rfl [] (fun _ _ hr => ct_X12_bad _ ht _ _ _ hr) ⟨Nat.le_of_ble_eq_true rfl, Nat.le_of_ble_eq_true rfl⟩ rfl (Nat.le_of_ble_eq_true rfl) rfl dX12_reading_37 (fun r8 s9 => ?_)
        exact x_ret dX12_reading_40 (fun h => h)
      · skip
        refine x_aload_n C (pc := 41) dX12_reading_41 rfl ?_
        refine x_getR C (pc := 42) fg_X12_7 dX12_reading_42 ht ?_
        refine x_bipush C (pc := 45) dX12_reading_45 kc_b_68 ?_
        refine x_iald C (pc := 47) dX12_reading_47 (lkd_10_0 ht) (fun _ => ?_)
        refine x_iconst C (pc := 48) dX12_reading_48 kc_i_4 ?_
        refine x_icmp_ne C (pc := 49) (tgt := 57) dX12_reading_49 (by decide) (fun _ => ?_) (fun _ => ?_)
        · skip
          refine x_aload_n C (pc := 52) dX12_reading_52 rfl ?_
          refine x_callVim C (pc := 53) mv_X12_111 ht rfl [] (fun _ _ hr => ct_X12_full _ ht _ _ _ hr) ⟨Nat.le_of_ble_eq_true rfl, Nat.le_of_ble_eq_true rfl⟩ rfl (Nat.le_of_ble_eq_true rfl) rfl dX12_reading_53 (fun r10 s11 => ?_)
          exact x_ret dX12_reading_56 (fun h => h)
        · skip
          refine x_bipush C (pc := 57) dX12_reading_57 kc_b_69 ?_
          refine x_iconst C (pc := 59) dX12_reading_59 kc_i_3 ?_
          refine x_aload_n C (pc := 60) dX12_reading_60 rfl ?_
          refine x_getR C (pc := 61) fg_X12_7 dX12_reading_61 ht ?_
          refine x_bipush C (pc := 64) dX12_reading_64 kc_b_68 ?_
          refine x_iald C (pc := 66) dX12_reading_66 (lkd_10_0 ht) (fun _ => ?_)
          refine x_imul C (pc := 67) dX12_reading_67 ?_
          refine x_iadd C (pc := 68) dX12_reading_68 ?_
          refine x_istore C (pc := 69) (L' := fun i12 => [some (.ref t), some (.int a), some (.int b), some (.int c), some (.int i12)]) dX12_reading_69 (by decide) (fun _ => rfl) (fun i12 => ?_)
          refine x_aload_n C (pc := 71) dX12_reading_71 rfl ?_
          refine x_getR C (pc := 72) fg_X12_7 dX12_reading_72 ht ?_
          refine x_iload C (pc := 75) dX12_reading_75 rfl ?_
          refine x_iload_n C (pc := 77) dX12_reading_77 rfl ?_
          refine x_iastn C (pc := 78) dX12_reading_78 (lkd_10_0 ht) (fun s13 => ?_)
          refine x_aload_n C (pc := 79) dX12_reading_79 rfl ?_
          refine x_getR C (pc := 80) fg_X12_7 dX12_reading_80 ht ?_
          refine x_iload C (pc := 83) dX12_reading_83 rfl ?_
          refine x_iconst C (pc := 85) dX12_reading_85 kc_i_1 ?_
          refine x_iadd C (pc := 86) dX12_reading_86 ?_
          refine x_iload_n C (pc := 87) dX12_reading_87 rfl ?_
          refine x_iastn C (pc := 88) dX12_reading_88 (lkd_10_0 ht) (fun s14 => ?_)
          refine x_aload_n C (pc := 89) dX12_reading_89 rfl ?_
          refine x_getR C (pc := 90) fg_X12_7 dX12_reading_90 ht ?_
          refine x_iload C (pc := 93) dX12_reading_93 rfl ?_
          refine x_iconst C (pc := 95) dX12_reading_95 kc_i_2 ?_
          refine x_iadd C (pc := 96) dX12_reading_96 ?_
          refine x_iload_n C (pc := 97) dX12_reading_97 rfl ?_
          refine x_iastn C (pc := 98) dX12_reading_98 (lkd_10_0 ht) (fun s15 => ?_)
          refine x_aload_n C (pc := 99) dX12_reading_99 rfl ?_
          refine x_getR C (pc := 100) fg_X12_7 dX12_reading_100 ht ?_
          refine x_bipush C (pc := 103) dX12_reading_103 kc_b_68 ?_
          refine x_dup2 C (pc := 105) dX12_reading_105 rfl rfl ?_
          refine x_iald C (pc := 106) dX12_reading_106 (lkd_10_0 ht) (fun _ => ?_)
          refine x_iconst C (pc := 107) dX12_reading_107 kc_i_1 ?_
          refine x_iadd C (pc := 108) dX12_reading_108 ?_
          refine x_iastn C (pc := 109) dX12_reading_109 (lkd_10_0 ht) (fun s16 => ?_)
          refine x_aload_n C (pc := 110) dX12_reading_110 rfl ?_
          refine x_getR C (pc := 111) fg_X12_7 dX12_reading_111 ht ?_
          refine x_bipush C (pc := 114) dX12_reading_114 kc_b_68 ?_
          refine x_iald C (pc := 116) dX12_reading_116 (lkd_10_0 ht) (fun _ => ?_)
          exact x_ret dX12_reading_117 (fun h => h)
theorem ct_X12_reading (t : Nat) (ht : kd t = 10) (a : Int32) (b : Int32) (c : Int32) (s0 : SS) (r : Int32) (s2 : SS) (h : FX12_reading t a b c s0 = some (r, s2)) : CT 1 yX12_reading cX12_reading 5 (some .int) 1 25 [.ref t, .int a, .int b, .int c] s0 (some (.int r)) s2 :=
  ct_of (by decide +kernel) (Or.inr (Or.inl ⟨_, rfl, _, rfl, rfl⟩)) (lx_args [.ref t, .int a, .int b, .int c]) (lx_entry [.ref t, .int a, .int b, .int c] (fun _ => Nat.le_of_ble_eq_true rfl)) (fun o C hR => Yx.weak (lw_s (lw_s (lw_s (lw_s (lw_z lw_0))))) (bd_X12_reading C t ht a b c s0 (r, s2) h hR))
def FX12_isSo (t : Nat) (a : Int32) (s0 : SS) : Option (Int32 × SS) :=
  nm (nI 1) (fun (i1 : Int32) => nm (nI 0) (fun (i2 : Int32) => bd (lp FUEL (u3 (fun (n3 : Int32) (n4 : Int32) (s5 : SS) => gd (inb (nI 68) (ln (lk t 0))) (if (gI s5 (lk t 0) (Int32.toNatClampNeg (nI 68))) ≤ n4 then some (Sum.inr (n3, s5)) else (nm ((nI 69) + ((nI 3) * n4)) (fun (i6 : Int32) => gd (inb i6 (ln (lk t 0))) (bd (FX12_blowOf t (lk t 0) (gI s5 (lk t 0) (Int32.toNatClampNeg i6)) a s5) (fun (s7 : SS) => bd (if n3 = 0 then some ((nI 0)) else (gd (inb (i6 + (nI 1)) (ln (lk t 0))) (gd (inb (gI s7 (lk t 0) (Int32.toNatClampNeg (i6 + (nI 1)))) (ln (lk t 9))) (gd (inb (i6 + (nI 2)) (ln (lk t 0))) (if (gI s7 (lk t 9) (Int32.toNatClampNeg (gI s7 (lk t 0) (Int32.toNatClampNeg (i6 + (nI 1)))))) = (gI s7 (lk t 0) (Int32.toNatClampNeg (i6 + (nI 2)))) then some ((nI 1)) else (some ((nI 0)))))))) (fun (j8 : Int32) => nm j8 (fun (i9 : Int32) => nm (n4 + (nI 1)) (fun (i10 : Int32) => some (Sum.inl (i9, i10, s7)))))))))))) (i1, i2, s0)) (u2 (fun (e11 : Int32) (s12 : SS) => gd (zb e11) (some ((e11, s12)))))))
set_option maxRecDepth 100000 in
set_option maxHeartbeats 4000000 in
theorem bd_X12_isSo {o : Om} (C : Cx o RX12 cX12_isSo 5 (some .boolean) (rmx 3 75) 1) (t : Nat) (ht : kd t = 10) (a : Int32) (s0 : SS) : Xo (FX12_isSo t a s0) (fun r => zb r.1 = true → RT o cX12_isSo (some (.int r.1)) r.2) (Yx o 0 [some (.ref t), some (.int a), none, none, none] [] s0) := by
  unfold FX12_isSo
  refine x_iconst C (pc := 0) dX12_isSo_0 kc_i_1 ?_
  refine x_istore_n C (pc := 1) (L' := fun i1 => [some (.ref t), some (.int a), some (.int i1), none, none]) dX12_isSo_1 (by decide) (fun _ => rfl) (fun i1 => ?_)
  refine x_iconst C (pc := 2) dX12_isSo_2 kc_i_0 ?_
  refine x_istore_n C (pc := 3) (L' := fun i2 => [some (.ref t), some (.int a), some (.int i1), some (.int i2), none]) dX12_isSo_3 (by decide) (fun _ => rfl) (fun i2 => ?_)
  refine xb_2 (Z1 := (fun e11 s12 => Yx o 81 [none, none, some (.int e11), none, none] [] s12)) ?_ (fun e11 s12 => ?_)
  · refine Xo.mono (Yx.weak (lw_s (lw_s (lw_s (lw_s (lw_n lw_0)))))) (x_lp3 (fr := fun n3 n4 s5 => Yx o 4 [some (.ref t), some (.int a), some (.int n3), some (.int n4), none] [] s5) _ _ _ (fun n3 n4 s5 => ?_))
    refine x_iload_n C (pc := 4) dX12_isSo_4 rfl ?_
    refine x_aload_n C (pc := 5) dX12_isSo_5 rfl ?_
    refine x_getR C (pc := 6) fg_X12_7 dX12_isSo_6 ht ?_
    refine x_bipush C (pc := 9) dX12_isSo_9 kc_b_68 ?_
    refine x_iald C (pc := 11) dX12_isSo_11 (lkd_10_0 ht) (fun _ => ?_)
    refine x_icmp_ge C (pc := 12) (tgt := 81) dX12_isSo_12 (by decide) (fun _ => ?_) (fun _ => ?_)
    · skip
      exact Xo.done (fun h => Yx.weak (lw_n (lw_n (lw_s (lw_n (lw_n lw_0))))) h)
    · skip
      refine x_bipush C (pc := 15) dX12_isSo_15 kc_b_69 ?_
      refine x_iconst C (pc := 17) dX12_isSo_17 kc_i_3 ?_
      refine x_iload_n C (pc := 18) dX12_isSo_18 rfl ?_
      refine x_imul C (pc := 19) dX12_isSo_19 ?_
      refine x_iadd C (pc := 20) dX12_isSo_20 ?_
      refine x_istore C (pc := 21) (L' := fun i6 => [some (.ref t), some (.int a), some (.int n3), some (.int n4), some (.int i6)]) dX12_isSo_21 (by decide) (fun _ => rfl) (fun i6 => ?_)
      refine x_aload_n C (pc := 23) dX12_isSo_23 rfl ?_
      refine x_aload_n C (pc := 24) dX12_isSo_24 rfl ?_
      refine x_getR C (pc := 25) fg_X12_7 dX12_isSo_25 ht ?_
      refine x_aload_n C (pc := 28) dX12_isSo_28 rfl ?_
      refine x_getR C (pc := 29) fg_X12_7 dX12_isSo_29 ht ?_
      refine x_iload C (pc := 32) dX12_isSo_32 rfl ?_
      refine x_iald C (pc := 34) dX12_isSo_34 (lkd_10_0 ht) (fun _ => ?_)
      refine x_iload_n C (pc := 35) dX12_isSo_35 rfl ?_
      refine x_callVv C (pc := 36) mv_X12_78 ht rfl [.ref (lk t 0), .int (gI s5 (lk t 0) (Int32.toNatClampNeg i6)), .int a] (fun _ hr => ct_X12_blowOf _ ht _ (lkd_10_0 ht) _ _ _ _ hr) ⟨Nat.le_of_ble_eq_true rfl, Nat.le_of_ble_eq_true rfl⟩ rfl (Nat.le_of_ble_eq_true rfl) rfl dX12_isSo_36 (fun s7 => ?_)
      refine x_iload_n C (pc := 39) dX12_isSo_39 rfl ?_
      refine xb_1 (Z1 := fun j8 => Yx o 74 [some (.ref t), some (.int a), none, some (.int n4), none] [.int j8] s7) ?_ (fun j8 => ?_)
      · skip
        refine x_if_eq C (pc := 40) (tgt := 73) dX12_isSo_40 (by decide) (fun _ => ?_) (fun _ => ?_)
        · skip
          refine x_iconst C (pc := 73) dX12_isSo_73 kc_i_0 ?_
          exact Xo.done (fun h => Yx.weak (lw_s (lw_s (lw_n (lw_s (lw_n lw_0))))) h)
        · skip
          refine x_aload_n C (pc := 43) dX12_isSo_43 rfl ?_
          refine x_getR C (pc := 44) fg_X12_36 dX12_isSo_44 ht ?_
          refine x_aload_n C (pc := 47) dX12_isSo_47 rfl ?_
          refine x_getR C (pc := 48) fg_X12_7 dX12_isSo_48 ht ?_
          refine x_iload C (pc := 51) dX12_isSo_51 rfl ?_
          refine x_iconst C (pc := 53) dX12_isSo_53 kc_i_1 ?_
          refine x_iadd C (pc := 54) dX12_isSo_54 ?_
          refine x_iald C (pc := 55) dX12_isSo_55 (lkd_10_0 ht) (fun _ => ?_)
          refine x_iald C (pc := 56) dX12_isSo_56 (lkd_10_9 ht) (fun _ => ?_)
          refine x_aload_n C (pc := 57) dX12_isSo_57 rfl ?_
          refine x_getR C (pc := 58) fg_X12_7 dX12_isSo_58 ht ?_
          refine x_iload C (pc := 61) dX12_isSo_61 rfl ?_
          refine x_iconst C (pc := 63) dX12_isSo_63 kc_i_2 ?_
          refine x_iadd C (pc := 64) dX12_isSo_64 ?_
          refine x_iald C (pc := 65) dX12_isSo_65 (lkd_10_0 ht) (fun _ => ?_)
          refine x_icmp_ne C (pc := 66) (tgt := 73) dX12_isSo_66 (by decide) (fun _ => ?_) (fun _ => ?_)
          · skip
            refine x_iconst C (pc := 69) dX12_isSo_69 kc_i_1 ?_
            refine x_goto C (pc := 70) (tgt := 74) dX12_isSo_70 (by decide) ?_
            exact Xo.done (fun h => Yx.weak (lw_s (lw_s (lw_n (lw_s (lw_n lw_0))))) h)
          · skip
            refine x_iconst C (pc := 73) dX12_isSo_73 kc_i_0 ?_
            exact Xo.done (fun h => Yx.weak (lw_s (lw_s (lw_n (lw_s (lw_n lw_0))))) h)
      refine x_istore_n C (pc := 74) (L' := fun i9 => [some (.ref t), some (.int a), some (.int i9), some (.int n4), none]) dX12_isSo_74 (by decide) (fun _ => rfl) (fun i9 => ?_)
      refine x_iinc C (pc := 75) (L' := fun i10 => [some (.ref t), some (.int a), some (.int i9), some (.int i10), none]) dX12_isSo_75 rfl kc_i_1 (by decide) (fun _ => rfl) (fun i10 => ?_)
      refine x_goto C (pc := 78) (tgt := 4) dX12_isSo_78 (by decide) ?_
      exact Xo.done (fun h => Yx.weak (lw_s (lw_s (lw_s (lw_s (lw_n lw_0))))) h)
  refine x_iload_n C (pc := 81) dX12_isSo_81 rfl ?_
  refine Xo.gd (fun hz => ?_)
  exact x_ret dX12_isSo_82 (fun h => h hz)
theorem ct_X12_isSo (t : Nat) (ht : kd t = 10) (a : Int32) (s0 : SS) (r : Int32) (s2 : SS) (h : FX12_isSo t a s0 = some (r, s2)) : CT 1 yX12_isSo cX12_isSo 5 (some .boolean) 3 75 [.ref t, .int a] s0 (some (.int r)) s2 :=
  ct_ofz (by decide +kernel) rfl (lx_args [.ref t, .int a]) (lx_entry [.ref t, .int a] (fun _ => Nat.le_of_ble_eq_true rfl)) (fun o C hR => Yx.weak (lw_s (lw_s (lw_z (lw_z (lw_z lw_0))))) (bd_X12_isSo C t ht a s0 (r, s2) h hR))
def FX12_stood (t : Nat) (a : Int32) (s0 : SS) : Option (Int32 × SS) :=
  bd (FX12_in (Int32.toInt64 a) (lN 0) (2 : Int64) s0) (fun (r1 : Int32) => if r1 = 0 then bd2 (FX12_bad t s0) (fun (r2 : Int32) (s3 : SS) => some ((r2, s3))) else (nm (nI 0) (fun (i4 : Int32) => bd (FX12_everyone (lk t 0) s0) (fun (r5 : Int32) => nm r5 (fun (i6 : Int32) => nm (nI 0) (fun (i7 : Int32) => nm (nI 0) (fun (i8 : Int32) => bd (lp FUEL (u5 (fun (n9 : Int32) (n10 : Int32) (n11 : Int32) (n12 : Int32) (s13 : SS) => bd (FX12_everyone (lk t 0) s13) (fun (r14 : Int32) => if r14 < n12 then some (Sum.inr (n9, n10, n11, s13)) else (bd2 (FX12_isSo t n12 s13) (fun (r15 : Int32) (s16 : SS) => bd (if r15 = 0 then some ((n9, n10, n11)) else (nm (n9 + (nI 1)) (fun (i17 : Int32) => nm (n10 &&& n12) (fun (i18 : Int32) => nm (n11 ||| n12) (fun (i19 : Int32) => some ((i17, i18, i19))))))) (u3 (fun (j20 : Int32) (j21 : Int32) (j22 : Int32) => nm (n12 + (nI 1)) (fun (i23 : Int32) => some (Sum.inl (j20, j21, j22, i23, s16)))))))))) (i4, i6, i7, i8, s0)) (u4 (fun (e24 : Int32) (e25 : Int32) (e26 : Int32) (s27 : SS) => if a = 0 then some ((e24, s27)) else (if a = (nI 2) then some ((e26, s27)) else (if e24 = 0 then some (((-1 : Int32), s27)) else (some ((e25, s27))))))))))))))
set_option maxRecDepth 100000 in
set_option maxHeartbeats 4000000 in
theorem bd_X12_stood {o : Om} (C : Cx o RX12 cX12_stood 6 (some .int) (rmx 4 99) 1) (t : Nat) (ht : kd t = 10) (a : Int32) (s0 : SS) : Xo (FX12_stood t a s0) (fun r => RT o cX12_stood (some (.int r.1)) r.2) (Yx o 0 [some (.ref t), some (.int a), none, none, none, none] [] s0) := by
  unfold FX12_stood
  refine x_iload_n C (pc := 0) dX12_stood_0 rfl ?_
  refine x_i2l C (pc := 1) dX12_stood_1 ?_
  refine x_lconst C (pc := 2) dX12_stood_2 (v := lN 0) rfl ?_
  refine x_ldc2 C (pc := 3) dX12_stood_3 cl_X12_234 ?_
  refine x_callSi C (pc := 6) ms_X12_55 [.long (Int32.toInt64 a), .long (lN 0), .long (2 : Int64)] (fun _ hr => ct_X12_in _ _ _ _ _ hr) ⟨Nat.le_of_ble_eq_true rfl, Nat.le_of_ble_eq_true rfl⟩ rfl (Nat.le_of_ble_eq_true rfl) rfl dX12_stood_6 (fun r1 => ?_)
  refine x_if_ne C (pc := 9) (tgt := 17) dX12_stood_9 (by decide) (fun _ => ?_) (fun _ => ?_)
  · skip
    refine x_aload_n C (pc := 12) dX12_stood_12 rfl ?_
    refine x_callVim C (pc := 13) mv_X12_101 ht rfl [] (fun _ _ hr => ct_X12_bad _ ht _ _ _ hr) ⟨Nat.le_of_ble_eq_true rfl, Nat.le_of_ble_eq_true rfl⟩ rfl (Nat.le_of_ble_eq_true rfl) rfl dX12_stood_13 (fun r2 s3 => ?_)
    exact x_ret dX12_stood_16 (fun h => h)
  · skip
    refine x_iconst C (pc := 17) dX12_stood_17 kc_i_0 ?_
    refine x_istore_n C (pc := 18) (L' := fun i4 => [some (.ref t), some (.int a), some (.int i4), none, none, none]) dX12_stood_18 (by decide) (fun _ => rfl) (fun i4 => ?_)
    refine x_aload_n C (pc := 19) dX12_stood_19 rfl ?_
    refine x_getR C (pc := 20) fg_X12_7 dX12_stood_20 ht ?_
    refine x_callSi C (pc := 23) ms_X12_82 [.ref (lk t 0)] (fun _ hr => ct_X12_everyone _ (lkd_10_0 ht) _ _ hr) ⟨Nat.le_of_ble_eq_true rfl, Nat.le_of_ble_eq_true rfl⟩ rfl (Nat.le_of_ble_eq_true rfl) rfl dX12_stood_23 (fun r5 => ?_)
    refine x_istore_n C (pc := 26) (L' := fun i6 => [some (.ref t), some (.int a), some (.int i4), some (.int i6), none, none]) dX12_stood_26 (by decide) (fun _ => rfl) (fun i6 => ?_)
    refine x_iconst C (pc := 27) dX12_stood_27 kc_i_0 ?_
    refine x_istore C (pc := 28) (L' := fun i7 => [some (.ref t), some (.int a), some (.int i4), some (.int i6), some (.int i7), none]) dX12_stood_28 (by decide) (fun _ => rfl) (fun i7 => ?_)
    refine x_iconst C (pc := 30) dX12_stood_30 kc_i_0 ?_
    refine x_istore C (pc := 31) (L' := fun i8 => [some (.ref t), some (.int a), some (.int i4), some (.int i6), some (.int i7), some (.int i8)]) dX12_stood_31 (by decide) (fun _ => rfl) (fun i8 => ?_)
    refine xb_4 (Z1 := (fun e24 e25 e26 s27 => Yx o 75 [none, some (.int a), some (.int e24), some (.int e25), some (.int e26), none] [] s27)) ?_ (fun e24 e25 e26 s27 => ?_)
    · refine Xo.mono (Yx.weak (lw_s (lw_s (lw_s (lw_s (lw_s (lw_s lw_0))))))) (x_lp5 (fr := fun n9 n10 n11 n12 s13 => Yx o 33 [some (.ref t), some (.int a), some (.int n9), some (.int n10), some (.int n11), some (.int n12)] [] s13) _ _ _ _ _ (fun n9 n10 n11 n12 s13 => ?_))
      refine x_iload C (pc := 33) dX12_stood_33 rfl ?_
      refine x_aload_n C (pc := 35) dX12_stood_35 rfl ?_
      refine x_getR C (pc := 36) fg_X12_7 dX12_stood_36 ht ?_
      refine x_callSi C (pc := 39) ms_X12_82 [.ref (lk t 0)] (fun _ hr => ct_X12_everyone _ (lkd_10_0 ht) _ _ hr) ⟨Nat.le_of_ble_eq_true rfl, Nat.le_of_ble_eq_true rfl⟩ rfl (Nat.le_of_ble_eq_true rfl) rfl dX12_stood_39 (fun r14 => ?_)
      refine x_icmp_gt C (pc := 42) (tgt := 75) dX12_stood_42 (by decide) (fun _ => ?_) (fun _ => ?_)
      · skip
        exact Xo.done (fun h => Yx.weak (lw_n (lw_s (lw_s (lw_s (lw_s (lw_n lw_0)))))) h)
      · skip
        refine x_aload_n C (pc := 45) dX12_stood_45 rfl ?_
        refine x_iload C (pc := 46) dX12_stood_46 rfl ?_
        refine x_callVim C (pc := 48) mv_X12_236 ht rfl [.int n12] (fun _ _ hr => ct_X12_isSo _ ht _ _ _ _ hr) ⟨Nat.le_of_ble_eq_true rfl, Nat.le_of_ble_eq_true rfl⟩ rfl (Nat.le_of_ble_eq_true rfl) rfl dX12_stood_48 (fun r15 s16 => ?_)
        refine xb_3 (Z1 := fun j20 j21 j22 => Yx o 69 [some (.ref t), some (.int a), some (.int j20), some (.int j21), some (.int j22), some (.int n12)] [] s16) ?_ (fun j20 j21 j22 => ?_)
        · skip
          refine x_if_eq C (pc := 51) (tgt := 69) dX12_stood_51 (by decide) (fun _ => ?_) (fun _ => ?_)
          · skip
            exact Xo.done (fun h => Yx.weak (lw_s (lw_s (lw_s (lw_s (lw_s (lw_s lw_0)))))) h)
          · skip
            refine x_iinc C (pc := 54) (L' := fun i17 => [some (.ref t), some (.int a), some (.int i17), some (.int n10), some (.int n11), some (.int n12)]) dX12_stood_54 rfl kc_i_1 (by decide) (fun _ => rfl) (fun i17 => ?_)
            refine x_iload_n C (pc := 57) dX12_stood_57 rfl ?_
            refine x_iload C (pc := 58) dX12_stood_58 rfl ?_
            refine x_iand C (pc := 60) dX12_stood_60 ?_
            refine x_istore_n C (pc := 61) (L' := fun i18 => [some (.ref t), some (.int a), some (.int i17), some (.int i18), some (.int n11), some (.int n12)]) dX12_stood_61 (by decide) (fun _ => rfl) (fun i18 => ?_)
            refine x_iload C (pc := 62) dX12_stood_62 rfl ?_
            refine x_iload C (pc := 64) dX12_stood_64 rfl ?_
            refine x_ior C (pc := 66) dX12_stood_66 ?_
            refine x_istore C (pc := 67) (L' := fun i19 => [some (.ref t), some (.int a), some (.int i17), some (.int i18), some (.int i19), some (.int n12)]) dX12_stood_67 (by decide) (fun _ => rfl) (fun i19 => ?_)
            exact Xo.done (fun h => Yx.weak (lw_s (lw_s (lw_s (lw_s (lw_s (lw_s lw_0)))))) h)
        refine x_iinc C (pc := 69) (L' := fun i23 => [some (.ref t), some (.int a), some (.int j20), some (.int j21), some (.int j22), some (.int i23)]) dX12_stood_69 rfl kc_i_1 (by decide) (fun _ => rfl) (fun i23 => ?_)
        refine x_goto C (pc := 72) (tgt := 33) dX12_stood_72 (by decide) ?_
        exact Xo.done (fun h => Yx.weak (lw_s (lw_s (lw_s (lw_s (lw_s (lw_s lw_0)))))) h)
    refine x_iload_n C (pc := 75) dX12_stood_75 rfl ?_
    refine x_if_ne C (pc := 76) (tgt := 83) dX12_stood_76 (by decide) (fun _ => ?_) (fun _ => ?_)
    · skip
      refine x_iload_n C (pc := 79) dX12_stood_79 rfl ?_
      refine x_goto C (pc := 80) (tgt := 102) dX12_stood_80 (by decide) ?_
      exact x_ret dX12_stood_102 (fun h => h)
    · skip
      refine x_iload_n C (pc := 83) dX12_stood_83 rfl ?_
      refine x_iconst C (pc := 84) dX12_stood_84 kc_i_2 ?_
      refine x_icmp_ne C (pc := 85) (tgt := 93) dX12_stood_85 (by decide) (fun _ => ?_) (fun _ => ?_)
      · skip
        refine x_iload C (pc := 88) dX12_stood_88 rfl ?_
        refine x_goto C (pc := 90) (tgt := 102) dX12_stood_90 (by decide) ?_
        exact x_ret dX12_stood_102 (fun h => h)
      · skip
        refine x_iload_n C (pc := 93) dX12_stood_93 rfl ?_
        refine x_if_ne C (pc := 94) (tgt := 101) dX12_stood_94 (by decide) (fun _ => ?_) (fun _ => ?_)
        · skip
          refine x_iconst C (pc := 97) dX12_stood_97 kc_i_m1 ?_
          refine x_goto C (pc := 98) (tgt := 102) dX12_stood_98 (by decide) ?_
          exact x_ret dX12_stood_102 (fun h => h)
        · skip
          refine x_iload_n C (pc := 101) dX12_stood_101 rfl ?_
          exact x_ret dX12_stood_102 (fun h => h)
theorem ct_X12_stood (t : Nat) (ht : kd t = 10) (a : Int32) (s0 : SS) (r : Int32) (s2 : SS) (h : FX12_stood t a s0 = some (r, s2)) : CT 1 yX12_stood cX12_stood 6 (some .int) 4 99 [.ref t, .int a] s0 (some (.int r)) s2 :=
  ct_of (by decide +kernel) (Or.inr (Or.inl ⟨_, rfl, _, rfl, rfl⟩)) (lx_args [.ref t, .int a]) (lx_entry [.ref t, .int a] (fun _ => Nat.le_of_ble_eq_true rfl)) (fun o C hR => Yx.weak (lw_s (lw_s (lw_z (lw_z (lw_z (lw_z lw_0)))))) (bd_X12_stood C t ht a s0 (r, s2) h hR))
def FX12_note (t : Nat) (a : Int32) (b : Int32) (c : Int32) (d : Int32) (g : Int32) (s0 : SS) : Option (Int32 × SS) :=
  bd (FX12_isUser t a s0) (fun (r1 : Int32) => if r1 = 0 then bd2 (FX12_bad t s0) (fun (r2 : Int32) (s3 : SS) => some ((r2, s3))) else (bd (FX12_in (Int32.toInt64 b) (lN 1) (4 : Int64) s0) (fun (r4 : Int32) => if r4 = 0 then bd2 (FX12_bad t s0) (fun (r5 : Int32) (s6 : SS) => some ((r5, s6))) else (bd (FX12_in (Int32.toInt64 c) (lN 0) (20 : Int64) s0) (fun (r7 : Int32) => if r7 = 0 then bd2 (FX12_bad t s0) (fun (r8 : Int32) (s9 : SS) => some ((r8, s9))) else (bd (FX12_in (Int32.toInt64 d) (lN 0) (20 : Int64) s0) (fun (r10 : Int32) => if r10 = 0 then bd2 (FX12_bad t s0) (fun (r11 : Int32) (s12 : SS) => some ((r11, s12))) else (bd (FX12_in (Int32.toInt64 g) (lN 0) (200 : Int64) s0) (fun (r13 : Int32) => if r13 = 0 then bd2 (FX12_bad t s0) (fun (r14 : Int32) (s15 : SS) => some ((r14, s15))) else (gd (inb (nI 81) (ln (lk t 0))) (if (gI s0 (lk t 0) (Int32.toNatClampNeg (nI 81))) = (nI 6) then bd2 (FX12_full t s0) (fun (r16 : Int32) (s17 : SS) => some ((r16, s17))) else (gd (inb (nI 81) (ln (lk t 0))) (nm ((nI 82) + ((nI 5) * (gI s0 (lk t 0) (Int32.toNatClampNeg (nI 81))))) (fun (i18 : Int32) => gd (inb i18 (ln (lk t 0))) (nm (pI s0 (lk t 0) (Int32.toNatClampNeg i18) a) (fun (s19 : SS) => gd (inb (i18 + (nI 1)) (ln (lk t 0))) (nm (pI s19 (lk t 0) (Int32.toNatClampNeg (i18 + (nI 1))) b) (fun (s20 : SS) => gd (inb (i18 + (nI 2)) (ln (lk t 0))) (nm (pI s20 (lk t 0) (Int32.toNatClampNeg (i18 + (nI 2))) c) (fun (s21 : SS) => gd (inb (i18 + (nI 3)) (ln (lk t 0))) (nm (pI s21 (lk t 0) (Int32.toNatClampNeg (i18 + (nI 3))) d) (fun (s22 : SS) => gd (inb (i18 + (nI 4)) (ln (lk t 0))) (nm (pI s22 (lk t 0) (Int32.toNatClampNeg (i18 + (nI 4))) g) (fun (s23 : SS) => gd (inb (nI 81) (ln (lk t 0))) (gd (inb (nI 81) (ln (lk t 0))) (nm (pI s23 (lk t 0) (Int32.toNatClampNeg (nI 81)) ((gI s23 (lk t 0) (Int32.toNatClampNeg (nI 81))) + (nI 1))) (fun (s24 : SS) => gd (inb (nI 81) (ln (lk t 0))) (some (((gI s24 (lk t 0) (Int32.toNatClampNeg (nI 81))), s24))))))))))))))))))))))))))))))
set_option maxRecDepth 100000 in
set_option maxHeartbeats 4000000 in
theorem bd_X12_note {o : Om} (C : Cx o RX12 cX12_note 7 (some .int) (rmx 2 46) 1) (t : Nat) (ht : kd t = 10) (a : Int32) (b : Int32) (c : Int32) (d : Int32) (g : Int32) (s0 : SS) : Xo (FX12_note t a b c d g s0) (fun r => RT o cX12_note (some (.int r.1)) r.2) (Yx o 0 [some (.ref t), some (.int a), some (.int b), some (.int c), some (.int d), some (.int g), none] [] s0) := by
  unfold FX12_note
  refine x_aload_n C (pc := 0) dX12_note_0 rfl ?_
  refine x_iload_n C (pc := 1) dX12_note_1 rfl ?_
  refine x_callVi C (pc := 2) mv_X12_185 ht rfl [.int a] (fun _ hr => ct_X12_isUser _ ht _ _ _ hr) ⟨Nat.le_of_ble_eq_true rfl, Nat.le_of_ble_eq_true rfl⟩ rfl (Nat.le_of_ble_eq_true rfl) rfl dX12_note_2 (fun r1 => ?_)
  refine x_if_eq C (pc := 5) (tgt := 58) dX12_note_5 (by decide) (fun _ => ?_) (fun _ => ?_)
  · skip
    refine x_aload_n C (pc := 58) dX12_note_58 rfl ?_
    refine x_callVim C (pc := 59) mv_X12_101 ht rfl [] (fun _ _ hr => ct_X12_bad _ ht _ _ _ hr) ⟨Nat.le_of_ble_eq_true rfl, Nat.le_of_ble_eq_true rfl⟩ rfl (Nat.le_of_ble_eq_true rfl) rfl dX12_note_59 (fun r2 s3 => ?_)
    exact x_ret dX12_note_62 (fun h => h)
  · skip
    refine x_iload_n C (pc := 8) dX12_note_8 rfl ?_
    refine x_i2l C (pc := 9) dX12_note_9 ?_
    refine x_lconst C (pc := 10) dX12_note_10 (v := lN 1) rfl ?_
    refine x_ldc2 C (pc := 11) dX12_note_11 cl_X12_109 ?_
    refine x_callSi C (pc := 14) ms_X12_55 [.long (Int32.toInt64 b), .long (lN 1), .long (4 : Int64)] (fun _ hr => ct_X12_in _ _ _ _ _ hr) ⟨Nat.le_of_ble_eq_true rfl, Nat.le_of_ble_eq_true rfl⟩ rfl (Nat.le_of_ble_eq_true rfl) rfl dX12_note_14 (fun r4 => ?_)
    refine x_if_eq C (pc := 17) (tgt := 58) dX12_note_17 (by decide) (fun _ => ?_) (fun _ => ?_)
    · skip
      refine x_aload_n C (pc := 58) dX12_note_58 rfl ?_
      refine x_callVim C (pc := 59) mv_X12_101 ht rfl [] (fun _ _ hr => ct_X12_bad _ ht _ _ _ hr) ⟨Nat.le_of_ble_eq_true rfl, Nat.le_of_ble_eq_true rfl⟩ rfl (Nat.le_of_ble_eq_true rfl) rfl dX12_note_59 (fun r5 s6 => ?_)
      exact x_ret dX12_note_62 (fun h => h)
    · skip
      refine x_iload_n C (pc := 20) dX12_note_20 rfl ?_
      refine x_i2l C (pc := 21) dX12_note_21 ?_
      refine x_lconst C (pc := 22) dX12_note_22 (v := lN 0) rfl ?_
      refine x_ldc2 C (pc := 23) dX12_note_23 cl_X12_99 ?_
      refine x_callSi C (pc := 26) ms_X12_55 [.long (Int32.toInt64 c), .long (lN 0), .long (20 : Int64)] (fun _ hr => ct_X12_in _ _ _ _ _ hr) ⟨Nat.le_of_ble_eq_true rfl, Nat.le_of_ble_eq_true rfl⟩ rfl (Nat.le_of_ble_eq_true rfl) rfl dX12_note_26 (fun r7 => ?_)
      refine x_if_eq C (pc := 29) (tgt := 58) dX12_note_29 (by decide) (fun _ => ?_) (fun _ => ?_)
      · skip
        refine x_aload_n C (pc := 58) dX12_note_58 rfl ?_
        refine x_callVim C (pc := 59) mv_X12_101 ht rfl [] (fun _ _ hr => ct_X12_bad _ ht _ _ _ hr) ⟨Nat.le_of_ble_eq_true rfl, Nat.le_of_ble_eq_true rfl⟩ rfl (Nat.le_of_ble_eq_true rfl) rfl dX12_note_59 (fun r8 s9 => ?_)
        exact x_ret dX12_note_62 (fun h => h)
      · skip
        refine x_iload C (pc := 32) dX12_note_32 rfl ?_
        refine x_i2l C (pc := 34) dX12_note_34 ?_
        refine x_lconst C (pc := 35) dX12_note_35 (v := lN 0) rfl ?_
        refine x_ldc2 C (pc := 36) dX12_note_36 cl_X12_99 ?_
        refine x_callSi C (pc := 39) ms_X12_55 [.long (Int32.toInt64 d), .long (lN 0), .long (20 : Int64)] (fun _ hr => ct_X12_in _ _ _ _ _ hr) ⟨Nat.le_of_ble_eq_true rfl, Nat.le_of_ble_eq_true rfl⟩ rfl (Nat.le_of_ble_eq_true rfl) rfl dX12_note_39 (fun r10 => ?_)
        refine x_if_eq C (pc := 42) (tgt := 58) dX12_note_42 (by decide) (fun _ => ?_) (fun _ => ?_)
        · skip
          refine x_aload_n C (pc := 58) dX12_note_58 rfl ?_
          refine x_callVim C (pc := 59) mv_X12_101 ht rfl [] (fun _ _ hr => ct_X12_bad _ ht _ _ _ hr) ⟨Nat.le_of_ble_eq_true rfl, Nat.le_of_ble_eq_true rfl⟩ rfl (Nat.le_of_ble_eq_true rfl) rfl dX12_note_59 (fun r11 s12 => ?_)
          exact x_ret dX12_note_62 (fun h => h)
        · skip
          refine x_iload C (pc := 45) dX12_note_45 rfl ?_
          refine x_i2l C (pc := 47) dX12_note_47 ?_
          refine x_lconst C (pc := 48) dX12_note_48 (v := lN 0) rfl ?_
          refine x_ldc2 C (pc := 49) dX12_note_49 cl_X12_239 ?_
          refine x_callSi C (pc := 52) ms_X12_55 [.long (Int32.toInt64 g), .long (lN 0), .long (200 : Int64)] (fun _ hr => ct_X12_in _ _ _ _ _ hr) ⟨Nat.le_of_ble_eq_true rfl, Nat.le_of_ble_eq_true rfl⟩ rfl (Nat.le_of_ble_eq_true rfl) rfl dX12_note_52 (fun r13 => ?_)
          refine x_if_ne C (pc := 55) (tgt := 63) dX12_note_55 (by decide) (fun _ => ?_) (fun _ => ?_)
          · skip
            refine x_aload_n C (pc := 58) dX12_note_58 rfl ?_
            refine x_callVim C (pc := 59) mv_X12_101 ht rfl [] (fun _ _ hr => ct_X12_bad _ ht _ _ _ hr) ⟨Nat.le_of_ble_eq_true rfl, Nat.le_of_ble_eq_true rfl⟩ rfl (Nat.le_of_ble_eq_true rfl) rfl dX12_note_59 (fun r14 s15 => ?_)
            exact x_ret dX12_note_62 (fun h => h)
          · skip
            refine x_aload_n C (pc := 63) dX12_note_63 rfl ?_
            refine x_getR C (pc := 64) fg_X12_7 dX12_note_64 ht ?_
            refine x_bipush C (pc := 67) dX12_note_67 kc_b_81 ?_
            refine x_iald C (pc := 69) dX12_note_69 (lkd_10_0 ht) (fun _ => ?_)
            refine x_bipush C (pc := 70) dX12_note_70 kc_b_6 ?_
            refine x_icmp_ne C (pc := 72) (tgt := 80) dX12_note_72 (by decide) (fun _ => ?_) (fun _ => ?_)
            · skip
              refine x_aload_n C (pc := 75) dX12_note_75 rfl ?_
              refine x_callVim C (pc := 76) mv_X12_111 ht rfl [] (fun _ _ hr => ct_X12_full _ ht _ _ _ hr) ⟨Nat.le_of_ble_eq_true rfl, Nat.le_of_ble_eq_true rfl⟩ rfl (Nat.le_of_ble_eq_true rfl) rfl dX12_note_76 (fun r16 s17 => ?_)
              exact x_ret dX12_note_79 (fun h => h)
            · skip
              refine x_bipush C (pc := 80) dX12_note_80 kc_b_82 ?_
              refine x_iconst C (pc := 82) dX12_note_82 kc_i_5 ?_
              refine x_aload_n C (pc := 83) dX12_note_83 rfl ?_
              refine x_getR C (pc := 84) fg_X12_7 dX12_note_84 ht ?_
              refine x_bipush C (pc := 87) dX12_note_87 kc_b_81 ?_
              refine x_iald C (pc := 89) dX12_note_89 (lkd_10_0 ht) (fun _ => ?_)
              refine x_imul C (pc := 90) dX12_note_90 ?_
              refine x_iadd C (pc := 91) dX12_note_91 ?_
              refine x_istore C (pc := 92) (L' := fun i18 => [some (.ref t), some (.int a), some (.int b), some (.int c), some (.int d), some (.int g), some (.int i18)]) dX12_note_92 (by decide) (fun _ => rfl) (fun i18 => ?_)
              refine x_aload_n C (pc := 94) dX12_note_94 rfl ?_
              refine x_getR C (pc := 95) fg_X12_7 dX12_note_95 ht ?_
              refine x_iload C (pc := 98) dX12_note_98 rfl ?_
              refine x_iload_n C (pc := 100) dX12_note_100 rfl ?_
              refine x_iastn C (pc := 101) dX12_note_101 (lkd_10_0 ht) (fun s19 => ?_)
              refine x_aload_n C (pc := 102) dX12_note_102 rfl ?_
              refine x_getR C (pc := 103) fg_X12_7 dX12_note_103 ht ?_
              refine x_iload C (pc := 106) dX12_note_106 rfl ?_
              refine x_iconst C (pc := 108) dX12_note_108 kc_i_1 ?_
              refine x_iadd C (pc := 109) dX12_note_109 ?_
              refine x_iload_n C (pc := 110) dX12_note_110 rfl ?_
              refine x_iastn C (pc := 111) dX12_note_111 (lkd_10_0 ht) (fun s20 => ?_)
              refine x_aload_n C (pc := 112) dX12_note_112 rfl ?_
              refine x_getR C (pc := 113) fg_X12_7 dX12_note_113 ht ?_
              refine x_iload C (pc := 116) dX12_note_116 rfl ?_
              refine x_iconst C (pc := 118) dX12_note_118 kc_i_2 ?_
              refine x_iadd C (pc := 119) dX12_note_119 ?_
              refine x_iload_n C (pc := 120) dX12_note_120 rfl ?_
              refine x_iastn C (pc := 121) dX12_note_121 (lkd_10_0 ht) (fun s21 => ?_)
              refine x_aload_n C (pc := 122) dX12_note_122 rfl ?_
              refine x_getR C (pc := 123) fg_X12_7 dX12_note_123 ht ?_
              refine x_iload C (pc := 126) dX12_note_126 rfl ?_
              refine x_iconst C (pc := 128) dX12_note_128 kc_i_3 ?_
              refine x_iadd C (pc := 129) dX12_note_129 ?_
              refine x_iload C (pc := 130) dX12_note_130 rfl ?_
              refine x_iastn C (pc := 132) dX12_note_132 (lkd_10_0 ht) (fun s22 => ?_)
              refine x_aload_n C (pc := 133) dX12_note_133 rfl ?_
              refine x_getR C (pc := 134) fg_X12_7 dX12_note_134 ht ?_
              refine x_iload C (pc := 137) dX12_note_137 rfl ?_
              refine x_iconst C (pc := 139) dX12_note_139 kc_i_4 ?_
              refine x_iadd C (pc := 140) dX12_note_140 ?_
              refine x_iload C (pc := 141) dX12_note_141 rfl ?_
              refine x_iastn C (pc := 143) dX12_note_143 (lkd_10_0 ht) (fun s23 => ?_)
              refine x_aload_n C (pc := 144) dX12_note_144 rfl ?_
              refine x_getR C (pc := 145) fg_X12_7 dX12_note_145 ht ?_
              refine x_bipush C (pc := 148) dX12_note_148 kc_b_81 ?_
              refine x_dup2 C (pc := 150) dX12_note_150 rfl rfl ?_
              refine x_iald C (pc := 151) dX12_note_151 (lkd_10_0 ht) (fun _ => ?_)
              refine x_iconst C (pc := 152) dX12_note_152 kc_i_1 ?_
              refine x_iadd C (pc := 153) dX12_note_153 ?_
              refine x_iastn C (pc := 154) dX12_note_154 (lkd_10_0 ht) (fun s24 => ?_)
              refine x_aload_n C (pc := 155) dX12_note_155 rfl ?_
              refine x_getR C (pc := 156) fg_X12_7 dX12_note_156 ht ?_
              refine x_bipush C (pc := 159) dX12_note_159 kc_b_81 ?_
              refine x_iald C (pc := 161) dX12_note_161 (lkd_10_0 ht) (fun _ => ?_)
              exact x_ret dX12_note_162 (fun h => h)
theorem ct_X12_note (t : Nat) (ht : kd t = 10) (a : Int32) (b : Int32) (c : Int32) (d : Int32) (g : Int32) (s0 : SS) (r : Int32) (s2 : SS) (h : FX12_note t a b c d g s0 = some (r, s2)) : CT 1 yX12_note cX12_note 7 (some .int) 2 46 [.ref t, .int a, .int b, .int c, .int d, .int g] s0 (some (.int r)) s2 :=
  ct_of (by decide +kernel) (Or.inr (Or.inl ⟨_, rfl, _, rfl, rfl⟩)) (lx_args [.ref t, .int a, .int b, .int c, .int d, .int g]) (lx_entry [.ref t, .int a, .int b, .int c, .int d, .int g] (fun _ => Nat.le_of_ble_eq_true rfl)) (fun o C hR => Yx.weak (lw_s (lw_s (lw_s (lw_s (lw_s (lw_s (lw_z lw_0))))))) (bd_X12_note C t ht a b c d g s0 (r, s2) h hR))
def FX12_mark (t : Nat) (a : Int32) (b : Int32) (c : Int32) (d : Int32) (s0 : SS) : Option (Int32 × SS) :=
  bd (FX12_isSuit t a s0) (fun (r1 : Int32) => if r1 = 0 then bd2 (FX12_bad t s0) (fun (r2 : Int32) (s3 : SS) => some ((r2, s3))) else (bd (FX12_in (Int32.toInt64 b) (lN 0) (200 : Int64) s0) (fun (r4 : Int32) => if r4 = 0 then bd2 (FX12_bad t s0) (fun (r5 : Int32) (s6 : SS) => some ((r5, s6))) else (bd (FX12_in (Int32.toInt64 c) (lN 0) (99 : Int64) s0) (fun (r7 : Int32) => if r7 = 0 then bd2 (FX12_bad t s0) (fun (r8 : Int32) (s9 : SS) => some ((r8, s9))) else (bd (FX12_in (Int32.toInt64 d) (lN 0) (999 : Int64) s0) (fun (r10 : Int32) => if r10 = 0 then bd2 (FX12_bad t s0) (fun (r11 : Int32) (s12 : SS) => some ((r11, s12))) else (gd (inb (nI 112) (ln (lk t 0))) (if (gI s0 (lk t 0) (Int32.toNatClampNeg (nI 112))) = (nI 6) then bd2 (FX12_full t s0) (fun (r13 : Int32) (s14 : SS) => some ((r13, s14))) else (gd (inb (nI 112) (ln (lk t 0))) (nm ((nI 113) + ((nI 4) * (gI s0 (lk t 0) (Int32.toNatClampNeg (nI 112))))) (fun (i15 : Int32) => gd (inb i15 (ln (lk t 0))) (nm (pI s0 (lk t 0) (Int32.toNatClampNeg i15) a) (fun (s16 : SS) => gd (inb (i15 + (nI 1)) (ln (lk t 0))) (nm (pI s16 (lk t 0) (Int32.toNatClampNeg (i15 + (nI 1))) b) (fun (s17 : SS) => gd (inb (i15 + (nI 2)) (ln (lk t 0))) (nm (pI s17 (lk t 0) (Int32.toNatClampNeg (i15 + (nI 2))) c) (fun (s18 : SS) => gd (inb (i15 + (nI 3)) (ln (lk t 0))) (nm (pI s18 (lk t 0) (Int32.toNatClampNeg (i15 + (nI 3))) d) (fun (s19 : SS) => gd (inb (nI 112) (ln (lk t 0))) (gd (inb (nI 112) (ln (lk t 0))) (nm (pI s19 (lk t 0) (Int32.toNatClampNeg (nI 112)) ((gI s19 (lk t 0) (Int32.toNatClampNeg (nI 112))) + (nI 1))) (fun (s20 : SS) => gd (inb (nI 112) (ln (lk t 0))) (some (((gI s20 (lk t 0) (Int32.toNatClampNeg (nI 112))), s20))))))))))))))))))))))))))
set_option maxRecDepth 100000 in
set_option maxHeartbeats 4000000 in
theorem bd_X12_mark {o : Om} (C : Cx o RX12 cX12_mark 6 (some .int) (rmx 2 46) 1) (t : Nat) (ht : kd t = 10) (a : Int32) (b : Int32) (c : Int32) (d : Int32) (s0 : SS) : Xo (FX12_mark t a b c d s0) (fun r => RT o cX12_mark (some (.int r.1)) r.2) (Yx o 0 [some (.ref t), some (.int a), some (.int b), some (.int c), some (.int d), none] [] s0) := by
  unfold FX12_mark
  refine x_aload_n C (pc := 0) dX12_mark_0 rfl ?_
  refine x_iload_n C (pc := 1) dX12_mark_1 rfl ?_
  refine x_callVi C (pc := 2) mv_X12_203 ht rfl [.int a] (fun _ hr => ct_X12_isSuit _ ht _ _ _ hr) ⟨Nat.le_of_ble_eq_true rfl, Nat.le_of_ble_eq_true rfl⟩ rfl (Nat.le_of_ble_eq_true rfl) rfl dX12_mark_2 (fun r1 => ?_)
  refine x_if_eq C (pc := 5) (tgt := 45) dX12_mark_5 (by decide) (fun _ => ?_) (fun _ => ?_)
  · skip
    refine x_aload_n C (pc := 45) dX12_mark_45 rfl ?_
    refine x_callVim C (pc := 46) mv_X12_101 ht rfl [] (fun _ _ hr => ct_X12_bad _ ht _ _ _ hr) ⟨Nat.le_of_ble_eq_true rfl, Nat.le_of_ble_eq_true rfl⟩ rfl (Nat.le_of_ble_eq_true rfl) rfl dX12_mark_46 (fun r2 s3 => ?_)
    exact x_ret dX12_mark_49 (fun h => h)
  · skip
    refine x_iload_n C (pc := 8) dX12_mark_8 rfl ?_
    refine x_i2l C (pc := 9) dX12_mark_9 ?_
    refine x_lconst C (pc := 10) dX12_mark_10 (v := lN 0) rfl ?_
    refine x_ldc2 C (pc := 11) dX12_mark_11 cl_X12_239 ?_
    refine x_callSi C (pc := 14) ms_X12_55 [.long (Int32.toInt64 b), .long (lN 0), .long (200 : Int64)] (fun _ hr => ct_X12_in _ _ _ _ _ hr) ⟨Nat.le_of_ble_eq_true rfl, Nat.le_of_ble_eq_true rfl⟩ rfl (Nat.le_of_ble_eq_true rfl) rfl dX12_mark_14 (fun r4 => ?_)
    refine x_if_eq C (pc := 17) (tgt := 45) dX12_mark_17 (by decide) (fun _ => ?_) (fun _ => ?_)
    · skip
      refine x_aload_n C (pc := 45) dX12_mark_45 rfl ?_
      refine x_callVim C (pc := 46) mv_X12_101 ht rfl [] (fun _ _ hr => ct_X12_bad _ ht _ _ _ hr) ⟨Nat.le_of_ble_eq_true rfl, Nat.le_of_ble_eq_true rfl⟩ rfl (Nat.le_of_ble_eq_true rfl) rfl dX12_mark_46 (fun r5 s6 => ?_)
      exact x_ret dX12_mark_49 (fun h => h)
    · skip
      refine x_iload_n C (pc := 20) dX12_mark_20 rfl ?_
      refine x_i2l C (pc := 21) dX12_mark_21 ?_
      refine x_lconst C (pc := 22) dX12_mark_22 (v := lN 0) rfl ?_
      refine x_ldc2 C (pc := 23) dX12_mark_23 cl_X12_180 ?_
      refine x_callSi C (pc := 26) ms_X12_55 [.long (Int32.toInt64 c), .long (lN 0), .long (99 : Int64)] (fun _ hr => ct_X12_in _ _ _ _ _ hr) ⟨Nat.le_of_ble_eq_true rfl, Nat.le_of_ble_eq_true rfl⟩ rfl (Nat.le_of_ble_eq_true rfl) rfl dX12_mark_26 (fun r7 => ?_)
      refine x_if_eq C (pc := 29) (tgt := 45) dX12_mark_29 (by decide) (fun _ => ?_) (fun _ => ?_)
      · skip
        refine x_aload_n C (pc := 45) dX12_mark_45 rfl ?_
        refine x_callVim C (pc := 46) mv_X12_101 ht rfl [] (fun _ _ hr => ct_X12_bad _ ht _ _ _ hr) ⟨Nat.le_of_ble_eq_true rfl, Nat.le_of_ble_eq_true rfl⟩ rfl (Nat.le_of_ble_eq_true rfl) rfl dX12_mark_46 (fun r8 s9 => ?_)
        exact x_ret dX12_mark_49 (fun h => h)
      · skip
        refine x_iload C (pc := 32) dX12_mark_32 rfl ?_
        refine x_i2l C (pc := 34) dX12_mark_34 ?_
        refine x_lconst C (pc := 35) dX12_mark_35 (v := lN 0) rfl ?_
        refine x_ldc2 C (pc := 36) dX12_mark_36 cl_X12_241 ?_
        refine x_callSi C (pc := 39) ms_X12_55 [.long (Int32.toInt64 d), .long (lN 0), .long (999 : Int64)] (fun _ hr => ct_X12_in _ _ _ _ _ hr) ⟨Nat.le_of_ble_eq_true rfl, Nat.le_of_ble_eq_true rfl⟩ rfl (Nat.le_of_ble_eq_true rfl) rfl dX12_mark_39 (fun r10 => ?_)
        refine x_if_ne C (pc := 42) (tgt := 50) dX12_mark_42 (by decide) (fun _ => ?_) (fun _ => ?_)
        · skip
          refine x_aload_n C (pc := 45) dX12_mark_45 rfl ?_
          refine x_callVim C (pc := 46) mv_X12_101 ht rfl [] (fun _ _ hr => ct_X12_bad _ ht _ _ _ hr) ⟨Nat.le_of_ble_eq_true rfl, Nat.le_of_ble_eq_true rfl⟩ rfl (Nat.le_of_ble_eq_true rfl) rfl dX12_mark_46 (fun r11 s12 => ?_)
          exact x_ret dX12_mark_49 (fun h => h)
        · skip
          refine x_aload_n C (pc := 50) dX12_mark_50 rfl ?_
          refine x_getR C (pc := 51) fg_X12_7 dX12_mark_51 ht ?_
          refine x_bipush C (pc := 54) dX12_mark_54 kc_b_112 ?_
          refine x_iald C (pc := 56) dX12_mark_56 (lkd_10_0 ht) (fun _ => ?_)
          refine x_bipush C (pc := 57) dX12_mark_57 kc_b_6 ?_
          refine x_icmp_ne C (pc := 59) (tgt := 67) dX12_mark_59 (by decide) (fun _ => ?_) (fun _ => ?_)
          · skip
            refine x_aload_n C (pc := 62) dX12_mark_62 rfl ?_
            refine x_callVim C (pc := 63) mv_X12_111 ht rfl [] (fun _ _ hr => ct_X12_full _ ht _ _ _ hr) ⟨Nat.le_of_ble_eq_true rfl, Nat.le_of_ble_eq_true rfl⟩ rfl (Nat.le_of_ble_eq_true rfl) rfl dX12_mark_63 (fun r13 s14 => ?_)
            exact x_ret dX12_mark_66 (fun h => h)
          · skip
            refine x_bipush C (pc := 67) dX12_mark_67 kc_b_113 ?_
            refine x_iconst C (pc := 69) dX12_mark_69 kc_i_4 ?_
            refine x_aload_n C (pc := 70) dX12_mark_70 rfl ?_
            refine x_getR C (pc := 71) fg_X12_7 dX12_mark_71 ht ?_
            refine x_bipush C (pc := 74) dX12_mark_74 kc_b_112 ?_
            refine x_iald C (pc := 76) dX12_mark_76 (lkd_10_0 ht) (fun _ => ?_)
            refine x_imul C (pc := 77) dX12_mark_77 ?_
            refine x_iadd C (pc := 78) dX12_mark_78 ?_
            refine x_istore C (pc := 79) (L' := fun i15 => [some (.ref t), some (.int a), some (.int b), some (.int c), some (.int d), some (.int i15)]) dX12_mark_79 (by decide) (fun _ => rfl) (fun i15 => ?_)
            refine x_aload_n C (pc := 81) dX12_mark_81 rfl ?_
            refine x_getR C (pc := 82) fg_X12_7 dX12_mark_82 ht ?_
            refine x_iload C (pc := 85) dX12_mark_85 rfl ?_
            refine x_iload_n C (pc := 87) dX12_mark_87 rfl ?_
            refine x_iastn C (pc := 88) dX12_mark_88 (lkd_10_0 ht) (fun s16 => ?_)
            refine x_aload_n C (pc := 89) dX12_mark_89 rfl ?_
            refine x_getR C (pc := 90) fg_X12_7 dX12_mark_90 ht ?_
            refine x_iload C (pc := 93) dX12_mark_93 rfl ?_
            refine x_iconst C (pc := 95) dX12_mark_95 kc_i_1 ?_
            refine x_iadd C (pc := 96) dX12_mark_96 ?_
            refine x_iload_n C (pc := 97) dX12_mark_97 rfl ?_
            refine x_iastn C (pc := 98) dX12_mark_98 (lkd_10_0 ht) (fun s17 => ?_)
            refine x_aload_n C (pc := 99) dX12_mark_99 rfl ?_
            refine x_getR C (pc := 100) fg_X12_7 dX12_mark_100 ht ?_
            refine x_iload C (pc := 103) dX12_mark_103 rfl ?_
            refine x_iconst C (pc := 105) dX12_mark_105 kc_i_2 ?_
            refine x_iadd C (pc := 106) dX12_mark_106 ?_
            refine x_iload_n C (pc := 107) dX12_mark_107 rfl ?_
            refine x_iastn C (pc := 108) dX12_mark_108 (lkd_10_0 ht) (fun s18 => ?_)
            refine x_aload_n C (pc := 109) dX12_mark_109 rfl ?_
            refine x_getR C (pc := 110) fg_X12_7 dX12_mark_110 ht ?_
            refine x_iload C (pc := 113) dX12_mark_113 rfl ?_
            refine x_iconst C (pc := 115) dX12_mark_115 kc_i_3 ?_
            refine x_iadd C (pc := 116) dX12_mark_116 ?_
            refine x_iload C (pc := 117) dX12_mark_117 rfl ?_
            refine x_iastn C (pc := 119) dX12_mark_119 (lkd_10_0 ht) (fun s19 => ?_)
            refine x_aload_n C (pc := 120) dX12_mark_120 rfl ?_
            refine x_getR C (pc := 121) fg_X12_7 dX12_mark_121 ht ?_
            refine x_bipush C (pc := 124) dX12_mark_124 kc_b_112 ?_
            refine x_dup2 C (pc := 126) dX12_mark_126 rfl rfl ?_
            refine x_iald C (pc := 127) dX12_mark_127 (lkd_10_0 ht) (fun _ => ?_)
            refine x_iconst C (pc := 128) dX12_mark_128 kc_i_1 ?_
            refine x_iadd C (pc := 129) dX12_mark_129 ?_
            refine x_iastn C (pc := 130) dX12_mark_130 (lkd_10_0 ht) (fun s20 => ?_)
            refine x_aload_n C (pc := 131) dX12_mark_131 rfl ?_
            refine x_getR C (pc := 132) fg_X12_7 dX12_mark_132 ht ?_
            refine x_bipush C (pc := 135) dX12_mark_135 kc_b_112 ?_
            refine x_iald C (pc := 137) dX12_mark_137 (lkd_10_0 ht) (fun _ => ?_)
            exact x_ret dX12_mark_138 (fun h => h)
theorem ct_X12_mark (t : Nat) (ht : kd t = 10) (a : Int32) (b : Int32) (c : Int32) (d : Int32) (s0 : SS) (r : Int32) (s2 : SS) (h : FX12_mark t a b c d s0 = some (r, s2)) : CT 1 yX12_mark cX12_mark 6 (some .int) 2 46 [.ref t, .int a, .int b, .int c, .int d] s0 (some (.int r)) s2 :=
  ct_of (by decide +kernel) (Or.inr (Or.inl ⟨_, rfl, _, rfl, rfl⟩)) (lx_args [.ref t, .int a, .int b, .int c, .int d]) (lx_entry [.ref t, .int a, .int b, .int c, .int d] (fun _ => Nat.le_of_ble_eq_true rfl)) (fun o C hR => Yx.weak (lw_s (lw_s (lw_s (lw_s (lw_s (lw_z lw_0)))))) (bd_X12_mark C t ht a b c d s0 (r, s2) h hR))
def FX12_forget (t : Nat) (a : Int32) (s0 : SS) : Option (Int32 × SS) :=
  bd (FX12_in (Int32.toInt64 a) (lN 0) (2 : Int64) s0) (fun (r1 : Int32) => if r1 = 0 then bd2 (FX12_bad t s0) (fun (r2 : Int32) (s3 : SS) => some ((r2, s3))) else (bd (if a = 0 then some ((nI 68)) else (if a = (nI 1) then some ((nI 81)) else (some ((nI 112))))) (fun (j4 : Int32) => nm j4 (fun (i5 : Int32) => gd (inb i5 (ln (lk t 0))) (nm (gI s0 (lk t 0) (Int32.toNatClampNeg i5)) (fun (i6 : Int32) => gd (inb i5 (ln (lk t 0))) (nm (pI s0 (lk t 0) (Int32.toNatClampNeg i5) (nI 0)) (fun (s7 : SS) => some ((i6, s7))))))))))
set_option maxRecDepth 100000 in
set_option maxHeartbeats 4000000 in
theorem bd_X12_forget {o : Om} (C : Cx o RX12 cX12_forget 4 (some .int) (rmx 1 25) 1) (t : Nat) (ht : kd t = 10) (a : Int32) (s0 : SS) : Xo (FX12_forget t a s0) (fun r => RT o cX12_forget (some (.int r.1)) r.2) (Yx o 0 [some (.ref t), some (.int a), none, none] [] s0) := by
  unfold FX12_forget
  refine x_iload_n C (pc := 0) dX12_forget_0 rfl ?_
  refine x_i2l C (pc := 1) dX12_forget_1 ?_
  refine x_lconst C (pc := 2) dX12_forget_2 (v := lN 0) rfl ?_
  refine x_ldc2 C (pc := 3) dX12_forget_3 cl_X12_234 ?_
  refine x_callSi C (pc := 6) ms_X12_55 [.long (Int32.toInt64 a), .long (lN 0), .long (2 : Int64)] (fun _ hr => ct_X12_in _ _ _ _ _ hr) ⟨Nat.le_of_ble_eq_true rfl, Nat.le_of_ble_eq_true rfl⟩ rfl (Nat.le_of_ble_eq_true rfl) rfl dX12_forget_6 (fun r1 => ?_)
  refine x_if_ne C (pc := 9) (tgt := 17) dX12_forget_9 (by decide) (fun _ => ?_) (fun _ => ?_)
  · skip
    refine x_aload_n C (pc := 12) dX12_forget_12 rfl ?_
    refine x_callVim C (pc := 13) mv_X12_101 ht rfl [] (fun _ _ hr => ct_X12_bad _ ht _ _ _ hr) ⟨Nat.le_of_ble_eq_true rfl, Nat.le_of_ble_eq_true rfl⟩ rfl (Nat.le_of_ble_eq_true rfl) rfl dX12_forget_13 (fun r2 s3 => ?_)
    exact x_ret dX12_forget_16 (fun h => h)
  · skip
    refine x_iload_n C (pc := 17) dX12_forget_17 rfl ?_
    refine xb_1 (Z1 := fun j4 => Yx o 38 [some (.ref t), none, none, none] [.int j4] s0) ?_ (fun j4 => ?_)
    · skip
      refine x_if_ne C (pc := 18) (tgt := 26) dX12_forget_18 (by decide) (fun _ => ?_) (fun _ => ?_)
      · skip
        refine x_bipush C (pc := 21) dX12_forget_21 kc_b_68 ?_
        refine x_goto C (pc := 23) (tgt := 38) dX12_forget_23 (by decide) ?_
        exact Xo.done (fun h => Yx.weak (lw_s (lw_n (lw_n (lw_n lw_0)))) h)
      · skip
        refine x_iload_n C (pc := 26) dX12_forget_26 rfl ?_
        refine x_iconst C (pc := 27) dX12_forget_27 kc_i_1 ?_
        refine x_icmp_ne C (pc := 28) (tgt := 36) dX12_forget_28 (by decide) (fun _ => ?_) (fun _ => ?_)
        · skip
          refine x_bipush C (pc := 31) dX12_forget_31 kc_b_81 ?_
          refine x_goto C (pc := 33) (tgt := 38) dX12_forget_33 (by decide) ?_
          exact Xo.done (fun h => Yx.weak (lw_s (lw_n (lw_n (lw_n lw_0)))) h)
        · skip
          refine x_bipush C (pc := 36) dX12_forget_36 kc_b_112 ?_
          exact Xo.done (fun h => Yx.weak (lw_s (lw_n (lw_n (lw_n lw_0)))) h)
    refine x_istore_n C (pc := 38) (L' := fun i5 => [some (.ref t), none, some (.int i5), none]) dX12_forget_38 (by decide) (fun _ => rfl) (fun i5 => ?_)
    refine x_aload_n C (pc := 39) dX12_forget_39 rfl ?_
    refine x_getR C (pc := 40) fg_X12_7 dX12_forget_40 ht ?_
    refine x_iload_n C (pc := 43) dX12_forget_43 rfl ?_
    refine x_iald C (pc := 44) dX12_forget_44 (lkd_10_0 ht) (fun _ => ?_)
    refine x_istore_n C (pc := 45) (L' := fun i6 => [some (.ref t), none, some (.int i5), some (.int i6)]) dX12_forget_45 (by decide) (fun _ => rfl) (fun i6 => ?_)
    refine x_aload_n C (pc := 46) dX12_forget_46 rfl ?_
    refine x_getR C (pc := 47) fg_X12_7 dX12_forget_47 ht ?_
    refine x_iload_n C (pc := 50) dX12_forget_50 rfl ?_
    refine x_iconst C (pc := 51) dX12_forget_51 kc_i_0 ?_
    refine x_iastn C (pc := 52) dX12_forget_52 (lkd_10_0 ht) (fun s7 => ?_)
    refine x_iload_n C (pc := 53) dX12_forget_53 rfl ?_
    exact x_ret dX12_forget_54 (fun h => h)
theorem ct_X12_forget (t : Nat) (ht : kd t = 10) (a : Int32) (s0 : SS) (r : Int32) (s2 : SS) (h : FX12_forget t a s0 = some (r, s2)) : CT 1 yX12_forget cX12_forget 4 (some .int) 1 25 [.ref t, .int a] s0 (some (.int r)) s2 :=
  ct_of (by decide +kernel) (Or.inr (Or.inl ⟨_, rfl, _, rfl, rfl⟩)) (lx_args [.ref t, .int a]) (lx_entry [.ref t, .int a] (fun _ => Nat.le_of_ble_eq_true rfl)) (fun o C hR => Yx.weak (lw_s (lw_s (lw_z (lw_z lw_0)))) (bd_X12_forget C t ht a s0 (r, s2) h hR))
def FX12_kindsBy (t : Nat) (a : Int32) (s0 : SS) : Option (Int32) :=
  nm (nI 63) (fun (i1 : Int32) => nm (nI 0) (fun (i2 : Int32) => bd (lp FUEL (u2 (fun (n3 : Int32) (n4 : Int32) => if (nI 6) ≤ n4 then some (Sum.inr n3) else (nm (nI 0) (fun (i5 : Int32) => bd (lp FUEL (u2 (fun (n6 : Int32) (n7 : Int32) => gd (inb (nI 81) (ln (lk t 0))) (if (gI s0 (lk t 0) (Int32.toNatClampNeg (nI 81))) ≤ n7 then some (Sum.inr n6) else (nm ((nI 82) + ((nI 5) * n7)) (fun (i8 : Int32) => gd (inb (i8 + (nI 1)) (ln (lk t 0))) (gd (inb (i8 + (nI 2)) (ln (lk t 0))) (bd (FX12_taken n4 (gI s0 (lk t 0) (Int32.toNatClampNeg (i8 + (nI 1)))) (gI s0 (lk t 0) (Int32.toNatClampNeg (i8 + (nI 2)))) s0) (fun (r9 : Int32) => gd (inb (i8 + (nI 3)) (ln (lk t 0))) (bd (if r9 = (gI s0 (lk t 0) (Int32.toNatClampNeg (i8 + (nI 3)))) then gd (inb (i8 + (nI 3)) (ln (lk t 0))) (bd (FX12_rentOf n4 (gI s0 (lk t 0) (Int32.toNatClampNeg (i8 + (nI 3)))) s0) (fun (r10 : Int32) => gd (inb (i8 + (nI 4)) (ln (lk t 0))) (if r10 = (gI s0 (lk t 0) (Int32.toNatClampNeg (i8 + (nI 4)))) then some ((nI 1)) else (some ((nI 0)))))) else (some ((nI 0)))) (fun (j11 : Int32) => nm j11 (fun (i12 : Int32) => gd (inb i8 (ln (lk t 0))) (bd (if (gI s0 (lk t 0) (Int32.toNatClampNeg i8)) = a then if i12 = 0 then some ((((nI 1) <<< (n4 &&& 31)) ^^^ (-1 : Int32))) else (some ((nI 63))) else (some ((nI 63)))) (fun (j13 : Int32) => nm (n6 &&& j13) (fun (i14 : Int32) => nm (n7 + (nI 1)) (fun (i15 : Int32) => some (Sum.inl (i14, i15))))))))))))))))) (n3, i5)) (fun (e16 : Int32) => nm (n4 + (nI 1)) (fun (i17 : Int32) => some (Sum.inl (e16, i17)))))))) (i1, i2)) (fun (e18 : Int32) => some (e18))))
set_option maxRecDepth 100000 in
set_option maxHeartbeats 4000000 in
theorem bd_X12_kindsBy {o : Om} (C : Cx o RX12 cX12_kindsBy 7 (some .int) (rmx 1 24) 1) (t : Nat) (ht : kd t = 10) (a : Int32) (s0 : SS) : Xo (FX12_kindsBy t a s0) (fun r => RT o cX12_kindsBy (some (.int r)) s0) (Yx o 0 [some (.ref t), some (.int a), none, none, none, none, none] [] s0) := by
  unfold FX12_kindsBy
  refine x_bipush C (pc := 0) dX12_kindsBy_0 kc_b_63 ?_
  refine x_istore_n C (pc := 2) (L' := fun i1 => [some (.ref t), some (.int a), some (.int i1), none, none, none, none]) dX12_kindsBy_2 (by decide) (fun _ => rfl) (fun i1 => ?_)
  refine x_iconst C (pc := 3) dX12_kindsBy_3 kc_i_0 ?_
  refine x_istore_n C (pc := 4) (L' := fun i2 => [some (.ref t), some (.int a), some (.int i1), some (.int i2), none, none, none]) dX12_kindsBy_4 (by decide) (fun _ => rfl) (fun i2 => ?_)
  refine xb_1 (Z1 := (fun e18 => Yx o 142 [none, none, some (.int e18), none, none, none, none] [] s0)) ?_ (fun e18 => ?_)
  · refine Xo.mono (Yx.weak (lw_s (lw_s (lw_s (lw_s (lw_n (lw_n (lw_n lw_0)))))))) (x_lp2 (fr := fun n3 n4 => Yx o 5 [some (.ref t), some (.int a), some (.int n3), some (.int n4), none, none, none] [] s0) _ _ (fun n3 n4 => ?_))
    refine x_iload_n C (pc := 5) dX12_kindsBy_5 rfl ?_
    refine x_bipush C (pc := 6) dX12_kindsBy_6 kc_b_6 ?_
    refine x_icmp_ge C (pc := 8) (tgt := 142) dX12_kindsBy_8 (by decide) (fun _ => ?_) (fun _ => ?_)
    · skip
      exact Xo.done (fun h => Yx.weak (lw_n (lw_n (lw_s (lw_n (lw_n (lw_n (lw_n lw_0))))))) h)
    · skip
      refine x_iconst C (pc := 11) dX12_kindsBy_11 kc_i_0 ?_
      refine x_istore C (pc := 12) (L' := fun i5 => [some (.ref t), some (.int a), some (.int n3), some (.int n4), some (.int i5), none, none]) dX12_kindsBy_12 (by decide) (fun _ => rfl) (fun i5 => ?_)
      refine xb_1 (Z1 := (fun e16 => Yx o 136 [some (.ref t), some (.int a), some (.int e16), some (.int n4), none, none, none] [] s0)) ?_ (fun e16 => ?_)
      · refine Xo.mono (Yx.weak (lw_s (lw_s (lw_s (lw_s (lw_s (lw_n (lw_n lw_0)))))))) (x_lp2 (fr := fun n6 n7 => Yx o 14 [some (.ref t), some (.int a), some (.int n6), some (.int n4), some (.int n7), none, none] [] s0) _ _ (fun n6 n7 => ?_))
        refine x_iload C (pc := 14) dX12_kindsBy_14 rfl ?_
        refine x_aload_n C (pc := 16) dX12_kindsBy_16 rfl ?_
        refine x_getR C (pc := 17) fg_X12_7 dX12_kindsBy_17 ht ?_
        refine x_bipush C (pc := 20) dX12_kindsBy_20 kc_b_81 ?_
        refine x_iald C (pc := 22) dX12_kindsBy_22 (lkd_10_0 ht) (fun _ => ?_)
        refine x_icmp_ge C (pc := 23) (tgt := 136) dX12_kindsBy_23 (by decide) (fun _ => ?_) (fun _ => ?_)
        · skip
          exact Xo.done (fun h => Yx.weak (lw_s (lw_s (lw_s (lw_s (lw_n (lw_n (lw_n lw_0))))))) h)
        · skip
          refine x_bipush C (pc := 26) dX12_kindsBy_26 kc_b_82 ?_
          refine x_iconst C (pc := 28) dX12_kindsBy_28 kc_i_5 ?_
          refine x_iload C (pc := 29) dX12_kindsBy_29 rfl ?_
          refine x_imul C (pc := 31) dX12_kindsBy_31 ?_
          refine x_iadd C (pc := 32) dX12_kindsBy_32 ?_
          refine x_istore C (pc := 33) (L' := fun i8 => [some (.ref t), some (.int a), some (.int n6), some (.int n4), some (.int n7), some (.int i8), none]) dX12_kindsBy_33 (by decide) (fun _ => rfl) (fun i8 => ?_)
          refine x_iload_n C (pc := 35) dX12_kindsBy_35 rfl ?_
          refine x_aload_n C (pc := 36) dX12_kindsBy_36 rfl ?_
          refine x_getR C (pc := 37) fg_X12_7 dX12_kindsBy_37 ht ?_
          refine x_iload C (pc := 40) dX12_kindsBy_40 rfl ?_
          refine x_iconst C (pc := 42) dX12_kindsBy_42 kc_i_1 ?_
          refine x_iadd C (pc := 43) dX12_kindsBy_43 ?_
          refine x_iald C (pc := 44) dX12_kindsBy_44 (lkd_10_0 ht) (fun _ => ?_)
          refine x_aload_n C (pc := 45) dX12_kindsBy_45 rfl ?_
          refine x_getR C (pc := 46) fg_X12_7 dX12_kindsBy_46 ht ?_
          refine x_iload C (pc := 49) dX12_kindsBy_49 rfl ?_
          refine x_iconst C (pc := 51) dX12_kindsBy_51 kc_i_2 ?_
          refine x_iadd C (pc := 52) dX12_kindsBy_52 ?_
          refine x_iald C (pc := 53) dX12_kindsBy_53 (lkd_10_0 ht) (fun _ => ?_)
          refine x_callSi C (pc := 54) ms_X12_70 [.int n4, .int (gI s0 (lk t 0) (Int32.toNatClampNeg (i8 + (nI 1)))), .int (gI s0 (lk t 0) (Int32.toNatClampNeg (i8 + (nI 2))))] (fun _ hr => ct_X12_taken _ _ _ _ _ hr) ⟨Nat.le_of_ble_eq_true rfl, Nat.le_of_ble_eq_true rfl⟩ rfl (Nat.le_of_ble_eq_true rfl) rfl dX12_kindsBy_54 (fun r9 => ?_)
          refine x_aload_n C (pc := 57) dX12_kindsBy_57 rfl ?_
          refine x_getR C (pc := 58) fg_X12_7 dX12_kindsBy_58 ht ?_
          refine x_iload C (pc := 61) dX12_kindsBy_61 rfl ?_
          refine x_iconst C (pc := 63) dX12_kindsBy_63 kc_i_3 ?_
          refine x_iadd C (pc := 64) dX12_kindsBy_64 ?_
          refine x_iald C (pc := 65) dX12_kindsBy_65 (lkd_10_0 ht) (fun _ => ?_)
          refine xb_1 (Z1 := fun j11 => Yx o 99 [some (.ref t), some (.int a), some (.int n6), some (.int n4), some (.int n7), some (.int i8), none] [.int j11] s0) ?_ (fun j11 => ?_)
          · skip
            refine x_icmp_ne C (pc := 66) (tgt := 98) dX12_kindsBy_66 (by decide) (fun _ => ?_) (fun _ => ?_)
            · skip
              refine x_iload_n C (pc := 69) dX12_kindsBy_69 rfl ?_
              refine x_aload_n C (pc := 70) dX12_kindsBy_70 rfl ?_
              refine x_getR C (pc := 71) fg_X12_7 dX12_kindsBy_71 ht ?_
              refine x_iload C (pc := 74) dX12_kindsBy_74 rfl ?_
              refine x_iconst C (pc := 76) dX12_kindsBy_76 kc_i_3 ?_
              refine x_iadd C (pc := 77) dX12_kindsBy_77 ?_
              refine x_iald C (pc := 78) dX12_kindsBy_78 (lkd_10_0 ht) (fun _ => ?_)
              refine x_callSi C (pc := 79) ms_X12_86 [.int n4, .int (gI s0 (lk t 0) (Int32.toNatClampNeg (i8 + (nI 3))))] (fun _ hr => ct_X12_rentOf _ _ _ _ hr) ⟨Nat.le_of_ble_eq_true rfl, Nat.le_of_ble_eq_true rfl⟩ rfl (Nat.le_of_ble_eq_true rfl) rfl dX12_kindsBy_79 (fun r10 => ?_)
              refine x_aload_n C (pc := 82) dX12_kindsBy_82 rfl ?_
              refine x_getR C (pc := 83) fg_X12_7 dX12_kindsBy_83 ht ?_
              refine x_iload C (pc := 86) dX12_kindsBy_86 rfl ?_
              refine x_iconst C (pc := 88) dX12_kindsBy_88 kc_i_4 ?_
              refine x_iadd C (pc := 89) dX12_kindsBy_89 ?_
              refine x_iald C (pc := 90) dX12_kindsBy_90 (lkd_10_0 ht) (fun _ => ?_)
              refine x_icmp_ne C (pc := 91) (tgt := 98) dX12_kindsBy_91 (by decide) (fun _ => ?_) (fun _ => ?_)
              · skip
                refine x_iconst C (pc := 94) dX12_kindsBy_94 kc_i_1 ?_
                refine x_goto C (pc := 95) (tgt := 99) dX12_kindsBy_95 (by decide) ?_
                exact Xo.done (fun h => Yx.weak (lw_s (lw_s (lw_s (lw_s (lw_s (lw_s (lw_n lw_0))))))) h)
              · skip
                refine x_iconst C (pc := 98) dX12_kindsBy_98 kc_i_0 ?_
                exact Xo.done (fun h => Yx.weak (lw_s (lw_s (lw_s (lw_s (lw_s (lw_s (lw_n lw_0))))))) h)
            · skip
              refine x_iconst C (pc := 98) dX12_kindsBy_98 kc_i_0 ?_
              exact Xo.done (fun h => Yx.weak (lw_s (lw_s (lw_s (lw_s (lw_s (lw_s (lw_n lw_0))))))) h)
          refine x_istore C (pc := 99) (L' := fun i12 => [some (.ref t), some (.int a), some (.int n6), some (.int n4), some (.int n7), some (.int i8), some (.int i12)]) dX12_kindsBy_99 (by decide) (fun _ => rfl) (fun i12 => ?_)
          refine x_iload_n C (pc := 101) dX12_kindsBy_101 rfl ?_
          refine x_aload_n C (pc := 102) dX12_kindsBy_102 rfl ?_
          refine x_getR C (pc := 103) fg_X12_7 dX12_kindsBy_103 ht ?_
          refine x_iload C (pc := 106) dX12_kindsBy_106 rfl ?_
          refine x_iald C (pc := 108) dX12_kindsBy_108 (lkd_10_0 ht) (fun _ => ?_)
          refine x_iload_n C (pc := 109) dX12_kindsBy_109 rfl ?_
          refine xb_1 (Z1 := fun j13 => Yx o 128 [some (.ref t), some (.int a), none, some (.int n4), some (.int n7), none, none] [.int j13, .int n6] s0) ?_ (fun j13 => ?_)
          · skip
            refine x_icmp_ne C (pc := 110) (tgt := 118) dX12_kindsBy_110 (by decide) (fun _ => ?_) (fun _ => ?_)
            · skip
              refine x_iload C (pc := 113) dX12_kindsBy_113 rfl ?_
              refine x_if_eq C (pc := 115) (tgt := 123) dX12_kindsBy_115 (by decide) (fun _ => ?_) (fun _ => ?_)
              · skip
                refine x_iconst C (pc := 123) dX12_kindsBy_123 kc_i_1 ?_
                refine x_iload_n C (pc := 124) dX12_kindsBy_124 rfl ?_
                refine x_ishl C (pc := 125) dX12_kindsBy_125 ?_
                refine x_iconst C (pc := 126) dX12_kindsBy_126 kc_i_m1 ?_
                refine x_ixor C (pc := 127) dX12_kindsBy_127 ?_
                exact Xo.done (fun h => Yx.weak (lw_s (lw_s (lw_n (lw_s (lw_s (lw_n (lw_n lw_0))))))) h)
              · skip
                refine x_bipush C (pc := 118) dX12_kindsBy_118 kc_b_63 ?_
                refine x_goto C (pc := 120) (tgt := 128) dX12_kindsBy_120 (by decide) ?_
                exact Xo.done (fun h => Yx.weak (lw_s (lw_s (lw_n (lw_s (lw_s (lw_n (lw_n lw_0))))))) h)
            · skip
              refine x_bipush C (pc := 118) dX12_kindsBy_118 kc_b_63 ?_
              refine x_goto C (pc := 120) (tgt := 128) dX12_kindsBy_120 (by decide) ?_
              exact Xo.done (fun h => Yx.weak (lw_s (lw_s (lw_n (lw_s (lw_s (lw_n (lw_n lw_0))))))) h)
          refine x_iand C (pc := 128) dX12_kindsBy_128 ?_
          refine x_istore_n C (pc := 129) (L' := fun i14 => [some (.ref t), some (.int a), some (.int i14), some (.int n4), some (.int n7), none, none]) dX12_kindsBy_129 (by decide) (fun _ => rfl) (fun i14 => ?_)
          refine x_iinc C (pc := 130) (L' := fun i15 => [some (.ref t), some (.int a), some (.int i14), some (.int n4), some (.int i15), none, none]) dX12_kindsBy_130 rfl kc_i_1 (by decide) (fun _ => rfl) (fun i15 => ?_)
          refine x_goto C (pc := 133) (tgt := 14) dX12_kindsBy_133 (by decide) ?_
          exact Xo.done (fun h => Yx.weak (lw_s (lw_s (lw_s (lw_s (lw_s (lw_n (lw_n lw_0))))))) h)
      refine x_iinc C (pc := 136) (L' := fun i17 => [some (.ref t), some (.int a), some (.int e16), some (.int i17), none, none, none]) dX12_kindsBy_136 rfl kc_i_1 (by decide) (fun _ => rfl) (fun i17 => ?_)
      refine x_goto C (pc := 139) (tgt := 5) dX12_kindsBy_139 (by decide) ?_
      exact Xo.done (fun h => Yx.weak (lw_s (lw_s (lw_s (lw_s (lw_n (lw_n (lw_n lw_0))))))) h)
  refine x_iload_n C (pc := 142) dX12_kindsBy_142 rfl ?_
  exact x_ret dX12_kindsBy_143 (fun h => h)
theorem ct_X12_kindsBy (t : Nat) (ht : kd t = 10) (a : Int32) (s0 : SS) (r : Int32) (h : FX12_kindsBy t a s0 = some r) : CT 1 yX12_kindsBy cX12_kindsBy 7 (some .int) 1 24 [.ref t, .int a] s0 (some (.int r)) s0 :=
  ct_of (by decide +kernel) (Or.inr (Or.inl ⟨_, rfl, _, rfl, rfl⟩)) (lx_args [.ref t, .int a]) (lx_entry [.ref t, .int a] (fun _ => Nat.le_of_ble_eq_true rfl)) (fun o C hR => Yx.weak (lw_s (lw_s (lw_z (lw_z (lw_z (lw_z (lw_z lw_0))))))) (bd_X12_kindsBy C t ht a s0 r h hR))
def FX12_is (t : Nat) (a : Int32) (s0 : SS) : Option (Int32 × SS) :=
  bd (FX12_isUser t a s0) (fun (r1 : Int32) => if r1 = 0 then bd2 (FX12_bad t s0) (fun (r2 : Int32) (s3 : SS) => some ((r2, s3))) else (bd (FX12_kindsBy t a s0) (fun (r4 : Int32) => some ((r4, s0)))))
set_option maxRecDepth 100000 in
set_option maxHeartbeats 4000000 in
theorem bd_X12_is {o : Om} (C : Cx o RX12 cX12_is 2 (some .int) (rmx 2 50) 1) (t : Nat) (ht : kd t = 10) (a : Int32) (s0 : SS) : Xo (FX12_is t a s0) (fun r => RT o cX12_is (some (.int r.1)) r.2) (Yx o 0 [some (.ref t), some (.int a)] [] s0) := by
  unfold FX12_is
  refine x_aload_n C (pc := 0) dX12_is_0 rfl ?_
  refine x_iload_n C (pc := 1) dX12_is_1 rfl ?_
  refine x_callVi C (pc := 2) mv_X12_185 ht rfl [.int a] (fun _ hr => ct_X12_isUser _ ht _ _ _ hr) ⟨Nat.le_of_ble_eq_true rfl, Nat.le_of_ble_eq_true rfl⟩ rfl (Nat.le_of_ble_eq_true rfl) rfl dX12_is_2 (fun r1 => ?_)
  refine x_if_eq C (pc := 5) (tgt := 16) dX12_is_5 (by decide) (fun _ => ?_) (fun _ => ?_)
  · skip
    refine x_aload_n C (pc := 16) dX12_is_16 rfl ?_
    refine x_callVim C (pc := 17) mv_X12_101 ht rfl [] (fun _ _ hr => ct_X12_bad _ ht _ _ _ hr) ⟨Nat.le_of_ble_eq_true rfl, Nat.le_of_ble_eq_true rfl⟩ rfl (Nat.le_of_ble_eq_true rfl) rfl dX12_is_17 (fun r2 s3 => ?_)
    exact x_ret dX12_is_20 (fun h => h)
  · skip
    refine x_aload_n C (pc := 8) dX12_is_8 rfl ?_
    refine x_iload_n C (pc := 9) dX12_is_9 rfl ?_
    refine x_callVi C (pc := 10) mv_X12_243 ht rfl [.int a] (fun _ hr => ct_X12_kindsBy _ ht _ _ _ hr) ⟨Nat.le_of_ble_eq_true rfl, Nat.le_of_ble_eq_true rfl⟩ rfl (Nat.le_of_ble_eq_true rfl) rfl dX12_is_10 (fun r4 => ?_)
    refine x_goto C (pc := 13) (tgt := 20) dX12_is_13 (by decide) ?_
    exact x_ret dX12_is_20 (fun h => h)
theorem ct_X12_is (t : Nat) (ht : kd t = 10) (a : Int32) (s0 : SS) (r : Int32) (s2 : SS) (h : FX12_is t a s0 = some (r, s2)) : CT 1 yX12_is cX12_is 2 (some .int) 2 50 [.ref t, .int a] s0 (some (.int r)) s2 :=
  ct_of (by decide +kernel) (Or.inr (Or.inl ⟨_, rfl, _, rfl, rfl⟩)) (lx_args [.ref t, .int a]) (lx_entry [.ref t, .int a] (fun _ => Nat.le_of_ble_eq_true rfl)) (fun o C hR => Yx.weak (lw_s (lw_s lw_0)) (bd_X12_is C t ht a s0 (r, s2) h hR))
def FX12_look (t : Nat) (a : Int32) (s0 : SS) : Option (Int32 × SS) :=
  bd (FX12_isUser t a s0) (fun (r1 : Int32) => if r1 = 0 then bd2 (FX12_bad t s0) (fun (r2 : Int32) (s3 : SS) => some ((r2, s3))) else (bd (FX12_kindsBy t a s0) (fun (r4 : Int32) => nm r4 (fun (i5 : Int32) => bd (FX12_userOf (lk t 0) a (nI 2) s0) (fun (r6 : Int32) => nm r6 (fun (i7 : Int32) => nm (-1 : Int32) (fun (i8 : Int32) => nm (nI 7) (fun (i9 : Int32) => nm (nI 0) (fun (i10 : Int32) => bd (lp FUEL (u3 (fun (n11 : Int32) (n12 : Int32) (n13 : Int32) => if (nI 20) < n13 then some (Sum.inr n11) else (if i5 = 0 then some (Sum.inr n11) else (nm (nI 0) (fun (i14 : Int32) => nm (nI 0) (fun (i15 : Int32) => bd (lp FUEL (u2 (fun (n16 : Int32) (n17 : Int32) => if (nI 6) ≤ n17 then some (Sum.inr n16) else (nm (nI 0) (fun (i18 : Int32) => nm (nI 0) (fun (i19 : Int32) => bd (lp FUEL (u2 (fun (n20 : Int32) (n21 : Int32) => if (nI 6) ≤ n21 then some (Sum.inr n20) else (bd (FX12_taken n17 i7 n13 s0) (fun (r22 : Int32) => nm r22 (fun (i23 : Int32) => bd (FX12_has i5 n17 s0) (fun (r24 : Int32) => bd (if r24 = 0 then some ((nI 0)) else (bd (FX12_has i5 n21 s0) (fun (r25 : Int32) => if r25 = 0 then some ((nI 0)) else (bd (FX12_taken n21 i7 n13 s0) (fun (r26 : Int32) => if r26 = i23 then bd (FX12_rentOf n21 i23 s0) (fun (r27 : Int32) => bd (FX12_rentOf n17 i23 s0) (fun (r28 : Int32) => if r27 = r28 then some ((nI 1)) else (some ((nI 0))))) else (some ((nI 0)))))))) (fun (j29 : Int32) => nm (n20 + j29) (fun (i30 : Int32) => nm (n21 + (nI 1)) (fun (i31 : Int32) => some (Sum.inl (i30, i31))))))))))) (i18, i19)) (fun (e32 : Int32) => bd (if e32 ≤ n16 then some (n16) else (some (e32))) (fun (j33 : Int32) => nm j33 (fun (i34 : Int32) => nm (n17 + (nI 1)) (fun (i35 : Int32) => some (Sum.inl (i34, i35))))))))))) (i14, i15)) (fun (e36 : Int32) => bd (if n12 ≤ e36 then some (n11) else (some (n13))) (fun (j37 : Int32) => nm j37 (fun (i38 : Int32) => bd (if n12 ≤ e36 then some (n12) else (some (e36))) (fun (j39 : Int32) => nm j39 (fun (i40 : Int32) => nm (n13 + (nI 1)) (fun (i41 : Int32) => some (Sum.inl (i38, i40, i41)))))))))))))) (i8, i9, i10)) (fun (e42 : Int32) => some ((e42, s0))))))))))))
set_option maxRecDepth 100000 in
set_option maxHeartbeats 4000000 in
theorem bd_X12_look {o : Om} (C : Cx o RX12 cX12_look 12 (some .int) (rmx 2 50) 1) (t : Nat) (ht : kd t = 10) (a : Int32) (s0 : SS) : Xo (FX12_look t a s0) (fun r => RT o cX12_look (some (.int r.1)) r.2) (Yx o 0 [some (.ref t), some (.int a), none, none, none, none, none, none, none, none, none, none] [] s0) := by
  unfold FX12_look
  refine x_aload_n C (pc := 0) dX12_look_0 rfl ?_
  refine x_iload_n C (pc := 1) dX12_look_1 rfl ?_
  refine x_callVi C (pc := 2) mv_X12_185 ht rfl [.int a] (fun _ hr => ct_X12_isUser _ ht _ _ _ hr) ⟨Nat.le_of_ble_eq_true rfl, Nat.le_of_ble_eq_true rfl⟩ rfl (Nat.le_of_ble_eq_true rfl) rfl dX12_look_2 (fun r1 => ?_)
  refine x_if_ne C (pc := 5) (tgt := 13) dX12_look_5 (by decide) (fun _ => ?_) (fun _ => ?_)
  · skip
    refine x_aload_n C (pc := 8) dX12_look_8 rfl ?_
    refine x_callVim C (pc := 9) mv_X12_101 ht rfl [] (fun _ _ hr => ct_X12_bad _ ht _ _ _ hr) ⟨Nat.le_of_ble_eq_true rfl, Nat.le_of_ble_eq_true rfl⟩ rfl (Nat.le_of_ble_eq_true rfl) rfl dX12_look_9 (fun r2 s3 => ?_)
    exact x_ret dX12_look_12 (fun h => h)
  · skip
    refine x_aload_n C (pc := 13) dX12_look_13 rfl ?_
    refine x_iload_n C (pc := 14) dX12_look_14 rfl ?_
    refine x_callVi C (pc := 15) mv_X12_243 ht rfl [.int a] (fun _ hr => ct_X12_kindsBy _ ht _ _ _ hr) ⟨Nat.le_of_ble_eq_true rfl, Nat.le_of_ble_eq_true rfl⟩ rfl (Nat.le_of_ble_eq_true rfl) rfl dX12_look_15 (fun r4 => ?_)
    refine x_istore_n C (pc := 18) (L' := fun i5 => [some (.ref t), some (.int a), some (.int i5), none, none, none, none, none, none, none, none, none]) dX12_look_18 (by decide) (fun _ => rfl) (fun i5 => ?_)
    refine x_aload_n C (pc := 19) dX12_look_19 rfl ?_
    refine x_getR C (pc := 20) fg_X12_7 dX12_look_20 ht ?_
    refine x_iload_n C (pc := 23) dX12_look_23 rfl ?_
    refine x_iconst C (pc := 24) dX12_look_24 kc_i_2 ?_
    refine x_callSi C (pc := 25) ms_X12_66 [.ref (lk t 0), .int a, .int (nI 2)] (fun _ hr => ct_X12_userOf _ (lkd_10_0 ht) _ _ _ _ hr) ⟨Nat.le_of_ble_eq_true rfl, Nat.le_of_ble_eq_true rfl⟩ rfl (Nat.le_of_ble_eq_true rfl) rfl dX12_look_25 (fun r6 => ?_)
    refine x_istore_n C (pc := 28) (L' := fun i7 => [some (.ref t), some (.int a), some (.int i5), some (.int i7), none, none, none, none, none, none, none, none]) dX12_look_28 (by decide) (fun _ => rfl) (fun i7 => ?_)
    refine x_iconst C (pc := 29) dX12_look_29 kc_i_m1 ?_
    refine x_istore C (pc := 30) (L' := fun i8 => [some (.ref t), some (.int a), some (.int i5), some (.int i7), some (.int i8), none, none, none, none, none, none, none]) dX12_look_30 (by decide) (fun _ => rfl) (fun i8 => ?_)
    refine x_bipush C (pc := 32) dX12_look_32 kc_b_7 ?_
    refine x_istore C (pc := 34) (L' := fun i9 => [some (.ref t), some (.int a), some (.int i5), some (.int i7), some (.int i8), some (.int i9), none, none, none, none, none, none]) dX12_look_34 (by decide) (fun _ => rfl) (fun i9 => ?_)
    refine x_iconst C (pc := 36) dX12_look_36 kc_i_0 ?_
    refine x_istore C (pc := 37) (L' := fun i10 => [some (.ref t), some (.int a), some (.int i5), some (.int i7), some (.int i8), some (.int i9), some (.int i10), none, none, none, none, none]) dX12_look_37 (by decide) (fun _ => rfl) (fun i10 => ?_)
    refine xb_1 (Z1 := (fun e42 => Yx o 210 [none, none, none, none, some (.int e42), none, none, none, none, none, none, none] [] s0)) ?_ (fun e42 => ?_)
    · refine Xo.mono (Yx.weak (lw_n (lw_n (lw_s (lw_s (lw_s (lw_s (lw_s (lw_n (lw_n (lw_n (lw_n (lw_n lw_0))))))))))))) (x_lp3 (fr := fun n11 n12 n13 => Yx o 39 [none, none, some (.int i5), some (.int i7), some (.int n11), some (.int n12), some (.int n13), none, none, none, none, none] [] s0) _ _ _ (fun n11 n12 n13 => ?_))
      refine x_iload C (pc := 39) dX12_look_39 rfl ?_
      refine x_bipush C (pc := 41) dX12_look_41 kc_b_20 ?_
      refine x_icmp_gt C (pc := 43) (tgt := 210) dX12_look_43 (by decide) (fun _ => ?_) (fun _ => ?_)
      · skip
        exact Xo.done (fun h => Yx.weak (lw_n (lw_n (lw_n (lw_n (lw_s (lw_n (lw_n (lw_n (lw_n (lw_n (lw_n (lw_n lw_0)))))))))))) h)
      · skip
        refine x_iload_n C (pc := 46) dX12_look_46 rfl ?_
        refine x_if_eq C (pc := 47) (tgt := 210) dX12_look_47 (by decide) (fun _ => ?_) (fun _ => ?_)
        · skip
          exact Xo.done (fun h => Yx.weak (lw_n (lw_n (lw_n (lw_n (lw_s (lw_n (lw_n (lw_n (lw_n (lw_n (lw_n (lw_n lw_0)))))))))))) h)
        · skip
          refine x_iconst C (pc := 50) dX12_look_50 kc_i_0 ?_
          refine x_istore C (pc := 51) (L' := fun i14 => [none, none, some (.int i5), some (.int i7), some (.int n11), some (.int n12), some (.int n13), some (.int i14), none, none, none, none]) dX12_look_51 (by decide) (fun _ => rfl) (fun i14 => ?_)
          refine x_iconst C (pc := 53) dX12_look_53 kc_i_0 ?_
          refine x_istore C (pc := 54) (L' := fun i15 => [none, none, some (.int i5), some (.int i7), some (.int n11), some (.int n12), some (.int n13), some (.int i14), some (.int i15), none, none, none]) dX12_look_54 (by decide) (fun _ => rfl) (fun i15 => ?_)
          refine xb_1 (Z1 := (fun e36 => Yx o 172 [none, none, some (.int i5), some (.int i7), some (.int n11), some (.int n12), some (.int n13), some (.int e36), none, none, none, none] [] s0)) ?_ (fun e36 => ?_)
          · refine Xo.mono (Yx.weak (lw_n (lw_n (lw_s (lw_s (lw_s (lw_s (lw_s (lw_s (lw_s (lw_n (lw_n (lw_n lw_0))))))))))))) (x_lp2 (fr := fun n16 n17 => Yx o 56 [none, none, some (.int i5), some (.int i7), some (.int n11), some (.int n12), some (.int n13), some (.int n16), some (.int n17), none, none, none] [] s0) _ _ (fun n16 n17 => ?_))
            refine x_iload C (pc := 56) dX12_look_56 rfl ?_
            refine x_bipush C (pc := 58) dX12_look_58 kc_b_6 ?_
            refine x_icmp_ge C (pc := 60) (tgt := 172) dX12_look_60 (by decide) (fun _ => ?_) (fun _ => ?_)
            · skip
              exact Xo.done (fun h => Yx.weak (lw_n (lw_n (lw_s (lw_s (lw_s (lw_s (lw_s (lw_s (lw_n (lw_n (lw_n (lw_n lw_0)))))))))))) h)
            · skip
              refine x_iconst C (pc := 63) dX12_look_63 kc_i_0 ?_
              refine x_istore C (pc := 64) (L' := fun i18 => [none, none, some (.int i5), some (.int i7), some (.int n11), some (.int n12), some (.int n13), some (.int n16), some (.int n17), some (.int i18), none, none]) dX12_look_64 (by decide) (fun _ => rfl) (fun i18 => ?_)
              refine x_iconst C (pc := 66) dX12_look_66 kc_i_0 ?_
              refine x_istore C (pc := 67) (L' := fun i19 => [none, none, some (.int i5), some (.int i7), some (.int n11), some (.int n12), some (.int n13), some (.int n16), some (.int n17), some (.int i18), some (.int i19), none]) dX12_look_67 (by decide) (fun _ => rfl) (fun i19 => ?_)
              refine xb_1 (Z1 := (fun e32 => Yx o 150 [none, none, some (.int i5), some (.int i7), some (.int n11), some (.int n12), some (.int n13), some (.int n16), some (.int n17), some (.int e32), none, none] [] s0)) ?_ (fun e32 => ?_)
              · refine Xo.mono (Yx.weak (lw_n (lw_n (lw_s (lw_s (lw_s (lw_s (lw_s (lw_s (lw_s (lw_s (lw_s (lw_n lw_0))))))))))))) (x_lp2 (fr := fun n20 n21 => Yx o 69 [none, none, some (.int i5), some (.int i7), some (.int n11), some (.int n12), some (.int n13), some (.int n16), some (.int n17), some (.int n20), some (.int n21), none] [] s0) _ _ (fun n20 n21 => ?_))
                refine x_iload C (pc := 69) dX12_look_69 rfl ?_
                refine x_bipush C (pc := 71) dX12_look_71 kc_b_6 ?_
                refine x_icmp_ge C (pc := 73) (tgt := 150) dX12_look_73 (by decide) (fun _ => ?_) (fun _ => ?_)
                · skip
                  exact Xo.done (fun h => Yx.weak (lw_n (lw_n (lw_s (lw_s (lw_s (lw_s (lw_s (lw_s (lw_s (lw_s (lw_n (lw_n lw_0)))))))))))) h)
                · skip
                  refine x_iload C (pc := 76) dX12_look_76 rfl ?_
                  refine x_iload_n C (pc := 78) dX12_look_78 rfl ?_
                  refine x_iload C (pc := 79) dX12_look_79 rfl ?_
                  refine x_callSi C (pc := 81) ms_X12_70 [.int n17, .int i7, .int n13] (fun _ hr => ct_X12_taken _ _ _ _ _ hr) ⟨Nat.le_of_ble_eq_true rfl, Nat.le_of_ble_eq_true rfl⟩ rfl (Nat.le_of_ble_eq_true rfl) rfl dX12_look_81 (fun r22 => ?_)
                  refine x_istore C (pc := 84) (L' := fun i23 => [none, none, some (.int i5), some (.int i7), some (.int n11), some (.int n12), some (.int n13), some (.int n16), some (.int n17), some (.int n20), some (.int n21), some (.int i23)]) dX12_look_84 (by decide) (fun _ => rfl) (fun i23 => ?_)
                  refine x_iload C (pc := 86) dX12_look_86 rfl ?_
                  refine x_iload_n C (pc := 88) dX12_look_88 rfl ?_
                  refine x_iload C (pc := 89) dX12_look_89 rfl ?_
                  refine x_callSi C (pc := 91) ms_X12_62 [.int i5, .int n17] (fun _ hr => ct_X12_has _ _ _ _ hr) ⟨Nat.le_of_ble_eq_true rfl, Nat.le_of_ble_eq_true rfl⟩ rfl (Nat.le_of_ble_eq_true rfl) rfl dX12_look_91 (fun r24 => ?_)
                  refine xb_1 (Z1 := fun j29 => Yx o 141 [none, none, some (.int i5), some (.int i7), some (.int n11), some (.int n12), some (.int n13), some (.int n16), some (.int n17), none, some (.int n21), none] [.int j29, .int n20] s0) ?_ (fun j29 => ?_)
                  · skip
                    refine x_if_eq C (pc := 94) (tgt := 140) dX12_look_94 (by decide) (fun _ => ?_) (fun _ => ?_)
                    · skip
                      refine x_iconst C (pc := 140) dX12_look_140 kc_i_0 ?_
                      exact Xo.done (fun h => Yx.weak (lw_n (lw_n (lw_s (lw_s (lw_s (lw_s (lw_s (lw_s (lw_s (lw_n (lw_s (lw_n lw_0)))))))))))) h)
                    · skip
                      refine x_iload_n C (pc := 97) dX12_look_97 rfl ?_
                      refine x_iload C (pc := 98) dX12_look_98 rfl ?_
                      refine x_callSi C (pc := 100) ms_X12_62 [.int i5, .int n21] (fun _ hr => ct_X12_has _ _ _ _ hr) ⟨Nat.le_of_ble_eq_true rfl, Nat.le_of_ble_eq_true rfl⟩ rfl (Nat.le_of_ble_eq_true rfl) rfl dX12_look_100 (fun r25 => ?_)
                      refine x_if_eq C (pc := 103) (tgt := 140) dX12_look_103 (by decide) (fun _ => ?_) (fun _ => ?_)
                      · skip
                        refine x_iconst C (pc := 140) dX12_look_140 kc_i_0 ?_
                        exact Xo.done (fun h => Yx.weak (lw_n (lw_n (lw_s (lw_s (lw_s (lw_s (lw_s (lw_s (lw_s (lw_n (lw_s (lw_n lw_0)))))))))))) h)
                      · skip
                        refine x_iload C (pc := 106) dX12_look_106 rfl ?_
                        refine x_iload_n C (pc := 108) dX12_look_108 rfl ?_
                        refine x_iload C (pc := 109) dX12_look_109 rfl ?_
                        refine x_callSi C (pc := 111) ms_X12_70 [.int n21, .int i7, .int n13] (fun _ hr => ct_X12_taken _ _ _ _ _ hr) ⟨Nat.le_of_ble_eq_true rfl, Nat.le_of_ble_eq_true rfl⟩ rfl (Nat.le_of_ble_eq_true rfl) rfl dX12_look_111 (fun r26 => ?_)
                        refine x_iload C (pc := 114) dX12_look_114 rfl ?_
                        refine x_icmp_ne C (pc := 116) (tgt := 140) dX12_look_116 (by decide) (fun _ => ?_) (fun _ => ?_)
                        · skip
                          refine x_iload C (pc := 119) dX12_look_119 rfl ?_
                          refine x_iload C (pc := 121) dX12_look_121 rfl ?_
                          refine x_callSi C (pc := 123) ms_X12_86 [.int n21, .int i23] (fun _ hr => ct_X12_rentOf _ _ _ _ hr) ⟨Nat.le_of_ble_eq_true rfl, Nat.le_of_ble_eq_true rfl⟩ rfl (Nat.le_of_ble_eq_true rfl) rfl dX12_look_123 (fun r27 => ?_)
                          refine x_iload C (pc := 126) dX12_look_126 rfl ?_
                          refine x_iload C (pc := 128) dX12_look_128 rfl ?_
                          refine x_callSi C (pc := 130) ms_X12_86 [.int n17, .int i23] (fun _ hr => ct_X12_rentOf _ _ _ _ hr) ⟨Nat.le_of_ble_eq_true rfl, Nat.le_of_ble_eq_true rfl⟩ rfl (Nat.le_of_ble_eq_true rfl) rfl dX12_look_130 (fun r28 => ?_)
                          refine x_icmp_ne C (pc := 133) (tgt := 140) dX12_look_133 (by decide) (fun _ => ?_) (fun _ => ?_)
                          · skip
                            refine x_iconst C (pc := 136) dX12_look_136 kc_i_1 ?_
                            refine x_goto C (pc := 137) (tgt := 141) dX12_look_137 (by decide) ?_
                            exact Xo.done (fun h => Yx.weak (lw_n (lw_n (lw_s (lw_s (lw_s (lw_s (lw_s (lw_s (lw_s (lw_n (lw_s (lw_n lw_0)))))))))))) h)
                          · skip
                            refine x_iconst C (pc := 140) dX12_look_140 kc_i_0 ?_
                            exact Xo.done (fun h => Yx.weak (lw_n (lw_n (lw_s (lw_s (lw_s (lw_s (lw_s (lw_s (lw_s (lw_n (lw_s (lw_n lw_0)))))))))))) h)
                        · skip
                          refine x_iconst C (pc := 140) dX12_look_140 kc_i_0 ?_
                          exact Xo.done (fun h => Yx.weak (lw_n (lw_n (lw_s (lw_s (lw_s (lw_s (lw_s (lw_s (lw_s (lw_n (lw_s (lw_n lw_0)))))))))))) h)
                  refine x_iadd C (pc := 141) dX12_look_141 ?_
                  refine x_istore C (pc := 142) (L' := fun i30 => [none, none, some (.int i5), some (.int i7), some (.int n11), some (.int n12), some (.int n13), some (.int n16), some (.int n17), some (.int i30), some (.int n21), none]) dX12_look_142 (by decide) (fun _ => rfl) (fun i30 => ?_)
                  refine x_iinc C (pc := 144) (L' := fun i31 => [none, none, some (.int i5), some (.int i7), some (.int n11), some (.int n12), some (.int n13), some (.int n16), some (.int n17), some (.int i30), some (.int i31), none]) dX12_look_144 rfl kc_i_1 (by decide) (fun _ => rfl) (fun i31 => ?_)
                  refine x_goto C (pc := 147) (tgt := 69) dX12_look_147 (by decide) ?_
                  exact Xo.done (fun h => Yx.weak (lw_n (lw_n (lw_s (lw_s (lw_s (lw_s (lw_s (lw_s (lw_s (lw_s (lw_s (lw_n lw_0)))))))))))) h)
              refine x_iload C (pc := 150) dX12_look_150 rfl ?_
              refine x_iload C (pc := 152) dX12_look_152 rfl ?_
              refine xb_1 (Z1 := fun j33 => Yx o 164 [none, none, some (.int i5), some (.int i7), some (.int n11), some (.int n12), some (.int n13), none, some (.int n17), none, none, none] [.int j33] s0) ?_ (fun j33 => ?_)
              · skip
                refine x_icmp_le C (pc := 154) (tgt := 162) dX12_look_154 (by decide) (fun _ => ?_) (fun _ => ?_)
                · skip
                  refine x_iload C (pc := 162) dX12_look_162 rfl ?_
                  exact Xo.done (fun h => Yx.weak (lw_n (lw_n (lw_s (lw_s (lw_s (lw_s (lw_s (lw_n (lw_s (lw_n (lw_n (lw_n lw_0)))))))))))) h)
                · skip
                  refine x_iload C (pc := 157) dX12_look_157 rfl ?_
                  refine x_goto C (pc := 159) (tgt := 164) dX12_look_159 (by decide) ?_
                  exact Xo.done (fun h => Yx.weak (lw_n (lw_n (lw_s (lw_s (lw_s (lw_s (lw_s (lw_n (lw_s (lw_n (lw_n (lw_n lw_0)))))))))))) h)
              refine x_istore C (pc := 164) (L' := fun i34 => [none, none, some (.int i5), some (.int i7), some (.int n11), some (.int n12), some (.int n13), some (.int i34), some (.int n17), none, none, none]) dX12_look_164 (by decide) (fun _ => rfl) (fun i34 => ?_)
              refine x_iinc C (pc := 166) (L' := fun i35 => [none, none, some (.int i5), some (.int i7), some (.int n11), some (.int n12), some (.int n13), some (.int i34), some (.int i35), none, none, none]) dX12_look_166 rfl kc_i_1 (by decide) (fun _ => rfl) (fun i35 => ?_)
              refine x_goto C (pc := 169) (tgt := 56) dX12_look_169 (by decide) ?_
              exact Xo.done (fun h => Yx.weak (lw_n (lw_n (lw_s (lw_s (lw_s (lw_s (lw_s (lw_s (lw_s (lw_n (lw_n (lw_n lw_0)))))))))))) h)
          refine x_iload C (pc := 172) dX12_look_172 rfl ?_
          refine x_iload C (pc := 174) dX12_look_174 rfl ?_
          refine xb_1 (Z1 := fun j37 => Yx o 186 [none, none, some (.int i5), some (.int i7), none, some (.int n12), some (.int n13), some (.int e36), none, none, none, none] [.int j37] s0) ?_ (fun j37 => ?_)
          · skip
            refine x_icmp_ge C (pc := 176) (tgt := 184) dX12_look_176 (by decide) (fun _ => ?_) (fun _ => ?_)
            · skip
              refine x_iload C (pc := 184) dX12_look_184 rfl ?_
              exact Xo.done (fun h => Yx.weak (lw_n (lw_n (lw_s (lw_s (lw_n (lw_s (lw_s (lw_s (lw_n (lw_n (lw_n (lw_n lw_0)))))))))))) h)
            · skip
              refine x_iload C (pc := 179) dX12_look_179 rfl ?_
              refine x_goto C (pc := 181) (tgt := 186) dX12_look_181 (by decide) ?_
              exact Xo.done (fun h => Yx.weak (lw_n (lw_n (lw_s (lw_s (lw_n (lw_s (lw_s (lw_s (lw_n (lw_n (lw_n (lw_n lw_0)))))))))))) h)
          refine x_istore C (pc := 186) (L' := fun i38 => [none, none, some (.int i5), some (.int i7), some (.int i38), some (.int n12), some (.int n13), some (.int e36), none, none, none, none]) dX12_look_186 (by decide) (fun _ => rfl) (fun i38 => ?_)
          refine x_iload C (pc := 188) dX12_look_188 rfl ?_
          refine x_iload C (pc := 190) dX12_look_190 rfl ?_
          refine xb_1 (Z1 := fun j39 => Yx o 202 [none, none, some (.int i5), some (.int i7), some (.int i38), none, some (.int n13), none, none, none, none, none] [.int j39] s0) ?_ (fun j39 => ?_)
          · skip
            refine x_icmp_ge C (pc := 192) (tgt := 200) dX12_look_192 (by decide) (fun _ => ?_) (fun _ => ?_)
            · skip
              refine x_iload C (pc := 200) dX12_look_200 rfl ?_
              exact Xo.done (fun h => Yx.weak (lw_n (lw_n (lw_s (lw_s (lw_s (lw_n (lw_s (lw_n (lw_n (lw_n (lw_n (lw_n lw_0)))))))))))) h)
            · skip
              refine x_iload C (pc := 195) dX12_look_195 rfl ?_
              refine x_goto C (pc := 197) (tgt := 202) dX12_look_197 (by decide) ?_
              exact Xo.done (fun h => Yx.weak (lw_n (lw_n (lw_s (lw_s (lw_s (lw_n (lw_s (lw_n (lw_n (lw_n (lw_n (lw_n lw_0)))))))))))) h)
          refine x_istore C (pc := 202) (L' := fun i40 => [none, none, some (.int i5), some (.int i7), some (.int i38), some (.int i40), some (.int n13), none, none, none, none, none]) dX12_look_202 (by decide) (fun _ => rfl) (fun i40 => ?_)
          refine x_iinc C (pc := 204) (L' := fun i41 => [none, none, some (.int i5), some (.int i7), some (.int i38), some (.int i40), some (.int i41), none, none, none, none, none]) dX12_look_204 rfl kc_i_1 (by decide) (fun _ => rfl) (fun i41 => ?_)
          refine x_goto C (pc := 207) (tgt := 39) dX12_look_207 (by decide) ?_
          exact Xo.done (fun h => Yx.weak (lw_n (lw_n (lw_s (lw_s (lw_s (lw_s (lw_s (lw_n (lw_n (lw_n (lw_n (lw_n lw_0)))))))))))) h)
    refine x_iload C (pc := 210) dX12_look_210 rfl ?_
    exact x_ret dX12_look_212 (fun h => h)
theorem ct_X12_look (t : Nat) (ht : kd t = 10) (a : Int32) (s0 : SS) (r : Int32) (s2 : SS) (h : FX12_look t a s0 = some (r, s2)) : CT 1 yX12_look cX12_look 12 (some .int) 2 50 [.ref t, .int a] s0 (some (.int r)) s2 :=
  ct_of (by decide +kernel) (Or.inr (Or.inl ⟨_, rfl, _, rfl, rfl⟩)) (lx_args [.ref t, .int a]) (lx_entry [.ref t, .int a] (fun _ => Nat.le_of_ble_eq_true rfl)) (fun o C hR => Yx.weak (lw_s (lw_s (lw_z (lw_z (lw_z (lw_z (lw_z (lw_z (lw_z (lw_z (lw_z (lw_z lw_0)))))))))))) (bd_X12_look C t ht a s0 (r, s2) h hR))
def FX12_suitsBy (t : Nat) (a : Int32) (s0 : SS) : Option (Int32) :=
  nm (nI 63) (fun (i1 : Int32) => nm (nI 0) (fun (i2 : Int32) => bd (lp FUEL (u2 (fun (n3 : Int32) (n4 : Int32) => if (nI 6) ≤ n4 then some (Sum.inr n3) else (nm (nI 0) (fun (i5 : Int32) => bd (lp FUEL (u2 (fun (n6 : Int32) (n7 : Int32) => gd (inb (nI 112) (ln (lk t 0))) (if (gI s0 (lk t 0) (Int32.toNatClampNeg (nI 112))) ≤ n7 then some (Sum.inr n6) else (nm ((nI 113) + ((nI 4) * n7)) (fun (i8 : Int32) => gd (inb (i8 + (nI 1)) (ln (lk t 0))) (gd (inb (i8 + (nI 2)) (ln (lk t 0))) (bd (FX12_awardOf n4 (gI s0 (lk t 0) (Int32.toNatClampNeg (i8 + (nI 1)))) (gI s0 (lk t 0) (Int32.toNatClampNeg (i8 + (nI 2)))) s0) (fun (r9 : Int32) => gd (inb (i8 + (nI 3)) (ln (lk t 0))) (bd (if r9 = (gI s0 (lk t 0) (Int32.toNatClampNeg (i8 + (nI 3)))) then some ((nI 1)) else (some ((nI 0)))) (fun (j10 : Int32) => nm j10 (fun (i11 : Int32) => gd (inb i8 (ln (lk t 0))) (bd (if (gI s0 (lk t 0) (Int32.toNatClampNeg i8)) = a then if i11 = 0 then some ((((nI 1) <<< (n4 &&& 31)) ^^^ (-1 : Int32))) else (some ((nI 63))) else (some ((nI 63)))) (fun (j12 : Int32) => nm (n6 &&& j12) (fun (i13 : Int32) => nm (n7 + (nI 1)) (fun (i14 : Int32) => some (Sum.inl (i13, i14))))))))))))))))) (n3, i5)) (fun (e15 : Int32) => nm (n4 + (nI 1)) (fun (i16 : Int32) => some (Sum.inl (e15, i16)))))))) (i1, i2)) (fun (e17 : Int32) => some (e17))))
set_option maxRecDepth 100000 in
set_option maxHeartbeats 4000000 in
theorem bd_X12_suitsBy {o : Om} (C : Cx o RX12 cX12_suitsBy 7 (some .int) (rmx 1 22) 1) (t : Nat) (ht : kd t = 10) (a : Int32) (s0 : SS) : Xo (FX12_suitsBy t a s0) (fun r => RT o cX12_suitsBy (some (.int r)) s0) (Yx o 0 [some (.ref t), some (.int a), none, none, none, none, none] [] s0) := by
  unfold FX12_suitsBy
  refine x_bipush C (pc := 0) dX12_suitsBy_0 kc_b_63 ?_
  refine x_istore_n C (pc := 2) (L' := fun i1 => [some (.ref t), some (.int a), some (.int i1), none, none, none, none]) dX12_suitsBy_2 (by decide) (fun _ => rfl) (fun i1 => ?_)
  refine x_iconst C (pc := 3) dX12_suitsBy_3 kc_i_0 ?_
  refine x_istore_n C (pc := 4) (L' := fun i2 => [some (.ref t), some (.int a), some (.int i1), some (.int i2), none, none, none]) dX12_suitsBy_4 (by decide) (fun _ => rfl) (fun i2 => ?_)
  refine xb_1 (Z1 := (fun e17 => Yx o 117 [none, none, some (.int e17), none, none, none, none] [] s0)) ?_ (fun e17 => ?_)
  · refine Xo.mono (Yx.weak (lw_s (lw_s (lw_s (lw_s (lw_n (lw_n (lw_n lw_0)))))))) (x_lp2 (fr := fun n3 n4 => Yx o 5 [some (.ref t), some (.int a), some (.int n3), some (.int n4), none, none, none] [] s0) _ _ (fun n3 n4 => ?_))
    refine x_iload_n C (pc := 5) dX12_suitsBy_5 rfl ?_
    refine x_bipush C (pc := 6) dX12_suitsBy_6 kc_b_6 ?_
    refine x_icmp_ge C (pc := 8) (tgt := 117) dX12_suitsBy_8 (by decide) (fun _ => ?_) (fun _ => ?_)
    · skip
      exact Xo.done (fun h => Yx.weak (lw_n (lw_n (lw_s (lw_n (lw_n (lw_n (lw_n lw_0))))))) h)
    · skip
      refine x_iconst C (pc := 11) dX12_suitsBy_11 kc_i_0 ?_
      refine x_istore C (pc := 12) (L' := fun i5 => [some (.ref t), some (.int a), some (.int n3), some (.int n4), some (.int i5), none, none]) dX12_suitsBy_12 (by decide) (fun _ => rfl) (fun i5 => ?_)
      refine xb_1 (Z1 := (fun e15 => Yx o 111 [some (.ref t), some (.int a), some (.int e15), some (.int n4), none, none, none] [] s0)) ?_ (fun e15 => ?_)
      · refine Xo.mono (Yx.weak (lw_s (lw_s (lw_s (lw_s (lw_s (lw_n (lw_n lw_0)))))))) (x_lp2 (fr := fun n6 n7 => Yx o 14 [some (.ref t), some (.int a), some (.int n6), some (.int n4), some (.int n7), none, none] [] s0) _ _ (fun n6 n7 => ?_))
        refine x_iload C (pc := 14) dX12_suitsBy_14 rfl ?_
        refine x_aload_n C (pc := 16) dX12_suitsBy_16 rfl ?_
        refine x_getR C (pc := 17) fg_X12_7 dX12_suitsBy_17 ht ?_
        refine x_bipush C (pc := 20) dX12_suitsBy_20 kc_b_112 ?_
        refine x_iald C (pc := 22) dX12_suitsBy_22 (lkd_10_0 ht) (fun _ => ?_)
        refine x_icmp_ge C (pc := 23) (tgt := 111) dX12_suitsBy_23 (by decide) (fun _ => ?_) (fun _ => ?_)
        · skip
          exact Xo.done (fun h => Yx.weak (lw_s (lw_s (lw_s (lw_s (lw_n (lw_n (lw_n lw_0))))))) h)
        · skip
          refine x_bipush C (pc := 26) dX12_suitsBy_26 kc_b_113 ?_
          refine x_iconst C (pc := 28) dX12_suitsBy_28 kc_i_4 ?_
          refine x_iload C (pc := 29) dX12_suitsBy_29 rfl ?_
          refine x_imul C (pc := 31) dX12_suitsBy_31 ?_
          refine x_iadd C (pc := 32) dX12_suitsBy_32 ?_
          refine x_istore C (pc := 33) (L' := fun i8 => [some (.ref t), some (.int a), some (.int n6), some (.int n4), some (.int n7), some (.int i8), none]) dX12_suitsBy_33 (by decide) (fun _ => rfl) (fun i8 => ?_)
          refine x_iload_n C (pc := 35) dX12_suitsBy_35 rfl ?_
          refine x_aload_n C (pc := 36) dX12_suitsBy_36 rfl ?_
          refine x_getR C (pc := 37) fg_X12_7 dX12_suitsBy_37 ht ?_
          refine x_iload C (pc := 40) dX12_suitsBy_40 rfl ?_
          refine x_iconst C (pc := 42) dX12_suitsBy_42 kc_i_1 ?_
          refine x_iadd C (pc := 43) dX12_suitsBy_43 ?_
          refine x_iald C (pc := 44) dX12_suitsBy_44 (lkd_10_0 ht) (fun _ => ?_)
          refine x_aload_n C (pc := 45) dX12_suitsBy_45 rfl ?_
          refine x_getR C (pc := 46) fg_X12_7 dX12_suitsBy_46 ht ?_
          refine x_iload C (pc := 49) dX12_suitsBy_49 rfl ?_
          refine x_iconst C (pc := 51) dX12_suitsBy_51 kc_i_2 ?_
          refine x_iadd C (pc := 52) dX12_suitsBy_52 ?_
          refine x_iald C (pc := 53) dX12_suitsBy_53 (lkd_10_0 ht) (fun _ => ?_)
          refine x_callSi C (pc := 54) ms_X12_200 [.int n4, .int (gI s0 (lk t 0) (Int32.toNatClampNeg (i8 + (nI 1)))), .int (gI s0 (lk t 0) (Int32.toNatClampNeg (i8 + (nI 2))))] (fun _ hr => ct_X12_awardOf _ _ _ _ _ hr) ⟨Nat.le_of_ble_eq_true rfl, Nat.le_of_ble_eq_true rfl⟩ rfl (Nat.le_of_ble_eq_true rfl) rfl dX12_suitsBy_54 (fun r9 => ?_)
          refine x_aload_n C (pc := 57) dX12_suitsBy_57 rfl ?_
          refine x_getR C (pc := 58) fg_X12_7 dX12_suitsBy_58 ht ?_
          refine x_iload C (pc := 61) dX12_suitsBy_61 rfl ?_
          refine x_iconst C (pc := 63) dX12_suitsBy_63 kc_i_3 ?_
          refine x_iadd C (pc := 64) dX12_suitsBy_64 ?_
          refine x_iald C (pc := 65) dX12_suitsBy_65 (lkd_10_0 ht) (fun _ => ?_)
          refine xb_1 (Z1 := fun j10 => Yx o 74 [some (.ref t), some (.int a), some (.int n6), some (.int n4), some (.int n7), some (.int i8), none] [.int j10] s0) ?_ (fun j10 => ?_)
          · skip
            refine x_icmp_ne C (pc := 66) (tgt := 73) dX12_suitsBy_66 (by decide) (fun _ => ?_) (fun _ => ?_)
            · skip
              refine x_iconst C (pc := 69) dX12_suitsBy_69 kc_i_1 ?_
              refine x_goto C (pc := 70) (tgt := 74) dX12_suitsBy_70 (by decide) ?_
              exact Xo.done (fun h => Yx.weak (lw_s (lw_s (lw_s (lw_s (lw_s (lw_s (lw_n lw_0))))))) h)
            · skip
              refine x_iconst C (pc := 73) dX12_suitsBy_73 kc_i_0 ?_
              exact Xo.done (fun h => Yx.weak (lw_s (lw_s (lw_s (lw_s (lw_s (lw_s (lw_n lw_0))))))) h)
          refine x_istore C (pc := 74) (L' := fun i11 => [some (.ref t), some (.int a), some (.int n6), some (.int n4), some (.int n7), some (.int i8), some (.int i11)]) dX12_suitsBy_74 (by decide) (fun _ => rfl) (fun i11 => ?_)
          refine x_iload_n C (pc := 76) dX12_suitsBy_76 rfl ?_
          refine x_aload_n C (pc := 77) dX12_suitsBy_77 rfl ?_
          refine x_getR C (pc := 78) fg_X12_7 dX12_suitsBy_78 ht ?_
          refine x_iload C (pc := 81) dX12_suitsBy_81 rfl ?_
          refine x_iald C (pc := 83) dX12_suitsBy_83 (lkd_10_0 ht) (fun _ => ?_)
          refine x_iload_n C (pc := 84) dX12_suitsBy_84 rfl ?_
          refine xb_1 (Z1 := fun j12 => Yx o 103 [some (.ref t), some (.int a), none, some (.int n4), some (.int n7), none, none] [.int j12, .int n6] s0) ?_ (fun j12 => ?_)
          · skip
            refine x_icmp_ne C (pc := 85) (tgt := 93) dX12_suitsBy_85 (by decide) (fun _ => ?_) (fun _ => ?_)
            · skip
              refine x_iload C (pc := 88) dX12_suitsBy_88 rfl ?_
              refine x_if_eq C (pc := 90) (tgt := 98) dX12_suitsBy_90 (by decide) (fun _ => ?_) (fun _ => ?_)
              · skip
                refine x_iconst C (pc := 98) dX12_suitsBy_98 kc_i_1 ?_
                refine x_iload_n C (pc := 99) dX12_suitsBy_99 rfl ?_
                refine x_ishl C (pc := 100) dX12_suitsBy_100 ?_
                refine x_iconst C (pc := 101) dX12_suitsBy_101 kc_i_m1 ?_
                refine x_ixor C (pc := 102) dX12_suitsBy_102 ?_
                exact Xo.done (fun h => Yx.weak (lw_s (lw_s (lw_n (lw_s (lw_s (lw_n (lw_n lw_0))))))) h)
              · skip
                refine x_bipush C (pc := 93) dX12_suitsBy_93 kc_b_63 ?_
                refine x_goto C (pc := 95) (tgt := 103) dX12_suitsBy_95 (by decide) ?_
                exact Xo.done (fun h => Yx.weak (lw_s (lw_s (lw_n (lw_s (lw_s (lw_n (lw_n lw_0))))))) h)
            · skip
              refine x_bipush C (pc := 93) dX12_suitsBy_93 kc_b_63 ?_
              refine x_goto C (pc := 95) (tgt := 103) dX12_suitsBy_95 (by decide) ?_
              exact Xo.done (fun h => Yx.weak (lw_s (lw_s (lw_n (lw_s (lw_s (lw_n (lw_n lw_0))))))) h)
          refine x_iand C (pc := 103) dX12_suitsBy_103 ?_
          refine x_istore_n C (pc := 104) (L' := fun i13 => [some (.ref t), some (.int a), some (.int i13), some (.int n4), some (.int n7), none, none]) dX12_suitsBy_104 (by decide) (fun _ => rfl) (fun i13 => ?_)
          refine x_iinc C (pc := 105) (L' := fun i14 => [some (.ref t), some (.int a), some (.int i13), some (.int n4), some (.int i14), none, none]) dX12_suitsBy_105 rfl kc_i_1 (by decide) (fun _ => rfl) (fun i14 => ?_)
          refine x_goto C (pc := 108) (tgt := 14) dX12_suitsBy_108 (by decide) ?_
          exact Xo.done (fun h => Yx.weak (lw_s (lw_s (lw_s (lw_s (lw_s (lw_n (lw_n lw_0))))))) h)
      refine x_iinc C (pc := 111) (L' := fun i16 => [some (.ref t), some (.int a), some (.int e15), some (.int i16), none, none, none]) dX12_suitsBy_111 rfl kc_i_1 (by decide) (fun _ => rfl) (fun i16 => ?_)
      refine x_goto C (pc := 114) (tgt := 5) dX12_suitsBy_114 (by decide) ?_
      exact Xo.done (fun h => Yx.weak (lw_s (lw_s (lw_s (lw_s (lw_n (lw_n (lw_n lw_0))))))) h)
  refine x_iload_n C (pc := 117) dX12_suitsBy_117 rfl ?_
  exact x_ret dX12_suitsBy_118 (fun h => h)
theorem ct_X12_suitsBy (t : Nat) (ht : kd t = 10) (a : Int32) (s0 : SS) (r : Int32) (h : FX12_suitsBy t a s0 = some r) : CT 1 yX12_suitsBy cX12_suitsBy 7 (some .int) 1 22 [.ref t, .int a] s0 (some (.int r)) s0 :=
  ct_of (by decide +kernel) (Or.inr (Or.inl ⟨_, rfl, _, rfl, rfl⟩)) (lx_args [.ref t, .int a]) (lx_entry [.ref t, .int a] (fun _ => Nat.le_of_ble_eq_true rfl)) (fun o C hR => Yx.weak (lw_s (lw_s (lw_z (lw_z (lw_z (lw_z (lw_z lw_0))))))) (bd_X12_suitsBy C t ht a s0 r h hR))
def FX12_kinds (t : Nat) (a : Int32) (s0 : SS) : Option (Int32 × SS) :=
  bd (FX12_isSuit t a s0) (fun (r1 : Int32) => if r1 = 0 then bd2 (FX12_bad t s0) (fun (r2 : Int32) (s3 : SS) => some ((r2, s3))) else (bd (FX12_suitsBy t a s0) (fun (r4 : Int32) => some ((r4, s0)))))
set_option maxRecDepth 100000 in
set_option maxHeartbeats 4000000 in
theorem bd_X12_kinds {o : Om} (C : Cx o RX12 cX12_kinds 2 (some .int) (rmx 2 48) 1) (t : Nat) (ht : kd t = 10) (a : Int32) (s0 : SS) : Xo (FX12_kinds t a s0) (fun r => RT o cX12_kinds (some (.int r.1)) r.2) (Yx o 0 [some (.ref t), some (.int a)] [] s0) := by
  unfold FX12_kinds
  refine x_aload_n C (pc := 0) dX12_kinds_0 rfl ?_
  refine x_iload_n C (pc := 1) dX12_kinds_1 rfl ?_
  refine x_callVi C (pc := 2) mv_X12_203 ht rfl [.int a] (fun _ hr => ct_X12_isSuit _ ht _ _ _ hr) ⟨Nat.le_of_ble_eq_true rfl, Nat.le_of_ble_eq_true rfl⟩ rfl (Nat.le_of_ble_eq_true rfl) rfl dX12_kinds_2 (fun r1 => ?_)
  refine x_if_eq C (pc := 5) (tgt := 16) dX12_kinds_5 (by decide) (fun _ => ?_) (fun _ => ?_)
  · skip
    refine x_aload_n C (pc := 16) dX12_kinds_16 rfl ?_
    refine x_callVim C (pc := 17) mv_X12_101 ht rfl [] (fun _ _ hr => ct_X12_bad _ ht _ _ _ hr) ⟨Nat.le_of_ble_eq_true rfl, Nat.le_of_ble_eq_true rfl⟩ rfl (Nat.le_of_ble_eq_true rfl) rfl dX12_kinds_17 (fun r2 s3 => ?_)
    exact x_ret dX12_kinds_20 (fun h => h)
  · skip
    refine x_aload_n C (pc := 8) dX12_kinds_8 rfl ?_
    refine x_iload_n C (pc := 9) dX12_kinds_9 rfl ?_
    refine x_callVi C (pc := 10) mv_X12_246 ht rfl [.int a] (fun _ hr => ct_X12_suitsBy _ ht _ _ _ hr) ⟨Nat.le_of_ble_eq_true rfl, Nat.le_of_ble_eq_true rfl⟩ rfl (Nat.le_of_ble_eq_true rfl) rfl dX12_kinds_10 (fun r4 => ?_)
    refine x_goto C (pc := 13) (tgt := 20) dX12_kinds_13 (by decide) ?_
    exact x_ret dX12_kinds_20 (fun h => h)
theorem ct_X12_kinds (t : Nat) (ht : kd t = 10) (a : Int32) (s0 : SS) (r : Int32) (s2 : SS) (h : FX12_kinds t a s0 = some (r, s2)) : CT 1 yX12_kinds cX12_kinds 2 (some .int) 2 48 [.ref t, .int a] s0 (some (.int r)) s2 :=
  ct_of (by decide +kernel) (Or.inr (Or.inl ⟨_, rfl, _, rfl, rfl⟩)) (lx_args [.ref t, .int a]) (lx_entry [.ref t, .int a] (fun _ => Nat.le_of_ble_eq_true rfl)) (fun o C hR => Yx.weak (lw_s (lw_s lw_0)) (bd_X12_kinds C t ht a s0 (r, s2) h hR))
def FX12_tries (t : Nat) (a : Int32) (s0 : SS) : Option (Int32 × SS) :=
  bd (FX12_isSuit t a s0) (fun (r1 : Int32) => if r1 = 0 then bd2 (FX12_bad t s0) (fun (r2 : Int32) (s3 : SS) => some ((r2, s3))) else (bd (FX12_suitsBy t a s0) (fun (r4 : Int32) => nm r4 (fun (i5 : Int32) => nm (-1 : Int32) (fun (i6 : Int32) => nm (nI 7) (fun (i7 : Int32) => nm (nI 0) (fun (i8 : Int32) => bd (lp FUEL (u3 (fun (n9 : Int32) (n10 : Int32) (n11 : Int32) => if (nI 310) ≤ n11 then some (Sum.inr n9) else (if i5 = 0 then some (Sum.inr n9) else (nm (nI 0) (fun (i12 : Int32) => nm (nI 0) (fun (i13 : Int32) => bd (lp FUEL (u2 (fun (n14 : Int32) (n15 : Int32) => if (nI 6) ≤ n15 then some (Sum.inr n14) else (nm (nI 0) (fun (i16 : Int32) => nm (nI 0) (fun (i17 : Int32) => bd (lp FUEL (u2 (fun (n18 : Int32) (n19 : Int32) => if (nI 6) ≤ n19 then some (Sum.inr n18) else (bd (FX12_has i5 n15 s0) (fun (r20 : Int32) => bd (if r20 = 0 then some ((nI 0)) else (bd (FX12_has i5 n19 s0) (fun (r21 : Int32) => if r21 = 0 then some ((nI 0)) else (bd (FX12_awardOf n15 (n11 / (nI 10)) (n11 - n11 / (nI 10) * (nI 10)) s0) (fun (r22 : Int32) => bd (FX12_awardOf n19 (n11 / (nI 10)) (n11 - n11 / (nI 10) * (nI 10)) s0) (fun (r23 : Int32) => if r22 = r23 then some ((nI 1)) else (some ((nI 0))))))))) (fun (j24 : Int32) => nm (n18 + j24) (fun (i25 : Int32) => nm (n19 + (nI 1)) (fun (i26 : Int32) => some (Sum.inl (i25, i26))))))))) (i16, i17)) (fun (e27 : Int32) => bd (if e27 ≤ n14 then some (n14) else (some (e27))) (fun (j28 : Int32) => nm j28 (fun (i29 : Int32) => nm (n15 + (nI 1)) (fun (i30 : Int32) => some (Sum.inl (i29, i30))))))))))) (i12, i13)) (fun (e31 : Int32) => bd (if n10 ≤ e31 then some (n9) else (some (n11))) (fun (j32 : Int32) => nm j32 (fun (i33 : Int32) => bd (if n10 ≤ e31 then some (n10) else (some (e31))) (fun (j34 : Int32) => nm j34 (fun (i35 : Int32) => nm (n11 + (nI 1)) (fun (i36 : Int32) => some (Sum.inl (i33, i35, i36)))))))))))))) (i6, i7, i8)) (fun (e37 : Int32) => some ((e37, s0))))))))))
set_option maxRecDepth 100000 in
set_option maxHeartbeats 4000000 in
theorem bd_X12_tries {o : Om} (C : Cx o RX12 cX12_tries 10 (some .int) (rmx 2 48) 1) (t : Nat) (ht : kd t = 10) (a : Int32) (s0 : SS) : Xo (FX12_tries t a s0) (fun r => RT o cX12_tries (some (.int r.1)) r.2) (Yx o 0 [some (.ref t), some (.int a), none, none, none, none, none, none, none, none] [] s0) := by
  unfold FX12_tries
  refine x_aload_n C (pc := 0) dX12_tries_0 rfl ?_
  refine x_iload_n C (pc := 1) dX12_tries_1 rfl ?_
  refine x_callVi C (pc := 2) mv_X12_203 ht rfl [.int a] (fun _ hr => ct_X12_isSuit _ ht _ _ _ hr) ⟨Nat.le_of_ble_eq_true rfl, Nat.le_of_ble_eq_true rfl⟩ rfl (Nat.le_of_ble_eq_true rfl) rfl dX12_tries_2 (fun r1 => ?_)
  refine x_if_ne C (pc := 5) (tgt := 13) dX12_tries_5 (by decide) (fun _ => ?_) (fun _ => ?_)
  · skip
    refine x_aload_n C (pc := 8) dX12_tries_8 rfl ?_
    refine x_callVim C (pc := 9) mv_X12_101 ht rfl [] (fun _ _ hr => ct_X12_bad _ ht _ _ _ hr) ⟨Nat.le_of_ble_eq_true rfl, Nat.le_of_ble_eq_true rfl⟩ rfl (Nat.le_of_ble_eq_true rfl) rfl dX12_tries_9 (fun r2 s3 => ?_)
    exact x_ret dX12_tries_12 (fun h => h)
  · skip
    refine x_aload_n C (pc := 13) dX12_tries_13 rfl ?_
    refine x_iload_n C (pc := 14) dX12_tries_14 rfl ?_
    refine x_callVi C (pc := 15) mv_X12_246 ht rfl [.int a] (fun _ hr => ct_X12_suitsBy _ ht _ _ _ hr) ⟨Nat.le_of_ble_eq_true rfl, Nat.le_of_ble_eq_true rfl⟩ rfl (Nat.le_of_ble_eq_true rfl) rfl dX12_tries_15 (fun r4 => ?_)
    refine x_istore_n C (pc := 18) (L' := fun i5 => [some (.ref t), some (.int a), some (.int i5), none, none, none, none, none, none, none]) dX12_tries_18 (by decide) (fun _ => rfl) (fun i5 => ?_)
    refine x_iconst C (pc := 19) dX12_tries_19 kc_i_m1 ?_
    refine x_istore_n C (pc := 20) (L' := fun i6 => [some (.ref t), some (.int a), some (.int i5), some (.int i6), none, none, none, none, none, none]) dX12_tries_20 (by decide) (fun _ => rfl) (fun i6 => ?_)
    refine x_bipush C (pc := 21) dX12_tries_21 kc_b_7 ?_
    refine x_istore C (pc := 23) (L' := fun i7 => [some (.ref t), some (.int a), some (.int i5), some (.int i6), some (.int i7), none, none, none, none, none]) dX12_tries_23 (by decide) (fun _ => rfl) (fun i7 => ?_)
    refine x_iconst C (pc := 25) dX12_tries_25 kc_i_0 ?_
    refine x_istore C (pc := 26) (L' := fun i8 => [some (.ref t), some (.int a), some (.int i5), some (.int i6), some (.int i7), some (.int i8), none, none, none, none]) dX12_tries_26 (by decide) (fun _ => rfl) (fun i8 => ?_)
    refine xb_1 (Z1 := (fun e37 => Yx o 191 [none, none, none, some (.int e37), none, none, none, none, none, none] [] s0)) ?_ (fun e37 => ?_)
    · refine Xo.mono (Yx.weak (lw_n (lw_n (lw_s (lw_s (lw_s (lw_s (lw_n (lw_n (lw_n (lw_n lw_0))))))))))) (x_lp3 (fr := fun n9 n10 n11 => Yx o 28 [none, none, some (.int i5), some (.int n9), some (.int n10), some (.int n11), none, none, none, none] [] s0) _ _ _ (fun n9 n10 n11 => ?_))
      refine x_iload C (pc := 28) dX12_tries_28 rfl ?_
      refine x_sipush C (pc := 30) dX12_tries_30 kc_s_310 ?_
      refine x_icmp_ge C (pc := 33) (tgt := 191) dX12_tries_33 (by decide) (fun _ => ?_) (fun _ => ?_)
      · skip
        exact Xo.done (fun h => Yx.weak (lw_n (lw_n (lw_n (lw_s (lw_n (lw_n (lw_n (lw_n (lw_n (lw_n lw_0)))))))))) h)
      · skip
        refine x_iload_n C (pc := 36) dX12_tries_36 rfl ?_
        refine x_if_eq C (pc := 37) (tgt := 191) dX12_tries_37 (by decide) (fun _ => ?_) (fun _ => ?_)
        · skip
          exact Xo.done (fun h => Yx.weak (lw_n (lw_n (lw_n (lw_s (lw_n (lw_n (lw_n (lw_n (lw_n (lw_n lw_0)))))))))) h)
        · skip
          refine x_iconst C (pc := 40) dX12_tries_40 kc_i_0 ?_
          refine x_istore C (pc := 41) (L' := fun i12 => [none, none, some (.int i5), some (.int n9), some (.int n10), some (.int n11), some (.int i12), none, none, none]) dX12_tries_41 (by decide) (fun _ => rfl) (fun i12 => ?_)
          refine x_iconst C (pc := 43) dX12_tries_43 kc_i_0 ?_
          refine x_istore C (pc := 44) (L' := fun i13 => [none, none, some (.int i5), some (.int n9), some (.int n10), some (.int n11), some (.int i12), some (.int i13), none, none]) dX12_tries_44 (by decide) (fun _ => rfl) (fun i13 => ?_)
          refine xb_1 (Z1 := (fun e31 => Yx o 155 [none, none, some (.int i5), some (.int n9), some (.int n10), some (.int n11), some (.int e31), none, none, none] [] s0)) ?_ (fun e31 => ?_)
          · refine Xo.mono (Yx.weak (lw_n (lw_n (lw_s (lw_s (lw_s (lw_s (lw_s (lw_s (lw_n (lw_n lw_0))))))))))) (x_lp2 (fr := fun n14 n15 => Yx o 46 [none, none, some (.int i5), some (.int n9), some (.int n10), some (.int n11), some (.int n14), some (.int n15), none, none] [] s0) _ _ (fun n14 n15 => ?_))
            refine x_iload C (pc := 46) dX12_tries_46 rfl ?_
            refine x_bipush C (pc := 48) dX12_tries_48 kc_b_6 ?_
            refine x_icmp_ge C (pc := 50) (tgt := 155) dX12_tries_50 (by decide) (fun _ => ?_) (fun _ => ?_)
            · skip
              exact Xo.done (fun h => Yx.weak (lw_n (lw_n (lw_s (lw_s (lw_s (lw_s (lw_s (lw_n (lw_n (lw_n lw_0)))))))))) h)
            · skip
              refine x_iconst C (pc := 53) dX12_tries_53 kc_i_0 ?_
              refine x_istore C (pc := 54) (L' := fun i16 => [none, none, some (.int i5), some (.int n9), some (.int n10), some (.int n11), some (.int n14), some (.int n15), some (.int i16), none]) dX12_tries_54 (by decide) (fun _ => rfl) (fun i16 => ?_)
              refine x_iconst C (pc := 56) dX12_tries_56 kc_i_0 ?_
              refine x_istore C (pc := 57) (L' := fun i17 => [none, none, some (.int i5), some (.int n9), some (.int n10), some (.int n11), some (.int n14), some (.int n15), some (.int i16), some (.int i17)]) dX12_tries_57 (by decide) (fun _ => rfl) (fun i17 => ?_)
              refine xb_1 (Z1 := (fun e27 => Yx o 133 [none, none, some (.int i5), some (.int n9), some (.int n10), some (.int n11), some (.int n14), some (.int n15), some (.int e27), none] [] s0)) ?_ (fun e27 => ?_)
              · refine Xo.mono (Yx.weak (lw_n (lw_n (lw_s (lw_s (lw_s (lw_s (lw_s (lw_s (lw_s (lw_s lw_0))))))))))) (x_lp2 (fr := fun n18 n19 => Yx o 59 [none, none, some (.int i5), some (.int n9), some (.int n10), some (.int n11), some (.int n14), some (.int n15), some (.int n18), some (.int n19)] [] s0) _ _ (fun n18 n19 => ?_))
                refine x_iload C (pc := 59) dX12_tries_59 rfl ?_
                refine x_bipush C (pc := 61) dX12_tries_61 kc_b_6 ?_
                refine x_icmp_ge C (pc := 63) (tgt := 133) dX12_tries_63 (by decide) (fun _ => ?_) (fun _ => ?_)
                · skip
                  exact Xo.done (fun h => Yx.weak (lw_n (lw_n (lw_s (lw_s (lw_s (lw_s (lw_s (lw_s (lw_s (lw_n lw_0)))))))))) h)
                · skip
                  refine x_iload C (pc := 66) dX12_tries_66 rfl ?_
                  refine x_iload_n C (pc := 68) dX12_tries_68 rfl ?_
                  refine x_iload C (pc := 69) dX12_tries_69 rfl ?_
                  refine x_callSi C (pc := 71) ms_X12_62 [.int i5, .int n15] (fun _ hr => ct_X12_has _ _ _ _ hr) ⟨Nat.le_of_ble_eq_true rfl, Nat.le_of_ble_eq_true rfl⟩ rfl (Nat.le_of_ble_eq_true rfl) rfl dX12_tries_71 (fun r20 => ?_)
                  refine xb_1 (Z1 := fun j24 => Yx o 124 [none, none, some (.int i5), some (.int n9), some (.int n10), some (.int n11), some (.int n14), some (.int n15), none, some (.int n19)] [.int j24, .int n18] s0) ?_ (fun j24 => ?_)
                  · skip
                    refine x_if_eq C (pc := 74) (tgt := 123) dX12_tries_74 (by decide) (fun _ => ?_) (fun _ => ?_)
                    · skip
                      refine x_iconst C (pc := 123) dX12_tries_123 kc_i_0 ?_
                      exact Xo.done (fun h => Yx.weak (lw_n (lw_n (lw_s (lw_s (lw_s (lw_s (lw_s (lw_s (lw_n (lw_s lw_0)))))))))) h)
                    · skip
                      refine x_iload_n C (pc := 77) dX12_tries_77 rfl ?_
                      refine x_iload C (pc := 78) dX12_tries_78 rfl ?_
                      refine x_callSi C (pc := 80) ms_X12_62 [.int i5, .int n19] (fun _ hr => ct_X12_has _ _ _ _ hr) ⟨Nat.le_of_ble_eq_true rfl, Nat.le_of_ble_eq_true rfl⟩ rfl (Nat.le_of_ble_eq_true rfl) rfl dX12_tries_80 (fun r21 => ?_)
                      refine x_if_eq C (pc := 83) (tgt := 123) dX12_tries_83 (by decide) (fun _ => ?_) (fun _ => ?_)
                      · skip
                        refine x_iconst C (pc := 123) dX12_tries_123 kc_i_0 ?_
                        exact Xo.done (fun h => Yx.weak (lw_n (lw_n (lw_s (lw_s (lw_s (lw_s (lw_s (lw_s (lw_n (lw_s lw_0)))))))))) h)
                      · skip
                        refine x_iload C (pc := 86) dX12_tries_86 rfl ?_
                        refine x_iload C (pc := 88) dX12_tries_88 rfl ?_
                        refine x_bipush C (pc := 90) dX12_tries_90 kc_b_10 ?_
                        refine x_idiv C (pc := 92) dX12_tries_92 (by decide +kernel) ?_
                        refine x_iload C (pc := 93) dX12_tries_93 rfl ?_
                        refine x_bipush C (pc := 95) dX12_tries_95 kc_b_10 ?_
                        refine x_irem C (pc := 97) dX12_tries_97 (by decide +kernel) ?_
                        refine x_callSi C (pc := 98) ms_X12_200 [.int n15, .int (n11 / (nI 10)), .int (n11 - n11 / (nI 10) * (nI 10))] (fun _ hr => ct_X12_awardOf _ _ _ _ _ hr) ⟨Nat.le_of_ble_eq_true rfl, Nat.le_of_ble_eq_true rfl⟩ rfl (Nat.le_of_ble_eq_true rfl) rfl dX12_tries_98 (fun r22 => ?_)
                        refine x_iload C (pc := 101) dX12_tries_101 rfl ?_
                        refine x_iload C (pc := 103) dX12_tries_103 rfl ?_
                        refine x_bipush C (pc := 105) dX12_tries_105 kc_b_10 ?_
                        refine x_idiv C (pc := 107) dX12_tries_107 (by decide +kernel) ?_
                        refine x_iload C (pc := 108) dX12_tries_108 rfl ?_
                        refine x_bipush C (pc := 110) dX12_tries_110 kc_b_10 ?_
                        refine x_irem C (pc := 112) dX12_tries_112 (by decide +kernel) ?_
                        refine x_callSi C (pc := 113) ms_X12_200 [.int n19, .int (n11 / (nI 10)), .int (n11 - n11 / (nI 10) * (nI 10))] (fun _ hr => ct_X12_awardOf _ _ _ _ _ hr) ⟨Nat.le_of_ble_eq_true rfl, Nat.le_of_ble_eq_true rfl⟩ rfl (Nat.le_of_ble_eq_true rfl) rfl dX12_tries_113 (fun r23 => ?_)
                        refine x_icmp_ne C (pc := 116) (tgt := 123) dX12_tries_116 (by decide) (fun _ => ?_) (fun _ => ?_)
                        · skip
                          refine x_iconst C (pc := 119) dX12_tries_119 kc_i_1 ?_
                          refine x_goto C (pc := 120) (tgt := 124) dX12_tries_120 (by decide) ?_
                          exact Xo.done (fun h => Yx.weak (lw_n (lw_n (lw_s (lw_s (lw_s (lw_s (lw_s (lw_s (lw_n (lw_s lw_0)))))))))) h)
                        · skip
                          refine x_iconst C (pc := 123) dX12_tries_123 kc_i_0 ?_
                          exact Xo.done (fun h => Yx.weak (lw_n (lw_n (lw_s (lw_s (lw_s (lw_s (lw_s (lw_s (lw_n (lw_s lw_0)))))))))) h)
                  refine x_iadd C (pc := 124) dX12_tries_124 ?_
                  refine x_istore C (pc := 125) (L' := fun i25 => [none, none, some (.int i5), some (.int n9), some (.int n10), some (.int n11), some (.int n14), some (.int n15), some (.int i25), some (.int n19)]) dX12_tries_125 (by decide) (fun _ => rfl) (fun i25 => ?_)
                  refine x_iinc C (pc := 127) (L' := fun i26 => [none, none, some (.int i5), some (.int n9), some (.int n10), some (.int n11), some (.int n14), some (.int n15), some (.int i25), some (.int i26)]) dX12_tries_127 rfl kc_i_1 (by decide) (fun _ => rfl) (fun i26 => ?_)
                  refine x_goto C (pc := 130) (tgt := 59) dX12_tries_130 (by decide) ?_
                  exact Xo.done (fun h => Yx.weak (lw_n (lw_n (lw_s (lw_s (lw_s (lw_s (lw_s (lw_s (lw_s (lw_s lw_0)))))))))) h)
              refine x_iload C (pc := 133) dX12_tries_133 rfl ?_
              refine x_iload C (pc := 135) dX12_tries_135 rfl ?_
              refine xb_1 (Z1 := fun j28 => Yx o 147 [none, none, some (.int i5), some (.int n9), some (.int n10), some (.int n11), none, some (.int n15), none, none] [.int j28] s0) ?_ (fun j28 => ?_)
              · skip
                refine x_icmp_le C (pc := 137) (tgt := 145) dX12_tries_137 (by decide) (fun _ => ?_) (fun _ => ?_)
                · skip
                  refine x_iload C (pc := 145) dX12_tries_145 rfl ?_
                  exact Xo.done (fun h => Yx.weak (lw_n (lw_n (lw_s (lw_s (lw_s (lw_s (lw_n (lw_s (lw_n (lw_n lw_0)))))))))) h)
                · skip
                  refine x_iload C (pc := 140) dX12_tries_140 rfl ?_
                  refine x_goto C (pc := 142) (tgt := 147) dX12_tries_142 (by decide) ?_
                  exact Xo.done (fun h => Yx.weak (lw_n (lw_n (lw_s (lw_s (lw_s (lw_s (lw_n (lw_s (lw_n (lw_n lw_0)))))))))) h)
              refine x_istore C (pc := 147) (L' := fun i29 => [none, none, some (.int i5), some (.int n9), some (.int n10), some (.int n11), some (.int i29), some (.int n15), none, none]) dX12_tries_147 (by decide) (fun _ => rfl) (fun i29 => ?_)
              refine x_iinc C (pc := 149) (L' := fun i30 => [none, none, some (.int i5), some (.int n9), some (.int n10), some (.int n11), some (.int i29), some (.int i30), none, none]) dX12_tries_149 rfl kc_i_1 (by decide) (fun _ => rfl) (fun i30 => ?_)
              refine x_goto C (pc := 152) (tgt := 46) dX12_tries_152 (by decide) ?_
              exact Xo.done (fun h => Yx.weak (lw_n (lw_n (lw_s (lw_s (lw_s (lw_s (lw_s (lw_s (lw_n (lw_n lw_0)))))))))) h)
          refine x_iload C (pc := 155) dX12_tries_155 rfl ?_
          refine x_iload C (pc := 157) dX12_tries_157 rfl ?_
          refine xb_1 (Z1 := fun j32 => Yx o 168 [none, none, some (.int i5), none, some (.int n10), some (.int n11), some (.int e31), none, none, none] [.int j32] s0) ?_ (fun j32 => ?_)
          · skip
            refine x_icmp_ge C (pc := 159) (tgt := 167) dX12_tries_159 (by decide) (fun _ => ?_) (fun _ => ?_)
            · skip
              refine x_iload_n C (pc := 167) dX12_tries_167 rfl ?_
              exact Xo.done (fun h => Yx.weak (lw_n (lw_n (lw_s (lw_n (lw_s (lw_s (lw_s (lw_n (lw_n (lw_n lw_0)))))))))) h)
            · skip
              refine x_iload C (pc := 162) dX12_tries_162 rfl ?_
              refine x_goto C (pc := 164) (tgt := 168) dX12_tries_164 (by decide) ?_
              exact Xo.done (fun h => Yx.weak (lw_n (lw_n (lw_s (lw_n (lw_s (lw_s (lw_s (lw_n (lw_n (lw_n lw_0)))))))))) h)
          refine x_istore_n C (pc := 168) (L' := fun i33 => [none, none, some (.int i5), some (.int i33), some (.int n10), some (.int n11), some (.int e31), none, none, none]) dX12_tries_168 (by decide) (fun _ => rfl) (fun i33 => ?_)
          refine x_iload C (pc := 169) dX12_tries_169 rfl ?_
          refine x_iload C (pc := 171) dX12_tries_171 rfl ?_
          refine xb_1 (Z1 := fun j34 => Yx o 183 [none, none, some (.int i5), some (.int i33), none, some (.int n11), none, none, none, none] [.int j34] s0) ?_ (fun j34 => ?_)
          · skip
            refine x_icmp_ge C (pc := 173) (tgt := 181) dX12_tries_173 (by decide) (fun _ => ?_) (fun _ => ?_)
            · skip
              refine x_iload C (pc := 181) dX12_tries_181 rfl ?_
              exact Xo.done (fun h => Yx.weak (lw_n (lw_n (lw_s (lw_s (lw_n (lw_s (lw_n (lw_n (lw_n (lw_n lw_0)))))))))) h)
            · skip
              refine x_iload C (pc := 176) dX12_tries_176 rfl ?_
              refine x_goto C (pc := 178) (tgt := 183) dX12_tries_178 (by decide) ?_
              exact Xo.done (fun h => Yx.weak (lw_n (lw_n (lw_s (lw_s (lw_n (lw_s (lw_n (lw_n (lw_n (lw_n lw_0)))))))))) h)
          refine x_istore C (pc := 183) (L' := fun i35 => [none, none, some (.int i5), some (.int i33), some (.int i35), some (.int n11), none, none, none, none]) dX12_tries_183 (by decide) (fun _ => rfl) (fun i35 => ?_)
          refine x_iinc C (pc := 185) (L' := fun i36 => [none, none, some (.int i5), some (.int i33), some (.int i35), some (.int i36), none, none, none, none]) dX12_tries_185 rfl kc_i_1 (by decide) (fun _ => rfl) (fun i36 => ?_)
          refine x_goto C (pc := 188) (tgt := 28) dX12_tries_188 (by decide) ?_
          exact Xo.done (fun h => Yx.weak (lw_n (lw_n (lw_s (lw_s (lw_s (lw_s (lw_n (lw_n (lw_n (lw_n lw_0)))))))))) h)
    refine x_iload_n C (pc := 191) dX12_tries_191 rfl ?_
    exact x_ret dX12_tries_192 (fun h => h)
theorem ct_X12_tries (t : Nat) (ht : kd t = 10) (a : Int32) (s0 : SS) (r : Int32) (s2 : SS) (h : FX12_tries t a s0 = some (r, s2)) : CT 1 yX12_tries cX12_tries 10 (some .int) 2 48 [.ref t, .int a] s0 (some (.int r)) s2 :=
  ct_of (by decide +kernel) (Or.inr (Or.inl ⟨_, rfl, _, rfl, rfl⟩)) (lx_args [.ref t, .int a]) (lx_entry [.ref t, .int a] (fun _ => Nat.le_of_ble_eq_true rfl)) (fun o C hR => Yx.weak (lw_s (lw_s (lw_z (lw_z (lw_z (lw_z (lw_z (lw_z (lw_z (lw_z lw_0)))))))))) (bd_X12_tries C t ht a s0 (r, s2) h hR))
def FX12_gain (t : Nat) (a : Int32) (b : Int32) (c : Int32) (s0 : SS) : Option (Int32) :=
  bd (FX12_has c (nI 0) s0) (fun (r1 : Int32) => nm r1 (fun (i2 : Int32) => bd (FX12_has c (nI 1) s0) (fun (r3 : Int32) => bd (if r3 = 0 then if i2 = 0 then some ((nI 0)) else (bd (FX12_awardNow t a s0) (fun (r4 : Int32) => some (r4))) else (bd (FX12_suitOf (lk t 0) a (nI 1) s0) (fun (r5 : Int32) => bd (FX12_duesOf t r5 s0) (fun (r6 : Int32) => some (r6))))) (fun (j7 : Int32) => nm j7 (fun (i8 : Int32) => if b = (nI 1) then some ((-i8)) else (if i2 = 0 then some (i8) else (some ((i8 - (nI 5))))))))))
set_option maxRecDepth 100000 in
set_option maxHeartbeats 4000000 in
theorem bd_X12_gain {o : Om} (C : Cx o RX12 cX12_gain 6 (some .int) (rmx 3 64) 1) (t : Nat) (ht : kd t = 10) (a : Int32) (b : Int32) (c : Int32) (s0 : SS) : Xo (FX12_gain t a b c s0) (fun r => RT o cX12_gain (some (.int r)) s0) (Yx o 0 [some (.ref t), some (.int a), some (.int b), some (.int c), none, none] [] s0) := by
  unfold FX12_gain
  refine x_iload_n C (pc := 0) dX12_gain_0 rfl ?_
  refine x_iconst C (pc := 1) dX12_gain_1 kc_i_0 ?_
  refine x_callSi C (pc := 2) ms_X12_62 [.int c, .int (nI 0)] (fun _ hr => ct_X12_has _ _ _ _ hr) ⟨Nat.le_of_ble_eq_true rfl, Nat.le_of_ble_eq_true rfl⟩ rfl (Nat.le_of_ble_eq_true rfl) rfl dX12_gain_2 (fun r1 => ?_)
  refine x_istore C (pc := 5) (L' := fun i2 => [some (.ref t), some (.int a), some (.int b), some (.int c), some (.int i2), none]) dX12_gain_5 (by decide) (fun _ => rfl) (fun i2 => ?_)
  refine x_iload_n C (pc := 7) dX12_gain_7 rfl ?_
  refine x_iconst C (pc := 8) dX12_gain_8 kc_i_1 ?_
  refine x_callSi C (pc := 9) ms_X12_62 [.int c, .int (nI 1)] (fun _ hr => ct_X12_has _ _ _ _ hr) ⟨Nat.le_of_ble_eq_true rfl, Nat.le_of_ble_eq_true rfl⟩ rfl (Nat.le_of_ble_eq_true rfl) rfl dX12_gain_9 (fun r3 => ?_)
  refine xb_1 (Z1 := fun j7 => Yx o 45 [none, none, some (.int b), none, some (.int i2), none] [.int j7] s0) ?_ (fun j7 => ?_)
  · skip
    refine x_if_eq C (pc := 12) (tgt := 31) dX12_gain_12 (by decide) (fun _ => ?_) (fun _ => ?_)
    · skip
      refine x_iload C (pc := 31) dX12_gain_31 rfl ?_
      refine x_if_eq C (pc := 33) (tgt := 44) dX12_gain_33 (by decide) (fun _ => ?_) (fun _ => ?_)
      · skip
        refine x_iconst C (pc := 44) dX12_gain_44 kc_i_0 ?_
        exact Xo.done (fun h => Yx.weak (lw_n (lw_n (lw_s (lw_n (lw_s (lw_n lw_0)))))) h)
      · skip
        refine x_aload_n C (pc := 36) dX12_gain_36 rfl ?_
        refine x_iload_n C (pc := 37) dX12_gain_37 rfl ?_
        refine x_callVi C (pc := 38) mv_X12_206 ht rfl [.int a] (fun _ hr => ct_X12_awardNow _ ht _ _ _ hr) ⟨Nat.le_of_ble_eq_true rfl, Nat.le_of_ble_eq_true rfl⟩ rfl (Nat.le_of_ble_eq_true rfl) rfl dX12_gain_38 (fun r4 => ?_)
        refine x_goto C (pc := 41) (tgt := 45) dX12_gain_41 (by decide) ?_
        exact Xo.done (fun h => Yx.weak (lw_n (lw_n (lw_s (lw_n (lw_s (lw_n lw_0)))))) h)
    · skip
      refine x_aload_n C (pc := 15) dX12_gain_15 rfl ?_
      refine x_aload_n C (pc := 16) dX12_gain_16 rfl ?_
      refine x_getR C (pc := 17) fg_X12_7 dX12_gain_17 ht ?_
      refine x_iload_n C (pc := 20) dX12_gain_20 rfl ?_
      refine x_iconst C (pc := 21) dX12_gain_21 kc_i_1 ?_
      refine x_callSi C (pc := 22) ms_X12_188 [.ref (lk t 0), .int a, .int (nI 1)] (fun _ hr => ct_X12_suitOf _ (lkd_10_0 ht) _ _ _ _ hr) ⟨Nat.le_of_ble_eq_true rfl, Nat.le_of_ble_eq_true rfl⟩ rfl (Nat.le_of_ble_eq_true rfl) rfl dX12_gain_22 (fun r5 => ?_)
      refine x_callVi C (pc := 25) mv_X12_194 ht rfl [.int r5] (fun _ hr => ct_X12_duesOf _ ht _ _ _ hr) ⟨Nat.le_of_ble_eq_true rfl, Nat.le_of_ble_eq_true rfl⟩ rfl (Nat.le_of_ble_eq_true rfl) rfl dX12_gain_25 (fun r6 => ?_)
      refine x_goto C (pc := 28) (tgt := 45) dX12_gain_28 (by decide) ?_
      exact Xo.done (fun h => Yx.weak (lw_n (lw_n (lw_s (lw_n (lw_s (lw_n lw_0)))))) h)
  refine x_istore C (pc := 45) (L' := fun i8 => [none, none, some (.int b), none, some (.int i2), some (.int i8)]) dX12_gain_45 (by decide) (fun _ => rfl) (fun i8 => ?_)
  refine x_iload_n C (pc := 47) dX12_gain_47 rfl ?_
  refine x_iconst C (pc := 48) dX12_gain_48 kc_i_1 ?_
  refine x_icmp_ne C (pc := 49) (tgt := 58) dX12_gain_49 (by decide) (fun _ => ?_) (fun _ => ?_)
  · skip
    refine x_iload C (pc := 52) dX12_gain_52 rfl ?_
    refine x_ineg C (pc := 54) dX12_gain_54 ?_
    refine x_goto C (pc := 55) (tgt := 72) dX12_gain_55 (by decide) ?_
    exact x_ret dX12_gain_72 (fun h => h)
  · skip
    refine x_iload C (pc := 58) dX12_gain_58 rfl ?_
    refine x_if_eq C (pc := 60) (tgt := 70) dX12_gain_60 (by decide) (fun _ => ?_) (fun _ => ?_)
    · skip
      refine x_iload C (pc := 70) dX12_gain_70 rfl ?_
      exact x_ret dX12_gain_72 (fun h => h)
    · skip
      refine x_iload C (pc := 63) dX12_gain_63 rfl ?_
      refine x_iconst C (pc := 65) dX12_gain_65 kc_i_5 ?_
      refine x_isub C (pc := 66) dX12_gain_66 ?_
      refine x_goto C (pc := 67) (tgt := 72) dX12_gain_67 (by decide) ?_
      exact x_ret dX12_gain_72 (fun h => h)
theorem ct_X12_gain (t : Nat) (ht : kd t = 10) (a : Int32) (b : Int32) (c : Int32) (s0 : SS) (r : Int32) (h : FX12_gain t a b c s0 = some r) : CT 1 yX12_gain cX12_gain 6 (some .int) 3 64 [.ref t, .int a, .int b, .int c] s0 (some (.int r)) s0 :=
  ct_of (by decide +kernel) (Or.inr (Or.inl ⟨_, rfl, _, rfl, rfl⟩)) (lx_args [.ref t, .int a, .int b, .int c]) (lx_entry [.ref t, .int a, .int b, .int c] (fun _ => Nat.le_of_ble_eq_true rfl)) (fun o C hR => Yx.weak (lw_s (lw_s (lw_s (lw_s (lw_z (lw_z lw_0)))))) (bd_X12_gain C t ht a b c s0 r h hR))
def FX12_parties (t : Nat) (a : Int32) (s0 : SS) : Option (Int32 × SS) :=
  bd (FX12_isSuit t a s0) (fun (r1 : Int32) => if r1 = 0 then bd2 (FX12_bad t s0) (fun (r2 : Int32) (s3 : SS) => some ((r2, s3))) else (bd (FX12_isHeard t a s0) (fun (r4 : Int32) => if r4 = 0 then nm (nI 0) (fun (i5 : Int32) => nm (nI 0) (fun (i6 : Int32) => bd (lp FUEL (u2 (fun (n7 : Int32) (n8 : Int32) => if (nI 4) ≤ n8 then some (Sum.inr n7) else (bd (FX12_gain t a (nI 0) n8 s0) (fun (r9 : Int32) => bd (FX12_gain t a (nI 0) (n8 ^^^ (nI 1)) s0) (fun (r10 : Int32) => bd (if r9 < r10 then some ((nI 0)) else (bd (FX12_gain t a (nI 1) n8 s0) (fun (r11 : Int32) => bd (FX12_gain t a (nI 1) (n8 ^^^ (nI 2)) s0) (fun (r12 : Int32) => if r11 < r12 then some ((nI 0)) else (some ((nI 1))))))) (fun (j13 : Int32) => nm j13 (fun (i14 : Int32) => bd (if i14 = 0 then some ((nI 0)) else (some (((nI 1) <<< (n8 &&& 31))))) (fun (j15 : Int32) => nm (n7 ||| j15) (fun (i16 : Int32) => nm (n8 + (nI 1)) (fun (i17 : Int32) => some (Sum.inl (i16, i17)))))))))))) (i5, i6)) (fun (e18 : Int32) => some ((e18, s0))))) else (bd2 (FX12_no t s0) (fun (r19 : Int32) (s20 : SS) => some ((r19, s20)))))))
set_option maxRecDepth 100000 in
set_option maxHeartbeats 4000000 in
theorem bd_X12_parties {o : Om} (C : Cx o RX12 cX12_parties 5 (some .int) (rmx 4 89) 1) (t : Nat) (ht : kd t = 10) (a : Int32) (s0 : SS) : Xo (FX12_parties t a s0) (fun r => RT o cX12_parties (some (.int r.1)) r.2) (Yx o 0 [some (.ref t), some (.int a), none, none, none] [] s0) := by
  unfold FX12_parties
  refine x_aload_n C (pc := 0) dX12_parties_0 rfl ?_
  refine x_iload_n C (pc := 1) dX12_parties_1 rfl ?_
  refine x_callVi C (pc := 2) mv_X12_203 ht rfl [.int a] (fun _ hr => ct_X12_isSuit _ ht _ _ _ hr) ⟨Nat.le_of_ble_eq_true rfl, Nat.le_of_ble_eq_true rfl⟩ rfl (Nat.le_of_ble_eq_true rfl) rfl dX12_parties_2 (fun r1 => ?_)
  refine x_if_ne C (pc := 5) (tgt := 13) dX12_parties_5 (by decide) (fun _ => ?_) (fun _ => ?_)
  · skip
    refine x_aload_n C (pc := 8) dX12_parties_8 rfl ?_
    refine x_callVim C (pc := 9) mv_X12_101 ht rfl [] (fun _ _ hr => ct_X12_bad _ ht _ _ _ hr) ⟨Nat.le_of_ble_eq_true rfl, Nat.le_of_ble_eq_true rfl⟩ rfl (Nat.le_of_ble_eq_true rfl) rfl dX12_parties_9 (fun r2 s3 => ?_)
    exact x_ret dX12_parties_12 (fun h => h)
  · skip
    refine x_aload_n C (pc := 13) dX12_parties_13 rfl ?_
    refine x_iload_n C (pc := 14) dX12_parties_14 rfl ?_
    refine x_callVi C (pc := 15) mv_X12_191 ht rfl [.int a] (fun _ hr => ct_X12_isHeard _ ht _ _ _ hr) ⟨Nat.le_of_ble_eq_true rfl, Nat.le_of_ble_eq_true rfl⟩ rfl (Nat.le_of_ble_eq_true rfl) rfl dX12_parties_15 (fun r4 => ?_)
    refine x_if_eq C (pc := 18) (tgt := 26) dX12_parties_18 (by decide) (fun _ => ?_) (fun _ => ?_)
    · skip
      refine x_iconst C (pc := 26) dX12_parties_26 kc_i_0 ?_
      refine x_istore_n C (pc := 27) (L' := fun i5 => [some (.ref t), some (.int a), some (.int i5), none, none]) dX12_parties_27 (by decide) (fun _ => rfl) (fun i5 => ?_)
      refine x_iconst C (pc := 28) dX12_parties_28 kc_i_0 ?_
      refine x_istore_n C (pc := 29) (L' := fun i6 => [some (.ref t), some (.int a), some (.int i5), some (.int i6), none]) dX12_parties_29 (by decide) (fun _ => rfl) (fun i6 => ?_)
      refine xb_1 (Z1 := (fun e18 => Yx o 101 [none, none, some (.int e18), none, none] [] s0)) ?_ (fun e18 => ?_)
      · refine Xo.mono (Yx.weak (lw_s (lw_s (lw_s (lw_s (lw_n lw_0)))))) (x_lp2 (fr := fun n7 n8 => Yx o 30 [some (.ref t), some (.int a), some (.int n7), some (.int n8), none] [] s0) _ _ (fun n7 n8 => ?_))
        refine x_iload_n C (pc := 30) dX12_parties_30 rfl ?_
        refine x_iconst C (pc := 31) dX12_parties_31 kc_i_4 ?_
        refine x_icmp_ge C (pc := 32) (tgt := 101) dX12_parties_32 (by decide) (fun _ => ?_) (fun _ => ?_)
        · skip
          exact Xo.done (fun h => Yx.weak (lw_n (lw_n (lw_s (lw_n (lw_n lw_0))))) h)
        · skip
          refine x_aload_n C (pc := 35) dX12_parties_35 rfl ?_
          refine x_iload_n C (pc := 36) dX12_parties_36 rfl ?_
          refine x_iconst C (pc := 37) dX12_parties_37 kc_i_0 ?_
          refine x_iload_n C (pc := 38) dX12_parties_38 rfl ?_
          refine x_callVi C (pc := 39) mv_X12_249 ht rfl [.int a, .int (nI 0), .int n8] (fun _ hr => ct_X12_gain _ ht _ _ _ _ _ hr) ⟨Nat.le_of_ble_eq_true rfl, Nat.le_of_ble_eq_true rfl⟩ rfl (Nat.le_of_ble_eq_true rfl) rfl dX12_parties_39 (fun r9 => ?_)
          refine x_aload_n C (pc := 42) dX12_parties_42 rfl ?_
          refine x_iload_n C (pc := 43) dX12_parties_43 rfl ?_
          refine x_iconst C (pc := 44) dX12_parties_44 kc_i_0 ?_
          refine x_iload_n C (pc := 45) dX12_parties_45 rfl ?_
          refine x_iconst C (pc := 46) dX12_parties_46 kc_i_1 ?_
          refine x_ixor C (pc := 47) dX12_parties_47 ?_
          refine x_callVi C (pc := 48) mv_X12_249 ht rfl [.int a, .int (nI 0), .int (n8 ^^^ (nI 1))] (fun _ hr => ct_X12_gain _ ht _ _ _ _ _ hr) ⟨Nat.le_of_ble_eq_true rfl, Nat.le_of_ble_eq_true rfl⟩ rfl (Nat.le_of_ble_eq_true rfl) rfl dX12_parties_48 (fun r10 => ?_)
          refine xb_1 (Z1 := fun j13 => Yx o 78 [some (.ref t), some (.int a), some (.int n7), some (.int n8), none] [.int j13] s0) ?_ (fun j13 => ?_)
          · skip
            refine x_icmp_lt C (pc := 51) (tgt := 77) dX12_parties_51 (by decide) (fun _ => ?_) (fun _ => ?_)
            · skip
              refine x_iconst C (pc := 77) dX12_parties_77 kc_i_0 ?_
              exact Xo.done (fun h => Yx.weak (lw_s (lw_s (lw_s (lw_s (lw_n lw_0))))) h)
            · skip
              refine x_aload_n C (pc := 54) dX12_parties_54 rfl ?_
              refine x_iload_n C (pc := 55) dX12_parties_55 rfl ?_
              refine x_iconst C (pc := 56) dX12_parties_56 kc_i_1 ?_
              refine x_iload_n C (pc := 57) dX12_parties_57 rfl ?_
              refine x_callVi C (pc := 58) mv_X12_249 ht rfl [.int a, .int (nI 1), .int n8] (fun _ hr => ct_X12_gain _ ht _ _ _ _ _ hr) ⟨Nat.le_of_ble_eq_true rfl, Nat.le_of_ble_eq_true rfl⟩ rfl (Nat.le_of_ble_eq_true rfl) rfl dX12_parties_58 (fun r11 => ?_)
              refine x_aload_n C (pc := 61) dX12_parties_61 rfl ?_
              refine x_iload_n C (pc := 62) dX12_parties_62 rfl ?_
              refine x_iconst C (pc := 63) dX12_parties_63 kc_i_1 ?_
              refine x_iload_n C (pc := 64) dX12_parties_64 rfl ?_
              refine x_iconst C (pc := 65) dX12_parties_65 kc_i_2 ?_
              refine x_ixor C (pc := 66) dX12_parties_66 ?_
              refine x_callVi C (pc := 67) mv_X12_249 ht rfl [.int a, .int (nI 1), .int (n8 ^^^ (nI 2))] (fun _ hr => ct_X12_gain _ ht _ _ _ _ _ hr) ⟨Nat.le_of_ble_eq_true rfl, Nat.le_of_ble_eq_true rfl⟩ rfl (Nat.le_of_ble_eq_true rfl) rfl dX12_parties_67 (fun r12 => ?_)
              refine x_icmp_lt C (pc := 70) (tgt := 77) dX12_parties_70 (by decide) (fun _ => ?_) (fun _ => ?_)
              · skip
                refine x_iconst C (pc := 77) dX12_parties_77 kc_i_0 ?_
                exact Xo.done (fun h => Yx.weak (lw_s (lw_s (lw_s (lw_s (lw_n lw_0))))) h)
              · skip
                refine x_iconst C (pc := 73) dX12_parties_73 kc_i_1 ?_
                refine x_goto C (pc := 74) (tgt := 78) dX12_parties_74 (by decide) ?_
                exact Xo.done (fun h => Yx.weak (lw_s (lw_s (lw_s (lw_s (lw_n lw_0))))) h)
          refine x_istore C (pc := 78) (L' := fun i14 => [some (.ref t), some (.int a), some (.int n7), some (.int n8), some (.int i14)]) dX12_parties_78 (by decide) (fun _ => rfl) (fun i14 => ?_)
          refine x_iload_n C (pc := 80) dX12_parties_80 rfl ?_
          refine x_iload C (pc := 81) dX12_parties_81 rfl ?_
          refine xb_1 (Z1 := fun j15 => Yx o 93 [some (.ref t), some (.int a), none, some (.int n8), none] [.int j15, .int n7] s0) ?_ (fun j15 => ?_)
          · skip
            refine x_if_eq C (pc := 83) (tgt := 92) dX12_parties_83 (by decide) (fun _ => ?_) (fun _ => ?_)
            · skip
              refine x_iconst C (pc := 92) dX12_parties_92 kc_i_0 ?_
              exact Xo.done (fun h => Yx.weak (lw_s (lw_s (lw_n (lw_s (lw_n lw_0))))) h)
            · skip
              refine x_iconst C (pc := 86) dX12_parties_86 kc_i_1 ?_
              refine x_iload_n C (pc := 87) dX12_parties_87 rfl ?_
              refine x_ishl C (pc := 88) dX12_parties_88 ?_
              refine x_goto C (pc := 89) (tgt := 93) dX12_parties_89 (by decide) ?_
              exact Xo.done (fun h => Yx.weak (lw_s (lw_s (lw_n (lw_s (lw_n lw_0))))) h)
          refine x_ior C (pc := 93) dX12_parties_93 ?_
          refine x_istore_n C (pc := 94) (L' := fun i16 => [some (.ref t), some (.int a), some (.int i16), some (.int n8), none]) dX12_parties_94 (by decide) (fun _ => rfl) (fun i16 => ?_)
          refine x_iinc C (pc := 95) (L' := fun i17 => [some (.ref t), some (.int a), some (.int i16), some (.int i17), none]) dX12_parties_95 rfl kc_i_1 (by decide) (fun _ => rfl) (fun i17 => ?_)
          refine x_goto C (pc := 98) (tgt := 30) dX12_parties_98 (by decide) ?_
          exact Xo.done (fun h => Yx.weak (lw_s (lw_s (lw_s (lw_s (lw_n lw_0))))) h)
      refine x_iload_n C (pc := 101) dX12_parties_101 rfl ?_
      exact x_ret dX12_parties_102 (fun h => h)
    · skip
      refine x_aload_n C (pc := 21) dX12_parties_21 rfl ?_
      refine x_callVim C (pc := 22) mv_X12_177 ht rfl [] (fun _ _ hr => ct_X12_no _ ht _ _ _ hr) ⟨Nat.le_of_ble_eq_true rfl, Nat.le_of_ble_eq_true rfl⟩ rfl (Nat.le_of_ble_eq_true rfl) rfl dX12_parties_22 (fun r19 s20 => ?_)
      exact x_ret dX12_parties_25 (fun h => h)
theorem ct_X12_parties (t : Nat) (ht : kd t = 10) (a : Int32) (s0 : SS) (r : Int32) (s2 : SS) (h : FX12_parties t a s0 = some (r, s2)) : CT 1 yX12_parties cX12_parties 5 (some .int) 4 89 [.ref t, .int a] s0 (some (.int r)) s2 :=
  ct_of (by decide +kernel) (Or.inr (Or.inl ⟨_, rfl, _, rfl, rfl⟩)) (lx_args [.ref t, .int a]) (lx_entry [.ref t, .int a] (fun _ => Nat.le_of_ble_eq_true rfl)) (fun o C hR => Yx.weak (lw_s (lw_s (lw_z (lw_z (lw_z lw_0))))) (bd_X12_parties C t ht a s0 (r, s2) h hR))
def FX12_calms (t : Nat) (a : Int32) (b : Int32) (c : Int32) (s0 : SS) : Option (Int32 × SS) :=
  bd (FX12_isUser t a s0) (fun (r1 : Int32) => if r1 = 0 then bd2 (FX12_bad t s0) (fun (r2 : Int32) (s3 : SS) => some ((r2, s3))) else (bd (FX12_in (Int32.toInt64 b) (lN 0) (8 : Int64) s0) (fun (r4 : Int32) => if r4 = 0 then bd2 (FX12_bad t s0) (fun (r5 : Int32) (s6 : SS) => some ((r5, s6))) else (bd (FX12_in (Int32.toInt64 c) (lN 0) (10 : Int64) s0) (fun (r7 : Int32) => if r7 = 0 then bd2 (FX12_bad t s0) (fun (r8 : Int32) (s9 : SS) => some ((r8, s9))) else (nm (lN 0) (fun (l10 : Int64) => nm (nI 0) (fun (i11 : Int32) => bd (lp FUEL (u3 (fun (m12 : Int64) (n13 : Int32) (s14 : SS) => if b ≤ n13 then some (Sum.inr (m12, s14)) else (gd (inb (nI 66) (ln (lk t 0))) (bd (FX12_everyone (lk t 0) s14) (fun (r15 : Int32) => bd (FX12_blowOf t (lk t 0) ((gI s14 (lk t 0) (Int32.toNatClampNeg (nI 66))) + n13) r15 s14) (fun (s16 : SS) => gd (inb a (ln (lk t 7))) (nm (m12 + (Int32.toInt64 (gI s16 (lk t 7) (Int32.toNatClampNeg a)))) (fun (l17 : Int64) => nm (n13 + (nI 1)) (fun (i18 : Int32) => some (Sum.inl (l17, i18, s16))))))))))) (l10, i11, s0)) (u2 (fun (f19 : Int64) (s20 : SS) => bd2 (FX12_fraction t (f19 * (Int32.toInt64 ((nI 10) - c))) (10 : Int64) s20) (fun (r21 : Int32) (s22 : SS) => some ((r21, s22)))))))))))))
set_option maxRecDepth 100000 in
set_option maxHeartbeats 4000000 in
theorem bd_X12_calms {o : Om} (C : Cx o RX12 cX12_calms 7 (some .int) (rmx 3 75) 1) (t : Nat) (ht : kd t = 10) (a : Int32) (b : Int32) (c : Int32) (s0 : SS) : Xo (FX12_calms t a b c s0) (fun r => RT o cX12_calms (some (.int r.1)) r.2) (Yx o 0 [some (.ref t), some (.int a), some (.int b), some (.int c), none, none, none] [] s0) := by
  unfold FX12_calms
  refine x_aload_n C (pc := 0) dX12_calms_0 rfl ?_
  refine x_iload_n C (pc := 1) dX12_calms_1 rfl ?_
  refine x_callVi C (pc := 2) mv_X12_185 ht rfl [.int a] (fun _ hr => ct_X12_isUser _ ht _ _ _ hr) ⟨Nat.le_of_ble_eq_true rfl, Nat.le_of_ble_eq_true rfl⟩ rfl (Nat.le_of_ble_eq_true rfl) rfl dX12_calms_2 (fun r1 => ?_)
  refine x_if_eq C (pc := 5) (tgt := 32) dX12_calms_5 (by decide) (fun _ => ?_) (fun _ => ?_)
  · skip
    refine x_aload_n C (pc := 32) dX12_calms_32 rfl ?_
    refine x_callVim C (pc := 33) mv_X12_101 ht rfl [] (fun _ _ hr => ct_X12_bad _ ht _ _ _ hr) ⟨Nat.le_of_ble_eq_true rfl, Nat.le_of_ble_eq_true rfl⟩ rfl (Nat.le_of_ble_eq_true rfl) rfl dX12_calms_33 (fun r2 s3 => ?_)
    exact x_ret dX12_calms_36 (fun h => h)
  · skip
    refine x_iload_n C (pc := 8) dX12_calms_8 rfl ?_
    refine x_i2l C (pc := 9) dX12_calms_9 ?_
    refine x_lconst C (pc := 10) dX12_calms_10 (v := lN 0) rfl ?_
    refine x_ldc2 C (pc := 11) dX12_calms_11 cl_X12_252 ?_
    refine x_callSi C (pc := 14) ms_X12_55 [.long (Int32.toInt64 b), .long (lN 0), .long (8 : Int64)] (fun _ hr => ct_X12_in _ _ _ _ _ hr) ⟨Nat.le_of_ble_eq_true rfl, Nat.le_of_ble_eq_true rfl⟩ rfl (Nat.le_of_ble_eq_true rfl) rfl dX12_calms_14 (fun r4 => ?_)
    refine x_if_eq C (pc := 17) (tgt := 32) dX12_calms_17 (by decide) (fun _ => ?_) (fun _ => ?_)
    · skip
      refine x_aload_n C (pc := 32) dX12_calms_32 rfl ?_
      refine x_callVim C (pc := 33) mv_X12_101 ht rfl [] (fun _ _ hr => ct_X12_bad _ ht _ _ _ hr) ⟨Nat.le_of_ble_eq_true rfl, Nat.le_of_ble_eq_true rfl⟩ rfl (Nat.le_of_ble_eq_true rfl) rfl dX12_calms_33 (fun r5 s6 => ?_)
      exact x_ret dX12_calms_36 (fun h => h)
    · skip
      refine x_iload_n C (pc := 20) dX12_calms_20 rfl ?_
      refine x_i2l C (pc := 21) dX12_calms_21 ?_
      refine x_lconst C (pc := 22) dX12_calms_22 (v := lN 0) rfl ?_
      refine x_ldc2 C (pc := 23) dX12_calms_23 cl_X12_254 ?_
      refine x_callSi C (pc := 26) ms_X12_55 [.long (Int32.toInt64 c), .long (lN 0), .long (10 : Int64)] (fun _ hr => ct_X12_in _ _ _ _ _ hr) ⟨Nat.le_of_ble_eq_true rfl, Nat.le_of_ble_eq_true rfl⟩ rfl (Nat.le_of_ble_eq_true rfl) rfl dX12_calms_26 (fun r7 => ?_)
      refine x_if_ne C (pc := 29) (tgt := 37) dX12_calms_29 (by decide) (fun _ => ?_) (fun _ => ?_)
      · skip
        refine x_aload_n C (pc := 32) dX12_calms_32 rfl ?_
        refine x_callVim C (pc := 33) mv_X12_101 ht rfl [] (fun _ _ hr => ct_X12_bad _ ht _ _ _ hr) ⟨Nat.le_of_ble_eq_true rfl, Nat.le_of_ble_eq_true rfl⟩ rfl (Nat.le_of_ble_eq_true rfl) rfl dX12_calms_33 (fun r8 s9 => ?_)
        exact x_ret dX12_calms_36 (fun h => h)
      · skip
        refine x_lconst C (pc := 37) dX12_calms_37 (v := lN 0) rfl ?_
        refine x_lstore C (pc := 38) (L' := fun l10 => [some (.ref t), some (.int a), some (.int b), some (.int c), some (.long l10), none, none]) dX12_calms_38 (by decide) (fun _ => rfl) (fun l10 => ?_)
        refine x_iconst C (pc := 40) dX12_calms_40 kc_i_0 ?_
        refine x_istore C (pc := 41) (L' := fun i11 => [some (.ref t), some (.int a), some (.int b), some (.int c), some (.long l10), none, some (.int i11)]) dX12_calms_41 (by decide) (fun _ => rfl) (fun i11 => ?_)
        refine xb_2 (Z1 := (fun f19 s20 => Yx o 92 [some (.ref t), none, none, some (.int c), some (.long f19), none, none] [] s20)) ?_ (fun f19 s20 => ?_)
        · refine Xo.mono (Yx.weak (lw_s (lw_s (lw_s (lw_s (lw_s (lw_n (lw_s lw_0)))))))) (x_lp3 (fr := fun m12 n13 s14 => Yx o 43 [some (.ref t), some (.int a), some (.int b), some (.int c), some (.long m12), none, some (.int n13)] [] s14) _ _ _ (fun m12 n13 s14 => ?_))
          refine x_iload C (pc := 43) dX12_calms_43 rfl ?_
          refine x_iload_n C (pc := 45) dX12_calms_45 rfl ?_
          refine x_icmp_ge C (pc := 46) (tgt := 92) dX12_calms_46 (by decide) (fun _ => ?_) (fun _ => ?_)
          · skip
            exact Xo.done (fun h => Yx.weak (lw_s (lw_n (lw_n (lw_s (lw_s (lw_n (lw_n lw_0))))))) h)
          · skip
            refine x_aload_n C (pc := 49) dX12_calms_49 rfl ?_
            refine x_aload_n C (pc := 50) dX12_calms_50 rfl ?_
            refine x_getR C (pc := 51) fg_X12_7 dX12_calms_51 ht ?_
            refine x_aload_n C (pc := 54) dX12_calms_54 rfl ?_
            refine x_getR C (pc := 55) fg_X12_7 dX12_calms_55 ht ?_
            refine x_bipush C (pc := 58) dX12_calms_58 kc_b_66 ?_
            refine x_iald C (pc := 60) dX12_calms_60 (lkd_10_0 ht) (fun _ => ?_)
            refine x_iload C (pc := 61) dX12_calms_61 rfl ?_
            refine x_iadd C (pc := 63) dX12_calms_63 ?_
            refine x_aload_n C (pc := 64) dX12_calms_64 rfl ?_
            refine x_getR C (pc := 65) fg_X12_7 dX12_calms_65 ht ?_
            refine x_callSi C (pc := 68) ms_X12_82 [.ref (lk t 0)] (fun _ hr => ct_X12_everyone _ (lkd_10_0 ht) _ _ hr) ⟨Nat.le_of_ble_eq_true rfl, Nat.le_of_ble_eq_true rfl⟩ rfl (Nat.le_of_ble_eq_true rfl) rfl dX12_calms_68 (fun r15 => ?_)
            refine x_callVv C (pc := 71) mv_X12_78 ht rfl [.ref (lk t 0), .int ((gI s14 (lk t 0) (Int32.toNatClampNeg (nI 66))) + n13), .int r15] (fun _ hr => ct_X12_blowOf _ ht _ (lkd_10_0 ht) _ _ _ _ hr) ⟨Nat.le_of_ble_eq_true rfl, Nat.le_of_ble_eq_true rfl⟩ rfl (Nat.le_of_ble_eq_true rfl) rfl dX12_calms_71 (fun s16 => ?_)
            refine x_lload C (pc := 74) dX12_calms_74 rfl ?_
            refine x_aload_n C (pc := 76) dX12_calms_76 rfl ?_
            refine x_getR C (pc := 77) fg_X12_30 dX12_calms_77 ht ?_
            refine x_iload_n C (pc := 80) dX12_calms_80 rfl ?_
            refine x_iald C (pc := 81) dX12_calms_81 (lkd_10_7 ht) (fun _ => ?_)
            refine x_i2l C (pc := 82) dX12_calms_82 ?_
            refine x_ladd C (pc := 83) dX12_calms_83 ?_
            refine x_lstore C (pc := 84) (L' := fun l17 => [some (.ref t), some (.int a), some (.int b), some (.int c), some (.long l17), none, some (.int n13)]) dX12_calms_84 (by decide) (fun _ => rfl) (fun l17 => ?_)
            refine x_iinc C (pc := 86) (L' := fun i18 => [some (.ref t), some (.int a), some (.int b), some (.int c), some (.long l17), none, some (.int i18)]) dX12_calms_86 rfl kc_i_1 (by decide) (fun _ => rfl) (fun i18 => ?_)
            refine x_goto C (pc := 89) (tgt := 43) dX12_calms_89 (by decide) ?_
            exact Xo.done (fun h => Yx.weak (lw_s (lw_s (lw_s (lw_s (lw_s (lw_n (lw_s lw_0))))))) h)
        refine x_aload_n C (pc := 92) dX12_calms_92 rfl ?_
        refine x_lload C (pc := 93) dX12_calms_93 rfl ?_
        refine x_bipush C (pc := 95) dX12_calms_95 kc_b_10 ?_
        refine x_iload_n C (pc := 97) dX12_calms_97 rfl ?_
        refine x_isub C (pc := 98) dX12_calms_98 ?_
        refine x_i2l C (pc := 99) dX12_calms_99 ?_
        refine x_lmul C (pc := 100) dX12_calms_100 ?_
        refine x_ldc2 C (pc := 101) dX12_calms_101 cl_X12_254 ?_
        refine x_callVim C (pc := 104) mv_X12_224 ht rfl [.long (f19 * (Int32.toInt64 ((nI 10) - c))), .long (10 : Int64)] (fun _ _ hr => ct_X12_fraction _ ht _ _ _ _ _ hr) ⟨Nat.le_of_ble_eq_true rfl, Nat.le_of_ble_eq_true rfl⟩ rfl (Nat.le_of_ble_eq_true rfl) rfl dX12_calms_104 (fun r21 s22 => ?_)
        exact x_ret dX12_calms_107 (fun h => h)
theorem ct_X12_calms (t : Nat) (ht : kd t = 10) (a : Int32) (b : Int32) (c : Int32) (s0 : SS) (r : Int32) (s2 : SS) (h : FX12_calms t a b c s0 = some (r, s2)) : CT 1 yX12_calms cX12_calms 7 (some .int) 3 75 [.ref t, .int a, .int b, .int c] s0 (some (.int r)) s2 :=
  ct_of (by decide +kernel) (Or.inr (Or.inl ⟨_, rfl, _, rfl, rfl⟩)) (lx_args [.ref t, .int a, .int b, .int c]) (lx_entry [.ref t, .int a, .int b, .int c] (fun _ => Nat.le_of_ble_eq_true rfl)) (fun o C hR => Yx.weak (lw_s (lw_s (lw_s (lw_s (lw_z (lw_z (lw_z lw_0))))))) (bd_X12_calms C t ht a b c s0 (r, s2) h hR))
def FX12_years (t : Nat) (a : Int32) (b : Int32) (s0 : SS) : Option (Int32 × SS) :=
  bd (FX12_in (Int32.toInt64 a) (lN 0) (999999 : Int64) s0) (fun (r1 : Int32) => if r1 = 0 then bd2 (FX12_bad t s0) (fun (r2 : Int32) (s3 : SS) => some ((r2, s3))) else (bd (FX12_in (Int32.toInt64 b) (lN 0) (60 : Int64) s0) (fun (r4 : Int32) => if r4 = 0 then bd2 (FX12_bad t s0) (fun (r5 : Int32) (s6 : SS) => some ((r5, s6))) else (nm (Int32.toInt64 a) (fun (l7 : Int64) => nm (nI 0) (fun (i8 : Int32) => nm (nI 0) (fun (i9 : Int32) => bd (lp FUEL (u4 (fun (m10 : Int64) (n11 : Int32) (n12 : Int32) (s13 : SS) => if b ≤ n12 then some (Sum.inr (n11, s13)) else (nm (((m10 * (1103515245 : Int64)) + (12345 : Int64)) - ((m10 * (1103515245 : Int64)) + (12345 : Int64)) / (2147483648 : Int64) * (2147483648 : Int64)) (fun (l14 : Int64) => bd (FX12_everyone (lk t 0) s13) (fun (r15 : Int32) => bd (FX12_blow t (lk t 0) (Int64.toInt32 ((l14 / (65536 : Int64)) - (l14 / (65536 : Int64)) / (21 : Int64) * (21 : Int64))) (Int64.toInt32 ((l14 / (1048576 : Int64)) - (l14 / (1048576 : Int64)) / (2 : Int64) * (2 : Int64))) r15 s13) (fun (s16 : SS) => nm (nI 0) (fun (i17 : Int32) => bd (lp FUEL (u2 (fun (n18 : Int32) (n19 : Int32) => gd (inb (nI 16) (ln (lk t 0))) (if (gI s16 (lk t 0) (Int32.toNatClampNeg (nI 16))) ≤ n19 then some (Sum.inr n18) else (bd (FX12_userOf (lk t 0) n19 (nI 0) s16) (fun (r20 : Int32) => gd (inb n19 (ln (lk t 7))) (bd (FX12_rentOf r20 (gI s16 (lk t 7) (Int32.toNatClampNeg n19)) s16) (fun (r21 : Int32) => nm (n18 + r21) (fun (i22 : Int32) => nm (n19 + (nI 1)) (fun (i23 : Int32) => some (Sum.inl (i22, i23))))))))))) (n11, i17)) (fun (e24 : Int32) => nm (n12 + (nI 1)) (fun (i25 : Int32) => some (Sum.inl (l14, e24, i25, s16))))))))))) (l7, i8, i9, s0)) (u2 (fun (e26 : Int32) (s27 : SS) => some ((e26, s27)))))))))))
set_option maxRecDepth 100000 in
set_option maxHeartbeats 4000000 in
theorem bd_X12_years {o : Om} (C : Cx o RX12 cX12_years 8 (some .int) (rmx 2 52) 1) (t : Nat) (ht : kd t = 10) (a : Int32) (b : Int32) (s0 : SS) : Xo (FX12_years t a b s0) (fun r => RT o cX12_years (some (.int r.1)) r.2) (Yx o 0 [some (.ref t), some (.int a), some (.int b), none, none, none, none, none] [] s0) := by
  unfold FX12_years
  refine x_iload_n C (pc := 0) dX12_years_0 rfl ?_
  refine x_i2l C (pc := 1) dX12_years_1 ?_
  refine x_lconst C (pc := 2) dX12_years_2 (v := lN 0) rfl ?_
  refine x_ldc2 C (pc := 3) dX12_years_3 cl_X12_256 ?_
  refine x_callSi C (pc := 6) ms_X12_55 [.long (Int32.toInt64 a), .long (lN 0), .long (999999 : Int64)] (fun _ hr => ct_X12_in _ _ _ _ _ hr) ⟨Nat.le_of_ble_eq_true rfl, Nat.le_of_ble_eq_true rfl⟩ rfl (Nat.le_of_ble_eq_true rfl) rfl dX12_years_6 (fun r1 => ?_)
  refine x_if_eq C (pc := 9) (tgt := 24) dX12_years_9 (by decide) (fun _ => ?_) (fun _ => ?_)
  · skip
    refine x_aload_n C (pc := 24) dX12_years_24 rfl ?_
    refine x_callVim C (pc := 25) mv_X12_101 ht rfl [] (fun _ _ hr => ct_X12_bad _ ht _ _ _ hr) ⟨Nat.le_of_ble_eq_true rfl, Nat.le_of_ble_eq_true rfl⟩ rfl (Nat.le_of_ble_eq_true rfl) rfl dX12_years_25 (fun r2 s3 => ?_)
    exact x_ret dX12_years_28 (fun h => h)
  · skip
    refine x_iload_n C (pc := 12) dX12_years_12 rfl ?_
    refine x_i2l C (pc := 13) dX12_years_13 ?_
    refine x_lconst C (pc := 14) dX12_years_14 (v := lN 0) rfl ?_
    refine x_ldc2 C (pc := 15) dX12_years_15 cl_X12_258 ?_
    refine x_callSi C (pc := 18) ms_X12_55 [.long (Int32.toInt64 b), .long (lN 0), .long (60 : Int64)] (fun _ hr => ct_X12_in _ _ _ _ _ hr) ⟨Nat.le_of_ble_eq_true rfl, Nat.le_of_ble_eq_true rfl⟩ rfl (Nat.le_of_ble_eq_true rfl) rfl dX12_years_18 (fun r4 => ?_)
    refine x_if_ne C (pc := 21) (tgt := 29) dX12_years_21 (by decide) (fun _ => ?_) (fun _ => ?_)
    · skip
      refine x_aload_n C (pc := 24) dX12_years_24 rfl ?_
      refine x_callVim C (pc := 25) mv_X12_101 ht rfl [] (fun _ _ hr => ct_X12_bad _ ht _ _ _ hr) ⟨Nat.le_of_ble_eq_true rfl, Nat.le_of_ble_eq_true rfl⟩ rfl (Nat.le_of_ble_eq_true rfl) rfl dX12_years_25 (fun r5 s6 => ?_)
      exact x_ret dX12_years_28 (fun h => h)
    · skip
      refine x_iload_n C (pc := 29) dX12_years_29 rfl ?_
      refine x_i2l C (pc := 30) dX12_years_30 ?_
      refine x_lstore_n C (pc := 31) (L' := fun l7 => [some (.ref t), some (.int a), some (.int b), some (.long l7), none, none, none, none]) dX12_years_31 (by decide) (fun _ => rfl) (fun l7 => ?_)
      refine x_iconst C (pc := 32) dX12_years_32 kc_i_0 ?_
      refine x_istore C (pc := 33) (L' := fun i8 => [some (.ref t), some (.int a), some (.int b), some (.long l7), none, some (.int i8), none, none]) dX12_years_33 (by decide) (fun _ => rfl) (fun i8 => ?_)
      refine x_iconst C (pc := 35) dX12_years_35 kc_i_0 ?_
      refine x_istore C (pc := 36) (L' := fun i9 => [some (.ref t), some (.int a), some (.int b), some (.long l7), none, some (.int i8), some (.int i9), none]) dX12_years_36 (by decide) (fun _ => rfl) (fun i9 => ?_)
      refine xb_2 (Z1 := (fun e26 s27 => Yx o 145 [none, none, none, none, none, some (.int e26), none, none] [] s27)) ?_ (fun e26 s27 => ?_)
      · refine Xo.mono (Yx.weak (lw_s (lw_n (lw_s (lw_s (lw_n (lw_s (lw_s (lw_n lw_0))))))))) (x_lp4 (fr := fun m10 n11 n12 s13 => Yx o 38 [some (.ref t), none, some (.int b), some (.long m10), none, some (.int n11), some (.int n12), none] [] s13) _ _ _ _ (fun m10 n11 n12 s13 => ?_))
        refine x_iload C (pc := 38) dX12_years_38 rfl ?_
        refine x_iload_n C (pc := 40) dX12_years_40 rfl ?_
        refine x_icmp_ge C (pc := 41) (tgt := 145) dX12_years_41 (by decide) (fun _ => ?_) (fun _ => ?_)
        · skip
          exact Xo.done (fun h => Yx.weak (lw_n (lw_n (lw_n (lw_n (lw_n (lw_s (lw_n (lw_n lw_0)))))))) h)
        · skip
          refine x_lload_n C (pc := 44) dX12_years_44 rfl ?_
          refine x_ldc2 C (pc := 45) dX12_years_45 cl_X12_260 ?_
          refine x_lmul C (pc := 48) dX12_years_48 ?_
          refine x_ldc2 C (pc := 49) dX12_years_49 cl_X12_262 ?_
          refine x_ladd C (pc := 52) dX12_years_52 ?_
          refine x_ldc2 C (pc := 53) dX12_years_53 cl_X12_264 ?_
          refine x_lrem C (pc := 56) dX12_years_56 (by decide +kernel) ?_
          refine x_lstore_n C (pc := 57) (L' := fun l14 => [some (.ref t), none, some (.int b), some (.long l14), none, some (.int n11), some (.int n12), none]) dX12_years_57 (by decide) (fun _ => rfl) (fun l14 => ?_)
          refine x_aload_n C (pc := 58) dX12_years_58 rfl ?_
          refine x_aload_n C (pc := 59) dX12_years_59 rfl ?_
          refine x_getR C (pc := 60) fg_X12_7 dX12_years_60 ht ?_
          refine x_lload_n C (pc := 63) dX12_years_63 rfl ?_
          refine x_ldc2 C (pc := 64) dX12_years_64 cl_X12_266 ?_
          refine x_ldiv C (pc := 67) dX12_years_67 (by decide +kernel) ?_
          refine x_ldc2 C (pc := 68) dX12_years_68 cl_X12_268 ?_
          refine x_lrem C (pc := 71) dX12_years_71 (by decide +kernel) ?_
          refine x_l2i C (pc := 72) dX12_years_72 ?_
          refine x_lload_n C (pc := 73) dX12_years_73 rfl ?_
          refine x_ldc2 C (pc := 74) dX12_years_74 cl_X12_270 ?_
          refine x_ldiv C (pc := 77) dX12_years_77 (by decide +kernel) ?_
          refine x_ldc2 C (pc := 78) dX12_years_78 cl_X12_234 ?_
          refine x_lrem C (pc := 81) dX12_years_81 (by decide +kernel) ?_
          refine x_l2i C (pc := 82) dX12_years_82 ?_
          refine x_aload_n C (pc := 83) dX12_years_83 rfl ?_
          refine x_getR C (pc := 84) fg_X12_7 dX12_years_84 ht ?_
          refine x_callSi C (pc := 87) ms_X12_82 [.ref (lk t 0)] (fun _ hr => ct_X12_everyone _ (lkd_10_0 ht) _ _ hr) ⟨Nat.le_of_ble_eq_true rfl, Nat.le_of_ble_eq_true rfl⟩ rfl (Nat.le_of_ble_eq_true rfl) rfl dX12_years_87 (fun r15 => ?_)
          refine x_callVv C (pc := 90) mv_X12_74 ht rfl [.ref (lk t 0), .int (Int64.toInt32 ((l14 / (65536 : Int64)) - (l14 / (65536 : Int64)) / (21 : Int64) * (21 : Int64))), .int (Int64.toInt32 ((l14 / (1048576 : Int64)) - (l14 / (1048576 : Int64)) / (2 : Int64) * (2 : Int64))), .int r15] (fun _ hr => ct_X12_blow _ ht _ (lkd_10_0 ht) _ _ _ _ _ hr) ⟨Nat.le_of_ble_eq_true rfl, Nat.le_of_ble_eq_true rfl⟩ rfl (Nat.le_of_ble_eq_true rfl) rfl dX12_years_90 (fun s16 => ?_)
          refine x_iconst C (pc := 93) dX12_years_93 kc_i_0 ?_
          refine x_istore C (pc := 94) (L' := fun i17 => [some (.ref t), none, some (.int b), some (.long l14), none, some (.int n11), some (.int n12), some (.int i17)]) dX12_years_94 (by decide) (fun _ => rfl) (fun i17 => ?_)
          refine xb_1 (Z1 := (fun e24 => Yx o 139 [some (.ref t), none, some (.int b), some (.long l14), none, some (.int e24), some (.int n12), none] [] s16)) ?_ (fun e24 => ?_)
          · refine Xo.mono (Yx.weak (lw_s (lw_n (lw_s (lw_s (lw_n (lw_s (lw_s (lw_s lw_0))))))))) (x_lp2 (fr := fun n18 n19 => Yx o 96 [some (.ref t), none, some (.int b), some (.long l14), none, some (.int n18), some (.int n12), some (.int n19)] [] s16) _ _ (fun n18 n19 => ?_))
            refine x_iload C (pc := 96) dX12_years_96 rfl ?_
            refine x_aload_n C (pc := 98) dX12_years_98 rfl ?_
            refine x_getR C (pc := 99) fg_X12_7 dX12_years_99 ht ?_
            refine x_bipush C (pc := 102) dX12_years_102 kc_b_16 ?_
            refine x_iald C (pc := 104) dX12_years_104 (lkd_10_0 ht) (fun _ => ?_)
            refine x_icmp_ge C (pc := 105) (tgt := 139) dX12_years_105 (by decide) (fun _ => ?_) (fun _ => ?_)
            · skip
              exact Xo.done (fun h => Yx.weak (lw_s (lw_n (lw_s (lw_s (lw_n (lw_s (lw_s (lw_n lw_0)))))))) h)
            · skip
              refine x_iload C (pc := 108) dX12_years_108 rfl ?_
              refine x_aload_n C (pc := 110) dX12_years_110 rfl ?_
              refine x_getR C (pc := 111) fg_X12_7 dX12_years_111 ht ?_
              refine x_iload C (pc := 114) dX12_years_114 rfl ?_
              refine x_iconst C (pc := 116) dX12_years_116 kc_i_0 ?_
              refine x_callSi C (pc := 117) ms_X12_66 [.ref (lk t 0), .int n19, .int (nI 0)] (fun _ hr => ct_X12_userOf _ (lkd_10_0 ht) _ _ _ _ hr) ⟨Nat.le_of_ble_eq_true rfl, Nat.le_of_ble_eq_true rfl⟩ rfl (Nat.le_of_ble_eq_true rfl) rfl dX12_years_117 (fun r20 => ?_)
              refine x_aload_n C (pc := 120) dX12_years_120 rfl ?_
              refine x_getR C (pc := 121) fg_X12_30 dX12_years_121 ht ?_
              refine x_iload C (pc := 124) dX12_years_124 rfl ?_
              refine x_iald C (pc := 126) dX12_years_126 (lkd_10_7 ht) (fun _ => ?_)
              refine x_callSi C (pc := 127) ms_X12_86 [.int r20, .int (gI s16 (lk t 7) (Int32.toNatClampNeg n19))] (fun _ hr => ct_X12_rentOf _ _ _ _ hr) ⟨Nat.le_of_ble_eq_true rfl, Nat.le_of_ble_eq_true rfl⟩ rfl (Nat.le_of_ble_eq_true rfl) rfl dX12_years_127 (fun r21 => ?_)
              refine x_iadd C (pc := 130) dX12_years_130 ?_
              refine x_istore C (pc := 131) (L' := fun i22 => [some (.ref t), none, some (.int b), some (.long l14), none, some (.int i22), some (.int n12), some (.int n19)]) dX12_years_131 (by decide) (fun _ => rfl) (fun i22 => ?_)
              refine x_iinc C (pc := 133) (L' := fun i23 => [some (.ref t), none, some (.int b), some (.long l14), none, some (.int i22), some (.int n12), some (.int i23)]) dX12_years_133 rfl kc_i_1 (by decide) (fun _ => rfl) (fun i23 => ?_)
              refine x_goto C (pc := 136) (tgt := 96) dX12_years_136 (by decide) ?_
              exact Xo.done (fun h => Yx.weak (lw_s (lw_n (lw_s (lw_s (lw_n (lw_s (lw_s (lw_s lw_0)))))))) h)
          refine x_iinc C (pc := 139) (L' := fun i25 => [some (.ref t), none, some (.int b), some (.long l14), none, some (.int e24), some (.int i25), none]) dX12_years_139 rfl kc_i_1 (by decide) (fun _ => rfl) (fun i25 => ?_)
          refine x_goto C (pc := 142) (tgt := 38) dX12_years_142 (by decide) ?_
          exact Xo.done (fun h => Yx.weak (lw_s (lw_n (lw_s (lw_s (lw_n (lw_s (lw_s (lw_n lw_0)))))))) h)
      refine x_iload C (pc := 145) dX12_years_145 rfl ?_
      exact x_ret dX12_years_147 (fun h => h)
theorem ct_X12_years (t : Nat) (ht : kd t = 10) (a : Int32) (b : Int32) (s0 : SS) (r : Int32) (s2 : SS) (h : FX12_years t a b s0 = some (r, s2)) : CT 1 yX12_years cX12_years 8 (some .int) 2 52 [.ref t, .int a, .int b] s0 (some (.int r)) s2 :=
  ct_of (by decide +kernel) (Or.inr (Or.inl ⟨_, rfl, _, rfl, rfl⟩)) (lx_args [.ref t, .int a, .int b]) (lx_entry [.ref t, .int a, .int b] (fun _ => Nat.le_of_ble_eq_true rfl)) (fun o C hR => Yx.weak (lw_s (lw_s (lw_s (lw_z (lw_z (lw_z (lw_z (lw_z lw_0)))))))) (bd_X12_years C t ht a b s0 (r, s2) h hR))
def FX12_part (t : Nat) (a : Int32) (s0 : SS) : Option (Int64 × SS) :=
  bd (FX12_in (Int32.toInt64 a) (lN 0) (lN 1) s0) (fun (r1 : Int32) => if r1 = 0 then bd2 (FX12_bad t s0) (fun (r2 : Int32) (s3 : SS) => some (((Int32.toInt64 r2), s3))) else (if a = 0 then some (((gL s0 t 4), s0)) else (some (((gL s0 t 5), s0)))))
set_option maxRecDepth 100000 in
set_option maxHeartbeats 4000000 in
theorem bd_X12_part {o : Om} (C : Cx o RX12 cX12_part 2 (some .long) (rmx 1 25) 1) (t : Nat) (ht : kd t = 10) (a : Int32) (s0 : SS) : Xo (FX12_part t a s0) (fun r => RT o cX12_part (some (.long r.1)) r.2) (Yx o 0 [some (.ref t), some (.int a)] [] s0) := by
  unfold FX12_part
  refine x_iload_n C (pc := 0) dX12_part_0 rfl ?_
  refine x_i2l C (pc := 1) dX12_part_1 ?_
  refine x_lconst C (pc := 2) dX12_part_2 (v := lN 0) rfl ?_
  refine x_lconst C (pc := 3) dX12_part_3 (v := lN 1) rfl ?_
  refine x_callSi C (pc := 4) ms_X12_55 [.long (Int32.toInt64 a), .long (lN 0), .long (lN 1)] (fun _ hr => ct_X12_in _ _ _ _ _ hr) ⟨Nat.le_of_ble_eq_true rfl, Nat.le_of_ble_eq_true rfl⟩ rfl (Nat.le_of_ble_eq_true rfl) rfl dX12_part_4 (fun r1 => ?_)
  refine x_if_eq C (pc := 7) (tgt := 28) dX12_part_7 (by decide) (fun _ => ?_) (fun _ => ?_)
  · skip
    refine x_aload_n C (pc := 28) dX12_part_28 rfl ?_
    refine x_callVim C (pc := 29) mv_X12_101 ht rfl [] (fun _ _ hr => ct_X12_bad _ ht _ _ _ hr) ⟨Nat.le_of_ble_eq_true rfl, Nat.le_of_ble_eq_true rfl⟩ rfl (Nat.le_of_ble_eq_true rfl) rfl dX12_part_29 (fun r2 s3 => ?_)
    refine x_i2l C (pc := 32) dX12_part_32 ?_
    exact x_lret dX12_part_33 (fun h => h)
  · skip
    refine x_iload_n C (pc := 10) dX12_part_10 rfl ?_
    refine x_if_ne C (pc := 11) (tgt := 21) dX12_part_11 (by decide) (fun _ => ?_) (fun _ => ?_)
    · skip
      refine x_aload_n C (pc := 14) dX12_part_14 rfl ?_
      refine x_getL C (pc := 15) fg_X12_59 dX12_part_15 ht ?_
      refine x_goto C (pc := 18) (tgt := 33) dX12_part_18 (by decide) ?_
      exact x_lret dX12_part_33 (fun h => h)
    · skip
      refine x_aload_n C (pc := 21) dX12_part_21 rfl ?_
      refine x_getL C (pc := 22) fg_X12_23 dX12_part_22 ht ?_
      refine x_goto C (pc := 25) (tgt := 33) dX12_part_25 (by decide) ?_
      exact x_lret dX12_part_33 (fun h => h)
theorem ct_X12_part (t : Nat) (ht : kd t = 10) (a : Int32) (s0 : SS) (r : Int64) (s2 : SS) (h : FX12_part t a s0 = some (r, s2)) : CT 1 yX12_part cX12_part 2 (some .long) 1 25 [.ref t, .int a] s0 (some (.long r)) s2 :=
  ct_of (by decide +kernel) (Or.inr (Or.inr ⟨_, rfl, rfl⟩)) (lx_args [.ref t, .int a]) (lx_entry [.ref t, .int a] (fun _ => Nat.le_of_ble_eq_true rfl)) (fun o C hR => Yx.weak (lw_s (lw_s lw_0)) (bd_X12_part C t ht a s0 (r, s2) h hR))
def FX12_image (t : Nat) (a : Int32) (s0 : SS) : Option (Int32 × SS) :=
  bd (FX12_in (Int32.toInt64 a) (lN 0) (lN 1) s0) (fun (r1 : Int32) => if r1 = 0 then bd2 (FX12_bad t s0) (fun (r2 : Int32) (s3 : SS) => some ((r2, s3))) else (nm (nI 0) (fun (i4 : Int32) => bd (lp FUEL (u2 (fun (n5 : Int32) (s6 : SS) => if (nI 378) ≤ n5 then some (Sum.inr s6) else (gd (inb n5 (ln (lk t 0))) (gd (inb (((nI 378) * a) + n5) (ln (lk t 2))) (nm (pI s6 (lk t 2) (Int32.toNatClampNeg (((nI 378) * a) + n5)) (gI s6 (lk t 0) (Int32.toNatClampNeg n5))) (fun (s7 : SS) => nm (n5 + (nI 1)) (fun (i8 : Int32) => some (Sum.inl (i8, s7))))))))) (i4, s0)) (fun (s9 : SS) => gd (inb a (ln (lk t 3))) (nm (pI s9 (lk t 3) (Int32.toNatClampNeg a) (nI 1)) (fun (s10 : SS) => some (((nI 1), s10))))))))
set_option maxRecDepth 100000 in
set_option maxHeartbeats 4000000 in
theorem bd_X12_image {o : Om} (C : Cx o RX12 cX12_image 3 (some .int) (rmx 1 25) 1) (t : Nat) (ht : kd t = 10) (a : Int32) (s0 : SS) : Xo (FX12_image t a s0) (fun r => RT o cX12_image (some (.int r.1)) r.2) (Yx o 0 [some (.ref t), some (.int a), none] [] s0) := by
  unfold FX12_image
  refine x_iload_n C (pc := 0) dX12_image_0 rfl ?_
  refine x_i2l C (pc := 1) dX12_image_1 ?_
  refine x_lconst C (pc := 2) dX12_image_2 (v := lN 0) rfl ?_
  refine x_lconst C (pc := 3) dX12_image_3 (v := lN 1) rfl ?_
  refine x_callSi C (pc := 4) ms_X12_55 [.long (Int32.toInt64 a), .long (lN 0), .long (lN 1)] (fun _ hr => ct_X12_in _ _ _ _ _ hr) ⟨Nat.le_of_ble_eq_true rfl, Nat.le_of_ble_eq_true rfl⟩ rfl (Nat.le_of_ble_eq_true rfl) rfl dX12_image_4 (fun r1 => ?_)
  refine x_if_ne C (pc := 7) (tgt := 15) dX12_image_7 (by decide) (fun _ => ?_) (fun _ => ?_)
  · skip
    refine x_aload_n C (pc := 10) dX12_image_10 rfl ?_
    refine x_callVim C (pc := 11) mv_X12_101 ht rfl [] (fun _ _ hr => ct_X12_bad _ ht _ _ _ hr) ⟨Nat.le_of_ble_eq_true rfl, Nat.le_of_ble_eq_true rfl⟩ rfl (Nat.le_of_ble_eq_true rfl) rfl dX12_image_11 (fun r2 s3 => ?_)
    exact x_ret dX12_image_14 (fun h => h)
  · skip
    refine x_iconst C (pc := 15) dX12_image_15 kc_i_0 ?_
    refine x_istore_n C (pc := 16) (L' := fun i4 => [some (.ref t), some (.int a), some (.int i4)]) dX12_image_16 (by decide) (fun _ => rfl) (fun i4 => ?_)
    refine xb_1 (Z1 := (fun s9 => Yx o 48 [some (.ref t), some (.int a), none] [] s9)) ?_ (fun s9 => ?_)
    · refine Xo.mono (Yx.weak (lw_s (lw_s (lw_s lw_0)))) (x_lp2 (fr := fun n5 s6 => Yx o 17 [some (.ref t), some (.int a), some (.int n5)] [] s6) _ _ (fun n5 s6 => ?_))
      refine x_iload_n C (pc := 17) dX12_image_17 rfl ?_
      refine x_sipush C (pc := 18) dX12_image_18 kc_s_378 ?_
      refine x_icmp_ge C (pc := 21) (tgt := 48) dX12_image_21 (by decide) (fun _ => ?_) (fun _ => ?_)
      · skip
        exact Xo.done (fun h => Yx.weak (lw_s (lw_s (lw_n lw_0))) h)
      · skip
        refine x_aload_n C (pc := 24) dX12_image_24 rfl ?_
        refine x_getR C (pc := 25) fg_X12_16 dX12_image_25 ht ?_
        refine x_sipush C (pc := 28) dX12_image_28 kc_s_378 ?_
        refine x_iload_n C (pc := 31) dX12_image_31 rfl ?_
        refine x_imul C (pc := 32) dX12_image_32 ?_
        refine x_iload_n C (pc := 33) dX12_image_33 rfl ?_
        refine x_iadd C (pc := 34) dX12_image_34 ?_
        refine x_aload_n C (pc := 35) dX12_image_35 rfl ?_
        refine x_getR C (pc := 36) fg_X12_7 dX12_image_36 ht ?_
        refine x_iload_n C (pc := 39) dX12_image_39 rfl ?_
        refine x_iald C (pc := 40) dX12_image_40 (lkd_10_0 ht) (fun _ => ?_)
        refine x_iastn C (pc := 41) dX12_image_41 (lkd_10_2 ht) (fun s7 => ?_)
        refine x_iinc C (pc := 42) (L' := fun i8 => [some (.ref t), some (.int a), some (.int i8)]) dX12_image_42 rfl kc_i_1 (by decide) (fun _ => rfl) (fun i8 => ?_)
        refine x_goto C (pc := 45) (tgt := 17) dX12_image_45 (by decide) ?_
        exact Xo.done (fun h => Yx.weak (lw_s (lw_s (lw_s lw_0))) h)
    refine x_aload_n C (pc := 48) dX12_image_48 rfl ?_
    refine x_getR C (pc := 49) fg_X12_19 dX12_image_49 ht ?_
    refine x_iload_n C (pc := 52) dX12_image_52 rfl ?_
    refine x_iconst C (pc := 53) dX12_image_53 kc_i_1 ?_
    refine x_bastn C (pc := 54) dX12_image_54 (lkd_10_3 ht) rfl (by decide +kernel) (fun s10 => ?_)
    refine x_iconst C (pc := 55) dX12_image_55 kc_i_1 ?_
    exact x_ret dX12_image_56 (fun h => h)
theorem ct_X12_image (t : Nat) (ht : kd t = 10) (a : Int32) (s0 : SS) (r : Int32) (s2 : SS) (h : FX12_image t a s0 = some (r, s2)) : CT 1 yX12_image cX12_image 3 (some .int) 1 25 [.ref t, .int a] s0 (some (.int r)) s2 :=
  ct_of (by decide +kernel) (Or.inr (Or.inl ⟨_, rfl, _, rfl, rfl⟩)) (lx_args [.ref t, .int a]) (lx_entry [.ref t, .int a] (fun _ => Nat.le_of_ble_eq_true rfl)) (fun o C hR => Yx.weak (lw_s (lw_s (lw_z lw_0))) (bd_X12_image C t ht a s0 (r, s2) h hR))
