def FX4_takeBack (t : Nat) (s0 : SS) : Option (SS) :=
  nm ((gI s0 (lk t 7) 3) - (nI 1)) (fun (i1 : Int32) => bd (FX9_at (lk t 7) i1 (nI 0) s0) (fun (r2 : Int32) => nm (pI s0 t 8 r2) (fun (s3 : SS) => bd (FX9_at (lk t 7) i1 (nI 1) s3) (fun (r4 : Int32) => nm (pI s3 t 9 r4) (fun (s5 : SS) => bd (FX9_at (lk t 7) i1 (nI 2) s5) (fun (r6 : Int32) => nm (pI s5 (lk t 3) 3 r6) (fun (s7 : SS) => nm (nI 0) (fun (i8 : Int32) => bd (lp FUEL (u2 (fun (n9 : Int32) (s10 : SS) => if (gI s10 (lk t 2) 3) ≤ n9 then some (Sum.inr s10) else (bd (FX9_at (lk t 7) i1 ((nI 3) + n9) s10) (fun (r11 : Int32) => bd (FX9_put (lk t 2) n9 (nI 3) r11 s10) (fun (s12 : SS) => nm (n9 + (nI 1)) (fun (i13 : Int32) => some (Sum.inl (i13, s12)))))))) (i8, s7)) (fun (s14 : SS) => nm (nI 0) (fun (i15 : Int32) => bd (lp FUEL (u2 (fun (n16 : Int32) (s17 : SS) => if (gI s17 (lk t 3) 3) ≤ n16 then some (Sum.inr s17) else (bd (FX9_at (lk t 7) i1 ((nI 10) + n16) s17) (fun (r18 : Int32) => bd (FX9_put (lk t 3) n16 (nI 3) r18 s17) (fun (s19 : SS) => nm (n16 + (nI 1)) (fun (i20 : Int32) => some (Sum.inl (i20, s19)))))))) (i15, s14)) (fun (s21 : SS) => nm (pI s21 (lk t 7) 3 (imax i1 (nI 0))) (fun (s22 : SS) => some (s22)))))))))))))
set_option maxRecDepth 100000 in
set_option maxHeartbeats 4000000 in
theorem bd_X4_takeBack {o : Om} (C : Cx o RX4 cX4_takeBack 3 none (rmx 1 23) 0) (t : Nat) (ht : kd t = 4) (s0 : SS) : Xo (FX4_takeBack t s0) (fun r => RT o cX4_takeBack none r) (Yx o 0 [some (.ref t), none, none] [] s0) := by
  unfold FX4_takeBack
  refine x_aload_n C (pc := 0) dX4_takeBack_0 rfl ?_
  refine x_getR C (pc := 1) fg_X4_39 dX4_takeBack_1 ht ?_
  refine x_getI C (pc := 4) fg_X4_74 dX4_takeBack_4 (lkd_4_7 ht) ?_
  refine x_iconst C (pc := 7) dX4_takeBack_7 kc_i_1 ?_
  refine x_isub C (pc := 8) dX4_takeBack_8 ?_
  refine x_istore_n C (pc := 9) (L' := fun i1 => [some (.ref t), some (.int i1), none]) dX4_takeBack_9 (by decide) (fun _ => rfl) (fun i1 => ?_)
  refine x_aload_n C (pc := 10) dX4_takeBack_10 rfl ?_
  refine x_aload_n C (pc := 11) dX4_takeBack_11 rfl ?_
  refine x_getR C (pc := 12) fg_X4_39 dX4_takeBack_12 ht ?_
  refine x_iload_n C (pc := 15) dX4_takeBack_15 rfl ?_
  refine x_iconst C (pc := 16) dX4_takeBack_16 kc_i_0 ?_
  refine x_callVi C (pc := 17) mv_X4_87 (lkd_4_7 ht) rfl [.int i1, .int (nI 0)] (fun _ hr => ct_X9_at _ (lkd_4_7 ht) _ _ _ _ hr) ⟨Nat.le_of_ble_eq_true rfl, Nat.le_of_ble_eq_true rfl⟩ rfl (Nat.le_of_ble_eq_true rfl) rfl dX4_takeBack_17 (fun r2 => ?_)
  refine x_putIn C (pc := 20) fp_X4_46 dX4_takeBack_20 ht (fun s3 => ?_)
  refine x_aload_n C (pc := 23) dX4_takeBack_23 rfl ?_
  refine x_aload_n C (pc := 24) dX4_takeBack_24 rfl ?_
  refine x_getR C (pc := 25) fg_X4_39 dX4_takeBack_25 ht ?_
  refine x_iload_n C (pc := 28) dX4_takeBack_28 rfl ?_
  refine x_iconst C (pc := 29) dX4_takeBack_29 kc_i_1 ?_
  refine x_callVi C (pc := 30) mv_X4_87 (lkd_4_7 ht) rfl [.int i1, .int (nI 1)] (fun _ hr => ct_X9_at _ (lkd_4_7 ht) _ _ _ _ hr) ⟨Nat.le_of_ble_eq_true rfl, Nat.le_of_ble_eq_true rfl⟩ rfl (Nat.le_of_ble_eq_true rfl) rfl dX4_takeBack_30 (fun r4 => ?_)
  refine x_putIn C (pc := 33) fp_X4_50 dX4_takeBack_33 ht (fun s5 => ?_)
  refine x_aload_n C (pc := 36) dX4_takeBack_36 rfl ?_
  refine x_getR C (pc := 37) fg_X4_27 dX4_takeBack_37 ht ?_
  refine x_aload_n C (pc := 40) dX4_takeBack_40 rfl ?_
  refine x_getR C (pc := 41) fg_X4_39 dX4_takeBack_41 ht ?_
  refine x_iload_n C (pc := 44) dX4_takeBack_44 rfl ?_
  refine x_iconst C (pc := 45) dX4_takeBack_45 kc_i_2 ?_
  refine x_callVi C (pc := 46) mv_X4_87 (lkd_4_7 ht) rfl [.int i1, .int (nI 2)] (fun _ hr => ct_X9_at _ (lkd_4_7 ht) _ _ _ _ hr) ⟨Nat.le_of_ble_eq_true rfl, Nat.le_of_ble_eq_true rfl⟩ rfl (Nat.le_of_ble_eq_true rfl) rfl dX4_takeBack_46 (fun r6 => ?_)
  refine x_putIn C (pc := 49) fp_X4_74 dX4_takeBack_49 (lkd_4_3 ht) (fun s7 => ?_)
  refine x_iconst C (pc := 52) dX4_takeBack_52 kc_i_0 ?_
  refine x_istore_n C (pc := 53) (L' := fun i8 => [some (.ref t), some (.int i1), some (.int i8)]) dX4_takeBack_53 (by decide) (fun _ => rfl) (fun i8 => ?_)
  refine xb_1 (Z1 := (fun s14 => Yx o 91 [some (.ref t), some (.int i1), none] [] s14)) ?_ (fun s14 => ?_)
  · refine Xo.mono (Yx.weak (lw_s (lw_s (lw_s lw_0)))) (x_lp2 (fr := fun n9 s10 => Yx o 54 [some (.ref t), some (.int i1), some (.int n9)] [] s10) _ _ (fun n9 s10 => ?_))
    refine x_iload_n C (pc := 54) dX4_takeBack_54 rfl ?_
    refine x_aload_n C (pc := 55) dX4_takeBack_55 rfl ?_
    refine x_getR C (pc := 56) fg_X4_23 dX4_takeBack_56 ht ?_
    refine x_getI C (pc := 59) fg_X4_74 dX4_takeBack_59 (lkd_4_2 ht) ?_
    refine x_icmp_ge C (pc := 62) (tgt := 91) dX4_takeBack_62 (by decide) (fun _ => ?_) (fun _ => ?_)
    · skip
      exact Xo.done (fun h => Yx.weak (lw_s (lw_s (lw_n lw_0))) h)
    · skip
      refine x_aload_n C (pc := 65) dX4_takeBack_65 rfl ?_
      refine x_getR C (pc := 66) fg_X4_23 dX4_takeBack_66 ht ?_
      refine x_iload_n C (pc := 69) dX4_takeBack_69 rfl ?_
      refine x_iconst C (pc := 70) dX4_takeBack_70 kc_i_3 ?_
      refine x_aload_n C (pc := 71) dX4_takeBack_71 rfl ?_
      refine x_getR C (pc := 72) fg_X4_39 dX4_takeBack_72 ht ?_
      refine x_iload_n C (pc := 75) dX4_takeBack_75 rfl ?_
      refine x_iconst C (pc := 76) dX4_takeBack_76 kc_i_3 ?_
      refine x_iload_n C (pc := 77) dX4_takeBack_77 rfl ?_
      refine x_iadd C (pc := 78) dX4_takeBack_78 ?_
      refine x_callVi C (pc := 79) mv_X4_87 (lkd_4_7 ht) rfl [.int i1, .int ((nI 3) + n9)] (fun _ hr => ct_X9_at _ (lkd_4_7 ht) _ _ _ _ hr) ⟨Nat.le_of_ble_eq_true rfl, Nat.le_of_ble_eq_true rfl⟩ rfl (Nat.le_of_ble_eq_true rfl) rfl dX4_takeBack_79 (fun r11 => ?_)
      refine x_callVv C (pc := 82) mv_X4_70 (lkd_4_2 ht) rfl [.int n9, .int (nI 3), .int r11] (fun _ hr => ct_X9_put _ (lkd_4_2 ht) _ _ _ _ _ hr) ⟨Nat.le_of_ble_eq_true rfl, Nat.le_of_ble_eq_true rfl⟩ rfl (Nat.le_of_ble_eq_true rfl) rfl dX4_takeBack_82 (fun s12 => ?_)
      refine x_iinc C (pc := 85) (L' := fun i13 => [some (.ref t), some (.int i1), some (.int i13)]) dX4_takeBack_85 rfl kc_i_1 (by decide) (fun _ => rfl) (fun i13 => ?_)
      refine x_goto C (pc := 88) (tgt := 54) dX4_takeBack_88 (by decide) ?_
      exact Xo.done (fun h => Yx.weak (lw_s (lw_s (lw_s lw_0))) h)
  refine x_iconst C (pc := 91) dX4_takeBack_91 kc_i_0 ?_
  refine x_istore_n C (pc := 92) (L' := fun i15 => [some (.ref t), some (.int i1), some (.int i15)]) dX4_takeBack_92 (by decide) (fun _ => rfl) (fun i15 => ?_)
  refine xb_1 (Z1 := (fun s21 => Yx o 131 [some (.ref t), some (.int i1), none] [] s21)) ?_ (fun s21 => ?_)
  · refine Xo.mono (Yx.weak (lw_s (lw_s (lw_s lw_0)))) (x_lp2 (fr := fun n16 s17 => Yx o 93 [some (.ref t), some (.int i1), some (.int n16)] [] s17) _ _ (fun n16 s17 => ?_))
    refine x_iload_n C (pc := 93) dX4_takeBack_93 rfl ?_
    refine x_aload_n C (pc := 94) dX4_takeBack_94 rfl ?_
    refine x_getR C (pc := 95) fg_X4_27 dX4_takeBack_95 ht ?_
    refine x_getI C (pc := 98) fg_X4_74 dX4_takeBack_98 (lkd_4_3 ht) ?_
    refine x_icmp_ge C (pc := 101) (tgt := 131) dX4_takeBack_101 (by decide) (fun _ => ?_) (fun _ => ?_)
    · skip
      exact Xo.done (fun h => Yx.weak (lw_s (lw_s (lw_n lw_0))) h)
    · skip
      refine x_aload_n C (pc := 104) dX4_takeBack_104 rfl ?_
      refine x_getR C (pc := 105) fg_X4_27 dX4_takeBack_105 ht ?_
      refine x_iload_n C (pc := 108) dX4_takeBack_108 rfl ?_
      refine x_iconst C (pc := 109) dX4_takeBack_109 kc_i_3 ?_
      refine x_aload_n C (pc := 110) dX4_takeBack_110 rfl ?_
      refine x_getR C (pc := 111) fg_X4_39 dX4_takeBack_111 ht ?_
      refine x_iload_n C (pc := 114) dX4_takeBack_114 rfl ?_
      refine x_bipush C (pc := 115) dX4_takeBack_115 kc_b_10 ?_
      refine x_iload_n C (pc := 117) dX4_takeBack_117 rfl ?_
      refine x_iadd C (pc := 118) dX4_takeBack_118 ?_
      refine x_callVi C (pc := 119) mv_X4_87 (lkd_4_7 ht) rfl [.int i1, .int ((nI 10) + n16)] (fun _ hr => ct_X9_at _ (lkd_4_7 ht) _ _ _ _ hr) ⟨Nat.le_of_ble_eq_true rfl, Nat.le_of_ble_eq_true rfl⟩ rfl (Nat.le_of_ble_eq_true rfl) rfl dX4_takeBack_119 (fun r18 => ?_)
      refine x_callVv C (pc := 122) mv_X4_70 (lkd_4_3 ht) rfl [.int n16, .int (nI 3), .int r18] (fun _ hr => ct_X9_put _ (lkd_4_3 ht) _ _ _ _ _ hr) ⟨Nat.le_of_ble_eq_true rfl, Nat.le_of_ble_eq_true rfl⟩ rfl (Nat.le_of_ble_eq_true rfl) rfl dX4_takeBack_122 (fun s19 => ?_)
      refine x_iinc C (pc := 125) (L' := fun i20 => [some (.ref t), some (.int i1), some (.int i20)]) dX4_takeBack_125 rfl kc_i_1 (by decide) (fun _ => rfl) (fun i20 => ?_)
      refine x_goto C (pc := 128) (tgt := 93) dX4_takeBack_128 (by decide) ?_
      exact Xo.done (fun h => Yx.weak (lw_s (lw_s (lw_s lw_0))) h)
  refine x_aload_n C (pc := 131) dX4_takeBack_131 rfl ?_
  refine x_getR C (pc := 132) fg_X4_39 dX4_takeBack_132 ht ?_
  refine x_iload_n C (pc := 135) dX4_takeBack_135 rfl ?_
  refine x_iconst C (pc := 136) dX4_takeBack_136 kc_i_0 ?_
  refine x_mmax C (pc := 137) ml_X4_114 tw_mxs tw_mai tw_mxc ⟨Nat.le_of_ble_eq_true rfl, Nat.le_of_ble_eq_true rfl⟩ dX4_takeBack_137 ?_
  refine x_putIn C (pc := 140) fp_X4_74 dX4_takeBack_140 (lkd_4_7 ht) (fun s22 => ?_)
  exact x_vret dX4_takeBack_143 (fun h => h)
theorem ct_X4_takeBack (t : Nat) (ht : kd t = 4) (s0 : SS) (r : SS) (h : FX4_takeBack t s0 = some r) : CT 0 yX4_takeBack cX4_takeBack 3 none 1 23 [.ref t] s0 none r :=
  ct_of (by decide +kernel) (Or.inl ⟨rfl, rfl⟩) (lx_args [.ref t]) (lx_entry [.ref t] (fun _ => Nat.le_of_ble_eq_true rfl)) (fun o C hR => Yx.weak (lw_s (lw_z (lw_z lw_0))) (bd_X4_takeBack C t ht s0 r h hR))
def FX4_addReading (t : Nat) (a : Int32) (b : Int32) (c : Int32) (s0 : SS) : Option (Int32 × SS) :=
  bd2 (FX9_open (lk t 4) s0) (fun (r1 : Int32) (s2 : SS) => nm r1 (fun (i3 : Int32) => bd (FX9_put (lk t 4) i3 (nI 0) a s2) (fun (s4 : SS) => bd (FX9_put (lk t 4) i3 (nI 1) b s4) (fun (s5 : SS) => bd (FX9_put (lk t 4) i3 (nI 2) c s5) (fun (s6 : SS) => some (((gI s6 (lk t 4) 3), s6)))))))
set_option maxRecDepth 100000 in
set_option maxHeartbeats 4000000 in
theorem bd_X4_addReading {o : Om} (C : Cx o RX4 cX4_addReading 5 (some .int) (rmx 2 45) 0) (t : Nat) (ht : kd t = 4) (a : Int32) (b : Int32) (c : Int32) (s0 : SS) : Xo (FX4_addReading t a b c s0) (fun r => RT o cX4_addReading (some (.int r.1)) r.2) (Yx o 0 [some (.ref t), some (.int a), some (.int b), some (.int c), none] [] s0) := by
  unfold FX4_addReading
  refine x_aload_n C (pc := 0) dX4_addReading_0 rfl ?_
  refine x_getR C (pc := 1) fg_X4_30 dX4_addReading_1 ht ?_
  refine x_callVim C (pc := 4) mv_X4_67 (lkd_4_4 ht) rfl [] (fun _ _ hr => ct_X9_open _ (lkd_4_4 ht) _ _ _ hr) ⟨Nat.le_of_ble_eq_true rfl, Nat.le_of_ble_eq_true rfl⟩ rfl (Nat.le_of_ble_eq_true rfl) rfl dX4_addReading_4 (fun r1 s2 => ?_)
  refine x_istore C (pc := 7) (L' := fun i3 => [some (.ref t), some (.int a), some (.int b), some (.int c), some (.int i3)]) dX4_addReading_7 (by decide) (fun _ => rfl) (fun i3 => ?_)
  refine x_aload_n C (pc := 9) dX4_addReading_9 rfl ?_
  refine x_getR C (pc := 10) fg_X4_30 dX4_addReading_10 ht ?_
  refine x_iload C (pc := 13) dX4_addReading_13 rfl ?_
  refine x_iconst C (pc := 15) dX4_addReading_15 kc_i_0 ?_
  refine x_iload_n C (pc := 16) dX4_addReading_16 rfl ?_
  refine x_callVv C (pc := 17) mv_X4_70 (lkd_4_4 ht) rfl [.int i3, .int (nI 0), .int a] (fun _ hr => ct_X9_put _ (lkd_4_4 ht) _ _ _ _ _ hr) ⟨Nat.le_of_ble_eq_true rfl, Nat.le_of_ble_eq_true rfl⟩ rfl (Nat.le_of_ble_eq_true rfl) rfl dX4_addReading_17 (fun s4 => ?_)
  refine x_aload_n C (pc := 20) dX4_addReading_20 rfl ?_
  refine x_getR C (pc := 21) fg_X4_30 dX4_addReading_21 ht ?_
  refine x_iload C (pc := 24) dX4_addReading_24 rfl ?_
  refine x_iconst C (pc := 26) dX4_addReading_26 kc_i_1 ?_
  refine x_iload_n C (pc := 27) dX4_addReading_27 rfl ?_
  refine x_callVv C (pc := 28) mv_X4_70 (lkd_4_4 ht) rfl [.int i3, .int (nI 1), .int b] (fun _ hr => ct_X9_put _ (lkd_4_4 ht) _ _ _ _ _ hr) ⟨Nat.le_of_ble_eq_true rfl, Nat.le_of_ble_eq_true rfl⟩ rfl (Nat.le_of_ble_eq_true rfl) rfl dX4_addReading_28 (fun s5 => ?_)
  refine x_aload_n C (pc := 31) dX4_addReading_31 rfl ?_
  refine x_getR C (pc := 32) fg_X4_30 dX4_addReading_32 ht ?_
  refine x_iload C (pc := 35) dX4_addReading_35 rfl ?_
  refine x_iconst C (pc := 37) dX4_addReading_37 kc_i_2 ?_
  refine x_iload_n C (pc := 38) dX4_addReading_38 rfl ?_
  refine x_callVv C (pc := 39) mv_X4_70 (lkd_4_4 ht) rfl [.int i3, .int (nI 2), .int c] (fun _ hr => ct_X9_put _ (lkd_4_4 ht) _ _ _ _ _ hr) ⟨Nat.le_of_ble_eq_true rfl, Nat.le_of_ble_eq_true rfl⟩ rfl (Nat.le_of_ble_eq_true rfl) rfl dX4_addReading_39 (fun s6 => ?_)
  refine x_aload_n C (pc := 42) dX4_addReading_42 rfl ?_
  refine x_getR C (pc := 43) fg_X4_30 dX4_addReading_43 ht ?_
  refine x_getI C (pc := 46) fg_X4_74 dX4_addReading_46 (lkd_4_4 ht) ?_
  exact x_ret dX4_addReading_49 (fun h => h)
theorem ct_X4_addReading (t : Nat) (ht : kd t = 4) (a : Int32) (b : Int32) (c : Int32) (s0 : SS) (r : Int32) (s2 : SS) (h : FX4_addReading t a b c s0 = some (r, s2)) : CT 0 yX4_addReading cX4_addReading 5 (some .int) 2 45 [.ref t, .int a, .int b, .int c] s0 (some (.int r)) s2 :=
  ct_of (by decide +kernel) (Or.inr (Or.inl ⟨_, rfl, _, rfl, rfl⟩)) (lx_args [.ref t, .int a, .int b, .int c]) (lx_entry [.ref t, .int a, .int b, .int c] (fun _ => Nat.le_of_ble_eq_true rfl)) (fun o C hR => Yx.weak (lw_s (lw_s (lw_s (lw_s (lw_z lw_0))))) (bd_X4_addReading C t ht a b c s0 (r, s2) h hR))
def FX4_addNote (t : Nat) (a : Int32) (b : Int32) (c : Int32) (d : Int32) (g : Int32) (s0 : SS) : Option (Int32 × SS) :=
  bd2 (FX9_open (lk t 5) s0) (fun (r1 : Int32) (s2 : SS) => nm r1 (fun (i3 : Int32) => bd (FX9_put (lk t 5) i3 (nI 0) a s2) (fun (s4 : SS) => bd (FX9_put (lk t 5) i3 (nI 1) b s4) (fun (s5 : SS) => bd (FX9_put (lk t 5) i3 (nI 2) c s5) (fun (s6 : SS) => bd (FX9_put (lk t 5) i3 (nI 3) d s6) (fun (s7 : SS) => bd (FX9_put (lk t 5) i3 (nI 4) g s7) (fun (s8 : SS) => some (((gI s8 (lk t 5) 3), s8)))))))))
set_option maxRecDepth 100000 in
set_option maxHeartbeats 4000000 in
theorem bd_X4_addNote {o : Om} (C : Cx o RX4 cX4_addNote 7 (some .int) (rmx 2 45) 0) (t : Nat) (ht : kd t = 4) (a : Int32) (b : Int32) (c : Int32) (d : Int32) (g : Int32) (s0 : SS) : Xo (FX4_addNote t a b c d g s0) (fun r => RT o cX4_addNote (some (.int r.1)) r.2) (Yx o 0 [some (.ref t), some (.int a), some (.int b), some (.int c), some (.int d), some (.int g), none] [] s0) := by
  unfold FX4_addNote
  refine x_aload_n C (pc := 0) dX4_addNote_0 rfl ?_
  refine x_getR C (pc := 1) fg_X4_33 dX4_addNote_1 ht ?_
  refine x_callVim C (pc := 4) mv_X4_67 (lkd_4_5 ht) rfl [] (fun _ _ hr => ct_X9_open _ (lkd_4_5 ht) _ _ _ hr) ⟨Nat.le_of_ble_eq_true rfl, Nat.le_of_ble_eq_true rfl⟩ rfl (Nat.le_of_ble_eq_true rfl) rfl dX4_addNote_4 (fun r1 s2 => ?_)
  refine x_istore C (pc := 7) (L' := fun i3 => [some (.ref t), some (.int a), some (.int b), some (.int c), some (.int d), some (.int g), some (.int i3)]) dX4_addNote_7 (by decide) (fun _ => rfl) (fun i3 => ?_)
  refine x_aload_n C (pc := 9) dX4_addNote_9 rfl ?_
  refine x_getR C (pc := 10) fg_X4_33 dX4_addNote_10 ht ?_
  refine x_iload C (pc := 13) dX4_addNote_13 rfl ?_
  refine x_iconst C (pc := 15) dX4_addNote_15 kc_i_0 ?_
  refine x_iload_n C (pc := 16) dX4_addNote_16 rfl ?_
  refine x_callVv C (pc := 17) mv_X4_70 (lkd_4_5 ht) rfl [.int i3, .int (nI 0), .int a] (fun _ hr => ct_X9_put _ (lkd_4_5 ht) _ _ _ _ _ hr) ⟨Nat.le_of_ble_eq_true rfl, Nat.le_of_ble_eq_true rfl⟩ rfl (Nat.le_of_ble_eq_true rfl) rfl dX4_addNote_17 (fun s4 => ?_)
  refine x_aload_n C (pc := 20) dX4_addNote_20 rfl ?_
  refine x_getR C (pc := 21) fg_X4_33 dX4_addNote_21 ht ?_
  refine x_iload C (pc := 24) dX4_addNote_24 rfl ?_
  refine x_iconst C (pc := 26) dX4_addNote_26 kc_i_1 ?_
  refine x_iload_n C (pc := 27) dX4_addNote_27 rfl ?_
  refine x_callVv C (pc := 28) mv_X4_70 (lkd_4_5 ht) rfl [.int i3, .int (nI 1), .int b] (fun _ hr => ct_X9_put _ (lkd_4_5 ht) _ _ _ _ _ hr) ⟨Nat.le_of_ble_eq_true rfl, Nat.le_of_ble_eq_true rfl⟩ rfl (Nat.le_of_ble_eq_true rfl) rfl dX4_addNote_28 (fun s5 => ?_)
  refine x_aload_n C (pc := 31) dX4_addNote_31 rfl ?_
  refine x_getR C (pc := 32) fg_X4_33 dX4_addNote_32 ht ?_
  refine x_iload C (pc := 35) dX4_addNote_35 rfl ?_
  refine x_iconst C (pc := 37) dX4_addNote_37 kc_i_2 ?_
  refine x_iload_n C (pc := 38) dX4_addNote_38 rfl ?_
  refine x_callVv C (pc := 39) mv_X4_70 (lkd_4_5 ht) rfl [.int i3, .int (nI 2), .int c] (fun _ hr => ct_X9_put _ (lkd_4_5 ht) _ _ _ _ _ hr) ⟨Nat.le_of_ble_eq_true rfl, Nat.le_of_ble_eq_true rfl⟩ rfl (Nat.le_of_ble_eq_true rfl) rfl dX4_addNote_39 (fun s6 => ?_)
  refine x_aload_n C (pc := 42) dX4_addNote_42 rfl ?_
  refine x_getR C (pc := 43) fg_X4_33 dX4_addNote_43 ht ?_
  refine x_iload C (pc := 46) dX4_addNote_46 rfl ?_
  refine x_iconst C (pc := 48) dX4_addNote_48 kc_i_3 ?_
  refine x_iload C (pc := 49) dX4_addNote_49 rfl ?_
  refine x_callVv C (pc := 51) mv_X4_70 (lkd_4_5 ht) rfl [.int i3, .int (nI 3), .int d] (fun _ hr => ct_X9_put _ (lkd_4_5 ht) _ _ _ _ _ hr) ⟨Nat.le_of_ble_eq_true rfl, Nat.le_of_ble_eq_true rfl⟩ rfl (Nat.le_of_ble_eq_true rfl) rfl dX4_addNote_51 (fun s7 => ?_)
  refine x_aload_n C (pc := 54) dX4_addNote_54 rfl ?_
  refine x_getR C (pc := 55) fg_X4_33 dX4_addNote_55 ht ?_
  refine x_iload C (pc := 58) dX4_addNote_58 rfl ?_
  refine x_iconst C (pc := 60) dX4_addNote_60 kc_i_4 ?_
  refine x_iload C (pc := 61) dX4_addNote_61 rfl ?_
  refine x_callVv C (pc := 63) mv_X4_70 (lkd_4_5 ht) rfl [.int i3, .int (nI 4), .int g] (fun _ hr => ct_X9_put _ (lkd_4_5 ht) _ _ _ _ _ hr) ⟨Nat.le_of_ble_eq_true rfl, Nat.le_of_ble_eq_true rfl⟩ rfl (Nat.le_of_ble_eq_true rfl) rfl dX4_addNote_63 (fun s8 => ?_)
  refine x_aload_n C (pc := 66) dX4_addNote_66 rfl ?_
  refine x_getR C (pc := 67) fg_X4_33 dX4_addNote_67 ht ?_
  refine x_getI C (pc := 70) fg_X4_74 dX4_addNote_70 (lkd_4_5 ht) ?_
  exact x_ret dX4_addNote_73 (fun h => h)
theorem ct_X4_addNote (t : Nat) (ht : kd t = 4) (a : Int32) (b : Int32) (c : Int32) (d : Int32) (g : Int32) (s0 : SS) (r : Int32) (s2 : SS) (h : FX4_addNote t a b c d g s0 = some (r, s2)) : CT 0 yX4_addNote cX4_addNote 7 (some .int) 2 45 [.ref t, .int a, .int b, .int c, .int d, .int g] s0 (some (.int r)) s2 :=
  ct_of (by decide +kernel) (Or.inr (Or.inl ⟨_, rfl, _, rfl, rfl⟩)) (lx_args [.ref t, .int a, .int b, .int c, .int d, .int g]) (lx_entry [.ref t, .int a, .int b, .int c, .int d, .int g] (fun _ => Nat.le_of_ble_eq_true rfl)) (fun o C hR => Yx.weak (lw_s (lw_s (lw_s (lw_s (lw_s (lw_s (lw_z lw_0))))))) (bd_X4_addNote C t ht a b c d g s0 (r, s2) h hR))
def FX4_addMark (t : Nat) (a : Int32) (b : Int32) (c : Int32) (d : Int32) (s0 : SS) : Option (Int32 × SS) :=
  bd2 (FX9_open (lk t 6) s0) (fun (r1 : Int32) (s2 : SS) => nm r1 (fun (i3 : Int32) => bd (FX9_put (lk t 6) i3 (nI 0) a s2) (fun (s4 : SS) => bd (FX9_put (lk t 6) i3 (nI 1) b s4) (fun (s5 : SS) => bd (FX9_put (lk t 6) i3 (nI 2) c s5) (fun (s6 : SS) => bd (FX9_put (lk t 6) i3 (nI 3) d s6) (fun (s7 : SS) => some (((gI s7 (lk t 6) 3), s7))))))))
set_option maxRecDepth 100000 in
set_option maxHeartbeats 4000000 in
theorem bd_X4_addMark {o : Om} (C : Cx o RX4 cX4_addMark 6 (some .int) (rmx 2 45) 0) (t : Nat) (ht : kd t = 4) (a : Int32) (b : Int32) (c : Int32) (d : Int32) (s0 : SS) : Xo (FX4_addMark t a b c d s0) (fun r => RT o cX4_addMark (some (.int r.1)) r.2) (Yx o 0 [some (.ref t), some (.int a), some (.int b), some (.int c), some (.int d), none] [] s0) := by
  unfold FX4_addMark
  refine x_aload_n C (pc := 0) dX4_addMark_0 rfl ?_
  refine x_getR C (pc := 1) fg_X4_36 dX4_addMark_1 ht ?_
  refine x_callVim C (pc := 4) mv_X4_67 (lkd_4_6 ht) rfl [] (fun _ _ hr => ct_X9_open _ (lkd_4_6 ht) _ _ _ hr) ⟨Nat.le_of_ble_eq_true rfl, Nat.le_of_ble_eq_true rfl⟩ rfl (Nat.le_of_ble_eq_true rfl) rfl dX4_addMark_4 (fun r1 s2 => ?_)
  refine x_istore C (pc := 7) (L' := fun i3 => [some (.ref t), some (.int a), some (.int b), some (.int c), some (.int d), some (.int i3)]) dX4_addMark_7 (by decide) (fun _ => rfl) (fun i3 => ?_)
  refine x_aload_n C (pc := 9) dX4_addMark_9 rfl ?_
  refine x_getR C (pc := 10) fg_X4_36 dX4_addMark_10 ht ?_
  refine x_iload C (pc := 13) dX4_addMark_13 rfl ?_
  refine x_iconst C (pc := 15) dX4_addMark_15 kc_i_0 ?_
  refine x_iload_n C (pc := 16) dX4_addMark_16 rfl ?_
  refine x_callVv C (pc := 17) mv_X4_70 (lkd_4_6 ht) rfl [.int i3, .int (nI 0), .int a] (fun _ hr => ct_X9_put _ (lkd_4_6 ht) _ _ _ _ _ hr) ⟨Nat.le_of_ble_eq_true rfl, Nat.le_of_ble_eq_true rfl⟩ rfl (Nat.le_of_ble_eq_true rfl) rfl dX4_addMark_17 (fun s4 => ?_)
  refine x_aload_n C (pc := 20) dX4_addMark_20 rfl ?_
  refine x_getR C (pc := 21) fg_X4_36 dX4_addMark_21 ht ?_
  refine x_iload C (pc := 24) dX4_addMark_24 rfl ?_
  refine x_iconst C (pc := 26) dX4_addMark_26 kc_i_1 ?_
  refine x_iload_n C (pc := 27) dX4_addMark_27 rfl ?_
  refine x_callVv C (pc := 28) mv_X4_70 (lkd_4_6 ht) rfl [.int i3, .int (nI 1), .int b] (fun _ hr => ct_X9_put _ (lkd_4_6 ht) _ _ _ _ _ hr) ⟨Nat.le_of_ble_eq_true rfl, Nat.le_of_ble_eq_true rfl⟩ rfl (Nat.le_of_ble_eq_true rfl) rfl dX4_addMark_28 (fun s5 => ?_)
  refine x_aload_n C (pc := 31) dX4_addMark_31 rfl ?_
  refine x_getR C (pc := 32) fg_X4_36 dX4_addMark_32 ht ?_
  refine x_iload C (pc := 35) dX4_addMark_35 rfl ?_
  refine x_iconst C (pc := 37) dX4_addMark_37 kc_i_2 ?_
  refine x_iload_n C (pc := 38) dX4_addMark_38 rfl ?_
  refine x_callVv C (pc := 39) mv_X4_70 (lkd_4_6 ht) rfl [.int i3, .int (nI 2), .int c] (fun _ hr => ct_X9_put _ (lkd_4_6 ht) _ _ _ _ _ hr) ⟨Nat.le_of_ble_eq_true rfl, Nat.le_of_ble_eq_true rfl⟩ rfl (Nat.le_of_ble_eq_true rfl) rfl dX4_addMark_39 (fun s6 => ?_)
  refine x_aload_n C (pc := 42) dX4_addMark_42 rfl ?_
  refine x_getR C (pc := 43) fg_X4_36 dX4_addMark_43 ht ?_
  refine x_iload C (pc := 46) dX4_addMark_46 rfl ?_
  refine x_iconst C (pc := 48) dX4_addMark_48 kc_i_3 ?_
  refine x_iload C (pc := 49) dX4_addMark_49 rfl ?_
  refine x_callVv C (pc := 51) mv_X4_70 (lkd_4_6 ht) rfl [.int i3, .int (nI 3), .int d] (fun _ hr => ct_X9_put _ (lkd_4_6 ht) _ _ _ _ _ hr) ⟨Nat.le_of_ble_eq_true rfl, Nat.le_of_ble_eq_true rfl⟩ rfl (Nat.le_of_ble_eq_true rfl) rfl dX4_addMark_51 (fun s7 => ?_)
  refine x_aload_n C (pc := 54) dX4_addMark_54 rfl ?_
  refine x_getR C (pc := 55) fg_X4_36 dX4_addMark_55 ht ?_
  refine x_getI C (pc := 58) fg_X4_74 dX4_addMark_58 (lkd_4_6 ht) ?_
  exact x_ret dX4_addMark_61 (fun h => h)
theorem ct_X4_addMark (t : Nat) (ht : kd t = 4) (a : Int32) (b : Int32) (c : Int32) (d : Int32) (s0 : SS) (r : Int32) (s2 : SS) (h : FX4_addMark t a b c d s0 = some (r, s2)) : CT 0 yX4_addMark cX4_addMark 6 (some .int) 2 45 [.ref t, .int a, .int b, .int c, .int d] s0 (some (.int r)) s2 :=
  ct_of (by decide +kernel) (Or.inr (Or.inl ⟨_, rfl, _, rfl, rfl⟩)) (lx_args [.ref t, .int a, .int b, .int c, .int d]) (lx_entry [.ref t, .int a, .int b, .int c, .int d] (fun _ => Nat.le_of_ble_eq_true rfl)) (fun o C hR => Yx.weak (lw_s (lw_s (lw_s (lw_s (lw_s (lw_z lw_0)))))) (bd_X4_addMark C t ht a b c d s0 (r, s2) h hR))
def FX4_duesOfAll (t : Nat) (s0 : SS) : Option (Int32) :=
  nm (nI 0) (fun (i1 : Int32) => nm (nI 0) (fun (i2 : Int32) => bd (lp FUEL (u2 (fun (n3 : Int32) (n4 : Int32) => if (gI s0 (lk t 2) 3) ≤ n4 then some (Sum.inr n3) else (bd (FX4_duesOf t n4 s0) (fun (r5 : Int32) => nm (n3 + r5) (fun (i6 : Int32) => nm (n4 + (nI 1)) (fun (i7 : Int32) => some (Sum.inl (i6, i7)))))))) (i1, i2)) (fun (e8 : Int32) => some (e8))))
set_option maxRecDepth 100000 in
set_option maxHeartbeats 4000000 in
theorem bd_X4_duesOfAll {o : Om} (C : Cx o RX4 cX4_duesOfAll 3 (some .int) (rmx 2 43) 0) (t : Nat) (ht : kd t = 4) (s0 : SS) : Xo (FX4_duesOfAll t s0) (fun r => RT o cX4_duesOfAll (some (.int r)) s0) (Yx o 0 [some (.ref t), none, none] [] s0) := by
  unfold FX4_duesOfAll
  refine x_iconst C (pc := 0) dX4_duesOfAll_0 kc_i_0 ?_
  refine x_istore_n C (pc := 1) (L' := fun i1 => [some (.ref t), some (.int i1), none]) dX4_duesOfAll_1 (by decide) (fun _ => rfl) (fun i1 => ?_)
  refine x_iconst C (pc := 2) dX4_duesOfAll_2 kc_i_0 ?_
  refine x_istore_n C (pc := 3) (L' := fun i2 => [some (.ref t), some (.int i1), some (.int i2)]) dX4_duesOfAll_3 (by decide) (fun _ => rfl) (fun i2 => ?_)
  refine xb_1 (Z1 := (fun e8 => Yx o 29 [none, some (.int e8), none] [] s0)) ?_ (fun e8 => ?_)
  · refine Xo.mono (Yx.weak (lw_s (lw_s (lw_s lw_0)))) (x_lp2 (fr := fun n3 n4 => Yx o 4 [some (.ref t), some (.int n3), some (.int n4)] [] s0) _ _ (fun n3 n4 => ?_))
    refine x_iload_n C (pc := 4) dX4_duesOfAll_4 rfl ?_
    refine x_aload_n C (pc := 5) dX4_duesOfAll_5 rfl ?_
    refine x_getR C (pc := 6) fg_X4_23 dX4_duesOfAll_6 ht ?_
    refine x_getI C (pc := 9) fg_X4_74 dX4_duesOfAll_9 (lkd_4_2 ht) ?_
    refine x_icmp_ge C (pc := 12) (tgt := 29) dX4_duesOfAll_12 (by decide) (fun _ => ?_) (fun _ => ?_)
    · skip
      exact Xo.done (fun h => Yx.weak (lw_n (lw_s (lw_n lw_0))) h)
    · skip
      refine x_iload_n C (pc := 15) dX4_duesOfAll_15 rfl ?_
      refine x_aload_n C (pc := 16) dX4_duesOfAll_16 rfl ?_
      refine x_iload_n C (pc := 17) dX4_duesOfAll_17 rfl ?_
      refine x_callVi C (pc := 18) mv_X4_98 ht rfl [.int n4] (fun _ hr => ct_X4_duesOf _ ht _ _ _ hr) ⟨Nat.le_of_ble_eq_true rfl, Nat.le_of_ble_eq_true rfl⟩ rfl (Nat.le_of_ble_eq_true rfl) rfl dX4_duesOfAll_18 (fun r5 => ?_)
      refine x_iadd C (pc := 21) dX4_duesOfAll_21 ?_
      refine x_istore_n C (pc := 22) (L' := fun i6 => [some (.ref t), some (.int i6), some (.int n4)]) dX4_duesOfAll_22 (by decide) (fun _ => rfl) (fun i6 => ?_)
      refine x_iinc C (pc := 23) (L' := fun i7 => [some (.ref t), some (.int i6), some (.int i7)]) dX4_duesOfAll_23 rfl kc_i_1 (by decide) (fun _ => rfl) (fun i7 => ?_)
      refine x_goto C (pc := 26) (tgt := 4) dX4_duesOfAll_26 (by decide) ?_
      exact Xo.done (fun h => Yx.weak (lw_s (lw_s (lw_s lw_0))) h)
  refine x_iload_n C (pc := 29) dX4_duesOfAll_29 rfl ?_
  exact x_ret dX4_duesOfAll_30 (fun h => h)
theorem ct_X4_duesOfAll (t : Nat) (ht : kd t = 4) (s0 : SS) (r : Int32) (h : FX4_duesOfAll t s0 = some r) : CT 0 yX4_duesOfAll cX4_duesOfAll 3 (some .int) 2 43 [.ref t] s0 (some (.int r)) s0 :=
  ct_of (by decide +kernel) (Or.inr (Or.inl ⟨_, rfl, _, rfl, rfl⟩)) (lx_args [.ref t]) (lx_entry [.ref t] (fun _ => Nat.le_of_ble_eq_true rfl)) (fun o C hR => Yx.weak (lw_s (lw_z (lw_z lw_0))) (bd_X4_duesOfAll C t ht s0 r h hR))
def FX6_toWind (a : Int32) (b : Int32) (c : Int32) (d : Int32) (s0 : SS) : Option (Int32) :=
  bd (if a = (nI 1) then some (d) else (some ((nI 0)))) (fun (j1 : Int32) => nm j1 (fun (i2 : Int32) => bd (if b = (nI 1) then some (c) else (some (i2))) (fun (j3 : Int32) => some ((j3 - ((nI 5) * a))))))
set_option maxRecDepth 100000 in
set_option maxHeartbeats 4000000 in
theorem bd_X6_toWind {o : Om} (C : Cx o RX6 cX6_toWind 5 (some .int) (rmx 0 0) 0) (a : Int32) (b : Int32) (c : Int32) (d : Int32) (s0 : SS) : Xo (FX6_toWind a b c d s0) (fun r => RT o cX6_toWind (some (.int r)) s0) (Yx o 0 [some (.int a), some (.int b), some (.int c), some (.int d), none] [] s0) := by
  unfold FX6_toWind
  refine x_iload_n C (pc := 0) dX6_toWind_0 rfl ?_
  refine x_iconst C (pc := 1) dX6_toWind_1 kc_i_1 ?_
  refine xb_1 (Z1 := fun j1 => Yx o 10 [some (.int a), some (.int b), some (.int c), none, none] [.int j1] s0) ?_ (fun j1 => ?_)
  · skip
    refine x_icmp_ne C (pc := 2) (tgt := 9) dX6_toWind_2 (by decide) (fun _ => ?_) (fun _ => ?_)
    · skip
      refine x_iload_n C (pc := 5) dX6_toWind_5 rfl ?_
      refine x_goto C (pc := 6) (tgt := 10) dX6_toWind_6 (by decide) ?_
      exact Xo.done (fun h => Yx.weak (lw_s (lw_s (lw_s (lw_n (lw_n lw_0))))) h)
    · skip
      refine x_iconst C (pc := 9) dX6_toWind_9 kc_i_0 ?_
      exact Xo.done (fun h => Yx.weak (lw_s (lw_s (lw_s (lw_n (lw_n lw_0))))) h)
  refine x_istore C (pc := 10) (L' := fun i2 => [some (.int a), some (.int b), some (.int c), none, some (.int i2)]) dX6_toWind_10 (by decide) (fun _ => rfl) (fun i2 => ?_)
  refine x_iload_n C (pc := 12) dX6_toWind_12 rfl ?_
  refine x_iconst C (pc := 13) dX6_toWind_13 kc_i_1 ?_
  refine xb_1 (Z1 := fun j3 => Yx o 23 [some (.int a), none, none, none, none] [.int j3] s0) ?_ (fun j3 => ?_)
  · skip
    refine x_icmp_ne C (pc := 14) (tgt := 21) dX6_toWind_14 (by decide) (fun _ => ?_) (fun _ => ?_)
    · skip
      refine x_iload_n C (pc := 17) dX6_toWind_17 rfl ?_
      refine x_goto C (pc := 18) (tgt := 23) dX6_toWind_18 (by decide) ?_
      exact Xo.done (fun h => Yx.weak (lw_s (lw_n (lw_n (lw_n (lw_n lw_0))))) h)
    · skip
      refine x_iload C (pc := 21) dX6_toWind_21 rfl ?_
      exact Xo.done (fun h => Yx.weak (lw_s (lw_n (lw_n (lw_n (lw_n lw_0))))) h)
  refine x_iconst C (pc := 23) dX6_toWind_23 kc_i_5 ?_
  refine x_iload_n C (pc := 24) dX6_toWind_24 rfl ?_
  refine x_imul C (pc := 25) dX6_toWind_25 ?_
  refine x_isub C (pc := 26) dX6_toWind_26 ?_
  exact x_ret dX6_toWind_27 (fun h => h)
theorem ct_X6_toWind (a : Int32) (b : Int32) (c : Int32) (d : Int32) (s0 : SS) (r : Int32) (h : FX6_toWind a b c d s0 = some r) : CT 0 yX6_toWind cX6_toWind 5 (some .int) 0 0 [.int a, .int b, .int c, .int d] s0 (some (.int r)) s0 :=
  ct_of (by decide +kernel) (Or.inr (Or.inl ⟨_, rfl, _, rfl, rfl⟩)) (lx_args [.int a, .int b, .int c, .int d]) (lx_entry [.int a, .int b, .int c, .int d] (fun _ => Nat.le_of_ble_eq_true rfl)) (fun o C hR => Yx.weak (lw_s (lw_s (lw_s (lw_s (lw_z lw_0))))) (bd_X6_toWind C a b c d s0 r h hR))
def FX6_restingPairs (a : Int32) (b : Int32) (s0 : SS) : Option (Int32) :=
  nm (nI 0) (fun (i1 : Int32) => nm (nI 0) (fun (i2 : Int32) => bd (lp FUEL (u2 (fun (n3 : Int32) (n4 : Int32) => if (nI 4) ≤ n4 then some (Sum.inr n3) else (nm (n4 &&& (nI 1)) (fun (i5 : Int32) => nm (n4 >>> ((nI 1) &&& 31)) (fun (i6 : Int32) => bd (FX6_toWind i5 i6 a b s0) (fun (r7 : Int32) => nm r7 (fun (i8 : Int32) => bd (FX6_toWind ((nI 1) - i5) i6 a b s0) (fun (r9 : Int32) => bd (if i8 < r9 then some ((nI 0)) else (some ((nI 1)))) (fun (j10 : Int32) => nm j10 (fun (i11 : Int32) => bd (FX6_toWind i5 ((nI 1) - i6) a b s0) (fun (r12 : Int32) => bd (if r12 < i8 then some ((nI 0)) else (some ((nI 1)))) (fun (j13 : Int32) => nm j13 (fun (i14 : Int32) => bd (if i11 = 0 then some (n3) else (if i14 = 0 then some (n3) else (nm (n3 ||| ((nI 1) <<< (n4 &&& 31))) (fun (i15 : Int32) => some (i15))))) (fun (j16 : Int32) => nm (n4 + (nI 1)) (fun (i17 : Int32) => some (Sum.inl (j16, i17))))))))))))))))) (i1, i2)) (fun (e18 : Int32) => some (e18))))
set_option maxRecDepth 100000 in
set_option maxHeartbeats 4000000 in
theorem bd_X6_restingPairs {o : Om} (C : Cx o RX6 cX6_restingPairs 9 (some .int) (rmx 1 24) 0) (a : Int32) (b : Int32) (s0 : SS) : Xo (FX6_restingPairs a b s0) (fun r => RT o cX6_restingPairs (some (.int r)) s0) (Yx o 0 [some (.int a), some (.int b), none, none, none, none, none, none, none] [] s0) := by
  unfold FX6_restingPairs
  refine x_iconst C (pc := 0) dX6_restingPairs_0 kc_i_0 ?_
  refine x_istore_n C (pc := 1) (L' := fun i1 => [some (.int a), some (.int b), some (.int i1), none, none, none, none, none, none]) dX6_restingPairs_1 (by decide) (fun _ => rfl) (fun i1 => ?_)
  refine x_iconst C (pc := 2) dX6_restingPairs_2 kc_i_0 ?_
  refine x_istore_n C (pc := 3) (L' := fun i2 => [some (.int a), some (.int b), some (.int i1), some (.int i2), none, none, none, none, none]) dX6_restingPairs_3 (by decide) (fun _ => rfl) (fun i2 => ?_)
  refine xb_1 (Z1 := (fun e18 => Yx o 98 [none, none, some (.int e18), none, none, none, none, none, none] [] s0)) ?_ (fun e18 => ?_)
  · refine Xo.mono (Yx.weak (lw_s (lw_s (lw_s (lw_s (lw_n (lw_n (lw_n (lw_n (lw_n lw_0)))))))))) (x_lp2 (fr := fun n3 n4 => Yx o 4 [some (.int a), some (.int b), some (.int n3), some (.int n4), none, none, none, none, none] [] s0) _ _ (fun n3 n4 => ?_))
    refine x_iload_n C (pc := 4) dX6_restingPairs_4 rfl ?_
    refine x_iconst C (pc := 5) dX6_restingPairs_5 kc_i_4 ?_
    refine x_icmp_ge C (pc := 6) (tgt := 98) dX6_restingPairs_6 (by decide) (fun _ => ?_) (fun _ => ?_)
    · skip
      exact Xo.done (fun h => Yx.weak (lw_n (lw_n (lw_s (lw_n (lw_n (lw_n (lw_n (lw_n (lw_n lw_0))))))))) h)
    · skip
      refine x_iload_n C (pc := 9) dX6_restingPairs_9 rfl ?_
      refine x_iconst C (pc := 10) dX6_restingPairs_10 kc_i_1 ?_
      refine x_iand C (pc := 11) dX6_restingPairs_11 ?_
      refine x_istore C (pc := 12) (L' := fun i5 => [some (.int a), some (.int b), some (.int n3), some (.int n4), some (.int i5), none, none, none, none]) dX6_restingPairs_12 (by decide) (fun _ => rfl) (fun i5 => ?_)
      refine x_iload_n C (pc := 14) dX6_restingPairs_14 rfl ?_
      refine x_iconst C (pc := 15) dX6_restingPairs_15 kc_i_1 ?_
      refine x_ishr C (pc := 16) dX6_restingPairs_16 ?_
      refine x_istore C (pc := 17) (L' := fun i6 => [some (.int a), some (.int b), some (.int n3), some (.int n4), some (.int i5), some (.int i6), none, none, none]) dX6_restingPairs_17 (by decide) (fun _ => rfl) (fun i6 => ?_)
      refine x_iload C (pc := 19) dX6_restingPairs_19 rfl ?_
      refine x_iload C (pc := 21) dX6_restingPairs_21 rfl ?_
      refine x_iload_n C (pc := 23) dX6_restingPairs_23 rfl ?_
      refine x_iload_n C (pc := 24) dX6_restingPairs_24 rfl ?_
      refine x_callSi C (pc := 25) ms_X6_7 [.int i5, .int i6, .int a, .int b] (fun _ hr => ct_X6_toWind _ _ _ _ _ _ hr) ⟨Nat.le_of_ble_eq_true rfl, Nat.le_of_ble_eq_true rfl⟩ rfl (Nat.le_of_ble_eq_true rfl) rfl dX6_restingPairs_25 (fun r7 => ?_)
      refine x_istore C (pc := 28) (L' := fun i8 => [some (.int a), some (.int b), some (.int n3), some (.int n4), some (.int i5), some (.int i6), some (.int i8), none, none]) dX6_restingPairs_28 (by decide) (fun _ => rfl) (fun i8 => ?_)
      refine x_iload C (pc := 30) dX6_restingPairs_30 rfl ?_
      refine x_iconst C (pc := 32) dX6_restingPairs_32 kc_i_1 ?_
      refine x_iload C (pc := 33) dX6_restingPairs_33 rfl ?_
      refine x_isub C (pc := 35) dX6_restingPairs_35 ?_
      refine x_iload C (pc := 36) dX6_restingPairs_36 rfl ?_
      refine x_iload_n C (pc := 38) dX6_restingPairs_38 rfl ?_
      refine x_iload_n C (pc := 39) dX6_restingPairs_39 rfl ?_
      refine x_callSi C (pc := 40) ms_X6_7 [.int ((nI 1) - i5), .int i6, .int a, .int b] (fun _ hr => ct_X6_toWind _ _ _ _ _ _ hr) ⟨Nat.le_of_ble_eq_true rfl, Nat.le_of_ble_eq_true rfl⟩ rfl (Nat.le_of_ble_eq_true rfl) rfl dX6_restingPairs_40 (fun r9 => ?_)
      refine xb_1 (Z1 := fun j10 => Yx o 51 [some (.int a), some (.int b), some (.int n3), some (.int n4), some (.int i5), some (.int i6), some (.int i8), none, none] [.int j10] s0) ?_ (fun j10 => ?_)
      · skip
        refine x_icmp_lt C (pc := 43) (tgt := 50) dX6_restingPairs_43 (by decide) (fun _ => ?_) (fun _ => ?_)
        · skip
          refine x_iconst C (pc := 50) dX6_restingPairs_50 kc_i_0 ?_
          exact Xo.done (fun h => Yx.weak (lw_s (lw_s (lw_s (lw_s (lw_s (lw_s (lw_s (lw_n (lw_n lw_0))))))))) h)
        · skip
          refine x_iconst C (pc := 46) dX6_restingPairs_46 kc_i_1 ?_
          refine x_goto C (pc := 47) (tgt := 51) dX6_restingPairs_47 (by decide) ?_
          exact Xo.done (fun h => Yx.weak (lw_s (lw_s (lw_s (lw_s (lw_s (lw_s (lw_s (lw_n (lw_n lw_0))))))))) h)
      refine x_istore C (pc := 51) (L' := fun i11 => [some (.int a), some (.int b), some (.int n3), some (.int n4), some (.int i5), some (.int i6), some (.int i8), some (.int i11), none]) dX6_restingPairs_51 (by decide) (fun _ => rfl) (fun i11 => ?_)
      refine x_iload C (pc := 53) dX6_restingPairs_53 rfl ?_
      refine x_iload C (pc := 55) dX6_restingPairs_55 rfl ?_
      refine x_iconst C (pc := 57) dX6_restingPairs_57 kc_i_1 ?_
      refine x_iload C (pc := 58) dX6_restingPairs_58 rfl ?_
      refine x_isub C (pc := 60) dX6_restingPairs_60 ?_
      refine x_iload_n C (pc := 61) dX6_restingPairs_61 rfl ?_
      refine x_iload_n C (pc := 62) dX6_restingPairs_62 rfl ?_
      refine x_callSi C (pc := 63) ms_X6_7 [.int i5, .int ((nI 1) - i6), .int a, .int b] (fun _ hr => ct_X6_toWind _ _ _ _ _ _ hr) ⟨Nat.le_of_ble_eq_true rfl, Nat.le_of_ble_eq_true rfl⟩ rfl (Nat.le_of_ble_eq_true rfl) rfl dX6_restingPairs_63 (fun r12 => ?_)
      refine xb_1 (Z1 := fun j13 => Yx o 74 [some (.int a), some (.int b), some (.int n3), some (.int n4), none, none, none, some (.int i11), none] [.int j13] s0) ?_ (fun j13 => ?_)
      · skip
        refine x_icmp_gt C (pc := 66) (tgt := 73) dX6_restingPairs_66 (by decide) (fun _ => ?_) (fun _ => ?_)
        · skip
          refine x_iconst C (pc := 73) dX6_restingPairs_73 kc_i_0 ?_
          exact Xo.done (fun h => Yx.weak (lw_s (lw_s (lw_s (lw_s (lw_n (lw_n (lw_n (lw_s (lw_n lw_0))))))))) h)
        · skip
          refine x_iconst C (pc := 69) dX6_restingPairs_69 kc_i_1 ?_
          refine x_goto C (pc := 70) (tgt := 74) dX6_restingPairs_70 (by decide) ?_
          exact Xo.done (fun h => Yx.weak (lw_s (lw_s (lw_s (lw_s (lw_n (lw_n (lw_n (lw_s (lw_n lw_0))))))))) h)
      refine x_istore C (pc := 74) (L' := fun i14 => [some (.int a), some (.int b), some (.int n3), some (.int n4), none, none, none, some (.int i11), some (.int i14)]) dX6_restingPairs_74 (by decide) (fun _ => rfl) (fun i14 => ?_)
      refine x_iload C (pc := 76) dX6_restingPairs_76 rfl ?_
      refine xb_1 (Z1 := fun j16 => Yx o 92 [some (.int a), some (.int b), some (.int j16), some (.int n4), none, none, none, none, none] [] s0) ?_ (fun j16 => ?_)
      · skip
        refine x_if_eq C (pc := 78) (tgt := 92) dX6_restingPairs_78 (by decide) (fun _ => ?_) (fun _ => ?_)
        · skip
          exact Xo.done (fun h => Yx.weak (lw_s (lw_s (lw_s (lw_s (lw_n (lw_n (lw_n (lw_n (lw_n lw_0))))))))) h)
        · skip
          refine x_iload C (pc := 81) dX6_restingPairs_81 rfl ?_
          refine x_if_eq C (pc := 83) (tgt := 92) dX6_restingPairs_83 (by decide) (fun _ => ?_) (fun _ => ?_)
          · skip
            exact Xo.done (fun h => Yx.weak (lw_s (lw_s (lw_s (lw_s (lw_n (lw_n (lw_n (lw_n (lw_n lw_0))))))))) h)
          · skip
            refine x_iload_n C (pc := 86) dX6_restingPairs_86 rfl ?_
            refine x_iconst C (pc := 87) dX6_restingPairs_87 kc_i_1 ?_
            refine x_iload_n C (pc := 88) dX6_restingPairs_88 rfl ?_
            refine x_ishl C (pc := 89) dX6_restingPairs_89 ?_
            refine x_ior C (pc := 90) dX6_restingPairs_90 ?_
            refine x_istore_n C (pc := 91) (L' := fun i15 => [some (.int a), some (.int b), some (.int i15), some (.int n4), none, none, none, some (.int i11), some (.int i14)]) dX6_restingPairs_91 (by decide) (fun _ => rfl) (fun i15 => ?_)
            exact Xo.done (fun h => Yx.weak (lw_s (lw_s (lw_s (lw_s (lw_n (lw_n (lw_n (lw_n (lw_n lw_0))))))))) h)
      refine x_iinc C (pc := 92) (L' := fun i17 => [some (.int a), some (.int b), some (.int j16), some (.int i17), none, none, none, none, none]) dX6_restingPairs_92 rfl kc_i_1 (by decide) (fun _ => rfl) (fun i17 => ?_)
      refine x_goto C (pc := 95) (tgt := 4) dX6_restingPairs_95 (by decide) ?_
      exact Xo.done (fun h => Yx.weak (lw_s (lw_s (lw_s (lw_s (lw_n (lw_n (lw_n (lw_n (lw_n lw_0))))))))) h)
  refine x_iload_n C (pc := 98) dX6_restingPairs_98 rfl ?_
  exact x_ret dX6_restingPairs_99 (fun h => h)
theorem ct_X6_restingPairs (a : Int32) (b : Int32) (s0 : SS) (r : Int32) (h : FX6_restingPairs a b s0 = some r) : CT 0 yX6_restingPairs cX6_restingPairs 9 (some .int) 1 24 [.int a, .int b] s0 (some (.int r)) s0 :=
  ct_of (by decide +kernel) (Or.inr (Or.inl ⟨_, rfl, _, rfl, rfl⟩)) (lx_args [.int a, .int b]) (lx_entry [.int a, .int b] (fun _ => Nat.le_of_ble_eq_true rfl)) (fun o C hR => Yx.weak (lw_s (lw_s (lw_z (lw_z (lw_z (lw_z (lw_z (lw_z (lw_z lw_0))))))))) (bd_X6_restingPairs C a b s0 r h hR))
def FX10_at (t : Nat) (a : Int32) (s0 : SS) : Option (Int32) :=
  if a < 0 then some ((-1 : Int32)) else (if (gI s0 t 1) ≤ a then some ((-1 : Int32)) else (if (nI 150) ≤ a then some ((-1 : Int32)) else (gd (inb a (ln (lk t 0))) (some ((gI s0 (lk t 0) (Int32.toNatClampNeg a)))))))
set_option maxRecDepth 100000 in
set_option maxHeartbeats 4000000 in
theorem bd_X10_at {o : Om} (C : Cx o RX10 cX10_at 2 (some .int) (rmx 0 0) 0) (t : Nat) (ht : kd t = 8) (a : Int32) (s0 : SS) : Xo (FX10_at t a s0) (fun r => RT o cX10_at (some (.int r)) s0) (Yx o 0 [some (.ref t), some (.int a)] [] s0) := by
  unfold FX10_at
  refine x_iload_n C (pc := 0) dX10_at_0 rfl ?_
  refine x_if_lt C (pc := 1) (tgt := 28) dX10_at_1 (by decide) (fun _ => ?_) (fun _ => ?_)
  · skip
    refine x_iconst C (pc := 28) dX10_at_28 kc_i_m1 ?_
    exact x_ret dX10_at_29 (fun h => h)
  · skip
    refine x_iload_n C (pc := 4) dX10_at_4 rfl ?_
    refine x_aload_n C (pc := 5) dX10_at_5 rfl ?_
    refine x_getI C (pc := 6) fg_X10_15 dX10_at_6 ht ?_
    refine x_icmp_ge C (pc := 9) (tgt := 28) dX10_at_9 (by decide) (fun _ => ?_) (fun _ => ?_)
    · skip
      refine x_iconst C (pc := 28) dX10_at_28 kc_i_m1 ?_
      exact x_ret dX10_at_29 (fun h => h)
    · skip
      refine x_iload_n C (pc := 12) dX10_at_12 rfl ?_
      refine x_sipush C (pc := 13) dX10_at_13 kc_s_150 ?_
      refine x_icmp_ge C (pc := 16) (tgt := 28) dX10_at_16 (by decide) (fun _ => ?_) (fun _ => ?_)
      · skip
        refine x_iconst C (pc := 28) dX10_at_28 kc_i_m1 ?_
        exact x_ret dX10_at_29 (fun h => h)
      · skip
        refine x_aload_n C (pc := 19) dX10_at_19 rfl ?_
        refine x_getR C (pc := 20) fg_X10_9 dX10_at_20 ht ?_
        refine x_iload_n C (pc := 23) dX10_at_23 rfl ?_
        refine x_iald C (pc := 24) dX10_at_24 (lkd_8_0 ht) (fun _ => ?_)
        refine x_goto C (pc := 25) (tgt := 29) dX10_at_25 (by decide) ?_
        exact x_ret dX10_at_29 (fun h => h)
theorem ct_X10_at (t : Nat) (ht : kd t = 8) (a : Int32) (s0 : SS) (r : Int32) (h : FX10_at t a s0 = some r) : CT 0 yX10_at cX10_at 2 (some .int) 0 0 [.ref t, .int a] s0 (some (.int r)) s0 :=
  ct_of (by decide +kernel) (Or.inr (Or.inl ⟨_, rfl, _, rfl, rfl⟩)) (lx_args [.ref t, .int a]) (lx_entry [.ref t, .int a] (fun _ => Nat.le_of_ble_eq_true rfl)) (fun o C hR => Yx.weak (lw_s (lw_s lw_0)) (bd_X10_at C t ht a s0 r h hR))
def FX7_runEnd (t : Nat) (a : Int32) (b : Int32) (c : Int32) (s0 : SS) : Option (Int32) :=
  nm a (fun (i1 : Int32) => bd (lp FUEL (fun (n2 : Int32) => if (gI s0 (lk t 0) 1) ≤ n2 then some (Sum.inr n2) else (bd (FX10_at (lk t 0) n2 s0) (fun (r3 : Int32) => bd (FX11_within r3 b c s0) (fun (r4 : Int32) => if r4 = 0 then some (Sum.inr n2) else (nm (n2 + (nI 1)) (fun (i5 : Int32) => some (Sum.inl i5))))))) i1) (fun (e6 : Int32) => some (e6)))
set_option maxRecDepth 100000 in
set_option maxHeartbeats 4000000 in
theorem bd_X7_runEnd {o : Om} (C : Cx o RX7 cX7_runEnd 5 (some .int) (rmx 1 22) 0) (t : Nat) (ht : kd t = 5) (a : Int32) (b : Int32) (c : Int32) (s0 : SS) : Xo (FX7_runEnd t a b c s0) (fun r => RT o cX7_runEnd (some (.int r)) s0) (Yx o 0 [some (.ref t), some (.int a), some (.int b), some (.int c), none] [] s0) := by
  unfold FX7_runEnd
  refine x_iload_n C (pc := 0) dX7_runEnd_0 rfl ?_
  refine x_istore C (pc := 1) (L' := fun i1 => [some (.ref t), some (.int a), some (.int b), some (.int c), some (.int i1)]) dX7_runEnd_1 (by decide) (fun _ => rfl) (fun i1 => ?_)
  refine xb_1 (Z1 := (fun e6 => Yx o 38 [none, none, none, none, some (.int e6)] [] s0)) ?_ (fun e6 => ?_)
  · refine Xo.mono (Yx.weak (lw_s (lw_n (lw_s (lw_s (lw_s lw_0)))))) (x_lp1 (fr := fun n2 => Yx o 3 [some (.ref t), none, some (.int b), some (.int c), some (.int n2)] [] s0) _ (fun n2 => ?_))
    refine x_iload C (pc := 3) dX7_runEnd_3 rfl ?_
    refine x_aload_n C (pc := 5) dX7_runEnd_5 rfl ?_
    refine x_getR C (pc := 6) fg_X7_18 dX7_runEnd_6 ht ?_
    refine x_getI C (pc := 9) fg_X7_135 dX7_runEnd_9 (lkd_5_0 ht) ?_
    refine x_icmp_ge C (pc := 12) (tgt := 38) dX7_runEnd_12 (by decide) (fun _ => ?_) (fun _ => ?_)
    · skip
      exact Xo.done (fun h => Yx.weak (lw_n (lw_n (lw_n (lw_n (lw_s lw_0))))) h)
    · skip
      refine x_aload_n C (pc := 15) dX7_runEnd_15 rfl ?_
      refine x_getR C (pc := 16) fg_X7_18 dX7_runEnd_16 ht ?_
      refine x_iload C (pc := 19) dX7_runEnd_19 rfl ?_
      refine x_callVi C (pc := 21) mv_X7_122 (lkd_5_0 ht) rfl [.int n2] (fun _ hr => ct_X10_at _ (lkd_5_0 ht) _ _ _ hr) ⟨Nat.le_of_ble_eq_true rfl, Nat.le_of_ble_eq_true rfl⟩ rfl (Nat.le_of_ble_eq_true rfl) rfl dX7_runEnd_21 (fun r3 => ?_)
      refine x_iload_n C (pc := 24) dX7_runEnd_24 rfl ?_
      refine x_iload_n C (pc := 25) dX7_runEnd_25 rfl ?_
      refine x_callNi C (pc := 26) mn_X7_112 [.int r3, .int b, .int c] (fun _ hr => ct_X11_within _ _ _ _ _ hr) ⟨Nat.le_of_ble_eq_true rfl, Nat.le_of_ble_eq_true rfl⟩ rfl (Nat.le_of_ble_eq_true rfl) rfl dX7_runEnd_26 (fun r4 => ?_)
      refine x_if_eq C (pc := 29) (tgt := 38) dX7_runEnd_29 (by decide) (fun _ => ?_) (fun _ => ?_)
      · skip
        exact Xo.done (fun h => Yx.weak (lw_n (lw_n (lw_n (lw_n (lw_s lw_0))))) h)
      · skip
        refine x_iinc C (pc := 32) (L' := fun i5 => [some (.ref t), none, some (.int b), some (.int c), some (.int i5)]) dX7_runEnd_32 rfl kc_i_1 (by decide) (fun _ => rfl) (fun i5 => ?_)
        refine x_goto C (pc := 35) (tgt := 3) dX7_runEnd_35 (by decide) ?_
        exact Xo.done (fun h => Yx.weak (lw_s (lw_n (lw_s (lw_s (lw_s lw_0))))) h)
  refine x_iload C (pc := 38) dX7_runEnd_38 rfl ?_
  exact x_ret dX7_runEnd_40 (fun h => h)
theorem ct_X7_runEnd (t : Nat) (ht : kd t = 5) (a : Int32) (b : Int32) (c : Int32) (s0 : SS) (r : Int32) (h : FX7_runEnd t a b c s0 = some r) : CT 0 yX7_runEnd cX7_runEnd 5 (some .int) 1 22 [.ref t, .int a, .int b, .int c] s0 (some (.int r)) s0 :=
  ct_of (by decide +kernel) (Or.inr (Or.inl ⟨_, rfl, _, rfl, rfl⟩)) (lx_args [.ref t, .int a, .int b, .int c]) (lx_entry [.ref t, .int a, .int b, .int c] (fun _ => Nat.le_of_ble_eq_true rfl)) (fun o C hR => Yx.weak (lw_s (lw_s (lw_s (lw_s (lw_z lw_0))))) (bd_X7_runEnd C t ht a b c s0 r h hR))
def FX7_goOn (t : Nat) (s0 : SS) : Option (SS) :=
  bd (FX7_runEnd t (gI s0 t 4) (nI 32) (nI 32) s0) (fun (r1 : Int32) => nm (pI s0 t 3 r1) (fun (s2 : SS) => bd (FX10_at (lk t 0) (gI s2 t 3) s2) (fun (r3 : Int32) => nm r3 (fun (i4 : Int32) => bd (FX11_within i4 (nI 97) (nI 122) s2) (fun (r5 : Int32) => if r5 = 0 then bd (FX11_within i4 (nI 48) (nI 57) s2) (fun (r6 : Int32) => if r6 = 0 then nm (pI s2 t 4 ((gI s2 t 3) + (nI 1))) (fun (s7 : SS) => bd (if i4 = (nI 59) then some ((nI 3)) else (if i4 = (-1 : Int32) then some ((nI 0)) else (some ((nI 4))))) (fun (j8 : Int32) => nm (pI s7 t 5 j8) (fun (s9 : SS) => some (s9)))) else (bd (FX7_runEnd t (gI s2 t 3) (nI 48) (nI 57) s2) (fun (r10 : Int32) => nm (pI s2 t 4 r10) (fun (s11 : SS) => bd (if ((gI s11 t 4) - (gI s11 t 3)) ≤ (nI 2) then some ((nI 2)) else (some ((nI 4)))) (fun (j12 : Int32) => nm (pI s11 t 5 j12) (fun (s13 : SS) => bd (if ((gI s13 t 4) - (gI s13 t 3)) = (nI 2) then bd (FX10_at (lk t 0) ((gI s13 t 3) + (nI 1)) s13) (fun (r14 : Int32) => some (((((nI 10) * (i4 - (nI 48))) + r14) - (nI 48)))) else (some ((i4 - (nI 48))))) (fun (j15 : Int32) => nm (pI s13 t 6 j15) (fun (s16 : SS) => some (s16))))))))) else (bd (FX7_runEnd t (gI s2 t 3) (nI 97) (nI 122) s2) (fun (r17 : Int32) => nm (pI s2 t 4 r17) (fun (s18 : SS) => nm (pI s18 t 5 (nI 1)) (fun (s19 : SS) => some (s19))))))))))
set_option maxRecDepth 100000 in
set_option maxHeartbeats 4000000 in
theorem bd_X7_goOn {o : Om} (C : Cx o RX7 cX7_goOn 2 none (rmx 2 46) 0) (t : Nat) (ht : kd t = 5) (s0 : SS) : Xo (FX7_goOn t s0) (fun r => RT o cX7_goOn none r) (Yx o 0 [some (.ref t), none] [] s0) := by
  unfold FX7_goOn
  refine x_aload_n C (pc := 0) dX7_goOn_0 rfl ?_
  refine x_aload_n C (pc := 1) dX7_goOn_1 rfl ?_
  refine x_aload_n C (pc := 2) dX7_goOn_2 rfl ?_
  refine x_getI C (pc := 3) fg_X7_29 dX7_goOn_3 ht ?_
  refine x_bipush C (pc := 6) dX7_goOn_6 kc_b_32 ?_
  refine x_bipush C (pc := 8) dX7_goOn_8 kc_b_32 ?_
  refine x_callVi C (pc := 10) mv_X7_132 ht rfl [.int (gI s0 t 4), .int (nI 32), .int (nI 32)] (fun _ hr => ct_X7_runEnd _ ht _ _ _ _ _ hr) ⟨Nat.le_of_ble_eq_true rfl, Nat.le_of_ble_eq_true rfl⟩ rfl (Nat.le_of_ble_eq_true rfl) rfl dX7_goOn_10 (fun r1 => ?_)
  refine x_putIn C (pc := 13) fp_X7_45 dX7_goOn_13 ht (fun s2 => ?_)
  refine x_aload_n C (pc := 16) dX7_goOn_16 rfl ?_
  refine x_getR C (pc := 17) fg_X7_18 dX7_goOn_17 ht ?_
  refine x_aload_n C (pc := 20) dX7_goOn_20 rfl ?_
  refine x_getI C (pc := 21) fg_X7_45 dX7_goOn_21 ht ?_
  refine x_callVi C (pc := 24) mv_X7_122 (lkd_5_0 ht) rfl [.int (gI s2 t 3)] (fun _ hr => ct_X10_at _ (lkd_5_0 ht) _ _ _ hr) ⟨Nat.le_of_ble_eq_true rfl, Nat.le_of_ble_eq_true rfl⟩ rfl (Nat.le_of_ble_eq_true rfl) rfl dX7_goOn_24 (fun r3 => ?_)
  refine x_istore_n C (pc := 27) (L' := fun i4 => [some (.ref t), some (.int i4)]) dX7_goOn_27 (by decide) (fun _ => rfl) (fun i4 => ?_)
  refine x_iload_n C (pc := 28) dX7_goOn_28 rfl ?_
  refine x_bipush C (pc := 29) dX7_goOn_29 kc_b_97 ?_
  refine x_bipush C (pc := 31) dX7_goOn_31 kc_b_122 ?_
  refine x_callNi C (pc := 33) mn_X7_112 [.int i4, .int (nI 97), .int (nI 122)] (fun _ hr => ct_X11_within _ _ _ _ _ hr) ⟨Nat.le_of_ble_eq_true rfl, Nat.le_of_ble_eq_true rfl⟩ rfl (Nat.le_of_ble_eq_true rfl) rfl dX7_goOn_33 (fun r5 => ?_)
  refine x_if_eq C (pc := 36) (tgt := 63) dX7_goOn_36 (by decide) (fun _ => ?_) (fun _ => ?_)
  · skip
    refine x_iload_n C (pc := 63) dX7_goOn_63 rfl ?_
    refine x_bipush C (pc := 64) dX7_goOn_64 kc_b_48 ?_
    refine x_bipush C (pc := 66) dX7_goOn_66 kc_b_57 ?_
    refine x_callNi C (pc := 68) mn_X7_112 [.int i4, .int (nI 48), .int (nI 57)] (fun _ hr => ct_X11_within _ _ _ _ _ hr) ⟨Nat.le_of_ble_eq_true rfl, Nat.le_of_ble_eq_true rfl⟩ rfl (Nat.le_of_ble_eq_true rfl) rfl dX7_goOn_68 (fun r6 => ?_)
    refine x_if_eq C (pc := 71) (tgt := 163) dX7_goOn_71 (by decide) (fun _ => ?_) (fun _ => ?_)
    · skip
      refine x_aload_n C (pc := 163) dX7_goOn_163 rfl ?_
      refine x_aload_n C (pc := 164) dX7_goOn_164 rfl ?_
      refine x_getI C (pc := 165) fg_X7_45 dX7_goOn_165 ht ?_
      refine x_iconst C (pc := 168) dX7_goOn_168 kc_i_1 ?_
      refine x_iadd C (pc := 169) dX7_goOn_169 ?_
      refine x_putIn C (pc := 170) fp_X7_29 dX7_goOn_170 ht (fun s7 => ?_)
      refine x_aload_n C (pc := 173) dX7_goOn_173 rfl ?_
      refine x_iload_n C (pc := 174) dX7_goOn_174 rfl ?_
      refine x_bipush C (pc := 175) dX7_goOn_175 kc_b_59 ?_
      refine xb_1 (Z1 := fun j8 => Yx o 194 [none, none] [.int j8, .ref t] s7) ?_ (fun j8 => ?_)
      · skip
        refine x_icmp_ne C (pc := 177) (tgt := 184) dX7_goOn_177 (by decide) (fun _ => ?_) (fun _ => ?_)
        · skip
          refine x_iconst C (pc := 180) dX7_goOn_180 kc_i_3 ?_
          refine x_goto C (pc := 181) (tgt := 194) dX7_goOn_181 (by decide) ?_
          exact Xo.done (fun h => Yx.weak (lw_n (lw_n lw_0)) h)
        · skip
          refine x_iload_n C (pc := 184) dX7_goOn_184 rfl ?_
          refine x_iconst C (pc := 185) dX7_goOn_185 kc_i_m1 ?_
          refine x_icmp_ne C (pc := 186) (tgt := 193) dX7_goOn_186 (by decide) (fun _ => ?_) (fun _ => ?_)
          · skip
            refine x_iconst C (pc := 189) dX7_goOn_189 kc_i_0 ?_
            refine x_goto C (pc := 190) (tgt := 194) dX7_goOn_190 (by decide) ?_
            exact Xo.done (fun h => Yx.weak (lw_n (lw_n lw_0)) h)
          · skip
            refine x_iconst C (pc := 193) dX7_goOn_193 kc_i_4 ?_
            exact Xo.done (fun h => Yx.weak (lw_n (lw_n lw_0)) h)
      refine x_putIn C (pc := 194) fp_X7_48 dX7_goOn_194 ht (fun s9 => ?_)
      exact x_vret dX7_goOn_197 (fun h => h)
    · skip
      refine x_aload_n C (pc := 74) dX7_goOn_74 rfl ?_
      refine x_aload_n C (pc := 75) dX7_goOn_75 rfl ?_
      refine x_aload_n C (pc := 76) dX7_goOn_76 rfl ?_
      refine x_getI C (pc := 77) fg_X7_45 dX7_goOn_77 ht ?_
      refine x_bipush C (pc := 80) dX7_goOn_80 kc_b_48 ?_
      refine x_bipush C (pc := 82) dX7_goOn_82 kc_b_57 ?_
      refine x_callVi C (pc := 84) mv_X7_132 ht rfl [.int (gI s2 t 3), .int (nI 48), .int (nI 57)] (fun _ hr => ct_X7_runEnd _ ht _ _ _ _ _ hr) ⟨Nat.le_of_ble_eq_true rfl, Nat.le_of_ble_eq_true rfl⟩ rfl (Nat.le_of_ble_eq_true rfl) rfl dX7_goOn_84 (fun r10 => ?_)
      refine x_putIn C (pc := 87) fp_X7_29 dX7_goOn_87 ht (fun s11 => ?_)
      refine x_aload_n C (pc := 90) dX7_goOn_90 rfl ?_
      refine x_aload_n C (pc := 91) dX7_goOn_91 rfl ?_
      refine x_getI C (pc := 92) fg_X7_29 dX7_goOn_92 ht ?_
      refine x_aload_n C (pc := 95) dX7_goOn_95 rfl ?_
      refine x_getI C (pc := 96) fg_X7_45 dX7_goOn_96 ht ?_
      refine x_isub C (pc := 99) dX7_goOn_99 ?_
      refine x_iconst C (pc := 100) dX7_goOn_100 kc_i_2 ?_
      refine xb_1 (Z1 := fun j12 => Yx o 109 [some (.ref t), some (.int i4)] [.int j12, .ref t] s11) ?_ (fun j12 => ?_)
      · skip
        refine x_icmp_le C (pc := 101) (tgt := 108) dX7_goOn_101 (by decide) (fun _ => ?_) (fun _ => ?_)
        · skip
          refine x_iconst C (pc := 108) dX7_goOn_108 kc_i_2 ?_
          exact Xo.done (fun h => Yx.weak (lw_s (lw_s lw_0)) h)
        · skip
          refine x_iconst C (pc := 104) dX7_goOn_104 kc_i_4 ?_
          refine x_goto C (pc := 105) (tgt := 109) dX7_goOn_105 (by decide) ?_
          exact Xo.done (fun h => Yx.weak (lw_s (lw_s lw_0)) h)
      refine x_putIn C (pc := 109) fp_X7_48 dX7_goOn_109 ht (fun s13 => ?_)
      refine x_aload_n C (pc := 112) dX7_goOn_112 rfl ?_
      refine x_aload_n C (pc := 113) dX7_goOn_113 rfl ?_
      refine x_getI C (pc := 114) fg_X7_29 dX7_goOn_114 ht ?_
      refine x_aload_n C (pc := 117) dX7_goOn_117 rfl ?_
      refine x_getI C (pc := 118) fg_X7_45 dX7_goOn_118 ht ?_
      refine x_isub C (pc := 121) dX7_goOn_121 ?_
      refine x_iconst C (pc := 122) dX7_goOn_122 kc_i_2 ?_
      refine xb_1 (Z1 := fun j15 => Yx o 157 [none, none] [.int j15, .ref t] s13) ?_ (fun j15 => ?_)
      · skip
        refine x_icmp_ne C (pc := 123) (tgt := 153) dX7_goOn_123 (by decide) (fun _ => ?_) (fun _ => ?_)
        · skip
          refine x_bipush C (pc := 126) dX7_goOn_126 kc_b_10 ?_
          refine x_iload_n C (pc := 128) dX7_goOn_128 rfl ?_
          refine x_bipush C (pc := 129) dX7_goOn_129 kc_b_48 ?_
          refine x_isub C (pc := 131) dX7_goOn_131 ?_
          refine x_imul C (pc := 132) dX7_goOn_132 ?_
          refine x_aload_n C (pc := 133) dX7_goOn_133 rfl ?_
          refine x_getR C (pc := 134) fg_X7_18 dX7_goOn_134 ht ?_
          refine x_aload_n C (pc := 137) dX7_goOn_137 rfl ?_
          refine x_getI C (pc := 138) fg_X7_45 dX7_goOn_138 ht ?_
          refine x_iconst C (pc := 141) dX7_goOn_141 kc_i_1 ?_
          refine x_iadd C (pc := 142) dX7_goOn_142 ?_
          refine x_callVi C (pc := 143) mv_X7_122 (lkd_5_0 ht) rfl [.int ((gI s13 t 3) + (nI 1))] (fun _ hr => ct_X10_at _ (lkd_5_0 ht) _ _ _ hr) ⟨Nat.le_of_ble_eq_true rfl, Nat.le_of_ble_eq_true rfl⟩ rfl (Nat.le_of_ble_eq_true rfl) rfl dX7_goOn_143 (fun r14 => ?_)
          refine x_iadd C (pc := 146) dX7_goOn_146 ?_
          refine x_bipush C (pc := 147) dX7_goOn_147 kc_b_48 ?_
          refine x_isub C (pc := 149) dX7_goOn_149 ?_
          refine x_goto C (pc := 150) (tgt := 157) dX7_goOn_150 (by decide) ?_
          exact Xo.done (fun h => Yx.weak (lw_n (lw_n lw_0)) h)
        · skip
          refine x_iload_n C (pc := 153) dX7_goOn_153 rfl ?_
          refine x_bipush C (pc := 154) dX7_goOn_154 kc_b_48 ?_
          refine x_isub C (pc := 156) dX7_goOn_156 ?_
          exact Xo.done (fun h => Yx.weak (lw_n (lw_n lw_0)) h)
      refine x_putIn C (pc := 157) fp_X7_75 dX7_goOn_157 ht (fun s16 => ?_)
      refine x_goto C (pc := 160) (tgt := 197) dX7_goOn_160 (by decide) ?_
      exact x_vret dX7_goOn_197 (fun h => h)
  · skip
    refine x_aload_n C (pc := 39) dX7_goOn_39 rfl ?_
    refine x_aload_n C (pc := 40) dX7_goOn_40 rfl ?_
    refine x_aload_n C (pc := 41) dX7_goOn_41 rfl ?_
    refine x_getI C (pc := 42) fg_X7_45 dX7_goOn_42 ht ?_
    refine x_bipush C (pc := 45) dX7_goOn_45 kc_b_97 ?_
    refine x_bipush C (pc := 47) dX7_goOn_47 kc_b_122 ?_
    refine x_callVi C (pc := 49) mv_X7_132 ht rfl [.int (gI s2 t 3), .int (nI 97), .int (nI 122)] (fun _ hr => ct_X7_runEnd _ ht _ _ _ _ _ hr) ⟨Nat.le_of_ble_eq_true rfl, Nat.le_of_ble_eq_true rfl⟩ rfl (Nat.le_of_ble_eq_true rfl) rfl dX7_goOn_49 (fun r17 => ?_)
    refine x_putIn C (pc := 52) fp_X7_29 dX7_goOn_52 ht (fun s18 => ?_)
    refine x_aload_n C (pc := 55) dX7_goOn_55 rfl ?_
    refine x_iconst C (pc := 56) dX7_goOn_56 kc_i_1 ?_
    refine x_putIn C (pc := 57) fp_X7_48 dX7_goOn_57 ht (fun s19 => ?_)
    refine x_goto C (pc := 60) (tgt := 197) dX7_goOn_60 (by decide) ?_
    exact x_vret dX7_goOn_197 (fun h => h)
theorem ct_X7_goOn (t : Nat) (ht : kd t = 5) (s0 : SS) (r : SS) (h : FX7_goOn t s0 = some r) : CT 0 yX7_goOn cX7_goOn 2 none 2 46 [.ref t] s0 none r :=
  ct_of (by decide +kernel) (Or.inl ⟨rfl, rfl⟩) (lx_args [.ref t]) (lx_entry [.ref t] (fun _ => Nat.le_of_ble_eq_true rfl)) (fun o C hR => Yx.weak (lw_s (lw_z lw_0)) (bd_X7_goOn C t ht s0 r h hR))
def FX7_isWord (t : Nat) (a : Nat) (s0 : SS) : Option (Int32) :=
  if (gI s0 t 5) = (nI 1) then if ((gI s0 t 4) - (gI s0 t 3)) = (nI (wl a)) then nm (nI 0) (fun (i1 : Int32) => bde (lp FUEL (fun (n2 : Int32) => if (nI (wl a)) ≤ n2 then some (Sum.inr (Sum.inl ())) else (bd (FX10_at (lk t 0) ((gI s0 t 3) + n2) s0) (fun (r3 : Int32) => gd (inb n2 (wl a)) (if r3 = (wch a (Int32.toNatClampNeg n2)) then nm (n2 + (nI 1)) (fun (i4 : Int32) => some (Sum.inl i4)) else (some (Sum.inr (Sum.inr ((nI 0))))))))) i1) (fun (_ : Unit) => some ((nI 1)))) else (some ((nI 0))) else (some ((nI 0)))
set_option maxRecDepth 100000 in
set_option maxHeartbeats 4000000 in
theorem bd_X7_isWord {o : Om} (C : Cx o RX7 cX7_isWord 3 (some .boolean) (rmx 4 90) 0) (t : Nat) (ht : kd t = 5) (a : Nat) (ha : 100 ≤ a ∧ a < 105) (s0 : SS) : Xo (FX7_isWord t a s0) (fun r => zb r = true → RT o cX7_isWord (some (.int r)) s0) (Yx o 0 [some (.ref t), some (.ref a), none] [] s0) := by
  unfold FX7_isWord
  refine x_aload_n C (pc := 0) dX7_isWord_0 rfl ?_
  refine x_getI C (pc := 1) fg_X7_48 dX7_isWord_1 ht ?_
  refine x_iconst C (pc := 4) dX7_isWord_4 kc_i_1 ?_
  refine x_icmp_ne C (pc := 5) (tgt := 24) dX7_isWord_5 (by decide) (fun _ => ?_) (fun _ => ?_)
  · skip
    refine x_aload_n C (pc := 8) dX7_isWord_8 rfl ?_
    refine x_getI C (pc := 9) fg_X7_29 dX7_isWord_9 ht ?_
    refine x_aload_n C (pc := 12) dX7_isWord_12 rfl ?_
    refine x_getI C (pc := 13) fg_X7_45 dX7_isWord_13 ht ?_
    refine x_isub C (pc := 16) dX7_isWord_16 ?_
    refine x_aload_n C (pc := 17) dX7_isWord_17 rfl ?_
    refine x_slen C (pc := 18) dX7_isWord_18 ha ?_
    refine x_icmp_eq C (pc := 21) (tgt := 26) dX7_isWord_21 (by decide) (fun _ => ?_) (fun _ => ?_)
    · skip
      refine x_iconst C (pc := 26) dX7_isWord_26 kc_i_0 ?_
      refine x_istore_n C (pc := 27) (L' := fun i1 => [some (.ref t), some (.ref a), some (.int i1)]) dX7_isWord_27 (by decide) (fun _ => rfl) (fun i1 => ?_)
      refine xe_0 (Z1 := (fun (_ : Unit) => Yx o 65 [none, none, none] [] s0)) ?_ (fun _ => ?_)
      · refine Xo.mono (Yx.weak (lw_s (lw_s (lw_s lw_0)))) (x_lp1 (fr := fun n2 => Yx o 28 [some (.ref t), some (.ref a), some (.int n2)] [] s0) _ (fun n2 => ?_))
        refine x_iload_n C (pc := 28) dX7_isWord_28 rfl ?_
        refine x_aload_n C (pc := 29) dX7_isWord_29 rfl ?_
        refine x_slen C (pc := 30) dX7_isWord_30 ha ?_
        refine x_icmp_ge C (pc := 33) (tgt := 65) dX7_isWord_33 (by decide) (fun _ => ?_) (fun _ => ?_)
        · skip
          exact Xo.done (fun h => Yx.weak (lw_n (lw_n (lw_n lw_0))) h)
        · skip
          refine x_aload_n C (pc := 36) dX7_isWord_36 rfl ?_
          refine x_getR C (pc := 37) fg_X7_18 dX7_isWord_37 ht ?_
          refine x_aload_n C (pc := 40) dX7_isWord_40 rfl ?_
          refine x_getI C (pc := 41) fg_X7_45 dX7_isWord_41 ht ?_
          refine x_iload_n C (pc := 44) dX7_isWord_44 rfl ?_
          refine x_iadd C (pc := 45) dX7_isWord_45 ?_
          refine x_callVi C (pc := 46) mv_X7_122 (lkd_5_0 ht) rfl [.int ((gI s0 t 3) + n2)] (fun _ hr => ct_X10_at _ (lkd_5_0 ht) _ _ _ hr) ⟨Nat.le_of_ble_eq_true rfl, Nat.le_of_ble_eq_true rfl⟩ rfl (Nat.le_of_ble_eq_true rfl) rfl dX7_isWord_46 (fun r3 => ?_)
          refine x_aload_n C (pc := 49) dX7_isWord_49 rfl ?_
          refine x_iload_n C (pc := 50) dX7_isWord_50 rfl ?_
          refine x_sch C (pc := 51) dX7_isWord_51 ha (fun _ => ?_)
          refine x_icmp_eq C (pc := 54) (tgt := 59) dX7_isWord_54 (by decide) (fun _ => ?_) (fun _ => ?_)
          · skip
            refine x_iinc C (pc := 59) (L' := fun i4 => [some (.ref t), some (.ref a), some (.int i4)]) dX7_isWord_59 rfl kc_i_1 (by decide) (fun _ => rfl) (fun i4 => ?_)
            refine x_goto C (pc := 62) (tgt := 28) dX7_isWord_62 (by decide) ?_
            exact Xo.done (fun h => Yx.weak (lw_s (lw_s (lw_s lw_0))) h)
          · skip
            refine x_iconst C (pc := 57) dX7_isWord_57 kc_i_0 ?_
            exact x_ret dX7_isWord_58 (fun h => h zb_0)
      refine x_iconst C (pc := 65) dX7_isWord_65 kc_i_1 ?_
      exact x_ret dX7_isWord_66 (fun h => h zb_1)
    · skip
      refine x_iconst C (pc := 24) dX7_isWord_24 kc_i_0 ?_
      exact x_ret dX7_isWord_25 (fun h => h zb_0)
  · skip
    refine x_iconst C (pc := 24) dX7_isWord_24 kc_i_0 ?_
    exact x_ret dX7_isWord_25 (fun h => h zb_0)
theorem ct_X7_isWord (t : Nat) (ht : kd t = 5) (a : Nat) (ha : 100 ≤ a ∧ a < 105) (s0 : SS) (r : Int32) (h : FX7_isWord t a s0 = some r) : CT 0 yX7_isWord cX7_isWord 3 (some .boolean) 4 90 [.ref t, .ref a] s0 (some (.int r)) s0 :=
  ct_ofz (by decide +kernel) rfl (lx_args [.ref t, .ref a]) (lx_entry [.ref t, .ref a] (fun _ => Nat.le_of_ble_eq_true rfl)) (fun o C hR => Yx.weak (lw_s (lw_s (lw_z lw_0))) (bd_X7_isWord C t ht a ha s0 r h hR))
def FX7_stops (t : Nat) (s0 : SS) : Option (Int32 × SS) :=
  bd (FX7_goOn t s0) (fun (s1 : SS) => if (gI s1 t 5) = (nI 3) then some (((nI 1), s1)) else (some (((nI 0), s1))))
set_option maxRecDepth 100000 in
set_option maxHeartbeats 4000000 in
theorem bd_X7_stops {o : Om} (C : Cx o RX7 cX7_stops 1 (some .boolean) (rmx 3 67) 0) (t : Nat) (ht : kd t = 5) (s0 : SS) : Xo (FX7_stops t s0) (fun r => zb r.1 = true → RT o cX7_stops (some (.int r.1)) r.2) (Yx o 0 [some (.ref t)] [] s0) := by
  unfold FX7_stops
  refine x_aload_n C (pc := 0) dX7_stops_0 rfl ?_
  refine x_callVv C (pc := 1) mv_X7_33 ht rfl [] (fun _ hr => ct_X7_goOn _ ht _ _ hr) ⟨Nat.le_of_ble_eq_true rfl, Nat.le_of_ble_eq_true rfl⟩ rfl (Nat.le_of_ble_eq_true rfl) rfl dX7_stops_1 (fun s1 => ?_)
  refine x_aload_n C (pc := 4) dX7_stops_4 rfl ?_
  refine x_getI C (pc := 5) fg_X7_48 dX7_stops_5 ht ?_
  refine x_iconst C (pc := 8) dX7_stops_8 kc_i_3 ?_
  refine x_icmp_ne C (pc := 9) (tgt := 16) dX7_stops_9 (by decide) (fun _ => ?_) (fun _ => ?_)
  · skip
    refine x_iconst C (pc := 12) dX7_stops_12 kc_i_1 ?_
    refine x_goto C (pc := 13) (tgt := 17) dX7_stops_13 (by decide) ?_
    exact x_ret dX7_stops_17 (fun h => h zb_1)
  · skip
    refine x_iconst C (pc := 16) dX7_stops_16 kc_i_0 ?_
    exact x_ret dX7_stops_17 (fun h => h zb_0)
theorem ct_X7_stops (t : Nat) (ht : kd t = 5) (s0 : SS) (r : Int32) (s2 : SS) (h : FX7_stops t s0 = some (r, s2)) : CT 0 yX7_stops cX7_stops 1 (some .boolean) 3 67 [.ref t] s0 (some (.int r)) s2 :=
  ct_ofz (by decide +kernel) rfl (lx_args [.ref t]) (lx_entry [.ref t] (fun _ => Nat.le_of_ble_eq_true rfl)) (fun o C hR => Yx.weak (lw_s lw_0) (bd_X7_stops C t ht s0 (r, s2) h hR))
def FX7_isNumber (t : Nat) (a : Int32) (b : Int32) (s0 : SS) : Option (Int32) :=
  if (gI s0 t 5) = (nI 2) then bd (FX11_within (gI s0 t 6) a b s0) (fun (r1 : Int32) => if r1 = 0 then some ((nI 0)) else (some ((nI 1)))) else (some ((nI 0)))
set_option maxRecDepth 100000 in
set_option maxHeartbeats 4000000 in
theorem bd_X7_isNumber {o : Om} (C : Cx o RX7 cX7_isNumber 3 (some .boolean) (rmx 1 22) 0) (t : Nat) (ht : kd t = 5) (a : Int32) (b : Int32) (s0 : SS) : Xo (FX7_isNumber t a b s0) (fun r => zb r = true → RT o cX7_isNumber (some (.int r)) s0) (Yx o 0 [some (.ref t), some (.int a), some (.int b)] [] s0) := by
  unfold FX7_isNumber
  refine x_aload_n C (pc := 0) dX7_isNumber_0 rfl ?_
  refine x_getI C (pc := 1) fg_X7_48 dX7_isNumber_1 ht ?_
  refine x_iconst C (pc := 4) dX7_isNumber_4 kc_i_2 ?_
  refine x_icmp_ne C (pc := 5) (tgt := 24) dX7_isNumber_5 (by decide) (fun _ => ?_) (fun _ => ?_)
  · skip
    refine x_aload_n C (pc := 8) dX7_isNumber_8 rfl ?_
    refine x_getI C (pc := 9) fg_X7_75 dX7_isNumber_9 ht ?_
    refine x_iload_n C (pc := 12) dX7_isNumber_12 rfl ?_
    refine x_iload_n C (pc := 13) dX7_isNumber_13 rfl ?_
    refine x_callNi C (pc := 14) mn_X7_112 [.int (gI s0 t 6), .int a, .int b] (fun _ hr => ct_X11_within _ _ _ _ _ hr) ⟨Nat.le_of_ble_eq_true rfl, Nat.le_of_ble_eq_true rfl⟩ rfl (Nat.le_of_ble_eq_true rfl) rfl dX7_isNumber_14 (fun r1 => ?_)
    refine x_if_eq C (pc := 17) (tgt := 24) dX7_isNumber_17 (by decide) (fun _ => ?_) (fun _ => ?_)
    · skip
      refine x_iconst C (pc := 24) dX7_isNumber_24 kc_i_0 ?_
      exact x_ret dX7_isNumber_25 (fun h => h zb_0)
    · skip
      refine x_iconst C (pc := 20) dX7_isNumber_20 kc_i_1 ?_
      refine x_goto C (pc := 21) (tgt := 25) dX7_isNumber_21 (by decide) ?_
      exact x_ret dX7_isNumber_25 (fun h => h zb_1)
  · skip
    refine x_iconst C (pc := 24) dX7_isNumber_24 kc_i_0 ?_
    exact x_ret dX7_isNumber_25 (fun h => h zb_0)
theorem ct_X7_isNumber (t : Nat) (ht : kd t = 5) (a : Int32) (b : Int32) (s0 : SS) (r : Int32) (h : FX7_isNumber t a b s0 = some r) : CT 0 yX7_isNumber cX7_isNumber 3 (some .boolean) 1 22 [.ref t, .int a, .int b] s0 (some (.int r)) s0 :=
  ct_ofz (by decide +kernel) rfl (lx_args [.ref t, .int a, .int b]) (lx_entry [.ref t, .int a, .int b] (fun _ => Nat.le_of_ble_eq_true rfl)) (fun o C hR => Yx.weak (lw_s (lw_s (lw_s lw_0))) (bd_X7_isNumber C t ht a b s0 r h hR))
def FX7_goesOnWith (t : Nat) (a : Int32) (b : Int32) (s0 : SS) : Option (Int32 × SS) :=
  bd (FX7_goOn t s0) (fun (s1 : SS) => bd (FX7_isNumber t a b s1) (fun (r2 : Int32) => gd (zb r2) (some ((r2, s1)))))
set_option maxRecDepth 100000 in
set_option maxHeartbeats 4000000 in
theorem bd_X7_goesOnWith {o : Om} (C : Cx o RX7 cX7_goesOnWith 3 (some .boolean) (rmx 3 67) 0) (t : Nat) (ht : kd t = 5) (a : Int32) (b : Int32) (s0 : SS) : Xo (FX7_goesOnWith t a b s0) (fun r => zb r.1 = true → RT o cX7_goesOnWith (some (.int r.1)) r.2) (Yx o 0 [some (.ref t), some (.int a), some (.int b)] [] s0) := by
  unfold FX7_goesOnWith
  refine x_aload_n C (pc := 0) dX7_goesOnWith_0 rfl ?_
  refine x_callVv C (pc := 1) mv_X7_33 ht rfl [] (fun _ hr => ct_X7_goOn _ ht _ _ hr) ⟨Nat.le_of_ble_eq_true rfl, Nat.le_of_ble_eq_true rfl⟩ rfl (Nat.le_of_ble_eq_true rfl) rfl dX7_goesOnWith_1 (fun s1 => ?_)
  refine x_aload_n C (pc := 4) dX7_goesOnWith_4 rfl ?_
  refine x_iload_n C (pc := 5) dX7_goesOnWith_5 rfl ?_
  refine x_iload_n C (pc := 6) dX7_goesOnWith_6 rfl ?_
  refine x_callVi C (pc := 7) mv_X7_71 ht rfl [.int a, .int b] (fun _ hr => ct_X7_isNumber _ ht _ _ _ _ hr) ⟨Nat.le_of_ble_eq_true rfl, Nat.le_of_ble_eq_true rfl⟩ rfl (Nat.le_of_ble_eq_true rfl) rfl dX7_goesOnWith_7 (fun r2 => ?_)
  refine Xo.gd (fun hz => ?_)
  exact x_ret dX7_goesOnWith_10 (fun h => h hz)
theorem ct_X7_goesOnWith (t : Nat) (ht : kd t = 5) (a : Int32) (b : Int32) (s0 : SS) (r : Int32) (s2 : SS) (h : FX7_goesOnWith t a b s0 = some (r, s2)) : CT 0 yX7_goesOnWith cX7_goesOnWith 3 (some .boolean) 3 67 [.ref t, .int a, .int b] s0 (some (.int r)) s2 :=
  ct_ofz (by decide +kernel) rfl (lx_args [.ref t, .int a, .int b]) (lx_entry [.ref t, .int a, .int b] (fun _ => Nat.le_of_ble_eq_true rfl)) (fun o C hR => Yx.weak (lw_s (lw_s (lw_s lw_0))) (bd_X7_goesOnWith C t ht a b s0 (r, s2) h hR))
def FX7_readWinds (t : Nat) (s0 : SS) : Option (Int32 × SS) :=
  nm (nI 0) (fun (i1 : Int32) => bde (lp FUEL (u2 (fun (n2 : Int32) (s3 : SS) => if (nI 8) < n2 then some (Sum.inr (Sum.inl s3)) else (bd (FX7_goOn t s3) (fun (s4 : SS) => if n2 ≤ 0 then if n2 = (nI 8) then some (Sum.inr (Sum.inr (((nI 0), s4)))) else (bd (FX7_isNumber t (nI 0) (nI 20) s4) (fun (r5 : Int32) => if r5 = 0 then some (Sum.inr (Sum.inr (((nI 0), s4)))) else (nm (gI s4 t 6) (fun (i6 : Int32) => bd2 (FX7_goesOnWith t (nI 0) (nI 1) s4) (fun (r7 : Int32) (s8 : SS) => if r7 = 0 then some (Sum.inr (Sum.inr (((nI 0), s8)))) else (bd (FX4_tellWind (lk t 2) n2 i6 (gI s8 t 6) s8) (fun (s9 : SS) => nm (n2 + (nI 1)) (fun (i10 : Int32) => some (Sum.inl (i10, s9)))))))))) else (if (gI s4 t 5) = (nI 3) then some (Sum.inr (Sum.inr (((nI 1), s4)))) else (if n2 = (nI 8) then some (Sum.inr (Sum.inr (((nI 0), s4)))) else (bd (FX7_isNumber t (nI 0) (nI 20) s4) (fun (r11 : Int32) => if r11 = 0 then some (Sum.inr (Sum.inr (((nI 0), s4)))) else (nm (gI s4 t 6) (fun (i12 : Int32) => bd2 (FX7_goesOnWith t (nI 0) (nI 1) s4) (fun (r13 : Int32) (s14 : SS) => if r13 = 0 then some (Sum.inr (Sum.inr (((nI 0), s14)))) else (bd (FX4_tellWind (lk t 2) n2 i12 (gI s14 t 6) s14) (fun (s15 : SS) => nm (n2 + (nI 1)) (fun (i16 : Int32) => some (Sum.inl (i16, s15)))))))))))))))) (i1, s0)) (fun (s17 : SS) => some (((nI 0), s17))))
set_option maxRecDepth 100000 in
set_option maxHeartbeats 4000000 in
theorem bd_X7_readWinds {o : Om} (C : Cx o RX7 cX7_readWinds 3 (some .boolean) (rmx 4 89) 0) (t : Nat) (ht : kd t = 5) (s0 : SS) : Xo (FX7_readWinds t s0) (fun r => zb r.1 = true → RT o cX7_readWinds (some (.int r.1)) r.2) (Yx o 0 [some (.ref t), none, none] [] s0) := by
  unfold FX7_readWinds
  refine x_iconst C (pc := 0) dX7_readWinds_0 kc_i_0 ?_
  refine x_istore_n C (pc := 1) (L' := fun i1 => [some (.ref t), some (.int i1), none]) dX7_readWinds_1 (by decide) (fun _ => rfl) (fun i1 => ?_)
  refine xe_1 (Z1 := (fun s17 => Yx o 79 [none, none, none] [] s17)) ?_ (fun s17 => ?_)
  · refine Xo.mono (Yx.weak (lw_s (lw_s (lw_n lw_0)))) (x_lp2 (fr := fun n2 s3 => Yx o 2 [some (.ref t), some (.int n2), none] [] s3) _ _ (fun n2 s3 => ?_))
    refine x_iload_n C (pc := 2) dX7_readWinds_2 rfl ?_
    refine x_bipush C (pc := 3) dX7_readWinds_3 kc_b_8 ?_
    refine x_icmp_gt C (pc := 5) (tgt := 79) dX7_readWinds_5 (by decide) (fun _ => ?_) (fun _ => ?_)
    · skip
      exact Xo.done (fun h => Yx.weak (lw_n (lw_n (lw_n lw_0))) h)
    · skip
      refine x_aload_n C (pc := 8) dX7_readWinds_8 rfl ?_
      refine x_callVv C (pc := 9) mv_X7_33 ht rfl [] (fun _ hr => ct_X7_goOn _ ht _ _ hr) ⟨Nat.le_of_ble_eq_true rfl, Nat.le_of_ble_eq_true rfl⟩ rfl (Nat.le_of_ble_eq_true rfl) rfl dX7_readWinds_9 (fun s4 => ?_)
      refine x_iload_n C (pc := 12) dX7_readWinds_12 rfl ?_
      refine x_if_le C (pc := 13) (tgt := 26) dX7_readWinds_13 (by decide) (fun _ => ?_) (fun _ => ?_)
      · skip
        refine x_iload_n C (pc := 26) dX7_readWinds_26 rfl ?_
        refine x_bipush C (pc := 27) dX7_readWinds_27 kc_b_8 ?_
        refine x_icmp_eq C (pc := 29) (tgt := 42) dX7_readWinds_29 (by decide) (fun _ => ?_) (fun _ => ?_)
        · skip
          refine x_iconst C (pc := 42) dX7_readWinds_42 kc_i_0 ?_
          exact x_ret dX7_readWinds_43 (fun h => h zb_0)
        · skip
          refine x_aload_n C (pc := 32) dX7_readWinds_32 rfl ?_
          refine x_iconst C (pc := 33) dX7_readWinds_33 kc_i_0 ?_
          refine x_bipush C (pc := 34) dX7_readWinds_34 kc_b_20 ?_
          refine x_callVi C (pc := 36) mv_X7_71 ht rfl [.int (nI 0), .int (nI 20)] (fun _ hr => ct_X7_isNumber _ ht _ _ _ _ hr) ⟨Nat.le_of_ble_eq_true rfl, Nat.le_of_ble_eq_true rfl⟩ rfl (Nat.le_of_ble_eq_true rfl) rfl dX7_readWinds_36 (fun r5 => ?_)
          refine x_if_ne C (pc := 39) (tgt := 44) dX7_readWinds_39 (by decide) (fun _ => ?_) (fun _ => ?_)
          · skip
            refine x_iconst C (pc := 42) dX7_readWinds_42 kc_i_0 ?_
            exact x_ret dX7_readWinds_43 (fun h => h zb_0)
          · skip
            refine x_aload_n C (pc := 44) dX7_readWinds_44 rfl ?_
            refine x_getI C (pc := 45) fg_X7_75 dX7_readWinds_45 ht ?_
            refine x_istore_n C (pc := 48) (L' := fun i6 => [some (.ref t), some (.int n2), some (.int i6)]) dX7_readWinds_48 (by decide) (fun _ => rfl) (fun i6 => ?_)
            refine x_aload_n C (pc := 49) dX7_readWinds_49 rfl ?_
            refine x_iconst C (pc := 50) dX7_readWinds_50 kc_i_0 ?_
            refine x_iconst C (pc := 51) dX7_readWinds_51 kc_i_1 ?_
            refine x_callVim C (pc := 52) mv_X7_78 ht rfl [.int (nI 0), .int (nI 1)] (fun _ _ hr => ct_X7_goesOnWith _ ht _ _ _ _ _ hr) ⟨Nat.le_of_ble_eq_true rfl, Nat.le_of_ble_eq_true rfl⟩ rfl (Nat.le_of_ble_eq_true rfl) rfl dX7_readWinds_52 (fun r7 s8 => ?_)
            refine x_if_ne C (pc := 55) (tgt := 60) dX7_readWinds_55 (by decide) (fun _ => ?_) (fun _ => ?_)
            · skip
              refine x_iconst C (pc := 58) dX7_readWinds_58 kc_i_0 ?_
              exact x_ret dX7_readWinds_59 (fun h => h zb_0)
            · skip
              refine x_aload_n C (pc := 60) dX7_readWinds_60 rfl ?_
              refine x_getR C (pc := 61) fg_X7_12 dX7_readWinds_61 ht ?_
              refine x_iload_n C (pc := 64) dX7_readWinds_64 rfl ?_
              refine x_iload_n C (pc := 65) dX7_readWinds_65 rfl ?_
              refine x_aload_n C (pc := 66) dX7_readWinds_66 rfl ?_
              refine x_getI C (pc := 67) fg_X7_75 dX7_readWinds_67 ht ?_
              refine x_callVv C (pc := 70) mv_X7_81 (lkd_5_2 ht) rfl [.int n2, .int i6, .int (gI s8 t 6)] (fun _ hr => ct_X4_tellWind _ (lkd_5_2 ht) _ _ _ _ _ hr) ⟨Nat.le_of_ble_eq_true rfl, Nat.le_of_ble_eq_true rfl⟩ rfl (Nat.le_of_ble_eq_true rfl) rfl dX7_readWinds_70 (fun s9 => ?_)
              refine x_iinc C (pc := 73) (L' := fun i10 => [some (.ref t), some (.int i10), some (.int i6)]) dX7_readWinds_73 rfl kc_i_1 (by decide) (fun _ => rfl) (fun i10 => ?_)
              refine x_goto C (pc := 76) (tgt := 2) dX7_readWinds_76 (by decide) ?_
              exact Xo.done (fun h => Yx.weak (lw_s (lw_s (lw_n lw_0))) h)
      · skip
        refine x_aload_n C (pc := 16) dX7_readWinds_16 rfl ?_
        refine x_getI C (pc := 17) fg_X7_48 dX7_readWinds_17 ht ?_
        refine x_iconst C (pc := 20) dX7_readWinds_20 kc_i_3 ?_
        refine x_icmp_ne C (pc := 21) (tgt := 26) dX7_readWinds_21 (by decide) (fun _ => ?_) (fun _ => ?_)
        · skip
          refine x_iconst C (pc := 24) dX7_readWinds_24 kc_i_1 ?_
          exact x_ret dX7_readWinds_25 (fun h => h zb_1)
        · skip
          refine x_iload_n C (pc := 26) dX7_readWinds_26 rfl ?_
          refine x_bipush C (pc := 27) dX7_readWinds_27 kc_b_8 ?_
          refine x_icmp_eq C (pc := 29) (tgt := 42) dX7_readWinds_29 (by decide) (fun _ => ?_) (fun _ => ?_)
          · skip
            refine x_iconst C (pc := 42) dX7_readWinds_42 kc_i_0 ?_
            exact x_ret dX7_readWinds_43 (fun h => h zb_0)
          · skip
            refine x_aload_n C (pc := 32) dX7_readWinds_32 rfl ?_
            refine x_iconst C (pc := 33) dX7_readWinds_33 kc_i_0 ?_
            refine x_bipush C (pc := 34) dX7_readWinds_34 kc_b_20 ?_
            refine x_callVi C (pc := 36) mv_X7_71 ht rfl [.int (nI 0), .int (nI 20)] (fun _ hr => ct_X7_isNumber _ ht _ _ _ _ hr) ⟨Nat.le_of_ble_eq_true rfl, Nat.le_of_ble_eq_true rfl⟩ rfl (Nat.le_of_ble_eq_true rfl) rfl dX7_readWinds_36 (fun r11 => ?_)
            refine x_if_ne C (pc := 39) (tgt := 44) dX7_readWinds_39 (by decide) (fun _ => ?_) (fun _ => ?_)
            · skip
              refine x_iconst C (pc := 42) dX7_readWinds_42 kc_i_0 ?_
              exact x_ret dX7_readWinds_43 (fun h => h zb_0)
            · skip
              refine x_aload_n C (pc := 44) dX7_readWinds_44 rfl ?_
              refine x_getI C (pc := 45) fg_X7_75 dX7_readWinds_45 ht ?_
              refine x_istore_n C (pc := 48) (L' := fun i12 => [some (.ref t), some (.int n2), some (.int i12)]) dX7_readWinds_48 (by decide) (fun _ => rfl) (fun i12 => ?_)
              refine x_aload_n C (pc := 49) dX7_readWinds_49 rfl ?_
              refine x_iconst C (pc := 50) dX7_readWinds_50 kc_i_0 ?_
              refine x_iconst C (pc := 51) dX7_readWinds_51 kc_i_1 ?_
              refine x_callVim C (pc := 52) mv_X7_78 ht rfl [.int (nI 0), .int (nI 1)] (fun _ _ hr => ct_X7_goesOnWith _ ht _ _ _ _ _ hr) ⟨Nat.le_of_ble_eq_true rfl, Nat.le_of_ble_eq_true rfl⟩ rfl (Nat.le_of_ble_eq_true rfl) rfl dX7_readWinds_52 (fun r13 s14 => ?_)
              refine x_if_ne C (pc := 55) (tgt := 60) dX7_readWinds_55 (by decide) (fun _ => ?_) (fun _ => ?_)
              · skip
                refine x_iconst C (pc := 58) dX7_readWinds_58 kc_i_0 ?_
                exact x_ret dX7_readWinds_59 (fun h => h zb_0)
              · skip
                refine x_aload_n C (pc := 60) dX7_readWinds_60 rfl ?_
                refine x_getR C (pc := 61) fg_X7_12 dX7_readWinds_61 ht ?_
                refine x_iload_n C (pc := 64) dX7_readWinds_64 rfl ?_
                refine x_iload_n C (pc := 65) dX7_readWinds_65 rfl ?_
                refine x_aload_n C (pc := 66) dX7_readWinds_66 rfl ?_
                refine x_getI C (pc := 67) fg_X7_75 dX7_readWinds_67 ht ?_
                refine x_callVv C (pc := 70) mv_X7_81 (lkd_5_2 ht) rfl [.int n2, .int i12, .int (gI s14 t 6)] (fun _ hr => ct_X4_tellWind _ (lkd_5_2 ht) _ _ _ _ _ hr) ⟨Nat.le_of_ble_eq_true rfl, Nat.le_of_ble_eq_true rfl⟩ rfl (Nat.le_of_ble_eq_true rfl) rfl dX7_readWinds_70 (fun s15 => ?_)
                refine x_iinc C (pc := 73) (L' := fun i16 => [some (.ref t), some (.int i16), some (.int i12)]) dX7_readWinds_73 rfl kc_i_1 (by decide) (fun _ => rfl) (fun i16 => ?_)
                refine x_goto C (pc := 76) (tgt := 2) dX7_readWinds_76 (by decide) ?_
                exact Xo.done (fun h => Yx.weak (lw_s (lw_s (lw_n lw_0))) h)
  refine x_iconst C (pc := 79) dX7_readWinds_79 kc_i_0 ?_
  exact x_ret dX7_readWinds_80 (fun h => h zb_0)
theorem ct_X7_readWinds (t : Nat) (ht : kd t = 5) (s0 : SS) (r : Int32) (s2 : SS) (h : FX7_readWinds t s0 = some (r, s2)) : CT 0 yX7_readWinds cX7_readWinds 3 (some .boolean) 4 89 [.ref t] s0 (some (.int r)) s2 :=
  ct_ofz (by decide +kernel) rfl (lx_args [.ref t]) (lx_entry [.ref t] (fun _ => Nat.le_of_ble_eq_true rfl)) (fun o C hR => Yx.weak (lw_s (lw_z (lw_z lw_0))) (bd_X7_readWinds C t ht s0 (r, s2) h hR))
def FX7_readUser (t : Nat) (s0 : SS) : Option (Int32 × SS) :=
  bd (FX9_isFull (lk (lk t 2) 2) s0) (fun (r1 : Int32) => if r1 = 0 then bd2 (FX7_goesOnWith t (nI 0) (nI 5) s0) (fun (r2 : Int32) (s3 : SS) => if r2 = 0 then some (((nI 0), s3)) else (nm (gI s3 t 6) (fun (i4 : Int32) => bd2 (FX7_goesOnWith t (nI 0) (nI 11) s3) (fun (r5 : Int32) (s6 : SS) => if r5 = 0 then some (((nI 0), s6)) else (nm (gI s6 t 6) (fun (i7 : Int32) => bd2 (FX7_goesOnWith t (nI 1) (nI 4) s6) (fun (r8 : Int32) (s9 : SS) => if r8 = 0 then some (((nI 0), s9)) else (bd2 (FX4_addUser (lk t 2) i4 i7 (gI s9 t 6) s9) (fun (r10 : Int32) (s11 : SS) => bd2 (FX7_stops t s11) (fun (r12 : Int32) (s13 : SS) => gd (zb r12) (some ((r12, s13))))))))))))) else (some (((nI 0), s0))))
set_option maxRecDepth 100000 in
set_option maxHeartbeats 4000000 in
theorem bd_X7_readUser {o : Om} (C : Cx o RX7 cX7_readUser 3 (some .boolean) (rmx 4 89) 0) (t : Nat) (ht : kd t = 5) (s0 : SS) : Xo (FX7_readUser t s0) (fun r => zb r.1 = true → RT o cX7_readUser (some (.int r.1)) r.2) (Yx o 0 [some (.ref t), none, none] [] s0) := by
  unfold FX7_readUser
  refine x_aload_n C (pc := 0) dX7_readUser_0 rfl ?_
  refine x_getR C (pc := 1) fg_X7_12 dX7_readUser_1 ht ?_
  refine x_getR C (pc := 4) fg_X7_85 dX7_readUser_4 (lkd_5_2 ht) ?_
  refine x_callVi C (pc := 7) mv_X7_89 (lkd_4_2 (lkd_5_2 ht)) rfl [] (fun _ hr => ct_X9_isFull _ (lkd_4_2 (lkd_5_2 ht)) _ _ hr) ⟨Nat.le_of_ble_eq_true rfl, Nat.le_of_ble_eq_true rfl⟩ rfl (Nat.le_of_ble_eq_true rfl) rfl dX7_readUser_7 (fun r1 => ?_)
  refine x_if_ne C (pc := 10) (tgt := 22) dX7_readUser_10 (by decide) (fun _ => ?_) (fun _ => ?_)
  · skip
    refine x_aload_n C (pc := 13) dX7_readUser_13 rfl ?_
    refine x_iconst C (pc := 14) dX7_readUser_14 kc_i_0 ?_
    refine x_iconst C (pc := 15) dX7_readUser_15 kc_i_5 ?_
    refine x_callVim C (pc := 16) mv_X7_78 ht rfl [.int (nI 0), .int (nI 5)] (fun _ _ hr => ct_X7_goesOnWith _ ht _ _ _ _ _ hr) ⟨Nat.le_of_ble_eq_true rfl, Nat.le_of_ble_eq_true rfl⟩ rfl (Nat.le_of_ble_eq_true rfl) rfl dX7_readUser_16 (fun r2 s3 => ?_)
    refine x_if_ne C (pc := 19) (tgt := 24) dX7_readUser_19 (by decide) (fun _ => ?_) (fun _ => ?_)
    · skip
      refine x_iconst C (pc := 22) dX7_readUser_22 kc_i_0 ?_
      exact x_ret dX7_readUser_23 (fun h => h zb_0)
    · skip
      refine x_aload_n C (pc := 24) dX7_readUser_24 rfl ?_
      refine x_getI C (pc := 25) fg_X7_75 dX7_readUser_25 ht ?_
      refine x_istore_n C (pc := 28) (L' := fun i4 => [some (.ref t), some (.int i4), none]) dX7_readUser_28 (by decide) (fun _ => rfl) (fun i4 => ?_)
      refine x_aload_n C (pc := 29) dX7_readUser_29 rfl ?_
      refine x_iconst C (pc := 30) dX7_readUser_30 kc_i_0 ?_
      refine x_bipush C (pc := 31) dX7_readUser_31 kc_b_11 ?_
      refine x_callVim C (pc := 33) mv_X7_78 ht rfl [.int (nI 0), .int (nI 11)] (fun _ _ hr => ct_X7_goesOnWith _ ht _ _ _ _ _ hr) ⟨Nat.le_of_ble_eq_true rfl, Nat.le_of_ble_eq_true rfl⟩ rfl (Nat.le_of_ble_eq_true rfl) rfl dX7_readUser_33 (fun r5 s6 => ?_)
      refine x_if_ne C (pc := 36) (tgt := 41) dX7_readUser_36 (by decide) (fun _ => ?_) (fun _ => ?_)
      · skip
        refine x_iconst C (pc := 39) dX7_readUser_39 kc_i_0 ?_
        exact x_ret dX7_readUser_40 (fun h => h zb_0)
      · skip
        refine x_aload_n C (pc := 41) dX7_readUser_41 rfl ?_
        refine x_getI C (pc := 42) fg_X7_75 dX7_readUser_42 ht ?_
        refine x_istore_n C (pc := 45) (L' := fun i7 => [some (.ref t), some (.int i4), some (.int i7)]) dX7_readUser_45 (by decide) (fun _ => rfl) (fun i7 => ?_)
        refine x_aload_n C (pc := 46) dX7_readUser_46 rfl ?_
        refine x_iconst C (pc := 47) dX7_readUser_47 kc_i_1 ?_
        refine x_iconst C (pc := 48) dX7_readUser_48 kc_i_4 ?_
        refine x_callVim C (pc := 49) mv_X7_78 ht rfl [.int (nI 1), .int (nI 4)] (fun _ _ hr => ct_X7_goesOnWith _ ht _ _ _ _ _ hr) ⟨Nat.le_of_ble_eq_true rfl, Nat.le_of_ble_eq_true rfl⟩ rfl (Nat.le_of_ble_eq_true rfl) rfl dX7_readUser_49 (fun r8 s9 => ?_)
        refine x_if_ne C (pc := 52) (tgt := 57) dX7_readUser_52 (by decide) (fun _ => ?_) (fun _ => ?_)
        · skip
          refine x_iconst C (pc := 55) dX7_readUser_55 kc_i_0 ?_
          exact x_ret dX7_readUser_56 (fun h => h zb_0)
        · skip
          refine x_aload_n C (pc := 57) dX7_readUser_57 rfl ?_
          refine x_getR C (pc := 58) fg_X7_12 dX7_readUser_58 ht ?_
          refine x_iload_n C (pc := 61) dX7_readUser_61 rfl ?_
          refine x_iload_n C (pc := 62) dX7_readUser_62 rfl ?_
          refine x_aload_n C (pc := 63) dX7_readUser_63 rfl ?_
          refine x_getI C (pc := 64) fg_X7_75 dX7_readUser_64 ht ?_
          refine x_callVim C (pc := 67) mv_X7_94 (lkd_5_2 ht) rfl [.int i4, .int i7, .int (gI s9 t 6)] (fun _ _ hr => ct_X4_addUser _ (lkd_5_2 ht) _ _ _ _ _ _ hr) ⟨Nat.le_of_ble_eq_true rfl, Nat.le_of_ble_eq_true rfl⟩ rfl (Nat.le_of_ble_eq_true rfl) rfl dX7_readUser_67 (fun r10 s11 => ?_)
          refine x_pop C (pc := 70) dX7_readUser_70 rfl ?_
          refine x_aload_n C (pc := 71) dX7_readUser_71 rfl ?_
          refine x_callVim C (pc := 72) mv_X7_41 ht rfl [] (fun _ _ hr => ct_X7_stops _ ht _ _ _ hr) ⟨Nat.le_of_ble_eq_true rfl, Nat.le_of_ble_eq_true rfl⟩ rfl (Nat.le_of_ble_eq_true rfl) rfl dX7_readUser_72 (fun r12 s13 => ?_)
          refine Xo.gd (fun hz => ?_)
          exact x_ret dX7_readUser_75 (fun h => h hz)
  · skip
    refine x_iconst C (pc := 22) dX7_readUser_22 kc_i_0 ?_
    exact x_ret dX7_readUser_23 (fun h => h zb_0)
theorem ct_X7_readUser (t : Nat) (ht : kd t = 5) (s0 : SS) (r : Int32) (s2 : SS) (h : FX7_readUser t s0 = some (r, s2)) : CT 0 yX7_readUser cX7_readUser 3 (some .boolean) 4 89 [.ref t] s0 (some (.int r)) s2 :=
  ct_ofz (by decide +kernel) rfl (lx_args [.ref t]) (lx_entry [.ref t] (fun _ => Nat.le_of_ble_eq_true rfl)) (fun o C hR => Yx.weak (lw_s (lw_z (lw_z lw_0))) (bd_X7_readUser C t ht s0 (r, s2) h hR))
def FX7_readSuit (t : Nat) (s0 : SS) : Option (Int32 × SS) :=
  bd (FX9_isFull (lk (lk t 2) 3) s0) (fun (r1 : Int32) => if r1 = 0 then bd2 (FX7_goesOnWith t (nI 0) (nI 5) s0) (fun (r2 : Int32) (s3 : SS) => if r2 = 0 then some (((nI 0), s3)) else (nm (gI s3 t 6) (fun (i4 : Int32) => bd2 (FX7_goesOnWith t (nI 0) ((gI s3 (lk (lk t 2) 2) 3) - (nI 1)) s3) (fun (r5 : Int32) (s6 : SS) => if r5 = 0 then some (((nI 0), s6)) else (bd2 (FX4_fileSuit (lk t 2) i4 (gI s6 t 6) s6) (fun (r7 : Int32) (s8 : SS) => bd2 (FX7_stops t s8) (fun (r9 : Int32) (s10 : SS) => gd (zb r9) (some ((r9, s10)))))))))) else (some (((nI 0), s0))))
set_option maxRecDepth 100000 in
set_option maxHeartbeats 4000000 in
theorem bd_X7_readSuit {o : Om} (C : Cx o RX7 cX7_readSuit 2 (some .boolean) (rmx 4 89) 0) (t : Nat) (ht : kd t = 5) (s0 : SS) : Xo (FX7_readSuit t s0) (fun r => zb r.1 = true → RT o cX7_readSuit (some (.int r.1)) r.2) (Yx o 0 [some (.ref t), none] [] s0) := by
  unfold FX7_readSuit
  refine x_aload_n C (pc := 0) dX7_readSuit_0 rfl ?_
  refine x_getR C (pc := 1) fg_X7_12 dX7_readSuit_1 ht ?_
  refine x_getR C (pc := 4) fg_X7_98 dX7_readSuit_4 (lkd_5_2 ht) ?_
  refine x_callVi C (pc := 7) mv_X7_89 (lkd_4_3 (lkd_5_2 ht)) rfl [] (fun _ hr => ct_X9_isFull _ (lkd_4_3 (lkd_5_2 ht)) _ _ hr) ⟨Nat.le_of_ble_eq_true rfl, Nat.le_of_ble_eq_true rfl⟩ rfl (Nat.le_of_ble_eq_true rfl) rfl dX7_readSuit_7 (fun r1 => ?_)
  refine x_if_ne C (pc := 10) (tgt := 22) dX7_readSuit_10 (by decide) (fun _ => ?_) (fun _ => ?_)
  · skip
    refine x_aload_n C (pc := 13) dX7_readSuit_13 rfl ?_
    refine x_iconst C (pc := 14) dX7_readSuit_14 kc_i_0 ?_
    refine x_iconst C (pc := 15) dX7_readSuit_15 kc_i_5 ?_
    refine x_callVim C (pc := 16) mv_X7_78 ht rfl [.int (nI 0), .int (nI 5)] (fun _ _ hr => ct_X7_goesOnWith _ ht _ _ _ _ _ hr) ⟨Nat.le_of_ble_eq_true rfl, Nat.le_of_ble_eq_true rfl⟩ rfl (Nat.le_of_ble_eq_true rfl) rfl dX7_readSuit_16 (fun r2 s3 => ?_)
    refine x_if_ne C (pc := 19) (tgt := 24) dX7_readSuit_19 (by decide) (fun _ => ?_) (fun _ => ?_)
    · skip
      refine x_iconst C (pc := 22) dX7_readSuit_22 kc_i_0 ?_
      exact x_ret dX7_readSuit_23 (fun h => h zb_0)
    · skip
      refine x_aload_n C (pc := 24) dX7_readSuit_24 rfl ?_
      refine x_getI C (pc := 25) fg_X7_75 dX7_readSuit_25 ht ?_
      refine x_istore_n C (pc := 28) (L' := fun i4 => [some (.ref t), some (.int i4)]) dX7_readSuit_28 (by decide) (fun _ => rfl) (fun i4 => ?_)
      refine x_aload_n C (pc := 29) dX7_readSuit_29 rfl ?_
      refine x_iconst C (pc := 30) dX7_readSuit_30 kc_i_0 ?_
      refine x_aload_n C (pc := 31) dX7_readSuit_31 rfl ?_
      refine x_getR C (pc := 32) fg_X7_12 dX7_readSuit_32 ht ?_
      refine x_getR C (pc := 35) fg_X7_85 dX7_readSuit_35 (lkd_5_2 ht) ?_
      refine x_getI C (pc := 38) fg_X7_101 dX7_readSuit_38 (lkd_4_2 (lkd_5_2 ht)) ?_
      refine x_iconst C (pc := 41) dX7_readSuit_41 kc_i_1 ?_
      refine x_isub C (pc := 42) dX7_readSuit_42 ?_
      refine x_callVim C (pc := 43) mv_X7_78 ht rfl [.int (nI 0), .int ((gI s3 (lk (lk t 2) 2) 3) - (nI 1))] (fun _ _ hr => ct_X7_goesOnWith _ ht _ _ _ _ _ hr) ⟨Nat.le_of_ble_eq_true rfl, Nat.le_of_ble_eq_true rfl⟩ rfl (Nat.le_of_ble_eq_true rfl) rfl dX7_readSuit_43 (fun r5 s6 => ?_)
      refine x_if_ne C (pc := 46) (tgt := 51) dX7_readSuit_46 (by decide) (fun _ => ?_) (fun _ => ?_)
      · skip
        refine x_iconst C (pc := 49) dX7_readSuit_49 kc_i_0 ?_
        exact x_ret dX7_readSuit_50 (fun h => h zb_0)
      · skip
        refine x_aload_n C (pc := 51) dX7_readSuit_51 rfl ?_
        refine x_getR C (pc := 52) fg_X7_12 dX7_readSuit_52 ht ?_
        refine x_iload_n C (pc := 55) dX7_readSuit_55 rfl ?_
        refine x_aload_n C (pc := 56) dX7_readSuit_56 rfl ?_
        refine x_getI C (pc := 57) fg_X7_75 dX7_readSuit_57 ht ?_
        refine x_callVim C (pc := 60) mv_X7_104 (lkd_5_2 ht) rfl [.int i4, .int (gI s6 t 6)] (fun _ _ hr => ct_X4_fileSuit _ (lkd_5_2 ht) _ _ _ _ _ hr) ⟨Nat.le_of_ble_eq_true rfl, Nat.le_of_ble_eq_true rfl⟩ rfl (Nat.le_of_ble_eq_true rfl) rfl dX7_readSuit_60 (fun r7 s8 => ?_)
        refine x_pop C (pc := 63) dX7_readSuit_63 rfl ?_
        refine x_aload_n C (pc := 64) dX7_readSuit_64 rfl ?_
        refine x_callVim C (pc := 65) mv_X7_41 ht rfl [] (fun _ _ hr => ct_X7_stops _ ht _ _ _ hr) ⟨Nat.le_of_ble_eq_true rfl, Nat.le_of_ble_eq_true rfl⟩ rfl (Nat.le_of_ble_eq_true rfl) rfl dX7_readSuit_65 (fun r9 s10 => ?_)
        refine Xo.gd (fun hz => ?_)
        exact x_ret dX7_readSuit_68 (fun h => h hz)
  · skip
    refine x_iconst C (pc := 22) dX7_readSuit_22 kc_i_0 ?_
    exact x_ret dX7_readSuit_23 (fun h => h zb_0)
theorem ct_X7_readSuit (t : Nat) (ht : kd t = 5) (s0 : SS) (r : Int32) (s2 : SS) (h : FX7_readSuit t s0 = some (r, s2)) : CT 0 yX7_readSuit cX7_readSuit 2 (some .boolean) 4 89 [.ref t] s0 (some (.int r)) s2 :=
  ct_ofz (by decide +kernel) rfl (lx_args [.ref t]) (lx_entry [.ref t] (fun _ => Nat.le_of_ble_eq_true rfl)) (fun o C hR => Yx.weak (lw_s (lw_z lw_0)) (bd_X7_readSuit C t ht s0 (r, s2) h hR))
def FX7_readHours (t : Nat) (s0 : SS) : Option (Int32 × SS) :=
  bd2 (FX7_goesOnWith t (nI 1) (nI 99) s0) (fun (r1 : Int32) (s2 : SS) => if r1 = 0 then some (((nI 0), s2)) else (bd2 (FX4_passHours (lk t 2) (gI s2 t 6) (lk t 1) s2) (fun (r3 : Int32) (s4 : SS) => bd2 (FX7_stops t s4) (fun (r5 : Int32) (s6 : SS) => gd (zb r5) (some ((r5, s6)))))))
set_option maxRecDepth 100000 in
set_option maxHeartbeats 4000000 in
theorem bd_X7_readHours {o : Om} (C : Cx o RX7 cX7_readHours 1 (some .boolean) (rmx 5 127) 0) (t : Nat) (ht : kd t = 5) (s0 : SS) : Xo (FX7_readHours t s0) (fun r => zb r.1 = true → RT o cX7_readHours (some (.int r.1)) r.2) (Yx o 0 [some (.ref t)] [] s0) := by
  unfold FX7_readHours
  refine x_aload_n C (pc := 0) dX7_readHours_0 rfl ?_
  refine x_iconst C (pc := 1) dX7_readHours_1 kc_i_1 ?_
  refine x_bipush C (pc := 2) dX7_readHours_2 kc_b_99 ?_
  refine x_callVim C (pc := 4) mv_X7_78 ht rfl [.int (nI 1), .int (nI 99)] (fun _ _ hr => ct_X7_goesOnWith _ ht _ _ _ _ _ hr) ⟨Nat.le_of_ble_eq_true rfl, Nat.le_of_ble_eq_true rfl⟩ rfl (Nat.le_of_ble_eq_true rfl) rfl dX7_readHours_4 (fun r1 s2 => ?_)
  refine x_if_ne C (pc := 7) (tgt := 12) dX7_readHours_7 (by decide) (fun _ => ?_) (fun _ => ?_)
  · skip
    refine x_iconst C (pc := 10) dX7_readHours_10 kc_i_0 ?_
    exact x_ret dX7_readHours_11 (fun h => h zb_0)
  · skip
    refine x_aload_n C (pc := 12) dX7_readHours_12 rfl ?_
    refine x_getR C (pc := 13) fg_X7_12 dX7_readHours_13 ht ?_
    refine x_aload_n C (pc := 16) dX7_readHours_16 rfl ?_
    refine x_getI C (pc := 17) fg_X7_75 dX7_readHours_17 ht ?_
    refine x_aload_n C (pc := 20) dX7_readHours_20 rfl ?_
    refine x_getR C (pc := 21) fg_X7_22 dX7_readHours_21 ht ?_
    refine x_callVim C (pc := 24) mv_X7_108 (lkd_5_2 ht) rfl [.int (gI s2 t 6), .ref (lk t 1)] (fun _ _ hr => ct_X4_passHours _ (lkd_5_2 ht) _ _ (lkd_5_1 ht) _ _ _ hr) ⟨Nat.le_of_ble_eq_true rfl, Nat.le_of_ble_eq_true rfl⟩ rfl (Nat.le_of_ble_eq_true rfl) rfl dX7_readHours_24 (fun r3 s4 => ?_)
    refine x_pop C (pc := 27) dX7_readHours_27 rfl ?_
    refine x_aload_n C (pc := 28) dX7_readHours_28 rfl ?_
    refine x_callVim C (pc := 29) mv_X7_41 ht rfl [] (fun _ _ hr => ct_X7_stops _ ht _ _ _ hr) ⟨Nat.le_of_ble_eq_true rfl, Nat.le_of_ble_eq_true rfl⟩ rfl (Nat.le_of_ble_eq_true rfl) rfl dX7_readHours_29 (fun r5 s6 => ?_)
    refine Xo.gd (fun hz => ?_)
    exact x_ret dX7_readHours_32 (fun h => h hz)
theorem ct_X7_readHours (t : Nat) (ht : kd t = 5) (s0 : SS) (r : Int32) (s2 : SS) (h : FX7_readHours t s0 = some (r, s2)) : CT 0 yX7_readHours cX7_readHours 1 (some .boolean) 5 127 [.ref t] s0 (some (.int r)) s2 :=
  ct_ofz (by decide +kernel) rfl (lx_args [.ref t]) (lx_entry [.ref t] (fun _ => Nat.le_of_ble_eq_true rfl)) (fun o C hR => Yx.weak (lw_s lw_0) (bd_X7_readHours C t ht s0 (r, s2) h hR))
def FX7_parse (t : Nat) (s0 : SS) : Option (Int32 × SS) :=
  bd (FX4_reset (lk t 2) s0) (fun (s1 : SS) => nm (pI s1 t 4 (nI 0)) (fun (s2 : SS) => bd (FX7_goOn t s2) (fun (s3 : SS) => bd (FX7_isWord t (100 + 0) s3) (fun (r4 : Int32) => if r4 = 0 then some ((((-10 : Int32) - (gI s3 t 3)), s3)) else (bd2 (FX7_stops t s3) (fun (r5 : Int32) (s6 : SS) => if r5 = 0 then some ((((-10 : Int32) - (gI s6 t 3)), s6)) else (nm (nI 1) (fun (i7 : Int32) => nm (nI 0) (fun (i8 : Int32) => bde (lp FUEL (u3 (fun (n9 : Int32) (n10 : Int32) (s11 : SS) => if (nI 150) ≤ n10 then some (Sum.inr (Sum.inl (n9, s11))) else (bd (FX7_goOn t s11) (fun (s12 : SS) => if (gI s12 t 5) = 0 then some (Sum.inr (Sum.inr ((n9, s12)))) else (nm (nI 0) (fun (i13 : Int32) => bd (FX7_isWord t (100 + 1) s12) (fun (r14 : Int32) => bd (if r14 = 0 then bd (FX7_isWord t (100 + 2) s12) (fun (r15 : Int32) => if r15 = 0 then bd (FX7_isWord t (100 + 3) s12) (fun (r16 : Int32) => if r16 = 0 then bd (FX7_isWord t (100 + 4) s12) (fun (r17 : Int32) => if r17 = 0 then some ((i13, s12)) else (bd2 (FX7_readHours t s12) (fun (r18 : Int32) (s19 : SS) => nm r18 (fun (i20 : Int32) => some ((i20, s19)))))) else (bd2 (FX7_readSuit t s12) (fun (r21 : Int32) (s22 : SS) => nm r21 (fun (i23 : Int32) => some ((i23, s22)))))) else (bd2 (FX7_readUser t s12) (fun (r24 : Int32) (s25 : SS) => nm r24 (fun (i26 : Int32) => some ((i26, s25)))))) else (bd2 (FX7_readWinds t s12) (fun (r27 : Int32) (s28 : SS) => nm r27 (fun (i29 : Int32) => some ((i29, s28)))))) (u2 (fun (j30 : Int32) (s31 : SS) => if j30 = 0 then some (Sum.inr (Sum.inr ((((-10 : Int32) - (gI s31 t 3)), s31)))) else (nm (n9 + (nI 1)) (fun (i32 : Int32) => nm (n10 + (nI 1)) (fun (i33 : Int32) => some (Sum.inl (i32, i33, s31)))))))))))))) (i7, i8, s6)) (u2 (fun (e34 : Int32) (s35 : SS) => some ((e34, s35)))))))))))))
set_option maxRecDepth 100000 in
set_option maxHeartbeats 4000000 in
theorem bd_X7_parse {o : Om} (C : Cx o RX7 cX7_parse 4 (some .int) (rmx 6 147) 0) (t : Nat) (ht : kd t = 5) (s0 : SS) : Xo (FX7_parse t s0) (fun r => RT o cX7_parse (some (.int r.1)) r.2) (Yx o 0 [some (.ref t), none, none, none] [] s0) := by
  unfold FX7_parse
  refine x_aload_n C (pc := 0) dX7_parse_0 rfl ?_
  refine x_getR C (pc := 1) fg_X7_12 dX7_parse_1 ht ?_
  refine x_callVv C (pc := 4) mv_X7_26 (lkd_5_2 ht) rfl [] (fun _ hr => ct_X4_reset _ (lkd_5_2 ht) _ _ hr) ⟨Nat.le_of_ble_eq_true rfl, Nat.le_of_ble_eq_true rfl⟩ rfl (Nat.le_of_ble_eq_true rfl) rfl dX7_parse_4 (fun s1 => ?_)
  refine x_aload_n C (pc := 7) dX7_parse_7 rfl ?_
  refine x_iconst C (pc := 8) dX7_parse_8 kc_i_0 ?_
  refine x_putIn C (pc := 9) fp_X7_29 dX7_parse_9 ht (fun s2 => ?_)
  refine x_aload_n C (pc := 12) dX7_parse_12 rfl ?_
  refine x_callVv C (pc := 13) mv_X7_33 ht rfl [] (fun _ hr => ct_X7_goOn _ ht _ _ hr) ⟨Nat.le_of_ble_eq_true rfl, Nat.le_of_ble_eq_true rfl⟩ rfl (Nat.le_of_ble_eq_true rfl) rfl dX7_parse_13 (fun s3 => ?_)
  refine x_aload_n C (pc := 16) dX7_parse_16 rfl ?_
  refine x_ldcS C (pc := 17) (i := 0) rfl (by decide) rfl dX7_parse_17 ?_
  refine x_callVi C (pc := 19) mv_X7_37 ht rfl [.ref (100 + 0)] (fun _ hr => ct_X7_isWord _ ht _ (by decide) _ _ hr) ⟨Nat.le_of_ble_eq_true rfl, Nat.le_of_ble_eq_true rfl⟩ rfl (Nat.le_of_ble_eq_true rfl) rfl dX7_parse_19 (fun r4 => ?_)
  refine x_if_eq C (pc := 22) (tgt := 32) dX7_parse_22 (by decide) (fun _ => ?_) (fun _ => ?_)
  · skip
    refine x_bipush C (pc := 32) dX7_parse_32 kc_b_m10 ?_
    refine x_aload_n C (pc := 34) dX7_parse_34 rfl ?_
    refine x_getI C (pc := 35) fg_X7_45 dX7_parse_35 ht ?_
    refine x_isub C (pc := 38) dX7_parse_38 ?_
    exact x_ret dX7_parse_39 (fun h => h)
  · skip
    refine x_aload_n C (pc := 25) dX7_parse_25 rfl ?_
    refine x_callVim C (pc := 26) mv_X7_41 ht rfl [] (fun _ _ hr => ct_X7_stops _ ht _ _ _ hr) ⟨Nat.le_of_ble_eq_true rfl, Nat.le_of_ble_eq_true rfl⟩ rfl (Nat.le_of_ble_eq_true rfl) rfl dX7_parse_26 (fun r5 s6 => ?_)
    refine x_if_ne C (pc := 29) (tgt := 40) dX7_parse_29 (by decide) (fun _ => ?_) (fun _ => ?_)
    · skip
      refine x_bipush C (pc := 32) dX7_parse_32 kc_b_m10 ?_
      refine x_aload_n C (pc := 34) dX7_parse_34 rfl ?_
      refine x_getI C (pc := 35) fg_X7_45 dX7_parse_35 ht ?_
      refine x_isub C (pc := 38) dX7_parse_38 ?_
      exact x_ret dX7_parse_39 (fun h => h)
    · skip
      refine x_iconst C (pc := 40) dX7_parse_40 kc_i_1 ?_
      refine x_istore_n C (pc := 41) (L' := fun i7 => [some (.ref t), some (.int i7), none, none]) dX7_parse_41 (by decide) (fun _ => rfl) (fun i7 => ?_)
      refine x_iconst C (pc := 42) dX7_parse_42 kc_i_0 ?_
      refine x_istore_n C (pc := 43) (L' := fun i8 => [some (.ref t), some (.int i7), some (.int i8), none]) dX7_parse_43 (by decide) (fun _ => rfl) (fun i8 => ?_)
      refine xe_2 (Z1 := (fun e34 s35 => Yx o 152 [none, some (.int e34), none, none] [] s35)) ?_ (fun e34 s35 => ?_)
      · refine Xo.mono (Yx.weak (lw_s (lw_s (lw_s (lw_n lw_0))))) (x_lp3 (fr := fun n9 n10 s11 => Yx o 44 [some (.ref t), some (.int n9), some (.int n10), none] [] s11) _ _ _ (fun n9 n10 s11 => ?_))
        refine x_iload_n C (pc := 44) dX7_parse_44 rfl ?_
        refine x_sipush C (pc := 45) dX7_parse_45 kc_s_150 ?_
        refine x_icmp_ge C (pc := 48) (tgt := 152) dX7_parse_48 (by decide) (fun _ => ?_) (fun _ => ?_)
        · skip
          exact Xo.done (fun h => Yx.weak (lw_n (lw_s (lw_n (lw_n lw_0)))) h)
        · skip
          refine x_aload_n C (pc := 51) dX7_parse_51 rfl ?_
          refine x_callVv C (pc := 52) mv_X7_33 ht rfl [] (fun _ hr => ct_X7_goOn _ ht _ _ hr) ⟨Nat.le_of_ble_eq_true rfl, Nat.le_of_ble_eq_true rfl⟩ rfl (Nat.le_of_ble_eq_true rfl) rfl dX7_parse_52 (fun s12 => ?_)
          refine x_aload_n C (pc := 55) dX7_parse_55 rfl ?_
          refine x_getI C (pc := 56) fg_X7_48 dX7_parse_56 ht ?_
          refine x_if_ne C (pc := 59) (tgt := 64) dX7_parse_59 (by decide) (fun _ => ?_) (fun _ => ?_)
          · skip
            refine x_iload_n C (pc := 62) dX7_parse_62 rfl ?_
            exact x_ret dX7_parse_63 (fun h => h)
          · skip
            refine x_iconst C (pc := 64) dX7_parse_64 kc_i_0 ?_
            refine x_istore_n C (pc := 65) (L' := fun i13 => [some (.ref t), some (.int n9), some (.int n10), some (.int i13)]) dX7_parse_65 (by decide) (fun _ => rfl) (fun i13 => ?_)
            refine x_aload_n C (pc := 66) dX7_parse_66 rfl ?_
            refine x_ldcS C (pc := 67) (i := 1) rfl (by decide) rfl dX7_parse_67 ?_
            refine x_callVi C (pc := 69) mv_X7_37 ht rfl [.ref (100 + 1)] (fun _ hr => ct_X7_isWord _ ht _ (by decide) _ _ hr) ⟨Nat.le_of_ble_eq_true rfl, Nat.le_of_ble_eq_true rfl⟩ rfl (Nat.le_of_ble_eq_true rfl) rfl dX7_parse_69 (fun r14 => ?_)
            refine xb_2 (Z1 := fun j30 s31 => Yx o 131 [some (.ref t), some (.int n9), some (.int n10), some (.int j30)] [] s31) ?_ (fun j30 s31 => ?_)
            · skip
              refine x_if_eq C (pc := 72) (tgt := 83) dX7_parse_72 (by decide) (fun _ => ?_) (fun _ => ?_)
              · skip
                refine x_aload_n C (pc := 83) dX7_parse_83 rfl ?_
                refine x_ldcS C (pc := 84) (i := 2) rfl (by decide) rfl dX7_parse_84 ?_
                refine x_callVi C (pc := 86) mv_X7_37 ht rfl [.ref (100 + 2)] (fun _ hr => ct_X7_isWord _ ht _ (by decide) _ _ hr) ⟨Nat.le_of_ble_eq_true rfl, Nat.le_of_ble_eq_true rfl⟩ rfl (Nat.le_of_ble_eq_true rfl) rfl dX7_parse_86 (fun r15 => ?_)
                refine x_if_eq C (pc := 89) (tgt := 100) dX7_parse_89 (by decide) (fun _ => ?_) (fun _ => ?_)
                · skip
                  refine x_aload_n C (pc := 100) dX7_parse_100 rfl ?_
                  refine x_ldcS C (pc := 101) (i := 3) rfl (by decide) rfl dX7_parse_101 ?_
                  refine x_callVi C (pc := 103) mv_X7_37 ht rfl [.ref (100 + 3)] (fun _ hr => ct_X7_isWord _ ht _ (by decide) _ _ hr) ⟨Nat.le_of_ble_eq_true rfl, Nat.le_of_ble_eq_true rfl⟩ rfl (Nat.le_of_ble_eq_true rfl) rfl dX7_parse_103 (fun r16 => ?_)
                  refine x_if_eq C (pc := 106) (tgt := 117) dX7_parse_106 (by decide) (fun _ => ?_) (fun _ => ?_)
                  · skip
                    refine x_aload_n C (pc := 117) dX7_parse_117 rfl ?_
                    refine x_ldcS C (pc := 118) (i := 4) rfl (by decide) rfl dX7_parse_118 ?_
                    refine x_callVi C (pc := 120) mv_X7_37 ht rfl [.ref (100 + 4)] (fun _ hr => ct_X7_isWord _ ht _ (by decide) _ _ hr) ⟨Nat.le_of_ble_eq_true rfl, Nat.le_of_ble_eq_true rfl⟩ rfl (Nat.le_of_ble_eq_true rfl) rfl dX7_parse_120 (fun r17 => ?_)
                    refine x_if_eq C (pc := 123) (tgt := 131) dX7_parse_123 (by decide) (fun _ => ?_) (fun _ => ?_)
                    · skip
                      exact Xo.done (fun h => Yx.weak (lw_s (lw_s (lw_s (lw_s lw_0)))) h)
                    · skip
                      refine x_aload_n C (pc := 126) dX7_parse_126 rfl ?_
                      refine x_callVim C (pc := 127) mv_X7_68 ht rfl [] (fun _ _ hr => ct_X7_readHours _ ht _ _ _ hr) ⟨Nat.le_of_ble_eq_true rfl, Nat.le_of_ble_eq_true rfl⟩ rfl (Nat.le_of_ble_eq_true rfl) rfl dX7_parse_127 (fun r18 s19 => ?_)
                      refine x_istore_n C (pc := 130) (L' := fun i20 => [some (.ref t), some (.int n9), some (.int n10), some (.int i20)]) dX7_parse_130 (by decide) (fun _ => rfl) (fun i20 => ?_)
                      exact Xo.done (fun h => Yx.weak (lw_s (lw_s (lw_s (lw_s lw_0)))) h)
                  · skip
                    refine x_aload_n C (pc := 109) dX7_parse_109 rfl ?_
                    refine x_callVim C (pc := 110) mv_X7_63 ht rfl [] (fun _ _ hr => ct_X7_readSuit _ ht _ _ _ hr) ⟨Nat.le_of_ble_eq_true rfl, Nat.le_of_ble_eq_true rfl⟩ rfl (Nat.le_of_ble_eq_true rfl) rfl dX7_parse_110 (fun r21 s22 => ?_)
                    refine x_istore_n C (pc := 113) (L' := fun i23 => [some (.ref t), some (.int n9), some (.int n10), some (.int i23)]) dX7_parse_113 (by decide) (fun _ => rfl) (fun i23 => ?_)
                    refine x_goto C (pc := 114) (tgt := 131) dX7_parse_114 (by decide) ?_
                    exact Xo.done (fun h => Yx.weak (lw_s (lw_s (lw_s (lw_s lw_0)))) h)
                · skip
                  refine x_aload_n C (pc := 92) dX7_parse_92 rfl ?_
                  refine x_callVim C (pc := 93) mv_X7_58 ht rfl [] (fun _ _ hr => ct_X7_readUser _ ht _ _ _ hr) ⟨Nat.le_of_ble_eq_true rfl, Nat.le_of_ble_eq_true rfl⟩ rfl (Nat.le_of_ble_eq_true rfl) rfl dX7_parse_93 (fun r24 s25 => ?_)
                  refine x_istore_n C (pc := 96) (L' := fun i26 => [some (.ref t), some (.int n9), some (.int n10), some (.int i26)]) dX7_parse_96 (by decide) (fun _ => rfl) (fun i26 => ?_)
                  refine x_goto C (pc := 97) (tgt := 131) dX7_parse_97 (by decide) ?_
                  exact Xo.done (fun h => Yx.weak (lw_s (lw_s (lw_s (lw_s lw_0)))) h)
              · skip
                refine x_aload_n C (pc := 75) dX7_parse_75 rfl ?_
                refine x_callVim C (pc := 76) mv_X7_53 ht rfl [] (fun _ _ hr => ct_X7_readWinds _ ht _ _ _ hr) ⟨Nat.le_of_ble_eq_true rfl, Nat.le_of_ble_eq_true rfl⟩ rfl (Nat.le_of_ble_eq_true rfl) rfl dX7_parse_76 (fun r27 s28 => ?_)
                refine x_istore_n C (pc := 79) (L' := fun i29 => [some (.ref t), some (.int n9), some (.int n10), some (.int i29)]) dX7_parse_79 (by decide) (fun _ => rfl) (fun i29 => ?_)
                refine x_goto C (pc := 80) (tgt := 131) dX7_parse_80 (by decide) ?_
                exact Xo.done (fun h => Yx.weak (lw_s (lw_s (lw_s (lw_s lw_0)))) h)
            refine x_iload_n C (pc := 131) dX7_parse_131 rfl ?_
            refine x_if_ne C (pc := 132) (tgt := 143) dX7_parse_132 (by decide) (fun _ => ?_) (fun _ => ?_)
            · skip
              refine x_bipush C (pc := 135) dX7_parse_135 kc_b_m10 ?_
              refine x_aload_n C (pc := 137) dX7_parse_137 rfl ?_
              refine x_getI C (pc := 138) fg_X7_45 dX7_parse_138 ht ?_
              refine x_isub C (pc := 141) dX7_parse_141 ?_
              exact x_ret dX7_parse_142 (fun h => h)
            · skip
              refine x_iinc C (pc := 143) (L' := fun i32 => [some (.ref t), some (.int i32), some (.int n10), some (.int j30)]) dX7_parse_143 rfl kc_i_1 (by decide) (fun _ => rfl) (fun i32 => ?_)
              refine x_iinc C (pc := 146) (L' := fun i33 => [some (.ref t), some (.int i32), some (.int i33), some (.int j30)]) dX7_parse_146 rfl kc_i_1 (by decide) (fun _ => rfl) (fun i33 => ?_)
              refine x_goto C (pc := 149) (tgt := 44) dX7_parse_149 (by decide) ?_
              exact Xo.done (fun h => Yx.weak (lw_s (lw_s (lw_s (lw_n lw_0)))) h)
      refine x_iload_n C (pc := 152) dX7_parse_152 rfl ?_
      exact x_ret dX7_parse_153 (fun h => h)
theorem ct_X7_parse (t : Nat) (ht : kd t = 5) (s0 : SS) (r : Int32) (s2 : SS) (h : FX7_parse t s0 = some (r, s2)) : CT 0 yX7_parse cX7_parse 4 (some .int) 6 147 [.ref t] s0 (some (.int r)) s2 :=
  ct_of (by decide +kernel) (Or.inr (Or.inl ⟨_, rfl, _, rfl, rfl⟩)) (lx_args [.ref t]) (lx_entry [.ref t] (fun _ => Nat.le_of_ble_eq_true rfl)) (fun o C hR => Yx.weak (lw_s (lw_z (lw_z (lw_z lw_0)))) (bd_X7_parse C t ht s0 (r, s2) h hR))
def FX8_wonInOrder (t : Nat) (a : Nat) (s0 : SS) : Option (Int32) :=
  nm (nI 0) (fun (i1 : Int32) => nm (nI 0) (fun (i2 : Int32) => nm (nI 0) (fun (i3 : Int32) => bd (lp FUEL (u3 (fun (n4 : Int32) (n5 : Int32) (n6 : Int32) => if (gI s0 t 2) ≤ n6 then some (Sum.inr n4) else (gd (inb n6 (ln (lk t 0))) (nm (gI s0 (lk t 0) (Int32.toNatClampNeg n6)) (fun (i7 : Int32) => bd (FX9_at (lk a 3) i7 (nI 1) s0) (fun (r8 : Int32) => nm r8 (fun (i9 : Int32) => bd (if ((n5 >>> (i9 &&& 31)) &&& (nI 1)) = (nI 1) then some ((nI 0)) else (bd (FX4_duesOf a i9 s0) (fun (r10 : Int32) => some (r10)))) (fun (j11 : Int32) => nm j11 (fun (i12 : Int32) => bd (FX9_at (lk a 3) i7 (nI 2) s0) (fun (r13 : Int32) => nm (((gI s0 a 8) + n6) - r13) (fun (i14 : Int32) => bd (FX9_at (lk a 3) i7 (nI 0) s0) (fun (r15 : Int32) => bd (FX5_awardOf r15 i12 i14 s0) (fun (r16 : Int32) => nm (n4 + r16) (fun (i17 : Int32) => nm (n5 ||| ((nI 1) <<< (i9 &&& 31))) (fun (i18 : Int32) => nm (n6 + (nI 1)) (fun (i19 : Int32) => some (Sum.inl (i17, i18, i19)))))))))))))))))) (i1, i2, i3)) (fun (e20 : Int32) => some (e20)))))
set_option maxRecDepth 100000 in
set_option maxHeartbeats 4000000 in
theorem bd_X8_wonInOrder {o : Om} (C : Cx o RX8 cX8_wonInOrder 9 (some .int) (rmx 2 45) 0) (t : Nat) (ht : kd t = 6) (a : Nat) (ha : kd a = 4) (s0 : SS) : Xo (FX8_wonInOrder t a s0) (fun r => RT o cX8_wonInOrder (some (.int r)) s0) (Yx o 0 [some (.ref t), some (.ref a), none, none, none, none, none, none, none] [] s0) := by
  unfold FX8_wonInOrder
  refine x_iconst C (pc := 0) dX8_wonInOrder_0 kc_i_0 ?_
  refine x_istore_n C (pc := 1) (L' := fun i1 => [some (.ref t), some (.ref a), some (.int i1), none, none, none, none, none, none]) dX8_wonInOrder_1 (by decide) (fun _ => rfl) (fun i1 => ?_)
  refine x_iconst C (pc := 2) dX8_wonInOrder_2 kc_i_0 ?_
  refine x_istore_n C (pc := 3) (L' := fun i2 => [some (.ref t), some (.ref a), some (.int i1), some (.int i2), none, none, none, none, none]) dX8_wonInOrder_3 (by decide) (fun _ => rfl) (fun i2 => ?_)
  refine x_iconst C (pc := 4) dX8_wonInOrder_4 kc_i_0 ?_
  refine x_istore C (pc := 5) (L' := fun i3 => [some (.ref t), some (.ref a), some (.int i1), some (.int i2), some (.int i3), none, none, none, none]) dX8_wonInOrder_5 (by decide) (fun _ => rfl) (fun i3 => ?_)
  refine xb_1 (Z1 := (fun e20 => Yx o 112 [none, none, some (.int e20), none, none, none, none, none, none] [] s0)) ?_ (fun e20 => ?_)
  · refine Xo.mono (Yx.weak (lw_s (lw_s (lw_s (lw_s (lw_s (lw_n (lw_n (lw_n (lw_n lw_0)))))))))) (x_lp3 (fr := fun n4 n5 n6 => Yx o 7 [some (.ref t), some (.ref a), some (.int n4), some (.int n5), some (.int n6), none, none, none, none] [] s0) _ _ _ (fun n4 n5 n6 => ?_))
    refine x_iload C (pc := 7) dX8_wonInOrder_7 rfl ?_
    refine x_aload_n C (pc := 9) dX8_wonInOrder_9 rfl ?_
    refine x_getI C (pc := 10) fg_X8_18 dX8_wonInOrder_10 ht ?_
    refine x_icmp_ge C (pc := 13) (tgt := 112) dX8_wonInOrder_13 (by decide) (fun _ => ?_) (fun _ => ?_)
    · skip
      exact Xo.done (fun h => Yx.weak (lw_n (lw_n (lw_s (lw_n (lw_n (lw_n (lw_n (lw_n (lw_n lw_0))))))))) h)
    · skip
      refine x_aload_n C (pc := 16) dX8_wonInOrder_16 rfl ?_
      refine x_getR C (pc := 17) fg_X8_9 dX8_wonInOrder_17 ht ?_
      refine x_iload C (pc := 20) dX8_wonInOrder_20 rfl ?_
      refine x_iald C (pc := 22) dX8_wonInOrder_22 (lkd_6_0 ht) (fun _ => ?_)
      refine x_istore C (pc := 23) (L' := fun i7 => [some (.ref t), some (.ref a), some (.int n4), some (.int n5), some (.int n6), some (.int i7), none, none, none]) dX8_wonInOrder_23 (by decide) (fun _ => rfl) (fun i7 => ?_)
      refine x_aload_n C (pc := 25) dX8_wonInOrder_25 rfl ?_
      refine x_getR C (pc := 26) fg_X8_22 dX8_wonInOrder_26 ha ?_
      refine x_iload C (pc := 29) dX8_wonInOrder_29 rfl ?_
      refine x_iconst C (pc := 31) dX8_wonInOrder_31 kc_i_1 ?_
      refine x_callVi C (pc := 32) mv_X8_54 (lkd_4_3 ha) rfl [.int i7, .int (nI 1)] (fun _ hr => ct_X9_at _ (lkd_4_3 ha) _ _ _ _ hr) ⟨Nat.le_of_ble_eq_true rfl, Nat.le_of_ble_eq_true rfl⟩ rfl (Nat.le_of_ble_eq_true rfl) rfl dX8_wonInOrder_32 (fun r8 => ?_)
      refine x_istore C (pc := 35) (L' := fun i9 => [some (.ref t), some (.ref a), some (.int n4), some (.int n5), some (.int n6), some (.int i7), some (.int i9), none, none]) dX8_wonInOrder_35 (by decide) (fun _ => rfl) (fun i9 => ?_)
      refine x_iload_n C (pc := 37) dX8_wonInOrder_37 rfl ?_
      refine x_iload C (pc := 38) dX8_wonInOrder_38 rfl ?_
      refine x_ishr C (pc := 40) dX8_wonInOrder_40 ?_
      refine x_iconst C (pc := 41) dX8_wonInOrder_41 kc_i_1 ?_
      refine x_iand C (pc := 42) dX8_wonInOrder_42 ?_
      refine x_iconst C (pc := 43) dX8_wonInOrder_43 kc_i_1 ?_
      refine xb_1 (Z1 := fun j11 => Yx o 57 [some (.ref t), some (.ref a), some (.int n4), some (.int n5), some (.int n6), some (.int i7), some (.int i9), none, none] [.int j11] s0) ?_ (fun j11 => ?_)
      · skip
        refine x_icmp_ne C (pc := 44) (tgt := 51) dX8_wonInOrder_44 (by decide) (fun _ => ?_) (fun _ => ?_)
        · skip
          refine x_iconst C (pc := 47) dX8_wonInOrder_47 kc_i_0 ?_
          refine x_goto C (pc := 48) (tgt := 57) dX8_wonInOrder_48 (by decide) ?_
          exact Xo.done (fun h => Yx.weak (lw_s (lw_s (lw_s (lw_s (lw_s (lw_s (lw_s (lw_n (lw_n lw_0))))))))) h)
        · skip
          refine x_aload_n C (pc := 51) dX8_wonInOrder_51 rfl ?_
          refine x_iload C (pc := 52) dX8_wonInOrder_52 rfl ?_
          refine x_callVi C (pc := 54) mv_X8_58 ha rfl [.int i9] (fun _ hr => ct_X4_duesOf _ ha _ _ _ hr) ⟨Nat.le_of_ble_eq_true rfl, Nat.le_of_ble_eq_true rfl⟩ rfl (Nat.le_of_ble_eq_true rfl) rfl dX8_wonInOrder_54 (fun r10 => ?_)
          exact Xo.done (fun h => Yx.weak (lw_s (lw_s (lw_s (lw_s (lw_s (lw_s (lw_s (lw_n (lw_n lw_0))))))))) h)
      refine x_istore C (pc := 57) (L' := fun i12 => [some (.ref t), some (.ref a), some (.int n4), some (.int n5), some (.int n6), some (.int i7), some (.int i9), some (.int i12), none]) dX8_wonInOrder_57 (by decide) (fun _ => rfl) (fun i12 => ?_)
      refine x_aload_n C (pc := 59) dX8_wonInOrder_59 rfl ?_
      refine x_getI C (pc := 60) fg_X8_62 dX8_wonInOrder_60 ha ?_
      refine x_iload C (pc := 63) dX8_wonInOrder_63 rfl ?_
      refine x_iadd C (pc := 65) dX8_wonInOrder_65 ?_
      refine x_aload_n C (pc := 66) dX8_wonInOrder_66 rfl ?_
      refine x_getR C (pc := 67) fg_X8_22 dX8_wonInOrder_67 ha ?_
      refine x_iload C (pc := 70) dX8_wonInOrder_70 rfl ?_
      refine x_iconst C (pc := 72) dX8_wonInOrder_72 kc_i_2 ?_
      refine x_callVi C (pc := 73) mv_X8_54 (lkd_4_3 ha) rfl [.int i7, .int (nI 2)] (fun _ hr => ct_X9_at _ (lkd_4_3 ha) _ _ _ _ hr) ⟨Nat.le_of_ble_eq_true rfl, Nat.le_of_ble_eq_true rfl⟩ rfl (Nat.le_of_ble_eq_true rfl) rfl dX8_wonInOrder_73 (fun r13 => ?_)
      refine x_isub C (pc := 76) dX8_wonInOrder_76 ?_
      refine x_istore C (pc := 77) (L' := fun i14 => [some (.ref t), some (.ref a), some (.int n4), some (.int n5), some (.int n6), some (.int i7), some (.int i9), some (.int i12), some (.int i14)]) dX8_wonInOrder_77 (by decide) (fun _ => rfl) (fun i14 => ?_)
      refine x_iload_n C (pc := 79) dX8_wonInOrder_79 rfl ?_
      refine x_aload_n C (pc := 80) dX8_wonInOrder_80 rfl ?_
      refine x_getR C (pc := 81) fg_X8_22 dX8_wonInOrder_81 ha ?_
      refine x_iload C (pc := 84) dX8_wonInOrder_84 rfl ?_
      refine x_iconst C (pc := 86) dX8_wonInOrder_86 kc_i_0 ?_
      refine x_callVi C (pc := 87) mv_X8_54 (lkd_4_3 ha) rfl [.int i7, .int (nI 0)] (fun _ hr => ct_X9_at _ (lkd_4_3 ha) _ _ _ _ hr) ⟨Nat.le_of_ble_eq_true rfl, Nat.le_of_ble_eq_true rfl⟩ rfl (Nat.le_of_ble_eq_true rfl) rfl dX8_wonInOrder_87 (fun r15 => ?_)
      refine x_iload C (pc := 90) dX8_wonInOrder_90 rfl ?_
      refine x_iload C (pc := 92) dX8_wonInOrder_92 rfl ?_
      refine x_callSi C (pc := 94) ms_X8_65 [.int r15, .int i12, .int i14] (fun _ hr => ct_X5_awardOf _ _ _ _ _ hr) ⟨Nat.le_of_ble_eq_true rfl, Nat.le_of_ble_eq_true rfl⟩ rfl (Nat.le_of_ble_eq_true rfl) rfl dX8_wonInOrder_94 (fun r16 => ?_)
      refine x_iadd C (pc := 97) dX8_wonInOrder_97 ?_
      refine x_istore_n C (pc := 98) (L' := fun i17 => [some (.ref t), some (.ref a), some (.int i17), some (.int n5), some (.int n6), some (.int i7), some (.int i9), some (.int i12), some (.int i14)]) dX8_wonInOrder_98 (by decide) (fun _ => rfl) (fun i17 => ?_)
      refine x_iload_n C (pc := 99) dX8_wonInOrder_99 rfl ?_
      refine x_iconst C (pc := 100) dX8_wonInOrder_100 kc_i_1 ?_
      refine x_iload C (pc := 101) dX8_wonInOrder_101 rfl ?_
      refine x_ishl C (pc := 103) dX8_wonInOrder_103 ?_
      refine x_ior C (pc := 104) dX8_wonInOrder_104 ?_
      refine x_istore_n C (pc := 105) (L' := fun i18 => [some (.ref t), some (.ref a), some (.int i17), some (.int i18), some (.int n6), some (.int i7), some (.int i9), some (.int i12), some (.int i14)]) dX8_wonInOrder_105 (by decide) (fun _ => rfl) (fun i18 => ?_)
      refine x_iinc C (pc := 106) (L' := fun i19 => [some (.ref t), some (.ref a), some (.int i17), some (.int i18), some (.int i19), some (.int i7), some (.int i9), some (.int i12), some (.int i14)]) dX8_wonInOrder_106 rfl kc_i_1 (by decide) (fun _ => rfl) (fun i19 => ?_)
      refine x_goto C (pc := 109) (tgt := 7) dX8_wonInOrder_109 (by decide) ?_
      exact Xo.done (fun h => Yx.weak (lw_s (lw_s (lw_s (lw_s (lw_s (lw_n (lw_n (lw_n (lw_n lw_0))))))))) h)
  refine x_iload_n C (pc := 112) dX8_wonInOrder_112 rfl ?_
  exact x_ret dX8_wonInOrder_113 (fun h => h)
theorem ct_X8_wonInOrder (t : Nat) (ht : kd t = 6) (a : Nat) (ha : kd a = 4) (s0 : SS) (r : Int32) (h : FX8_wonInOrder t a s0 = some r) : CT 0 yX8_wonInOrder cX8_wonInOrder 9 (some .int) 2 45 [.ref t, .ref a] s0 (some (.int r)) s0 :=
  ct_of (by decide +kernel) (Or.inr (Or.inl ⟨_, rfl, _, rfl, rfl⟩)) (lx_args [.ref t, .ref a]) (lx_entry [.ref t, .ref a] (fun _ => Nat.le_of_ble_eq_true rfl)) (fun o C hR => Yx.weak (lw_s (lw_s (lw_z (lw_z (lw_z (lw_z (lw_z (lw_z (lw_z lw_0))))))))) (bd_X8_wonInOrder C t ht a ha s0 r h hR))
def FX8_swap (t : Nat) (a : Int32) (b : Int32) (s0 : SS) : Option (SS) :=
  gd (inb a (ln (lk t 0))) (nm (gI s0 (lk t 0) (Int32.toNatClampNeg a)) (fun (i1 : Int32) => gd (inb b (ln (lk t 0))) (gd (inb a (ln (lk t 0))) (nm (pI s0 (lk t 0) (Int32.toNatClampNeg a) (gI s0 (lk t 0) (Int32.toNatClampNeg b))) (fun (s2 : SS) => gd (inb b (ln (lk t 0))) (nm (pI s2 (lk t 0) (Int32.toNatClampNeg b) i1) (fun (s3 : SS) => some (s3))))))))
set_option maxRecDepth 100000 in
set_option maxHeartbeats 4000000 in
theorem bd_X8_swap {o : Om} (C : Cx o RX8 cX8_swap 4 none (rmx 0 0) 0) (t : Nat) (ht : kd t = 6) (a : Int32) (b : Int32) (s0 : SS) : Xo (FX8_swap t a b s0) (fun r => RT o cX8_swap none r) (Yx o 0 [some (.ref t), some (.int a), some (.int b), none] [] s0) := by
  unfold FX8_swap
  refine x_aload_n C (pc := 0) dX8_swap_0 rfl ?_
  refine x_getR C (pc := 1) fg_X8_9 dX8_swap_1 ht ?_
  refine x_iload_n C (pc := 4) dX8_swap_4 rfl ?_
  refine x_iald C (pc := 5) dX8_swap_5 (lkd_6_0 ht) (fun _ => ?_)
  refine x_istore_n C (pc := 6) (L' := fun i1 => [some (.ref t), some (.int a), some (.int b), some (.int i1)]) dX8_swap_6 (by decide) (fun _ => rfl) (fun i1 => ?_)
  refine x_aload_n C (pc := 7) dX8_swap_7 rfl ?_
  refine x_getR C (pc := 8) fg_X8_9 dX8_swap_8 ht ?_
  refine x_iload_n C (pc := 11) dX8_swap_11 rfl ?_
  refine x_aload_n C (pc := 12) dX8_swap_12 rfl ?_
  refine x_getR C (pc := 13) fg_X8_9 dX8_swap_13 ht ?_
  refine x_iload_n C (pc := 16) dX8_swap_16 rfl ?_
  refine x_iald C (pc := 17) dX8_swap_17 (lkd_6_0 ht) (fun _ => ?_)
  refine x_iastn C (pc := 18) dX8_swap_18 (lkd_6_0 ht) (fun s2 => ?_)
  refine x_aload_n C (pc := 19) dX8_swap_19 rfl ?_
  refine x_getR C (pc := 20) fg_X8_9 dX8_swap_20 ht ?_
  refine x_iload_n C (pc := 23) dX8_swap_23 rfl ?_
  refine x_iload_n C (pc := 24) dX8_swap_24 rfl ?_
  refine x_iastn C (pc := 25) dX8_swap_25 (lkd_6_0 ht) (fun s3 => ?_)
  exact x_vret dX8_swap_26 (fun h => h)
theorem ct_X8_swap (t : Nat) (ht : kd t = 6) (a : Int32) (b : Int32) (s0 : SS) (r : SS) (h : FX8_swap t a b s0 = some r) : CT 0 yX8_swap cX8_swap 4 none 0 0 [.ref t, .int a, .int b] s0 none r :=
  ct_of (by decide +kernel) (Or.inl ⟨rfl, rfl⟩) (lx_args [.ref t, .int a, .int b]) (lx_entry [.ref t, .int a, .int b] (fun _ => Nat.le_of_ble_eq_true rfl)) (fun o C hR => Yx.weak (lw_s (lw_s (lw_s (lw_z lw_0)))) (bd_X8_swap C t ht a b s0 r h hR))
def FX8_goToNextOrder (t : Nat) (s0 : SS) : Option (Int32 × SS) :=
  nm ((gI s0 t 2) - (nI 2)) (fun (i1 : Int32) => bd (lp FUEL (fun (n2 : Int32) => if n2 < 0 then some (Sum.inr n2) else (gd (inb n2 (ln (lk t 0))) (gd (inb (n2 + (nI 1)) (ln (lk t 0))) (if (gI s0 (lk t 0) (Int32.toNatClampNeg n2)) ≤ (gI s0 (lk t 0) (Int32.toNatClampNeg (n2 + (nI 1)))) then some (Sum.inr n2) else (nm (n2 + (-1 : Int32)) (fun (i3 : Int32) => some (Sum.inl i3))))))) i1) (fun (e4 : Int32) => if 0 ≤ e4 then nm ((gI s0 t 2) - (nI 1)) (fun (i5 : Int32) => bd (lp FUEL (fun (n6 : Int32) => if n6 ≤ e4 then some (Sum.inr n6) else (gd (inb n6 (ln (lk t 0))) (gd (inb e4 (ln (lk t 0))) (if (gI s0 (lk t 0) (Int32.toNatClampNeg e4)) ≤ (gI s0 (lk t 0) (Int32.toNatClampNeg n6)) then some (Sum.inr n6) else (nm (n6 + (-1 : Int32)) (fun (i7 : Int32) => some (Sum.inl i7))))))) i5) (fun (e8 : Int32) => bd (FX8_swap t e4 e8 s0) (fun (s9 : SS) => nm (e4 + (nI 1)) (fun (i10 : Int32) => nm ((gI s9 t 2) - (nI 1)) (fun (i11 : Int32) => bd (lp FUEL (u3 (fun (n12 : Int32) (n13 : Int32) (s14 : SS) => if n13 ≤ n12 then some (Sum.inr s14) else (bd (FX8_swap t n12 n13 s14) (fun (s15 : SS) => nm (n12 + (nI 1)) (fun (i16 : Int32) => nm (n13 + (-1 : Int32)) (fun (i17 : Int32) => some (Sum.inl (i16, i17, s15)))))))) (i10, i11, s9)) (fun (s18 : SS) => some (((nI 1), s18)))))))) else (some (((nI 0), s0)))))
set_option maxRecDepth 100000 in
set_option maxHeartbeats 4000000 in
theorem bd_X8_goToNextOrder {o : Om} (C : Cx o RX8 cX8_goToNextOrder 5 (some .boolean) (rmx 1 23) 0) (t : Nat) (ht : kd t = 6) (s0 : SS) : Xo (FX8_goToNextOrder t s0) (fun r => zb r.1 = true → RT o cX8_goToNextOrder (some (.int r.1)) r.2) (Yx o 0 [some (.ref t), none, none, none, none] [] s0) := by
  unfold FX8_goToNextOrder
  refine x_aload_n C (pc := 0) dX8_goToNextOrder_0 rfl ?_
  refine x_getI C (pc := 1) fg_X8_18 dX8_goToNextOrder_1 ht ?_
  refine x_iconst C (pc := 4) dX8_goToNextOrder_4 kc_i_2 ?_
  refine x_isub C (pc := 5) dX8_goToNextOrder_5 ?_
  refine x_istore_n C (pc := 6) (L' := fun i1 => [some (.ref t), some (.int i1), none, none, none]) dX8_goToNextOrder_6 (by decide) (fun _ => rfl) (fun i1 => ?_)
  refine xb_1 (Z1 := (fun e4 => Yx o 34 [some (.ref t), some (.int e4), none, none, none] [] s0)) ?_ (fun e4 => ?_)
  · refine Xo.mono (Yx.weak (lw_s (lw_s (lw_n (lw_n (lw_n lw_0)))))) (x_lp1 (fr := fun n2 => Yx o 7 [some (.ref t), some (.int n2), none, none, none] [] s0) _ (fun n2 => ?_))
    refine x_iload_n C (pc := 7) dX8_goToNextOrder_7 rfl ?_
    refine x_if_lt C (pc := 8) (tgt := 34) dX8_goToNextOrder_8 (by decide) (fun _ => ?_) (fun _ => ?_)
    · skip
      exact Xo.done (fun h => Yx.weak (lw_s (lw_s (lw_n (lw_n (lw_n lw_0))))) h)
    · skip
      refine x_aload_n C (pc := 11) dX8_goToNextOrder_11 rfl ?_
      refine x_getR C (pc := 12) fg_X8_9 dX8_goToNextOrder_12 ht ?_
      refine x_iload_n C (pc := 15) dX8_goToNextOrder_15 rfl ?_
      refine x_iald C (pc := 16) dX8_goToNextOrder_16 (lkd_6_0 ht) (fun _ => ?_)
      refine x_aload_n C (pc := 17) dX8_goToNextOrder_17 rfl ?_
      refine x_getR C (pc := 18) fg_X8_9 dX8_goToNextOrder_18 ht ?_
      refine x_iload_n C (pc := 21) dX8_goToNextOrder_21 rfl ?_
      refine x_iconst C (pc := 22) dX8_goToNextOrder_22 kc_i_1 ?_
      refine x_iadd C (pc := 23) dX8_goToNextOrder_23 ?_
      refine x_iald C (pc := 24) dX8_goToNextOrder_24 (lkd_6_0 ht) (fun _ => ?_)
      refine x_icmp_le C (pc := 25) (tgt := 34) dX8_goToNextOrder_25 (by decide) (fun _ => ?_) (fun _ => ?_)
      · skip
        exact Xo.done (fun h => Yx.weak (lw_s (lw_s (lw_n (lw_n (lw_n lw_0))))) h)
      · skip
        refine x_iinc C (pc := 28) (L' := fun i3 => [some (.ref t), some (.int i3), none, none, none]) dX8_goToNextOrder_28 rfl kc_i_m1 (by decide) (fun _ => rfl) (fun i3 => ?_)
        refine x_goto C (pc := 31) (tgt := 7) dX8_goToNextOrder_31 (by decide) ?_
        exact Xo.done (fun h => Yx.weak (lw_s (lw_s (lw_n (lw_n (lw_n lw_0))))) h)
  refine x_iload_n C (pc := 34) dX8_goToNextOrder_34 rfl ?_
  refine x_if_ge C (pc := 35) (tgt := 40) dX8_goToNextOrder_35 (by decide) (fun _ => ?_) (fun _ => ?_)
  · skip
    refine x_aload_n C (pc := 40) dX8_goToNextOrder_40 rfl ?_
    refine x_getI C (pc := 41) fg_X8_18 dX8_goToNextOrder_41 ht ?_
    refine x_iconst C (pc := 44) dX8_goToNextOrder_44 kc_i_1 ?_
    refine x_isub C (pc := 45) dX8_goToNextOrder_45 ?_
    refine x_istore_n C (pc := 46) (L' := fun i5 => [some (.ref t), some (.int e4), some (.int i5), none, none]) dX8_goToNextOrder_46 (by decide) (fun _ => rfl) (fun i5 => ?_)
    refine xb_1 (Z1 := (fun e8 => Yx o 73 [some (.ref t), some (.int e4), some (.int e8), none, none] [] s0)) ?_ (fun e8 => ?_)
    · refine Xo.mono (Yx.weak (lw_s (lw_s (lw_s (lw_n (lw_n lw_0)))))) (x_lp1 (fr := fun n6 => Yx o 47 [some (.ref t), some (.int e4), some (.int n6), none, none] [] s0) _ (fun n6 => ?_))
      refine x_iload_n C (pc := 47) dX8_goToNextOrder_47 rfl ?_
      refine x_iload_n C (pc := 48) dX8_goToNextOrder_48 rfl ?_
      refine x_icmp_le C (pc := 49) (tgt := 73) dX8_goToNextOrder_49 (by decide) (fun _ => ?_) (fun _ => ?_)
      · skip
        exact Xo.done (fun h => Yx.weak (lw_s (lw_s (lw_s (lw_n (lw_n lw_0))))) h)
      · skip
        refine x_aload_n C (pc := 52) dX8_goToNextOrder_52 rfl ?_
        refine x_getR C (pc := 53) fg_X8_9 dX8_goToNextOrder_53 ht ?_
        refine x_iload_n C (pc := 56) dX8_goToNextOrder_56 rfl ?_
        refine x_iald C (pc := 57) dX8_goToNextOrder_57 (lkd_6_0 ht) (fun _ => ?_)
        refine x_aload_n C (pc := 58) dX8_goToNextOrder_58 rfl ?_
        refine x_getR C (pc := 59) fg_X8_9 dX8_goToNextOrder_59 ht ?_
        refine x_iload_n C (pc := 62) dX8_goToNextOrder_62 rfl ?_
        refine x_iald C (pc := 63) dX8_goToNextOrder_63 (lkd_6_0 ht) (fun _ => ?_)
        refine x_icmp_ge C (pc := 64) (tgt := 73) dX8_goToNextOrder_64 (by decide) (fun _ => ?_) (fun _ => ?_)
        · skip
          exact Xo.done (fun h => Yx.weak (lw_s (lw_s (lw_s (lw_n (lw_n lw_0))))) h)
        · skip
          refine x_iinc C (pc := 67) (L' := fun i7 => [some (.ref t), some (.int e4), some (.int i7), none, none]) dX8_goToNextOrder_67 rfl kc_i_m1 (by decide) (fun _ => rfl) (fun i7 => ?_)
          refine x_goto C (pc := 70) (tgt := 47) dX8_goToNextOrder_70 (by decide) ?_
          exact Xo.done (fun h => Yx.weak (lw_s (lw_s (lw_s (lw_n (lw_n lw_0))))) h)
    refine x_aload_n C (pc := 73) dX8_goToNextOrder_73 rfl ?_
    refine x_iload_n C (pc := 74) dX8_goToNextOrder_74 rfl ?_
    refine x_iload_n C (pc := 75) dX8_goToNextOrder_75 rfl ?_
    refine x_callVv C (pc := 76) mv_X8_71 ht rfl [.int e4, .int e8] (fun _ hr => ct_X8_swap _ ht _ _ _ _ hr) ⟨Nat.le_of_ble_eq_true rfl, Nat.le_of_ble_eq_true rfl⟩ rfl (Nat.le_of_ble_eq_true rfl) rfl dX8_goToNextOrder_76 (fun s9 => ?_)
    refine x_iload_n C (pc := 79) dX8_goToNextOrder_79 rfl ?_
    refine x_iconst C (pc := 80) dX8_goToNextOrder_80 kc_i_1 ?_
    refine x_iadd C (pc := 81) dX8_goToNextOrder_81 ?_
    refine x_istore_n C (pc := 82) (L' := fun i10 => [some (.ref t), some (.int e4), some (.int e8), some (.int i10), none]) dX8_goToNextOrder_82 (by decide) (fun _ => rfl) (fun i10 => ?_)
    refine x_aload_n C (pc := 83) dX8_goToNextOrder_83 rfl ?_
    refine x_getI C (pc := 84) fg_X8_18 dX8_goToNextOrder_84 ht ?_
    refine x_iconst C (pc := 87) dX8_goToNextOrder_87 kc_i_1 ?_
    refine x_isub C (pc := 88) dX8_goToNextOrder_88 ?_
    refine x_istore C (pc := 89) (L' := fun i11 => [some (.ref t), some (.int e4), some (.int e8), some (.int i10), some (.int i11)]) dX8_goToNextOrder_89 (by decide) (fun _ => rfl) (fun i11 => ?_)
    refine xb_1 (Z1 := (fun s18 => Yx o 113 [none, none, none, none, none] [] s18)) ?_ (fun s18 => ?_)
    · refine Xo.mono (Yx.weak (lw_s (lw_n (lw_n (lw_s (lw_s lw_0)))))) (x_lp3 (fr := fun n12 n13 s14 => Yx o 91 [some (.ref t), none, none, some (.int n12), some (.int n13)] [] s14) _ _ _ (fun n12 n13 s14 => ?_))
      refine x_iload_n C (pc := 91) dX8_goToNextOrder_91 rfl ?_
      refine x_iload C (pc := 92) dX8_goToNextOrder_92 rfl ?_
      refine x_icmp_ge C (pc := 94) (tgt := 113) dX8_goToNextOrder_94 (by decide) (fun _ => ?_) (fun _ => ?_)
      · skip
        exact Xo.done (fun h => Yx.weak (lw_n (lw_n (lw_n (lw_n (lw_n lw_0))))) h)
      · skip
        refine x_aload_n C (pc := 97) dX8_goToNextOrder_97 rfl ?_
        refine x_iload_n C (pc := 98) dX8_goToNextOrder_98 rfl ?_
        refine x_iload C (pc := 99) dX8_goToNextOrder_99 rfl ?_
        refine x_callVv C (pc := 101) mv_X8_71 ht rfl [.int n12, .int n13] (fun _ hr => ct_X8_swap _ ht _ _ _ _ hr) ⟨Nat.le_of_ble_eq_true rfl, Nat.le_of_ble_eq_true rfl⟩ rfl (Nat.le_of_ble_eq_true rfl) rfl dX8_goToNextOrder_101 (fun s15 => ?_)
        refine x_iinc C (pc := 104) (L' := fun i16 => [some (.ref t), none, none, some (.int i16), some (.int n13)]) dX8_goToNextOrder_104 rfl kc_i_1 (by decide) (fun _ => rfl) (fun i16 => ?_)
        refine x_iinc C (pc := 107) (L' := fun i17 => [some (.ref t), none, none, some (.int i16), some (.int i17)]) dX8_goToNextOrder_107 rfl kc_i_m1 (by decide) (fun _ => rfl) (fun i17 => ?_)
        refine x_goto C (pc := 110) (tgt := 91) dX8_goToNextOrder_110 (by decide) ?_
        exact Xo.done (fun h => Yx.weak (lw_s (lw_n (lw_n (lw_s (lw_s lw_0))))) h)
    refine x_iconst C (pc := 113) dX8_goToNextOrder_113 kc_i_1 ?_
    exact x_ret dX8_goToNextOrder_114 (fun h => h zb_1)
  · skip
    refine x_iconst C (pc := 38) dX8_goToNextOrder_38 kc_i_0 ?_
    exact x_ret dX8_goToNextOrder_39 (fun h => h zb_0)
theorem ct_X8_goToNextOrder (t : Nat) (ht : kd t = 6) (s0 : SS) (r : Int32) (s2 : SS) (h : FX8_goToNextOrder t s0 = some (r, s2)) : CT 0 yX8_goToNextOrder cX8_goToNextOrder 5 (some .boolean) 1 23 [.ref t] s0 (some (.int r)) s2 :=
  ct_ofz (by decide +kernel) rfl (lx_args [.ref t]) (lx_entry [.ref t] (fun _ => Nat.le_of_ble_eq_true rfl)) (fun o C hR => Yx.weak (lw_s (lw_z (lw_z (lw_z (lw_z lw_0))))) (bd_X8_goToNextOrder C t ht s0 (r, s2) h hR))
def FX8_findBestOrder (t : Nat) (a : Nat) (s0 : SS) : Option (SS) :=
  nm (pI s0 t 2 (nI 0)) (fun (s1 : SS) => nm (nI 0) (fun (i2 : Int32) => bd (lp FUEL (u2 (fun (n3 : Int32) (s4 : SS) => if (gI s4 (lk a 3) 3) ≤ n3 then some (Sum.inr s4) else (if (nI 5) ≤ (gI s4 t 2) then some (Sum.inr s4) else (bd (FX4_isHeard a n3 s4) (fun (r5 : Int32) => bd (if r5 = 0 then gd (inb (gI s4 t 2) (ln (lk t 0))) (nm (pI s4 (lk t 0) (Int32.toNatClampNeg (gI s4 t 2)) n3) (fun (s6 : SS) => nm (pI s6 t 2 ((gI s6 t 2) + (nI 1))) (fun (s7 : SS) => some (s7)))) else (some (s4))) (fun (s8 : SS) => nm (n3 + (nI 1)) (fun (i9 : Int32) => some (Sum.inl (i9, s8))))))))) (i2, s1)) (fun (s10 : SS) => nm (pI s10 t 3 (-1 : Int32)) (fun (s11 : SS) => nm (nI 0) (fun (i12 : Int32) => bde (lp FUEL (u2 (fun (n13 : Int32) (s14 : SS) => if (nI 120) ≤ n13 then some (Sum.inr (Sum.inl s14)) else (bd (FX8_wonInOrder t a s14) (fun (r15 : Int32) => nm r15 (fun (i16 : Int32) => bd (if i16 ≤ (gI s14 t 3) then some (s14) else (nm (pI s14 t 3 i16) (fun (s17 : SS) => gd (cpok (nI 0) (nI 0) (gI s17 t 2) (ln (lk t 0)) (ln (lk t 1))) (nm (pA s17 (lk t 1) (va_cpy (gI s17 (lk t 0)) (gI s17 (lk t 1)) (Int32.toNatClampNeg (nI 0)) (Int32.toNatClampNeg (nI 0)) (Int32.toNatClampNeg (gI s17 t 2)))) (fun (s18 : SS) => some (s18)))))) (fun (s19 : SS) => bd2 (FX8_goToNextOrder t s19) (fun (r20 : Int32) (s21 : SS) => if r20 = 0 then some (Sum.inr (Sum.inl s21)) else (nm (n13 + (nI 1)) (fun (i22 : Int32) => some (Sum.inl (i22, s21))))))))))) (i12, s11)) (fun (s23 : SS) => some (s23)))))))
set_option maxRecDepth 100000 in
set_option maxHeartbeats 4000000 in
theorem bd_X8_findBestOrder {o : Om} (C : Cx o RX8 cX8_findBestOrder 4 none (rmx 3 73) 0) (t : Nat) (ht : kd t = 6) (a : Nat) (ha : kd a = 4) (s0 : SS) : Xo (FX8_findBestOrder t a s0) (fun r => RT o cX8_findBestOrder none r) (Yx o 0 [some (.ref t), some (.ref a), none, none] [] s0) := by
  unfold FX8_findBestOrder
  refine x_aload_n C (pc := 0) dX8_findBestOrder_0 rfl ?_
  refine x_iconst C (pc := 1) dX8_findBestOrder_1 kc_i_0 ?_
  refine x_putIn C (pc := 2) fp_X8_18 dX8_findBestOrder_2 ht (fun s1 => ?_)
  refine x_iconst C (pc := 5) dX8_findBestOrder_5 kc_i_0 ?_
  refine x_istore_n C (pc := 6) (L' := fun i2 => [some (.ref t), some (.ref a), some (.int i2), none]) dX8_findBestOrder_6 (by decide) (fun _ => rfl) (fun i2 => ?_)
  refine xb_1 (Z1 := (fun s10 => Yx o 60 [some (.ref t), some (.ref a), none, none] [] s10)) ?_ (fun s10 => ?_)
  · refine Xo.mono (Yx.weak (lw_s (lw_s (lw_s (lw_n lw_0))))) (x_lp2 (fr := fun n3 s4 => Yx o 7 [some (.ref t), some (.ref a), some (.int n3), none] [] s4) _ _ (fun n3 s4 => ?_))
    refine x_iload_n C (pc := 7) dX8_findBestOrder_7 rfl ?_
    refine x_aload_n C (pc := 8) dX8_findBestOrder_8 rfl ?_
    refine x_getR C (pc := 9) fg_X8_22 dX8_findBestOrder_9 ha ?_
    refine x_getI C (pc := 12) fg_X8_28 dX8_findBestOrder_12 (lkd_4_3 ha) ?_
    refine x_icmp_ge C (pc := 15) (tgt := 60) dX8_findBestOrder_15 (by decide) (fun _ => ?_) (fun _ => ?_)
    · skip
      exact Xo.done (fun h => Yx.weak (lw_s (lw_s (lw_n (lw_n lw_0)))) h)
    · skip
      refine x_aload_n C (pc := 18) dX8_findBestOrder_18 rfl ?_
      refine x_getI C (pc := 19) fg_X8_18 dX8_findBestOrder_19 ht ?_
      refine x_iconst C (pc := 22) dX8_findBestOrder_22 kc_i_5 ?_
      refine x_icmp_ge C (pc := 23) (tgt := 60) dX8_findBestOrder_23 (by decide) (fun _ => ?_) (fun _ => ?_)
      · skip
        exact Xo.done (fun h => Yx.weak (lw_s (lw_s (lw_n (lw_n lw_0)))) h)
      · skip
        refine x_aload_n C (pc := 26) dX8_findBestOrder_26 rfl ?_
        refine x_iload_n C (pc := 27) dX8_findBestOrder_27 rfl ?_
        refine x_callVi C (pc := 28) mv_X8_33 ha rfl [.int n3] (fun _ hr => ct_X4_isHeard _ ha _ _ _ hr) ⟨Nat.le_of_ble_eq_true rfl, Nat.le_of_ble_eq_true rfl⟩ rfl (Nat.le_of_ble_eq_true rfl) rfl dX8_findBestOrder_28 (fun r5 => ?_)
        refine xb_1 (Z1 := fun s8 => Yx o 54 [some (.ref t), some (.ref a), some (.int n3), none] [] s8) ?_ (fun s8 => ?_)
        · skip
          refine x_if_ne C (pc := 31) (tgt := 54) dX8_findBestOrder_31 (by decide) (fun _ => ?_) (fun _ => ?_)
          · skip
            refine x_aload_n C (pc := 34) dX8_findBestOrder_34 rfl ?_
            refine x_getR C (pc := 35) fg_X8_9 dX8_findBestOrder_35 ht ?_
            refine x_aload_n C (pc := 38) dX8_findBestOrder_38 rfl ?_
            refine x_getI C (pc := 39) fg_X8_18 dX8_findBestOrder_39 ht ?_
            refine x_iload_n C (pc := 42) dX8_findBestOrder_42 rfl ?_
            refine x_iastn C (pc := 43) dX8_findBestOrder_43 (lkd_6_0 ht) (fun s6 => ?_)
            refine x_aload_n C (pc := 44) dX8_findBestOrder_44 rfl ?_
            refine x_dup C (pc := 45) dX8_findBestOrder_45 rfl ?_
            refine x_getI C (pc := 46) fg_X8_18 dX8_findBestOrder_46 ht ?_
            refine x_iconst C (pc := 49) dX8_findBestOrder_49 kc_i_1 ?_
            refine x_iadd C (pc := 50) dX8_findBestOrder_50 ?_
            refine x_putIn C (pc := 51) fp_X8_18 dX8_findBestOrder_51 ht (fun s7 => ?_)
            exact Xo.done (fun h => Yx.weak (lw_s (lw_s (lw_s (lw_n lw_0)))) h)
          · skip
            exact Xo.done (fun h => Yx.weak (lw_s (lw_s (lw_s (lw_n lw_0)))) h)
        refine x_iinc C (pc := 54) (L' := fun i9 => [some (.ref t), some (.ref a), some (.int i9), none]) dX8_findBestOrder_54 rfl kc_i_1 (by decide) (fun _ => rfl) (fun i9 => ?_)
        refine x_goto C (pc := 57) (tgt := 7) dX8_findBestOrder_57 (by decide) ?_
        exact Xo.done (fun h => Yx.weak (lw_s (lw_s (lw_s (lw_n lw_0)))) h)
  refine x_aload_n C (pc := 60) dX8_findBestOrder_60 rfl ?_
  refine x_iconst C (pc := 61) dX8_findBestOrder_61 kc_i_m1 ?_
  refine x_putIn C (pc := 62) fp_X8_37 dX8_findBestOrder_62 ht (fun s11 => ?_)
  refine x_iconst C (pc := 65) dX8_findBestOrder_65 kc_i_0 ?_
  refine x_istore_n C (pc := 66) (L' := fun i12 => [some (.ref t), some (.ref a), some (.int i12), none]) dX8_findBestOrder_66 (by decide) (fun _ => rfl) (fun i12 => ?_)
  refine xe_1 (Z1 := (fun s23 => Yx o 125 [none, none, none, none] [] s23)) ?_ (fun s23 => ?_)
  · refine Xo.mono (Yx.weak (lw_s (lw_s (lw_s (lw_n lw_0))))) (x_lp2 (fr := fun n13 s14 => Yx o 67 [some (.ref t), some (.ref a), some (.int n13), none] [] s14) _ _ (fun n13 s14 => ?_))
    refine x_iload_n C (pc := 67) dX8_findBestOrder_67 rfl ?_
    refine x_bipush C (pc := 68) dX8_findBestOrder_68 kc_b_120 ?_
    refine x_icmp_ge C (pc := 70) (tgt := 125) dX8_findBestOrder_70 (by decide) (fun _ => ?_) (fun _ => ?_)
    · skip
      exact Xo.done (fun h => Yx.weak (lw_n (lw_n (lw_n (lw_n lw_0)))) h)
    · skip
      refine x_aload_n C (pc := 73) dX8_findBestOrder_73 rfl ?_
      refine x_aload_n C (pc := 74) dX8_findBestOrder_74 rfl ?_
      refine x_callVi C (pc := 75) mv_X8_40 ht rfl [.ref a] (fun _ hr => ct_X8_wonInOrder _ ht _ ha _ _ hr) ⟨Nat.le_of_ble_eq_true rfl, Nat.le_of_ble_eq_true rfl⟩ rfl (Nat.le_of_ble_eq_true rfl) rfl dX8_findBestOrder_75 (fun r15 => ?_)
      refine x_istore_n C (pc := 78) (L' := fun i16 => [some (.ref t), some (.ref a), some (.int n13), some (.int i16)]) dX8_findBestOrder_78 (by decide) (fun _ => rfl) (fun i16 => ?_)
      refine x_iload_n C (pc := 79) dX8_findBestOrder_79 rfl ?_
      refine x_aload_n C (pc := 80) dX8_findBestOrder_80 rfl ?_
      refine x_getI C (pc := 81) fg_X8_37 dX8_findBestOrder_81 ht ?_
      refine xb_1 (Z1 := fun s19 => Yx o 109 [some (.ref t), some (.ref a), some (.int n13), none] [] s19) ?_ (fun s19 => ?_)
      · skip
        refine x_icmp_le C (pc := 84) (tgt := 109) dX8_findBestOrder_84 (by decide) (fun _ => ?_) (fun _ => ?_)
        · skip
          exact Xo.done (fun h => Yx.weak (lw_s (lw_s (lw_s (lw_n lw_0)))) h)
        · skip
          refine x_aload_n C (pc := 87) dX8_findBestOrder_87 rfl ?_
          refine x_iload_n C (pc := 88) dX8_findBestOrder_88 rfl ?_
          refine x_putIn C (pc := 89) fp_X8_37 dX8_findBestOrder_89 ht (fun s17 => ?_)
          refine x_aload_n C (pc := 92) dX8_findBestOrder_92 rfl ?_
          refine x_getR C (pc := 93) fg_X8_9 dX8_findBestOrder_93 ht ?_
          refine x_iconst C (pc := 96) dX8_findBestOrder_96 kc_i_0 ?_
          refine x_aload_n C (pc := 97) dX8_findBestOrder_97 rfl ?_
          refine x_getR C (pc := 98) fg_X8_15 dX8_findBestOrder_98 ht ?_
          refine x_iconst C (pc := 101) dX8_findBestOrder_101 kc_i_0 ?_
          refine x_aload_n C (pc := 102) dX8_findBestOrder_102 rfl ?_
          refine x_getI C (pc := 103) fg_X8_18 dX8_findBestOrder_103 ht ?_
          refine x_acopyn C (pc := 106) ml_X8_44 tw_acn tw_acs tw_aci ⟨Nat.le_of_ble_eq_true rfl, Nat.le_of_ble_eq_true rfl⟩ dX8_findBestOrder_106 (lkd_6_0 ht) (lkd_6_1 ht) (fun s18 => ?_)
          exact Xo.done (fun h => Yx.weak (lw_s (lw_s (lw_s (lw_n lw_0)))) h)
      refine x_aload_n C (pc := 109) dX8_findBestOrder_109 rfl ?_
      refine x_callVim C (pc := 110) mv_X8_50 ht rfl [] (fun _ _ hr => ct_X8_goToNextOrder _ ht _ _ _ hr) ⟨Nat.le_of_ble_eq_true rfl, Nat.le_of_ble_eq_true rfl⟩ rfl (Nat.le_of_ble_eq_true rfl) rfl dX8_findBestOrder_110 (fun r20 s21 => ?_)
      refine x_if_ne C (pc := 113) (tgt := 119) dX8_findBestOrder_113 (by decide) (fun _ => ?_) (fun _ => ?_)
      · skip
        refine x_goto C (pc := 116) (tgt := 125) dX8_findBestOrder_116 (by decide) ?_
        exact Xo.done (fun h => Yx.weak (lw_n (lw_n (lw_n (lw_n lw_0)))) h)
      · skip
        refine x_iinc C (pc := 119) (L' := fun i22 => [some (.ref t), some (.ref a), some (.int i22), none]) dX8_findBestOrder_119 rfl kc_i_1 (by decide) (fun _ => rfl) (fun i22 => ?_)
        refine x_goto C (pc := 122) (tgt := 67) dX8_findBestOrder_122 (by decide) ?_
        exact Xo.done (fun h => Yx.weak (lw_s (lw_s (lw_s (lw_n lw_0)))) h)
  exact x_vret dX8_findBestOrder_125 (fun h => h)
theorem ct_X8_findBestOrder (t : Nat) (ht : kd t = 6) (a : Nat) (ha : kd a = 4) (s0 : SS) (r : SS) (h : FX8_findBestOrder t a s0 = some r) : CT 0 yX8_findBestOrder cX8_findBestOrder 4 none 3 73 [.ref t, .ref a] s0 none r :=
  ct_of (by decide +kernel) (Or.inl ⟨rfl, rfl⟩) (lx_args [.ref t, .ref a]) (lx_entry [.ref t, .ref a] (fun _ => Nat.le_of_ble_eq_true rfl)) (fun o C hR => Yx.weak (lw_s (lw_s (lw_z (lw_z lw_0)))) (bd_X8_findBestOrder C t ht a ha s0 r h hR))
def FX9_digestBehind (t : Nat) (a : Int64) (s0 : SS) : Option (Int64) :=
  nm a (fun (l1 : Int64) => nm (nI 0) (fun (i2 : Int32) => bd (lp FUEL (u2 (fun (m3 : Int64) (n4 : Int32) => if (gI s0 t 3) ≤ n4 then some (Sum.inr m3) else (nm (nI 0) (fun (i5 : Int32) => bd (lp FUEL (u2 (fun (m6 : Int64) (n7 : Int32) => if (gI s0 t 0) ≤ n7 then some (Sum.inr m6) else (bd (FX9_at t n4 n7 s0) (fun (r8 : Int32) => nm (((31 : Int64) * m6) + (Int32.toInt64 r8)) (fun (l9 : Int64) => nm (n7 + (nI 1)) (fun (i10 : Int32) => some (Sum.inl (l9, i10)))))))) (m3, i5)) (fun (f11 : Int64) => nm (n4 + (nI 1)) (fun (i12 : Int32) => some (Sum.inl (f11, i12)))))))) (l1, i2)) (fun (f13 : Int64) => some (f13))))
set_option maxRecDepth 100000 in
set_option maxHeartbeats 4000000 in
theorem bd_X9_digestBehind {o : Om} (C : Cx o RX9 cX9_digestBehind 7 (some .long) (rmx 1 22) 0) (t : Nat) (ht : kd t = 7) (a : Int64) (s0 : SS) : Xo (FX9_digestBehind t a s0) (fun r => RT o cX9_digestBehind (some (.long r)) s0) (Yx o 0 [some (.ref t), some (.long a), none, none, none, none, none] [] s0) := by
  unfold FX9_digestBehind
  refine x_lload_n C (pc := 0) dX9_digestBehind_0 rfl ?_
  refine x_lstore_n C (pc := 1) (L' := fun l1 => [some (.ref t), some (.long a), none, some (.long l1), none, none, none]) dX9_digestBehind_1 (by decide) (fun _ => rfl) (fun l1 => ?_)
  refine x_iconst C (pc := 2) dX9_digestBehind_2 kc_i_0 ?_
  refine x_istore C (pc := 3) (L' := fun i2 => [some (.ref t), some (.long a), none, some (.long l1), none, some (.int i2), none]) dX9_digestBehind_3 (by decide) (fun _ => rfl) (fun i2 => ?_)
  refine xb_1 (Z1 := (fun f13 => Yx o 54 [none, none, none, some (.long f13), none, none, none] [] s0)) ?_ (fun f13 => ?_)
  · refine Xo.mono (Yx.weak (lw_s (lw_n (lw_n (lw_s (lw_n (lw_s (lw_n lw_0)))))))) (x_lp2 (fr := fun m3 n4 => Yx o 5 [some (.ref t), none, none, some (.long m3), none, some (.int n4), none] [] s0) _ _ (fun m3 n4 => ?_))
    refine x_iload C (pc := 5) dX9_digestBehind_5 rfl ?_
    refine x_aload_n C (pc := 7) dX9_digestBehind_7 rfl ?_
    refine x_getI C (pc := 8) fg_X9_22 dX9_digestBehind_8 ht ?_
    refine x_icmp_ge C (pc := 11) (tgt := 54) dX9_digestBehind_11 (by decide) (fun _ => ?_) (fun _ => ?_)
    · skip
      exact Xo.done (fun h => Yx.weak (lw_n (lw_n (lw_n (lw_s (lw_n (lw_n (lw_n lw_0))))))) h)
    · skip
      refine x_iconst C (pc := 14) dX9_digestBehind_14 kc_i_0 ?_
      refine x_istore C (pc := 15) (L' := fun i5 => [some (.ref t), none, none, some (.long m3), none, some (.int n4), some (.int i5)]) dX9_digestBehind_15 (by decide) (fun _ => rfl) (fun i5 => ?_)
      refine xb_1 (Z1 := (fun f11 => Yx o 48 [some (.ref t), none, none, some (.long f11), none, some (.int n4), none] [] s0)) ?_ (fun f11 => ?_)
      · refine Xo.mono (Yx.weak (lw_s (lw_n (lw_n (lw_s (lw_n (lw_s (lw_s lw_0)))))))) (x_lp2 (fr := fun m6 n7 => Yx o 17 [some (.ref t), none, none, some (.long m6), none, some (.int n4), some (.int n7)] [] s0) _ _ (fun m6 n7 => ?_))
        refine x_iload C (pc := 17) dX9_digestBehind_17 rfl ?_
        refine x_aload_n C (pc := 19) dX9_digestBehind_19 rfl ?_
        refine x_getI C (pc := 20) fg_X9_15 dX9_digestBehind_20 ht ?_
        refine x_icmp_ge C (pc := 23) (tgt := 48) dX9_digestBehind_23 (by decide) (fun _ => ?_) (fun _ => ?_)
        · skip
          exact Xo.done (fun h => Yx.weak (lw_s (lw_n (lw_n (lw_s (lw_n (lw_s (lw_n lw_0))))))) h)
        · skip
          refine x_ldc2 C (pc := 26) dX9_digestBehind_26 cl_X9_39 ?_
          refine x_lload_n C (pc := 29) dX9_digestBehind_29 rfl ?_
          refine x_lmul C (pc := 30) dX9_digestBehind_30 ?_
          refine x_aload_n C (pc := 31) dX9_digestBehind_31 rfl ?_
          refine x_iload C (pc := 32) dX9_digestBehind_32 rfl ?_
          refine x_iload C (pc := 34) dX9_digestBehind_34 rfl ?_
          refine x_callVi C (pc := 36) mv_X9_41 ht rfl [.int n4, .int n7] (fun _ hr => ct_X9_at _ ht _ _ _ _ hr) ⟨Nat.le_of_ble_eq_true rfl, Nat.le_of_ble_eq_true rfl⟩ rfl (Nat.le_of_ble_eq_true rfl) rfl dX9_digestBehind_36 (fun r8 => ?_)
          refine x_i2l C (pc := 39) dX9_digestBehind_39 ?_
          refine x_ladd C (pc := 40) dX9_digestBehind_40 ?_
          refine x_lstore_n C (pc := 41) (L' := fun l9 => [some (.ref t), none, none, some (.long l9), none, some (.int n4), some (.int n7)]) dX9_digestBehind_41 (by decide) (fun _ => rfl) (fun l9 => ?_)
          refine x_iinc C (pc := 42) (L' := fun i10 => [some (.ref t), none, none, some (.long l9), none, some (.int n4), some (.int i10)]) dX9_digestBehind_42 rfl kc_i_1 (by decide) (fun _ => rfl) (fun i10 => ?_)
          refine x_goto C (pc := 45) (tgt := 17) dX9_digestBehind_45 (by decide) ?_
          exact Xo.done (fun h => Yx.weak (lw_s (lw_n (lw_n (lw_s (lw_n (lw_s (lw_s lw_0))))))) h)
      refine x_iinc C (pc := 48) (L' := fun i12 => [some (.ref t), none, none, some (.long f11), none, some (.int i12), none]) dX9_digestBehind_48 rfl kc_i_1 (by decide) (fun _ => rfl) (fun i12 => ?_)
      refine x_goto C (pc := 51) (tgt := 5) dX9_digestBehind_51 (by decide) ?_
      exact Xo.done (fun h => Yx.weak (lw_s (lw_n (lw_n (lw_s (lw_n (lw_s (lw_n lw_0))))))) h)
  refine x_lload_n C (pc := 54) dX9_digestBehind_54 rfl ?_
  exact x_lret dX9_digestBehind_55 (fun h => h)
theorem ct_X9_digestBehind (t : Nat) (ht : kd t = 7) (a : Int64) (s0 : SS) (r : Int64) (h : FX9_digestBehind t a s0 = some r) : CT 0 yX9_digestBehind cX9_digestBehind 7 (some .long) 1 22 [.ref t, .long a] s0 (some (.long r)) s0 :=
  ct_of (by decide +kernel) (Or.inr (Or.inr ⟨_, rfl, rfl⟩)) (lx_args [.ref t, .long a]) (lx_entry [.ref t, .long a] (fun _ => Nat.le_of_ble_eq_true rfl)) (fun o C hR => Yx.weak (lw_s (lw_s (lw_s (lw_z (lw_z (lw_z (lw_z lw_0))))))) (bd_X9_digestBehind C t ht a s0 r h hR))
def FX10_isFull (t : Nat) (s0 : SS) : Option (Int32) :=
  if (gI s0 t 1) < (nI 150) then some ((nI 0)) else (some ((nI 1)))
set_option maxRecDepth 100000 in
set_option maxHeartbeats 4000000 in
theorem bd_X10_isFull {o : Om} (C : Cx o RX10 cX10_isFull 1 (some .boolean) (rmx 0 0) 0) (t : Nat) (ht : kd t = 8) (s0 : SS) : Xo (FX10_isFull t s0) (fun r => zb r = true → RT o cX10_isFull (some (.int r)) s0) (Yx o 0 [some (.ref t)] [] s0) := by
  unfold FX10_isFull
  refine x_aload_n C (pc := 0) dX10_isFull_0 rfl ?_
  refine x_getI C (pc := 1) fg_X10_15 dX10_isFull_1 ht ?_
  refine x_sipush C (pc := 4) dX10_isFull_4 kc_s_150 ?_
  refine x_icmp_lt C (pc := 7) (tgt := 14) dX10_isFull_7 (by decide) (fun _ => ?_) (fun _ => ?_)
  · skip
    refine x_iconst C (pc := 14) dX10_isFull_14 kc_i_0 ?_
    exact x_ret dX10_isFull_15 (fun h => h zb_0)
  · skip
    refine x_iconst C (pc := 10) dX10_isFull_10 kc_i_1 ?_
    refine x_goto C (pc := 11) (tgt := 15) dX10_isFull_11 (by decide) ?_
    exact x_ret dX10_isFull_15 (fun h => h zb_1)
theorem ct_X10_isFull (t : Nat) (ht : kd t = 8) (s0 : SS) (r : Int32) (h : FX10_isFull t s0 = some r) : CT 0 yX10_isFull cX10_isFull 1 (some .boolean) 0 0 [.ref t] s0 (some (.int r)) s0 :=
  ct_ofz (by decide +kernel) rfl (lx_args [.ref t]) (lx_entry [.ref t] (fun _ => Nat.le_of_ble_eq_true rfl)) (fun o C hR => Yx.weak (lw_s lw_0) (bd_X10_isFull C t ht s0 r h hR))
def FX10_add (t : Nat) (a : Int32) (s0 : SS) : Option (Int32 × SS) :=
  bd (FX11_within (gI s0 t 1) (nI 0) (nI 149) s0) (fun (r1 : Int32) => bd (if r1 = 0 then some (s0) else (gd (inb (gI s0 t 1) (ln (lk t 0))) (nm (pI s0 (lk t 0) (Int32.toNatClampNeg (gI s0 t 1)) a) (fun (s2 : SS) => nm (pI s2 t 1 ((gI s2 t 1) + (nI 1))) (fun (s3 : SS) => some (s3)))))) (fun (s4 : SS) => some (((gI s4 t 1), s4))))
set_option maxRecDepth 100000 in
set_option maxHeartbeats 4000000 in
theorem bd_X10_add {o : Om} (C : Cx o RX10 cX10_add 2 (some .int) (rmx 1 22) 0) (t : Nat) (ht : kd t = 8) (a : Int32) (s0 : SS) : Xo (FX10_add t a s0) (fun r => RT o cX10_add (some (.int r.1)) r.2) (Yx o 0 [some (.ref t), some (.int a)] [] s0) := by
  unfold FX10_add
  refine x_aload_n C (pc := 0) dX10_add_0 rfl ?_
  refine x_getI C (pc := 1) fg_X10_15 dX10_add_1 ht ?_
  refine x_iconst C (pc := 4) dX10_add_4 kc_i_0 ?_
  refine x_sipush C (pc := 5) dX10_add_5 kc_s_149 ?_
  refine x_callNi C (pc := 8) mn_X10_19 [.int (gI s0 t 1), .int (nI 0), .int (nI 149)] (fun _ hr => ct_X11_within _ _ _ _ _ hr) ⟨Nat.le_of_ble_eq_true rfl, Nat.le_of_ble_eq_true rfl⟩ rfl (Nat.le_of_ble_eq_true rfl) rfl dX10_add_8 (fun r1 => ?_)
  refine xb_1 (Z1 := fun s4 => Yx o 34 [some (.ref t), none] [] s4) ?_ (fun s4 => ?_)
  · skip
    refine x_if_eq C (pc := 11) (tgt := 34) dX10_add_11 (by decide) (fun _ => ?_) (fun _ => ?_)
    · skip
      exact Xo.done (fun h => Yx.weak (lw_s (lw_n lw_0)) h)
    · skip
      refine x_aload_n C (pc := 14) dX10_add_14 rfl ?_
      refine x_getR C (pc := 15) fg_X10_9 dX10_add_15 ht ?_
      refine x_aload_n C (pc := 18) dX10_add_18 rfl ?_
      refine x_getI C (pc := 19) fg_X10_15 dX10_add_19 ht ?_
      refine x_iload_n C (pc := 22) dX10_add_22 rfl ?_
      refine x_iastn C (pc := 23) dX10_add_23 (lkd_8_0 ht) (fun s2 => ?_)
      refine x_aload_n C (pc := 24) dX10_add_24 rfl ?_
      refine x_dup C (pc := 25) dX10_add_25 rfl ?_
      refine x_getI C (pc := 26) fg_X10_15 dX10_add_26 ht ?_
      refine x_iconst C (pc := 29) dX10_add_29 kc_i_1 ?_
      refine x_iadd C (pc := 30) dX10_add_30 ?_
      refine x_putIn C (pc := 31) fp_X10_15 dX10_add_31 ht (fun s3 => ?_)
      exact Xo.done (fun h => Yx.weak (lw_s (lw_n lw_0)) h)
  refine x_aload_n C (pc := 34) dX10_add_34 rfl ?_
  refine x_getI C (pc := 35) fg_X10_15 dX10_add_35 ht ?_
  exact x_ret dX10_add_38 (fun h => h)
theorem ct_X10_add (t : Nat) (ht : kd t = 8) (a : Int32) (s0 : SS) (r : Int32) (s2 : SS) (h : FX10_add t a s0 = some (r, s2)) : CT 0 yX10_add cX10_add 2 (some .int) 1 22 [.ref t, .int a] s0 (some (.int r)) s2 :=
  ct_of (by decide +kernel) (Or.inr (Or.inl ⟨_, rfl, _, rfl, rfl⟩)) (lx_args [.ref t, .int a]) (lx_entry [.ref t, .int a] (fun _ => Nat.le_of_ble_eq_true rfl)) (fun o C hR => Yx.weak (lw_s (lw_s lw_0)) (bd_X10_add C t ht a s0 (r, s2) h hR))
def FX11_island (t : Nat) (s0 : SS) : Option (Int32 × SS) :=
  nm (gI s0 (lk (lk t 0) 2) 3) (fun (i1 : Int32) => bd (FX4_reset (lk t 0) s0) (fun (s2 : SS) => some ((i1, s2))))
set_option maxRecDepth 100000 in
set_option maxHeartbeats 4000000 in
theorem bd_X11_island {o : Om} (C : Cx o RX11 cX11_island 2 (some .int) (rmx 2 42) 0) (t : Nat) (ht : kd t = 9) (s0 : SS) : Xo (FX11_island t s0) (fun r => RT o cX11_island (some (.int r.1)) r.2) (Yx o 0 [some (.ref t), none] [] s0) := by
  unfold FX11_island
  refine x_aload_n C (pc := 0) dX11_island_0 rfl ?_
  refine x_getR C (pc := 1) fg_X11_12 dX11_island_1 ht ?_
  refine x_getR C (pc := 4) fg_X11_75 dX11_island_4 (lkd_9_0 ht) ?_
  refine x_getI C (pc := 7) fg_X11_79 dX11_island_7 (lkd_4_2 (lkd_9_0 ht)) ?_
  refine x_istore_n C (pc := 10) (L' := fun i1 => [some (.ref t), some (.int i1)]) dX11_island_10 (by decide) (fun _ => rfl) (fun i1 => ?_)
  refine x_aload_n C (pc := 11) dX11_island_11 rfl ?_
  refine x_getR C (pc := 12) fg_X11_12 dX11_island_12 ht ?_
  refine x_callVv C (pc := 15) mv_X11_85 (lkd_9_0 ht) rfl [] (fun _ hr => ct_X4_reset _ (lkd_9_0 ht) _ _ hr) ⟨Nat.le_of_ble_eq_true rfl, Nat.le_of_ble_eq_true rfl⟩ rfl (Nat.le_of_ble_eq_true rfl) rfl dX11_island_15 (fun s2 => ?_)
  refine x_iload_n C (pc := 18) dX11_island_18 rfl ?_
  exact x_ret dX11_island_19 (fun h => h)
theorem ct_X11_island (t : Nat) (ht : kd t = 9) (s0 : SS) (r : Int32) (s2 : SS) (h : FX11_island t s0 = some (r, s2)) : CT 0 yX11_island cX11_island 2 (some .int) 2 42 [.ref t] s0 (some (.int r)) s2 :=
  ct_of (by decide +kernel) (Or.inr (Or.inl ⟨_, rfl, _, rfl, rfl⟩)) (lx_args [.ref t]) (lx_entry [.ref t] (fun _ => Nat.le_of_ble_eq_true rfl)) (fun o C hR => Yx.weak (lw_s (lw_z lw_0)) (bd_X11_island C t ht s0 (r, s2) h hR))
def FX11_refuse (t : Nat) (a : Int32) (s0 : SS) : Option (Int32 × SS) :=
  bd (if a = (-2 : Int32) then nm (pI s0 t 12 ((gI s0 t 12) + (nI 1))) (fun (s1 : SS) => some (s1)) else (if a = (-3 : Int32) then nm (pI s0 t 13 ((gI s0 t 13) + (nI 1))) (fun (s2 : SS) => some (s2)) else (nm (pI s0 t 14 ((gI s0 t 14) + (nI 1))) (fun (s3 : SS) => some (s3))))) (fun (s4 : SS) => some ((a, s4)))
set_option maxRecDepth 100000 in
set_option maxHeartbeats 4000000 in
theorem bd_X11_refuse {o : Om} (C : Cx o RX11 cX11_refuse 2 (some .int) (rmx 0 0) 0) (t : Nat) (ht : kd t = 9) (a : Int32) (s0 : SS) : Xo (FX11_refuse t a s0) (fun r => RT o cX11_refuse (some (.int r.1)) r.2) (Yx o 0 [some (.ref t), some (.int a)] [] s0) := by
  unfold FX11_refuse
  refine x_iload_n C (pc := 0) dX11_refuse_0 rfl ?_
  refine x_bipush C (pc := 1) dX11_refuse_1 kc_b_m2 ?_
  refine xb_1 (Z1 := fun s4 => Yx o 48 [none, some (.int a)] [] s4) ?_ (fun s4 => ?_)
  · skip
    refine x_icmp_ne C (pc := 3) (tgt := 19) dX11_refuse_3 (by decide) (fun _ => ?_) (fun _ => ?_)
    · skip
      refine x_aload_n C (pc := 6) dX11_refuse_6 rfl ?_
      refine x_dup C (pc := 7) dX11_refuse_7 rfl ?_
      refine x_getI C (pc := 8) fg_X11_319 dX11_refuse_8 ht ?_
      refine x_iconst C (pc := 11) dX11_refuse_11 kc_i_1 ?_
      refine x_iadd C (pc := 12) dX11_refuse_12 ?_
      refine x_putIn C (pc := 13) fp_X11_319 dX11_refuse_13 ht (fun s1 => ?_)
      refine x_goto C (pc := 16) (tgt := 48) dX11_refuse_16 (by decide) ?_
      exact Xo.done (fun h => Yx.weak (lw_n (lw_s lw_0)) h)
    · skip
      refine x_iload_n C (pc := 19) dX11_refuse_19 rfl ?_
      refine x_bipush C (pc := 20) dX11_refuse_20 kc_b_m3 ?_
      refine x_icmp_ne C (pc := 22) (tgt := 38) dX11_refuse_22 (by decide) (fun _ => ?_) (fun _ => ?_)
      · skip
        refine x_aload_n C (pc := 25) dX11_refuse_25 rfl ?_
        refine x_dup C (pc := 26) dX11_refuse_26 rfl ?_
        refine x_getI C (pc := 27) fg_X11_322 dX11_refuse_27 ht ?_
        refine x_iconst C (pc := 30) dX11_refuse_30 kc_i_1 ?_
        refine x_iadd C (pc := 31) dX11_refuse_31 ?_
        refine x_putIn C (pc := 32) fp_X11_322 dX11_refuse_32 ht (fun s2 => ?_)
        refine x_goto C (pc := 35) (tgt := 48) dX11_refuse_35 (by decide) ?_
        exact Xo.done (fun h => Yx.weak (lw_n (lw_s lw_0)) h)
      · skip
        refine x_aload_n C (pc := 38) dX11_refuse_38 rfl ?_
        refine x_dup C (pc := 39) dX11_refuse_39 rfl ?_
        refine x_getI C (pc := 40) fg_X11_325 dX11_refuse_40 ht ?_
        refine x_iconst C (pc := 43) dX11_refuse_43 kc_i_1 ?_
        refine x_iadd C (pc := 44) dX11_refuse_44 ?_
        refine x_putIn C (pc := 45) fp_X11_325 dX11_refuse_45 ht (fun s3 => ?_)
        exact Xo.done (fun h => Yx.weak (lw_n (lw_s lw_0)) h)
  refine x_iload_n C (pc := 48) dX11_refuse_48 rfl ?_
  exact x_ret dX11_refuse_49 (fun h => h)
theorem ct_X11_refuse (t : Nat) (ht : kd t = 9) (a : Int32) (s0 : SS) (r : Int32) (s2 : SS) (h : FX11_refuse t a s0 = some (r, s2)) : CT 0 yX11_refuse cX11_refuse 2 (some .int) 0 0 [.ref t, .int a] s0 (some (.int r)) s2 :=
  ct_of (by decide +kernel) (Or.inr (Or.inl ⟨_, rfl, _, rfl, rfl⟩)) (lx_args [.ref t, .int a]) (lx_entry [.ref t, .int a] (fun _ => Nat.le_of_ble_eq_true rfl)) (fun o C hR => Yx.weak (lw_s (lw_s lw_0)) (bd_X11_refuse C t ht a s0 (r, s2) h hR))
def FX11_wind (t : Nat) (a : Int32) (b : Int32) (c : Int32) (s0 : SS) : Option (Int32 × SS) :=
  bd (FX11_isHourOfDay a s0) (fun (r1 : Int32) => if r1 = 0 then bd2 (FX11_refuse t (-2 : Int32) s0) (fun (r2 : Int32) (s3 : SS) => some ((r2, s3))) else (bd (FX11_within b (nI 0) (nI 20) s0) (fun (r4 : Int32) => if r4 = 0 then bd2 (FX11_refuse t (-2 : Int32) s0) (fun (r5 : Int32) (s6 : SS) => some ((r5, s6))) else (bd (FX11_within c (nI 0) (nI 1) s0) (fun (r7 : Int32) => if r7 = 0 then bd2 (FX11_refuse t (-2 : Int32) s0) (fun (r8 : Int32) (s9 : SS) => some ((r8, s9))) else (gd (inb a (ln (lk (lk t 0) 0))) (gd (inb a (ln (lk (lk t 0) 1))) (nm (((nI 10) * (gI s0 (lk (lk t 0) 0) (Int32.toNatClampNeg a))) + (gI s0 (lk (lk t 0) 1) (Int32.toNatClampNeg a))) (fun (i10 : Int32) => bd (FX4_tellWind (lk t 0) a b c s0) (fun (s11 : SS) => some ((i10, s11))))))))))))
set_option maxRecDepth 100000 in
set_option maxHeartbeats 4000000 in
theorem bd_X11_wind {o : Om} (C : Cx o RX11 cX11_wind 5 (some .int) (rmx 3 65) 0) (t : Nat) (ht : kd t = 9) (a : Int32) (b : Int32) (c : Int32) (s0 : SS) : Xo (FX11_wind t a b c s0) (fun r => RT o cX11_wind (some (.int r.1)) r.2) (Yx o 0 [some (.ref t), some (.int a), some (.int b), some (.int c), none] [] s0) := by
  unfold FX11_wind
  refine x_iload_n C (pc := 0) dX11_wind_0 rfl ?_
  refine x_callSi C (pc := 1) ms_X11_88 [.int a] (fun _ hr => ct_X11_isHourOfDay _ _ _ hr) ⟨Nat.le_of_ble_eq_true rfl, Nat.le_of_ble_eq_true rfl⟩ rfl (Nat.le_of_ble_eq_true rfl) rfl dX11_wind_1 (fun r1 => ?_)
  refine x_if_eq C (pc := 4) (tgt := 26) dX11_wind_4 (by decide) (fun _ => ?_) (fun _ => ?_)
  · skip
    refine x_aload_n C (pc := 26) dX11_wind_26 rfl ?_
    refine x_bipush C (pc := 27) dX11_wind_27 kc_b_m2 ?_
    refine x_callVim C (pc := 29) mv_X11_96 ht rfl [.int (-2 : Int32)] (fun _ _ hr => ct_X11_refuse _ ht _ _ _ _ hr) ⟨Nat.le_of_ble_eq_true rfl, Nat.le_of_ble_eq_true rfl⟩ rfl (Nat.le_of_ble_eq_true rfl) rfl dX11_wind_29 (fun r2 s3 => ?_)
    exact x_ret dX11_wind_32 (fun h => h)
  · skip
    refine x_iload_n C (pc := 7) dX11_wind_7 rfl ?_
    refine x_iconst C (pc := 8) dX11_wind_8 kc_i_0 ?_
    refine x_bipush C (pc := 9) dX11_wind_9 kc_b_20 ?_
    refine x_callSi C (pc := 11) ms_X11_92 [.int b, .int (nI 0), .int (nI 20)] (fun _ hr => ct_X11_within _ _ _ _ _ hr) ⟨Nat.le_of_ble_eq_true rfl, Nat.le_of_ble_eq_true rfl⟩ rfl (Nat.le_of_ble_eq_true rfl) rfl dX11_wind_11 (fun r4 => ?_)
    refine x_if_eq C (pc := 14) (tgt := 26) dX11_wind_14 (by decide) (fun _ => ?_) (fun _ => ?_)
    · skip
      refine x_aload_n C (pc := 26) dX11_wind_26 rfl ?_
      refine x_bipush C (pc := 27) dX11_wind_27 kc_b_m2 ?_
      refine x_callVim C (pc := 29) mv_X11_96 ht rfl [.int (-2 : Int32)] (fun _ _ hr => ct_X11_refuse _ ht _ _ _ _ hr) ⟨Nat.le_of_ble_eq_true rfl, Nat.le_of_ble_eq_true rfl⟩ rfl (Nat.le_of_ble_eq_true rfl) rfl dX11_wind_29 (fun r5 s6 => ?_)
      exact x_ret dX11_wind_32 (fun h => h)
    · skip
      refine x_iload_n C (pc := 17) dX11_wind_17 rfl ?_
      refine x_iconst C (pc := 18) dX11_wind_18 kc_i_0 ?_
      refine x_iconst C (pc := 19) dX11_wind_19 kc_i_1 ?_
      refine x_callSi C (pc := 20) ms_X11_92 [.int c, .int (nI 0), .int (nI 1)] (fun _ hr => ct_X11_within _ _ _ _ _ hr) ⟨Nat.le_of_ble_eq_true rfl, Nat.le_of_ble_eq_true rfl⟩ rfl (Nat.le_of_ble_eq_true rfl) rfl dX11_wind_20 (fun r7 => ?_)
      refine x_if_ne C (pc := 23) (tgt := 33) dX11_wind_23 (by decide) (fun _ => ?_) (fun _ => ?_)
      · skip
        refine x_aload_n C (pc := 26) dX11_wind_26 rfl ?_
        refine x_bipush C (pc := 27) dX11_wind_27 kc_b_m2 ?_
        refine x_callVim C (pc := 29) mv_X11_96 ht rfl [.int (-2 : Int32)] (fun _ _ hr => ct_X11_refuse _ ht _ _ _ _ hr) ⟨Nat.le_of_ble_eq_true rfl, Nat.le_of_ble_eq_true rfl⟩ rfl (Nat.le_of_ble_eq_true rfl) rfl dX11_wind_29 (fun r8 s9 => ?_)
        exact x_ret dX11_wind_32 (fun h => h)
      · skip
        refine x_bipush C (pc := 33) dX11_wind_33 kc_b_10 ?_
        refine x_aload_n C (pc := 35) dX11_wind_35 rfl ?_
        refine x_getR C (pc := 36) fg_X11_12 dX11_wind_36 ht ?_
        refine x_getR C (pc := 39) fg_X11_100 dX11_wind_39 (lkd_9_0 ht) ?_
        refine x_iload_n C (pc := 42) dX11_wind_42 rfl ?_
        refine x_iald C (pc := 43) dX11_wind_43 (lkd_4_0 (lkd_9_0 ht)) (fun _ => ?_)
        refine x_imul C (pc := 44) dX11_wind_44 ?_
        refine x_aload_n C (pc := 45) dX11_wind_45 rfl ?_
        refine x_getR C (pc := 46) fg_X11_12 dX11_wind_46 ht ?_
        refine x_getR C (pc := 49) fg_X11_104 dX11_wind_49 (lkd_9_0 ht) ?_
        refine x_iload_n C (pc := 52) dX11_wind_52 rfl ?_
        refine x_iald C (pc := 53) dX11_wind_53 (lkd_4_1 (lkd_9_0 ht)) (fun _ => ?_)
        refine x_iadd C (pc := 54) dX11_wind_54 ?_
        refine x_istore C (pc := 55) (L' := fun i10 => [some (.ref t), some (.int a), some (.int b), some (.int c), some (.int i10)]) dX11_wind_55 (by decide) (fun _ => rfl) (fun i10 => ?_)
        refine x_aload_n C (pc := 57) dX11_wind_57 rfl ?_
        refine x_getR C (pc := 58) fg_X11_12 dX11_wind_58 ht ?_
        refine x_iload_n C (pc := 61) dX11_wind_61 rfl ?_
        refine x_iload_n C (pc := 62) dX11_wind_62 rfl ?_
        refine x_iload_n C (pc := 63) dX11_wind_63 rfl ?_
        refine x_callVv C (pc := 64) mv_X11_107 (lkd_9_0 ht) rfl [.int a, .int b, .int c] (fun _ hr => ct_X4_tellWind _ (lkd_9_0 ht) _ _ _ _ _ hr) ⟨Nat.le_of_ble_eq_true rfl, Nat.le_of_ble_eq_true rfl⟩ rfl (Nat.le_of_ble_eq_true rfl) rfl dX11_wind_64 (fun s11 => ?_)
        refine x_iload C (pc := 67) dX11_wind_67 rfl ?_
        exact x_ret dX11_wind_69 (fun h => h)
theorem ct_X11_wind (t : Nat) (ht : kd t = 9) (a : Int32) (b : Int32) (c : Int32) (s0 : SS) (r : Int32) (s2 : SS) (h : FX11_wind t a b c s0 = some (r, s2)) : CT 0 yX11_wind cX11_wind 5 (some .int) 3 65 [.ref t, .int a, .int b, .int c] s0 (some (.int r)) s2 :=
  ct_of (by decide +kernel) (Or.inr (Or.inl ⟨_, rfl, _, rfl, rfl⟩)) (lx_args [.ref t, .int a, .int b, .int c]) (lx_entry [.ref t, .int a, .int b, .int c] (fun _ => Nat.le_of_ble_eq_true rfl)) (fun o C hR => Yx.weak (lw_s (lw_s (lw_s (lw_s (lw_z lw_0))))) (bd_X11_wind C t ht a b c s0 (r, s2) h hR))
def FX11_isKind (a : Int32) (s0 : SS) : Option (Int32) :=
  bd (FX11_within a (nI 0) (nI 5) s0) (fun (r1 : Int32) => gd (zb r1) (some (r1)))
set_option maxRecDepth 100000 in
set_option maxHeartbeats 4000000 in
theorem bd_X11_isKind {o : Om} (C : Cx o RX11 cX11_isKind 1 (some .boolean) (rmx 1 22) 0) (a : Int32) (s0 : SS) : Xo (FX11_isKind a s0) (fun r => zb r = true → RT o cX11_isKind (some (.int r)) s0) (Yx o 0 [some (.int a)] [] s0) := by
  unfold FX11_isKind
  refine x_iload_n C (pc := 0) dX11_isKind_0 rfl ?_
  refine x_iconst C (pc := 1) dX11_isKind_1 kc_i_0 ?_
  refine x_iconst C (pc := 2) dX11_isKind_2 kc_i_5 ?_
  refine x_callSi C (pc := 3) ms_X11_92 [.int a, .int (nI 0), .int (nI 5)] (fun _ hr => ct_X11_within _ _ _ _ _ hr) ⟨Nat.le_of_ble_eq_true rfl, Nat.le_of_ble_eq_true rfl⟩ rfl (Nat.le_of_ble_eq_true rfl) rfl dX11_isKind_3 (fun r1 => ?_)
  refine Xo.gd (fun hz => ?_)
  exact x_ret dX11_isKind_6 (fun h => h hz)
theorem ct_X11_isKind (a : Int32) (s0 : SS) (r : Int32) (h : FX11_isKind a s0 = some r) : CT 0 yX11_isKind cX11_isKind 1 (some .boolean) 1 22 [.int a] s0 (some (.int r)) s0 :=
  ct_ofz (by decide +kernel) rfl (lx_args [.int a]) (lx_entry [.int a] (fun _ => Nat.le_of_ble_eq_true rfl)) (fun o C hR => Yx.weak (lw_s lw_0) (bd_X11_isKind C a s0 r h hR))
def FX11_isHeight (a : Int32) (s0 : SS) : Option (Int32) :=
  bd (FX11_within a (nI 1) (nI 4) s0) (fun (r1 : Int32) => gd (zb r1) (some (r1)))
set_option maxRecDepth 100000 in
set_option maxHeartbeats 4000000 in
theorem bd_X11_isHeight {o : Om} (C : Cx o RX11 cX11_isHeight 1 (some .boolean) (rmx 1 22) 0) (a : Int32) (s0 : SS) : Xo (FX11_isHeight a s0) (fun r => zb r = true → RT o cX11_isHeight (some (.int r)) s0) (Yx o 0 [some (.int a)] [] s0) := by
  unfold FX11_isHeight
  refine x_iload_n C (pc := 0) dX11_isHeight_0 rfl ?_
  refine x_iconst C (pc := 1) dX11_isHeight_1 kc_i_1 ?_
  refine x_iconst C (pc := 2) dX11_isHeight_2 kc_i_4 ?_
  refine x_callSi C (pc := 3) ms_X11_92 [.int a, .int (nI 1), .int (nI 4)] (fun _ hr => ct_X11_within _ _ _ _ _ hr) ⟨Nat.le_of_ble_eq_true rfl, Nat.le_of_ble_eq_true rfl⟩ rfl (Nat.le_of_ble_eq_true rfl) rfl dX11_isHeight_3 (fun r1 => ?_)
  refine Xo.gd (fun hz => ?_)
  exact x_ret dX11_isHeight_6 (fun h => h hz)
theorem ct_X11_isHeight (a : Int32) (s0 : SS) (r : Int32) (h : FX11_isHeight a s0 = some r) : CT 0 yX11_isHeight cX11_isHeight 1 (some .boolean) 1 22 [.int a] s0 (some (.int r)) s0 :=
  ct_ofz (by decide +kernel) rfl (lx_args [.int a]) (lx_entry [.int a] (fun _ => Nat.le_of_ble_eq_true rfl)) (fun o C hR => Yx.weak (lw_s lw_0) (bd_X11_isHeight C a s0 r h hR))
def FX11_user (t : Nat) (a : Int32) (b : Int32) (c : Int32) (s0 : SS) : Option (Int32 × SS) :=
  bd (FX11_isKind a s0) (fun (r1 : Int32) => if r1 = 0 then bd2 (FX11_refuse t (-2 : Int32) s0) (fun (r2 : Int32) (s3 : SS) => some ((r2, s3))) else (bd (FX11_isCell b s0) (fun (r4 : Int32) => if r4 = 0 then bd2 (FX11_refuse t (-2 : Int32) s0) (fun (r5 : Int32) (s6 : SS) => some ((r5, s6))) else (bd (FX11_isHeight c s0) (fun (r7 : Int32) => if r7 = 0 then bd2 (FX11_refuse t (-2 : Int32) s0) (fun (r8 : Int32) (s9 : SS) => some ((r8, s9))) else (bd (FX9_isFull (lk (lk t 0) 2) s0) (fun (r10 : Int32) => if r10 = 0 then bd2 (FX4_addUser (lk t 0) a b c s0) (fun (r11 : Int32) (s12 : SS) => some ((r11, s12))) else (bd2 (FX11_refuse t (-4 : Int32) s0) (fun (r13 : Int32) (s14 : SS) => some ((r13, s14)))))))))))
set_option maxRecDepth 100000 in
set_option maxHeartbeats 4000000 in
theorem bd_X11_user {o : Om} (C : Cx o RX11 cX11_user 4 (some .int) (rmx 3 69) 0) (t : Nat) (ht : kd t = 9) (a : Int32) (b : Int32) (c : Int32) (s0 : SS) : Xo (FX11_user t a b c s0) (fun r => RT o cX11_user (some (.int r.1)) r.2) (Yx o 0 [some (.ref t), some (.int a), some (.int b), some (.int c)] [] s0) := by
  unfold FX11_user
  refine x_iload_n C (pc := 0) dX11_user_0 rfl ?_
  refine x_callSi C (pc := 1) ms_X11_111 [.int a] (fun _ hr => ct_X11_isKind _ _ _ hr) ⟨Nat.le_of_ble_eq_true rfl, Nat.le_of_ble_eq_true rfl⟩ rfl (Nat.le_of_ble_eq_true rfl) rfl dX11_user_1 (fun r1 => ?_)
  refine x_if_eq C (pc := 4) (tgt := 21) dX11_user_4 (by decide) (fun _ => ?_) (fun _ => ?_)
  · skip
    refine x_aload_n C (pc := 21) dX11_user_21 rfl ?_
    refine x_bipush C (pc := 22) dX11_user_22 kc_b_m2 ?_
    refine x_callVim C (pc := 24) mv_X11_96 ht rfl [.int (-2 : Int32)] (fun _ _ hr => ct_X11_refuse _ ht _ _ _ _ hr) ⟨Nat.le_of_ble_eq_true rfl, Nat.le_of_ble_eq_true rfl⟩ rfl (Nat.le_of_ble_eq_true rfl) rfl dX11_user_24 (fun r2 s3 => ?_)
    exact x_ret dX11_user_27 (fun h => h)
  · skip
    refine x_iload_n C (pc := 7) dX11_user_7 rfl ?_
    refine x_callSi C (pc := 8) ms_X11_114 [.int b] (fun _ hr => ct_X11_isCell _ _ _ hr) ⟨Nat.le_of_ble_eq_true rfl, Nat.le_of_ble_eq_true rfl⟩ rfl (Nat.le_of_ble_eq_true rfl) rfl dX11_user_8 (fun r4 => ?_)
    refine x_if_eq C (pc := 11) (tgt := 21) dX11_user_11 (by decide) (fun _ => ?_) (fun _ => ?_)
    · skip
      refine x_aload_n C (pc := 21) dX11_user_21 rfl ?_
      refine x_bipush C (pc := 22) dX11_user_22 kc_b_m2 ?_
      refine x_callVim C (pc := 24) mv_X11_96 ht rfl [.int (-2 : Int32)] (fun _ _ hr => ct_X11_refuse _ ht _ _ _ _ hr) ⟨Nat.le_of_ble_eq_true rfl, Nat.le_of_ble_eq_true rfl⟩ rfl (Nat.le_of_ble_eq_true rfl) rfl dX11_user_24 (fun r5 s6 => ?_)
      exact x_ret dX11_user_27 (fun h => h)
    · skip
      refine x_iload_n C (pc := 14) dX11_user_14 rfl ?_
      refine x_callSi C (pc := 15) ms_X11_117 [.int c] (fun _ hr => ct_X11_isHeight _ _ _ hr) ⟨Nat.le_of_ble_eq_true rfl, Nat.le_of_ble_eq_true rfl⟩ rfl (Nat.le_of_ble_eq_true rfl) rfl dX11_user_15 (fun r7 => ?_)
      refine x_if_ne C (pc := 18) (tgt := 28) dX11_user_18 (by decide) (fun _ => ?_) (fun _ => ?_)
      · skip
        refine x_aload_n C (pc := 21) dX11_user_21 rfl ?_
        refine x_bipush C (pc := 22) dX11_user_22 kc_b_m2 ?_
        refine x_callVim C (pc := 24) mv_X11_96 ht rfl [.int (-2 : Int32)] (fun _ _ hr => ct_X11_refuse _ ht _ _ _ _ hr) ⟨Nat.le_of_ble_eq_true rfl, Nat.le_of_ble_eq_true rfl⟩ rfl (Nat.le_of_ble_eq_true rfl) rfl dX11_user_24 (fun r8 s9 => ?_)
        exact x_ret dX11_user_27 (fun h => h)
      · skip
        refine x_aload_n C (pc := 28) dX11_user_28 rfl ?_
        refine x_getR C (pc := 29) fg_X11_12 dX11_user_29 ht ?_
        refine x_getR C (pc := 32) fg_X11_75 dX11_user_32 (lkd_9_0 ht) ?_
        refine x_callVi C (pc := 35) mv_X11_120 (lkd_4_2 (lkd_9_0 ht)) rfl [] (fun _ hr => ct_X9_isFull _ (lkd_4_2 (lkd_9_0 ht)) _ _ hr) ⟨Nat.le_of_ble_eq_true rfl, Nat.le_of_ble_eq_true rfl⟩ rfl (Nat.le_of_ble_eq_true rfl) rfl dX11_user_35 (fun r10 => ?_)
        refine x_if_eq C (pc := 38) (tgt := 50) dX11_user_38 (by decide) (fun _ => ?_) (fun _ => ?_)
        · skip
          refine x_aload_n C (pc := 50) dX11_user_50 rfl ?_
          refine x_getR C (pc := 51) fg_X11_12 dX11_user_51 ht ?_
          refine x_iload_n C (pc := 54) dX11_user_54 rfl ?_
          refine x_iload_n C (pc := 55) dX11_user_55 rfl ?_
          refine x_iload_n C (pc := 56) dX11_user_56 rfl ?_
          refine x_callVim C (pc := 57) mv_X11_124 (lkd_9_0 ht) rfl [.int a, .int b, .int c] (fun _ _ hr => ct_X4_addUser _ (lkd_9_0 ht) _ _ _ _ _ _ hr) ⟨Nat.le_of_ble_eq_true rfl, Nat.le_of_ble_eq_true rfl⟩ rfl (Nat.le_of_ble_eq_true rfl) rfl dX11_user_57 (fun r11 s12 => ?_)
          exact x_ret dX11_user_60 (fun h => h)
        · skip
          refine x_aload_n C (pc := 41) dX11_user_41 rfl ?_
          refine x_bipush C (pc := 42) dX11_user_42 kc_b_m4 ?_
          refine x_callVim C (pc := 44) mv_X11_96 ht rfl [.int (-4 : Int32)] (fun _ _ hr => ct_X11_refuse _ ht _ _ _ _ hr) ⟨Nat.le_of_ble_eq_true rfl, Nat.le_of_ble_eq_true rfl⟩ rfl (Nat.le_of_ble_eq_true rfl) rfl dX11_user_44 (fun r13 s14 => ?_)
          refine x_goto C (pc := 47) (tgt := 60) dX11_user_47 (by decide) ?_
          exact x_ret dX11_user_60 (fun h => h)
theorem ct_X11_user (t : Nat) (ht : kd t = 9) (a : Int32) (b : Int32) (c : Int32) (s0 : SS) (r : Int32) (s2 : SS) (h : FX11_user t a b c s0 = some (r, s2)) : CT 0 yX11_user cX11_user 4 (some .int) 3 69 [.ref t, .int a, .int b, .int c] s0 (some (.int r)) s2 :=
  ct_of (by decide +kernel) (Or.inr (Or.inl ⟨_, rfl, _, rfl, rfl⟩)) (lx_args [.ref t, .int a, .int b, .int c]) (lx_entry [.ref t, .int a, .int b, .int c] (fun _ => Nat.le_of_ble_eq_true rfl)) (fun o C hR => Yx.weak (lw_s (lw_s (lw_s (lw_s lw_0)))) (bd_X11_user C t ht a b c s0 (r, s2) h hR))
def FX11_type (t : Nat) (a : Int32) (s0 : SS) : Option (Int32 × SS) :=
  bd (FX11_within a (nI 0) (nI 127) s0) (fun (r1 : Int32) => if r1 = 0 then bd2 (FX11_refuse t (-2 : Int32) s0) (fun (r2 : Int32) (s3 : SS) => some ((r2, s3))) else (bd (FX10_isFull (lk t 5) s0) (fun (r4 : Int32) => if r4 = 0 then bd2 (FX10_add (lk t 5) a s0) (fun (r5 : Int32) (s6 : SS) => some ((r5, s6))) else (bd2 (FX11_refuse t (-4 : Int32) s0) (fun (r7 : Int32) (s8 : SS) => some ((r7, s8)))))))
set_option maxRecDepth 100000 in
set_option maxHeartbeats 4000000 in
theorem bd_X11_type {o : Om} (C : Cx o RX11 cX11_type 2 (some .int) (rmx 2 43) 0) (t : Nat) (ht : kd t = 9) (a : Int32) (s0 : SS) : Xo (FX11_type t a s0) (fun r => RT o cX11_type (some (.int r.1)) r.2) (Yx o 0 [some (.ref t), some (.int a)] [] s0) := by
  unfold FX11_type
  refine x_iload_n C (pc := 0) dX11_type_0 rfl ?_
  refine x_iconst C (pc := 1) dX11_type_1 kc_i_0 ?_
  refine x_bipush C (pc := 2) dX11_type_2 kc_b_127 ?_
  refine x_callSi C (pc := 4) ms_X11_92 [.int a, .int (nI 0), .int (nI 127)] (fun _ hr => ct_X11_within _ _ _ _ _ hr) ⟨Nat.le_of_ble_eq_true rfl, Nat.le_of_ble_eq_true rfl⟩ rfl (Nat.le_of_ble_eq_true rfl) rfl dX11_type_4 (fun r1 => ?_)
  refine x_if_ne C (pc := 7) (tgt := 17) dX11_type_7 (by decide) (fun _ => ?_) (fun _ => ?_)
  · skip
    refine x_aload_n C (pc := 10) dX11_type_10 rfl ?_
    refine x_bipush C (pc := 11) dX11_type_11 kc_b_m2 ?_
    refine x_callVim C (pc := 13) mv_X11_96 ht rfl [.int (-2 : Int32)] (fun _ _ hr => ct_X11_refuse _ ht _ _ _ _ hr) ⟨Nat.le_of_ble_eq_true rfl, Nat.le_of_ble_eq_true rfl⟩ rfl (Nat.le_of_ble_eq_true rfl) rfl dX11_type_13 (fun r2 s3 => ?_)
    exact x_ret dX11_type_16 (fun h => h)
  · skip
    refine x_aload_n C (pc := 17) dX11_type_17 rfl ?_
    refine x_getR C (pc := 18) fg_X11_25 dX11_type_18 ht ?_
    refine x_callVi C (pc := 21) mv_X11_128 (lkd_9_5 ht) rfl [] (fun _ hr => ct_X10_isFull _ (lkd_9_5 ht) _ _ hr) ⟨Nat.le_of_ble_eq_true rfl, Nat.le_of_ble_eq_true rfl⟩ rfl (Nat.le_of_ble_eq_true rfl) rfl dX11_type_21 (fun r4 => ?_)
    refine x_if_eq C (pc := 24) (tgt := 36) dX11_type_24 (by decide) (fun _ => ?_) (fun _ => ?_)
    · skip
      refine x_aload_n C (pc := 36) dX11_type_36 rfl ?_
      refine x_getR C (pc := 37) fg_X11_25 dX11_type_37 ht ?_
      refine x_iload_n C (pc := 40) dX11_type_40 rfl ?_
      refine x_callVim C (pc := 41) mv_X11_129 (lkd_9_5 ht) rfl [.int a] (fun _ _ hr => ct_X10_add _ (lkd_9_5 ht) _ _ _ _ hr) ⟨Nat.le_of_ble_eq_true rfl, Nat.le_of_ble_eq_true rfl⟩ rfl (Nat.le_of_ble_eq_true rfl) rfl dX11_type_41 (fun r5 s6 => ?_)
      exact x_ret dX11_type_44 (fun h => h)
    · skip
      refine x_aload_n C (pc := 27) dX11_type_27 rfl ?_
      refine x_bipush C (pc := 28) dX11_type_28 kc_b_m4 ?_
      refine x_callVim C (pc := 30) mv_X11_96 ht rfl [.int (-4 : Int32)] (fun _ _ hr => ct_X11_refuse _ ht _ _ _ _ hr) ⟨Nat.le_of_ble_eq_true rfl, Nat.le_of_ble_eq_true rfl⟩ rfl (Nat.le_of_ble_eq_true rfl) rfl dX11_type_30 (fun r7 s8 => ?_)
      refine x_goto C (pc := 33) (tgt := 44) dX11_type_33 (by decide) ?_
      exact x_ret dX11_type_44 (fun h => h)
theorem ct_X11_type (t : Nat) (ht : kd t = 9) (a : Int32) (s0 : SS) (r : Int32) (s2 : SS) (h : FX11_type t a s0 = some (r, s2)) : CT 0 yX11_type cX11_type 2 (some .int) 2 43 [.ref t, .int a] s0 (some (.int r)) s2 :=
  ct_of (by decide +kernel) (Or.inr (Or.inl ⟨_, rfl, _, rfl, rfl⟩)) (lx_args [.ref t, .int a]) (lx_entry [.ref t, .int a] (fun _ => Nat.le_of_ble_eq_true rfl)) (fun o C hR => Yx.weak (lw_s (lw_s lw_0)) (bd_X11_type C t ht a s0 (r, s2) h hR))
def FX11_clear (t : Nat) (s0 : SS) : Option (Int32 × SS) :=
  nm (gI s0 (lk t 5) 1) (fun (i1 : Int32) => nm (pI s0 (lk t 5) 1 (nI 0)) (fun (s2 : SS) => some ((i1, s2))))
set_option maxRecDepth 100000 in
set_option maxHeartbeats 4000000 in
theorem bd_X11_clear {o : Om} (C : Cx o RX11 cX11_clear 2 (some .int) (rmx 0 0) 0) (t : Nat) (ht : kd t = 9) (s0 : SS) : Xo (FX11_clear t s0) (fun r => RT o cX11_clear (some (.int r.1)) r.2) (Yx o 0 [some (.ref t), none] [] s0) := by
  unfold FX11_clear
  refine x_aload_n C (pc := 0) dX11_clear_0 rfl ?_
  refine x_getR C (pc := 1) fg_X11_25 dX11_clear_1 ht ?_
  refine x_getI C (pc := 4) fg_X11_132 dX11_clear_4 (lkd_9_5 ht) ?_
  refine x_istore_n C (pc := 7) (L' := fun i1 => [some (.ref t), some (.int i1)]) dX11_clear_7 (by decide) (fun _ => rfl) (fun i1 => ?_)
  refine x_aload_n C (pc := 8) dX11_clear_8 rfl ?_
  refine x_getR C (pc := 9) fg_X11_25 dX11_clear_9 ht ?_
  refine x_iconst C (pc := 12) dX11_clear_12 kc_i_0 ?_
  refine x_putIn C (pc := 13) fp_X11_132 dX11_clear_13 (lkd_9_5 ht) (fun s2 => ?_)
  refine x_iload_n C (pc := 16) dX11_clear_16 rfl ?_
  exact x_ret dX11_clear_17 (fun h => h)
theorem ct_X11_clear (t : Nat) (ht : kd t = 9) (s0 : SS) (r : Int32) (s2 : SS) (h : FX11_clear t s0 = some (r, s2)) : CT 0 yX11_clear cX11_clear 2 (some .int) 0 0 [.ref t] s0 (some (.int r)) s2 :=
  ct_of (by decide +kernel) (Or.inr (Or.inl ⟨_, rfl, _, rfl, rfl⟩)) (lx_args [.ref t]) (lx_entry [.ref t] (fun _ => Nat.le_of_ble_eq_true rfl)) (fun o C hR => Yx.weak (lw_s (lw_z lw_0)) (bd_X11_clear C t ht s0 (r, s2) h hR))
def FX11_read (t : Nat) (s0 : SS) : Option (Int32 × SS) :=
  bd2 (FX7_parse (lk t 7) s0) (fun (r1 : Int32) (s2 : SS) => nm r1 (fun (i3 : Int32) => bd (if i3 < 0 then some (s2) else (bd (FX4_copyFrom (lk t 0) (lk (lk t 7) 2) s2) (fun (s4 : SS) => some (s4)))) (fun (s5 : SS) => some ((i3, s5)))))
set_option maxRecDepth 100000 in
set_option maxHeartbeats 4000000 in
theorem bd_X11_read {o : Om} (C : Cx o RX11 cX11_read 2 (some .int) (rmx 7 170) 0) (t : Nat) (ht : kd t = 9) (s0 : SS) : Xo (FX11_read t s0) (fun r => RT o cX11_read (some (.int r.1)) r.2) (Yx o 0 [some (.ref t), none] [] s0) := by
  unfold FX11_read
  refine x_aload_n C (pc := 0) dX11_read_0 rfl ?_
  refine x_getR C (pc := 1) fg_X11_41 dX11_read_1 ht ?_
  refine x_callVim C (pc := 4) mv_X11_133 (lkd_9_7 ht) rfl [] (fun _ _ hr => ct_X7_parse _ (lkd_9_7 ht) _ _ _ hr) ⟨Nat.le_of_ble_eq_true rfl, Nat.le_of_ble_eq_true rfl⟩ rfl (Nat.le_of_ble_eq_true rfl) rfl dX11_read_4 (fun r1 s2 => ?_)
  refine x_istore_n C (pc := 7) (L' := fun i3 => [some (.ref t), some (.int i3)]) dX11_read_7 (by decide) (fun _ => rfl) (fun i3 => ?_)
  refine x_iload_n C (pc := 8) dX11_read_8 rfl ?_
  refine xb_1 (Z1 := fun s5 => Yx o 26 [none, some (.int i3)] [] s5) ?_ (fun s5 => ?_)
  · skip
    refine x_if_lt C (pc := 9) (tgt := 26) dX11_read_9 (by decide) (fun _ => ?_) (fun _ => ?_)
    · skip
      exact Xo.done (fun h => Yx.weak (lw_n (lw_s lw_0)) h)
    · skip
      refine x_aload_n C (pc := 12) dX11_read_12 rfl ?_
      refine x_getR C (pc := 13) fg_X11_12 dX11_read_13 ht ?_
      refine x_aload_n C (pc := 16) dX11_read_16 rfl ?_
      refine x_getR C (pc := 17) fg_X11_41 dX11_read_17 ht ?_
      refine x_getR C (pc := 20) fg_X11_137 dX11_read_20 (lkd_9_7 ht) ?_
      refine x_callVv C (pc := 23) mv_X11_140 (lkd_9_0 ht) rfl [.ref (lk (lk t 7) 2)] (fun _ hr => ct_X4_copyFrom _ (lkd_9_0 ht) _ (lkd_5_2 (lkd_9_7 ht)) _ _ hr) ⟨Nat.le_of_ble_eq_true rfl, Nat.le_of_ble_eq_true rfl⟩ rfl (Nat.le_of_ble_eq_true rfl) rfl dX11_read_23 (fun s4 => ?_)
      exact Xo.done (fun h => Yx.weak (lw_n (lw_s lw_0)) h)
  refine x_iload_n C (pc := 26) dX11_read_26 rfl ?_
  exact x_ret dX11_read_27 (fun h => h)
theorem ct_X11_read (t : Nat) (ht : kd t = 9) (s0 : SS) (r : Int32) (s2 : SS) (h : FX11_read t s0 = some (r, s2)) : CT 0 yX11_read cX11_read 2 (some .int) 7 170 [.ref t] s0 (some (.int r)) s2 :=
  ct_of (by decide +kernel) (Or.inr (Or.inl ⟨_, rfl, _, rfl, rfl⟩)) (lx_args [.ref t]) (lx_entry [.ref t] (fun _ => Nat.le_of_ble_eq_true rfl)) (fun o C hR => Yx.weak (lw_s (lw_z lw_0)) (bd_X11_read C t ht s0 (r, s2) h hR))
def FX11_hour (t : Nat) (a : Int32) (s0 : SS) : Option (Int32 × SS) :=
  bd (FX11_within a (nI 1) (nI 99) s0) (fun (r1 : Int32) => if r1 = 0 then bd2 (FX11_refuse t (-2 : Int32) s0) (fun (r2 : Int32) (s3 : SS) => some ((r2, s3))) else (bd (FX4_remember (lk t 0) s0) (fun (s4 : SS) => bd2 (FX4_passHours (lk t 0) a (lk t 6) s4) (fun (r5 : Int32) (s6 : SS) => some ((r5, s6))))))
set_option maxRecDepth 100000 in
set_option maxHeartbeats 4000000 in
theorem bd_X11_hour {o : Om} (C : Cx o RX11 cX11_hour 2 (some .int) (rmx 5 127) 0) (t : Nat) (ht : kd t = 9) (a : Int32) (s0 : SS) : Xo (FX11_hour t a s0) (fun r => RT o cX11_hour (some (.int r.1)) r.2) (Yx o 0 [some (.ref t), some (.int a)] [] s0) := by
  unfold FX11_hour
  refine x_iload_n C (pc := 0) dX11_hour_0 rfl ?_
  refine x_iconst C (pc := 1) dX11_hour_1 kc_i_1 ?_
  refine x_bipush C (pc := 2) dX11_hour_2 kc_b_99 ?_
  refine x_callSi C (pc := 4) ms_X11_92 [.int a, .int (nI 1), .int (nI 99)] (fun _ hr => ct_X11_within _ _ _ _ _ hr) ⟨Nat.le_of_ble_eq_true rfl, Nat.le_of_ble_eq_true rfl⟩ rfl (Nat.le_of_ble_eq_true rfl) rfl dX11_hour_4 (fun r1 => ?_)
  refine x_if_ne C (pc := 7) (tgt := 17) dX11_hour_7 (by decide) (fun _ => ?_) (fun _ => ?_)
  · skip
    refine x_aload_n C (pc := 10) dX11_hour_10 rfl ?_
    refine x_bipush C (pc := 11) dX11_hour_11 kc_b_m2 ?_
    refine x_callVim C (pc := 13) mv_X11_96 ht rfl [.int (-2 : Int32)] (fun _ _ hr => ct_X11_refuse _ ht _ _ _ _ hr) ⟨Nat.le_of_ble_eq_true rfl, Nat.le_of_ble_eq_true rfl⟩ rfl (Nat.le_of_ble_eq_true rfl) rfl dX11_hour_13 (fun r2 s3 => ?_)
    exact x_ret dX11_hour_16 (fun h => h)
  · skip
    refine x_aload_n C (pc := 17) dX11_hour_17 rfl ?_
    refine x_getR C (pc := 18) fg_X11_12 dX11_hour_18 ht ?_
    refine x_callVv C (pc := 21) mv_X11_144 (lkd_9_0 ht) rfl [] (fun _ hr => ct_X4_remember _ (lkd_9_0 ht) _ _ hr) ⟨Nat.le_of_ble_eq_true rfl, Nat.le_of_ble_eq_true rfl⟩ rfl (Nat.le_of_ble_eq_true rfl) rfl dX11_hour_21 (fun s4 => ?_)
    refine x_aload_n C (pc := 24) dX11_hour_24 rfl ?_
    refine x_getR C (pc := 25) fg_X11_12 dX11_hour_25 ht ?_
    refine x_iload_n C (pc := 28) dX11_hour_28 rfl ?_
    refine x_aload_n C (pc := 29) dX11_hour_29 rfl ?_
    refine x_getR C (pc := 30) fg_X11_32 dX11_hour_30 ht ?_
    refine x_callVim C (pc := 33) mv_X11_147 (lkd_9_0 ht) rfl [.int a, .ref (lk t 6)] (fun _ _ hr => ct_X4_passHours _ (lkd_9_0 ht) _ _ (lkd_9_6 ht) _ _ _ hr) ⟨Nat.le_of_ble_eq_true rfl, Nat.le_of_ble_eq_true rfl⟩ rfl (Nat.le_of_ble_eq_true rfl) rfl dX11_hour_33 (fun r5 s6 => ?_)
    exact x_ret dX11_hour_36 (fun h => h)
theorem ct_X11_hour (t : Nat) (ht : kd t = 9) (a : Int32) (s0 : SS) (r : Int32) (s2 : SS) (h : FX11_hour t a s0 = some (r, s2)) : CT 0 yX11_hour cX11_hour 2 (some .int) 5 127 [.ref t, .int a] s0 (some (.int r)) s2 :=
  ct_of (by decide +kernel) (Or.inr (Or.inl ⟨_, rfl, _, rfl, rfl⟩)) (lx_args [.ref t, .int a]) (lx_entry [.ref t, .int a] (fun _ => Nat.le_of_ble_eq_true rfl)) (fun o C hR => Yx.weak (lw_s (lw_s lw_0)) (bd_X11_hour C t ht a s0 (r, s2) h hR))
def FX11_isUser (t : Nat) (a : Int32) (s0 : SS) : Option (Int32) :=
  bd (FX11_within a (nI 0) ((gI s0 (lk (lk t 0) 2) 3) - (nI 1)) s0) (fun (r1 : Int32) => gd (zb r1) (some (r1)))
set_option maxRecDepth 100000 in
set_option maxHeartbeats 4000000 in
theorem bd_X11_isUser {o : Om} (C : Cx o RX11 cX11_isUser 2 (some .boolean) (rmx 1 22) 0) (t : Nat) (ht : kd t = 9) (a : Int32) (s0 : SS) : Xo (FX11_isUser t a s0) (fun r => zb r = true → RT o cX11_isUser (some (.int r)) s0) (Yx o 0 [some (.ref t), some (.int a)] [] s0) := by
  unfold FX11_isUser
  refine x_iload_n C (pc := 0) dX11_isUser_0 rfl ?_
  refine x_iconst C (pc := 1) dX11_isUser_1 kc_i_0 ?_
  refine x_aload_n C (pc := 2) dX11_isUser_2 rfl ?_
  refine x_getR C (pc := 3) fg_X11_12 dX11_isUser_3 ht ?_
  refine x_getR C (pc := 6) fg_X11_75 dX11_isUser_6 (lkd_9_0 ht) ?_
  refine x_getI C (pc := 9) fg_X11_79 dX11_isUser_9 (lkd_4_2 (lkd_9_0 ht)) ?_
  refine x_iconst C (pc := 12) dX11_isUser_12 kc_i_1 ?_
  refine x_isub C (pc := 13) dX11_isUser_13 ?_
  refine x_callSi C (pc := 14) ms_X11_92 [.int a, .int (nI 0), .int ((gI s0 (lk (lk t 0) 2) 3) - (nI 1))] (fun _ hr => ct_X11_within _ _ _ _ _ hr) ⟨Nat.le_of_ble_eq_true rfl, Nat.le_of_ble_eq_true rfl⟩ rfl (Nat.le_of_ble_eq_true rfl) rfl dX11_isUser_14 (fun r1 => ?_)
  refine Xo.gd (fun hz => ?_)
  exact x_ret dX11_isUser_17 (fun h => h hz)
theorem ct_X11_isUser (t : Nat) (ht : kd t = 9) (a : Int32) (s0 : SS) (r : Int32) (h : FX11_isUser t a s0 = some r) : CT 0 yX11_isUser cX11_isUser 2 (some .boolean) 1 22 [.ref t, .int a] s0 (some (.int r)) s0 :=
  ct_ofz (by decide +kernel) rfl (lx_args [.ref t, .int a]) (lx_entry [.ref t, .int a] (fun _ => Nat.le_of_ble_eq_true rfl)) (fun o C hR => Yx.weak (lw_s (lw_s lw_0)) (bd_X11_isUser C t ht a s0 r h hR))
def FX11_suit (t : Nat) (a : Int32) (b : Int32) (s0 : SS) : Option (Int32 × SS) :=
  bd (FX11_isKind a s0) (fun (r1 : Int32) => if r1 = 0 then bd2 (FX11_refuse t (-2 : Int32) s0) (fun (r2 : Int32) (s3 : SS) => some ((r2, s3))) else (bd (FX11_isUser t b s0) (fun (r4 : Int32) => if r4 = 0 then bd2 (FX11_refuse t (-2 : Int32) s0) (fun (r5 : Int32) (s6 : SS) => some ((r5, s6))) else (bd (FX9_isFull (lk (lk t 0) 3) s0) (fun (r7 : Int32) => if r7 = 0 then bd (FX4_remember (lk t 0) s0) (fun (s8 : SS) => bd2 (FX4_fileSuit (lk t 0) a b s8) (fun (r9 : Int32) (s10 : SS) => some ((r9, s10)))) else (bd2 (FX11_refuse t (-4 : Int32) s0) (fun (r11 : Int32) (s12 : SS) => some ((r11, s12)))))))))
set_option maxRecDepth 100000 in
set_option maxHeartbeats 4000000 in
theorem bd_X11_suit {o : Om} (C : Cx o RX11 cX11_suit 3 (some .int) (rmx 3 68) 0) (t : Nat) (ht : kd t = 9) (a : Int32) (b : Int32) (s0 : SS) : Xo (FX11_suit t a b s0) (fun r => RT o cX11_suit (some (.int r.1)) r.2) (Yx o 0 [some (.ref t), some (.int a), some (.int b)] [] s0) := by
  unfold FX11_suit
  refine x_iload_n C (pc := 0) dX11_suit_0 rfl ?_
  refine x_callSi C (pc := 1) ms_X11_111 [.int a] (fun _ hr => ct_X11_isKind _ _ _ hr) ⟨Nat.le_of_ble_eq_true rfl, Nat.le_of_ble_eq_true rfl⟩ rfl (Nat.le_of_ble_eq_true rfl) rfl dX11_suit_1 (fun r1 => ?_)
  refine x_if_eq C (pc := 4) (tgt := 15) dX11_suit_4 (by decide) (fun _ => ?_) (fun _ => ?_)
  · skip
    refine x_aload_n C (pc := 15) dX11_suit_15 rfl ?_
    refine x_bipush C (pc := 16) dX11_suit_16 kc_b_m2 ?_
    refine x_callVim C (pc := 18) mv_X11_96 ht rfl [.int (-2 : Int32)] (fun _ _ hr => ct_X11_refuse _ ht _ _ _ _ hr) ⟨Nat.le_of_ble_eq_true rfl, Nat.le_of_ble_eq_true rfl⟩ rfl (Nat.le_of_ble_eq_true rfl) rfl dX11_suit_18 (fun r2 s3 => ?_)
    exact x_ret dX11_suit_21 (fun h => h)
  · skip
    refine x_aload_n C (pc := 7) dX11_suit_7 rfl ?_
    refine x_iload_n C (pc := 8) dX11_suit_8 rfl ?_
    refine x_callVi C (pc := 9) mv_X11_151 ht rfl [.int b] (fun _ hr => ct_X11_isUser _ ht _ _ _ hr) ⟨Nat.le_of_ble_eq_true rfl, Nat.le_of_ble_eq_true rfl⟩ rfl (Nat.le_of_ble_eq_true rfl) rfl dX11_suit_9 (fun r4 => ?_)
    refine x_if_ne C (pc := 12) (tgt := 22) dX11_suit_12 (by decide) (fun _ => ?_) (fun _ => ?_)
    · skip
      refine x_aload_n C (pc := 15) dX11_suit_15 rfl ?_
      refine x_bipush C (pc := 16) dX11_suit_16 kc_b_m2 ?_
      refine x_callVim C (pc := 18) mv_X11_96 ht rfl [.int (-2 : Int32)] (fun _ _ hr => ct_X11_refuse _ ht _ _ _ _ hr) ⟨Nat.le_of_ble_eq_true rfl, Nat.le_of_ble_eq_true rfl⟩ rfl (Nat.le_of_ble_eq_true rfl) rfl dX11_suit_18 (fun r5 s6 => ?_)
      exact x_ret dX11_suit_21 (fun h => h)
    · skip
      refine x_aload_n C (pc := 22) dX11_suit_22 rfl ?_
      refine x_getR C (pc := 23) fg_X11_12 dX11_suit_23 ht ?_
      refine x_getR C (pc := 26) fg_X11_154 dX11_suit_26 (lkd_9_0 ht) ?_
      refine x_callVi C (pc := 29) mv_X11_120 (lkd_4_3 (lkd_9_0 ht)) rfl [] (fun _ hr => ct_X9_isFull _ (lkd_4_3 (lkd_9_0 ht)) _ _ hr) ⟨Nat.le_of_ble_eq_true rfl, Nat.le_of_ble_eq_true rfl⟩ rfl (Nat.le_of_ble_eq_true rfl) rfl dX11_suit_29 (fun r7 => ?_)
      refine x_if_eq C (pc := 32) (tgt := 42) dX11_suit_32 (by decide) (fun _ => ?_) (fun _ => ?_)
      · skip
        refine x_aload_n C (pc := 42) dX11_suit_42 rfl ?_
        refine x_getR C (pc := 43) fg_X11_12 dX11_suit_43 ht ?_
        refine x_callVv C (pc := 46) mv_X11_144 (lkd_9_0 ht) rfl [] (fun _ hr => ct_X4_remember _ (lkd_9_0 ht) _ _ hr) ⟨Nat.le_of_ble_eq_true rfl, Nat.le_of_ble_eq_true rfl⟩ rfl (Nat.le_of_ble_eq_true rfl) rfl dX11_suit_46 (fun s8 => ?_)
        refine x_aload_n C (pc := 49) dX11_suit_49 rfl ?_
        refine x_getR C (pc := 50) fg_X11_12 dX11_suit_50 ht ?_
        refine x_iload_n C (pc := 53) dX11_suit_53 rfl ?_
        refine x_iload_n C (pc := 54) dX11_suit_54 rfl ?_
        refine x_callVim C (pc := 55) mv_X11_157 (lkd_9_0 ht) rfl [.int a, .int b] (fun _ _ hr => ct_X4_fileSuit _ (lkd_9_0 ht) _ _ _ _ _ hr) ⟨Nat.le_of_ble_eq_true rfl, Nat.le_of_ble_eq_true rfl⟩ rfl (Nat.le_of_ble_eq_true rfl) rfl dX11_suit_55 (fun r9 s10 => ?_)
        exact x_ret dX11_suit_58 (fun h => h)
      · skip
        refine x_aload_n C (pc := 35) dX11_suit_35 rfl ?_
        refine x_bipush C (pc := 36) dX11_suit_36 kc_b_m4 ?_
        refine x_callVim C (pc := 38) mv_X11_96 ht rfl [.int (-4 : Int32)] (fun _ _ hr => ct_X11_refuse _ ht _ _ _ _ hr) ⟨Nat.le_of_ble_eq_true rfl, Nat.le_of_ble_eq_true rfl⟩ rfl (Nat.le_of_ble_eq_true rfl) rfl dX11_suit_38 (fun r11 s12 => ?_)
        exact x_ret dX11_suit_41 (fun h => h)
theorem ct_X11_suit (t : Nat) (ht : kd t = 9) (a : Int32) (b : Int32) (s0 : SS) (r : Int32) (s2 : SS) (h : FX11_suit t a b s0 = some (r, s2)) : CT 0 yX11_suit cX11_suit 3 (some .int) 3 68 [.ref t, .int a, .int b] s0 (some (.int r)) s2 :=
  ct_of (by decide +kernel) (Or.inr (Or.inl ⟨_, rfl, _, rfl, rfl⟩)) (lx_args [.ref t, .int a, .int b]) (lx_entry [.ref t, .int a, .int b] (fun _ => Nat.le_of_ble_eq_true rfl)) (fun o C hR => Yx.weak (lw_s (lw_s (lw_s lw_0))) (bd_X11_suit C t ht a b s0 (r, s2) h hR))
def FX11_isSuit (t : Nat) (a : Int32) (s0 : SS) : Option (Int32) :=
  bd (FX11_within a (nI 0) ((gI s0 (lk (lk t 0) 3) 3) - (nI 1)) s0) (fun (r1 : Int32) => gd (zb r1) (some (r1)))
set_option maxRecDepth 100000 in
set_option maxHeartbeats 4000000 in
theorem bd_X11_isSuit {o : Om} (C : Cx o RX11 cX11_isSuit 2 (some .boolean) (rmx 1 22) 0) (t : Nat) (ht : kd t = 9) (a : Int32) (s0 : SS) : Xo (FX11_isSuit t a s0) (fun r => zb r = true → RT o cX11_isSuit (some (.int r)) s0) (Yx o 0 [some (.ref t), some (.int a)] [] s0) := by
  unfold FX11_isSuit
  refine x_iload_n C (pc := 0) dX11_isSuit_0 rfl ?_
  refine x_iconst C (pc := 1) dX11_isSuit_1 kc_i_0 ?_
  refine x_aload_n C (pc := 2) dX11_isSuit_2 rfl ?_
  refine x_getR C (pc := 3) fg_X11_12 dX11_isSuit_3 ht ?_
  refine x_getR C (pc := 6) fg_X11_154 dX11_isSuit_6 (lkd_9_0 ht) ?_
  refine x_getI C (pc := 9) fg_X11_79 dX11_isSuit_9 (lkd_4_3 (lkd_9_0 ht)) ?_
  refine x_iconst C (pc := 12) dX11_isSuit_12 kc_i_1 ?_
  refine x_isub C (pc := 13) dX11_isSuit_13 ?_
  refine x_callSi C (pc := 14) ms_X11_92 [.int a, .int (nI 0), .int ((gI s0 (lk (lk t 0) 3) 3) - (nI 1))] (fun _ hr => ct_X11_within _ _ _ _ _ hr) ⟨Nat.le_of_ble_eq_true rfl, Nat.le_of_ble_eq_true rfl⟩ rfl (Nat.le_of_ble_eq_true rfl) rfl dX11_isSuit_14 (fun r1 => ?_)
  refine Xo.gd (fun hz => ?_)
  exact x_ret dX11_isSuit_17 (fun h => h hz)
theorem ct_X11_isSuit (t : Nat) (ht : kd t = 9) (a : Int32) (s0 : SS) (r : Int32) (h : FX11_isSuit t a s0 = some r) : CT 0 yX11_isSuit cX11_isSuit 2 (some .boolean) 1 22 [.ref t, .int a] s0 (some (.int r)) s0 :=
  ct_ofz (by decide +kernel) rfl (lx_args [.ref t, .int a]) (lx_entry [.ref t, .int a] (fun _ => Nat.le_of_ble_eq_true rfl)) (fun o C hR => Yx.weak (lw_s (lw_s lw_0)) (bd_X11_isSuit C t ht a s0 r h hR))
def FX11_hears (t : Nat) (a : Int32) (s0 : SS) : Option (Int32 × SS) :=
  bd (FX11_isSuit t a s0) (fun (r1 : Int32) => if r1 = 0 then bd2 (FX11_refuse t (-2 : Int32) s0) (fun (r2 : Int32) (s3 : SS) => some ((r2, s3))) else (bd (FX4_isHeard (lk t 0) a s0) (fun (r4 : Int32) => if r4 = 0 then bd (FX4_remember (lk t 0) s0) (fun (s5 : SS) => bd2 (FX4_hearSuit (lk t 0) a s5) (fun (r6 : Int32) (s7 : SS) => some ((r6, s7)))) else (bd2 (FX11_refuse t (-3 : Int32) s0) (fun (r8 : Int32) (s9 : SS) => some ((r8, s9)))))))
set_option maxRecDepth 100000 in
set_option maxHeartbeats 4000000 in
theorem bd_X11_hears {o : Om} (C : Cx o RX11 cX11_hears 2 (some .int) (rmx 4 88) 0) (t : Nat) (ht : kd t = 9) (a : Int32) (s0 : SS) : Xo (FX11_hears t a s0) (fun r => RT o cX11_hears (some (.int r.1)) r.2) (Yx o 0 [some (.ref t), some (.int a)] [] s0) := by
  unfold FX11_hears
  refine x_aload_n C (pc := 0) dX11_hears_0 rfl ?_
  refine x_iload_n C (pc := 1) dX11_hears_1 rfl ?_
  refine x_callVi C (pc := 2) mv_X11_161 ht rfl [.int a] (fun _ hr => ct_X11_isSuit _ ht _ _ _ hr) ⟨Nat.le_of_ble_eq_true rfl, Nat.le_of_ble_eq_true rfl⟩ rfl (Nat.le_of_ble_eq_true rfl) rfl dX11_hears_2 (fun r1 => ?_)
  refine x_if_ne C (pc := 5) (tgt := 15) dX11_hears_5 (by decide) (fun _ => ?_) (fun _ => ?_)
  · skip
    refine x_aload_n C (pc := 8) dX11_hears_8 rfl ?_
    refine x_bipush C (pc := 9) dX11_hears_9 kc_b_m2 ?_
    refine x_callVim C (pc := 11) mv_X11_96 ht rfl [.int (-2 : Int32)] (fun _ _ hr => ct_X11_refuse _ ht _ _ _ _ hr) ⟨Nat.le_of_ble_eq_true rfl, Nat.le_of_ble_eq_true rfl⟩ rfl (Nat.le_of_ble_eq_true rfl) rfl dX11_hears_11 (fun r2 s3 => ?_)
    exact x_ret dX11_hears_14 (fun h => h)
  · skip
    refine x_aload_n C (pc := 15) dX11_hears_15 rfl ?_
    refine x_getR C (pc := 16) fg_X11_12 dX11_hears_16 ht ?_
    refine x_iload_n C (pc := 19) dX11_hears_19 rfl ?_
    refine x_callVi C (pc := 20) mv_X11_164 (lkd_9_0 ht) rfl [.int a] (fun _ hr => ct_X4_isHeard _ (lkd_9_0 ht) _ _ _ hr) ⟨Nat.le_of_ble_eq_true rfl, Nat.le_of_ble_eq_true rfl⟩ rfl (Nat.le_of_ble_eq_true rfl) rfl dX11_hears_20 (fun r4 => ?_)
    refine x_if_eq C (pc := 23) (tgt := 33) dX11_hears_23 (by decide) (fun _ => ?_) (fun _ => ?_)
    · skip
      refine x_aload_n C (pc := 33) dX11_hears_33 rfl ?_
      refine x_getR C (pc := 34) fg_X11_12 dX11_hears_34 ht ?_
      refine x_callVv C (pc := 37) mv_X11_144 (lkd_9_0 ht) rfl [] (fun _ hr => ct_X4_remember _ (lkd_9_0 ht) _ _ hr) ⟨Nat.le_of_ble_eq_true rfl, Nat.le_of_ble_eq_true rfl⟩ rfl (Nat.le_of_ble_eq_true rfl) rfl dX11_hears_37 (fun s5 => ?_)
      refine x_aload_n C (pc := 40) dX11_hears_40 rfl ?_
      refine x_getR C (pc := 41) fg_X11_12 dX11_hears_41 ht ?_
      refine x_iload_n C (pc := 44) dX11_hears_44 rfl ?_
      refine x_callVim C (pc := 45) mv_X11_167 (lkd_9_0 ht) rfl [.int a] (fun _ _ hr => ct_X4_hearSuit _ (lkd_9_0 ht) _ _ _ _ hr) ⟨Nat.le_of_ble_eq_true rfl, Nat.le_of_ble_eq_true rfl⟩ rfl (Nat.le_of_ble_eq_true rfl) rfl dX11_hears_45 (fun r6 s7 => ?_)
      exact x_ret dX11_hears_48 (fun h => h)
    · skip
      refine x_aload_n C (pc := 26) dX11_hears_26 rfl ?_
      refine x_bipush C (pc := 27) dX11_hears_27 kc_b_m3 ?_
      refine x_callVim C (pc := 29) mv_X11_96 ht rfl [.int (-3 : Int32)] (fun _ _ hr => ct_X11_refuse _ ht _ _ _ _ hr) ⟨Nat.le_of_ble_eq_true rfl, Nat.le_of_ble_eq_true rfl⟩ rfl (Nat.le_of_ble_eq_true rfl) rfl dX11_hears_29 (fun r8 s9 => ?_)
      exact x_ret dX11_hears_32 (fun h => h)
theorem ct_X11_hears (t : Nat) (ht : kd t = 9) (a : Int32) (s0 : SS) (r : Int32) (s2 : SS) (h : FX11_hears t a s0 = some (r, s2)) : CT 0 yX11_hears cX11_hears 2 (some .int) 4 88 [.ref t, .int a] s0 (some (.int r)) s2 :=
  ct_of (by decide +kernel) (Or.inr (Or.inl ⟨_, rfl, _, rfl, rfl⟩)) (lx_args [.ref t, .int a]) (lx_entry [.ref t, .int a] (fun _ => Nat.le_of_ble_eq_true rfl)) (fun o C hR => Yx.weak (lw_s (lw_s lw_0)) (bd_X11_hears C t ht a s0 (r, s2) h hR))
def FX11_pays (t : Nat) (a : Int32) (s0 : SS) : Option (Int32 × SS) :=
  bd (FX11_isUser t a s0) (fun (r1 : Int32) => if r1 = 0 then bd2 (FX11_refuse t (-2 : Int32) s0) (fun (r2 : Int32) (s3 : SS) => some ((r2, s3))) else (bd (FX4_remember (lk t 0) s0) (fun (s4 : SS) => bd (FX4_duesOf (lk t 0) a s4) (fun (r5 : Int32) => nm r5 (fun (i6 : Int32) => bd (FX9_put (lk (lk t 0) 2) a (nI 3) (nI 0) s4) (fun (s7 : SS) => some ((i6, s7))))))))
set_option maxRecDepth 100000 in
set_option maxHeartbeats 4000000 in
theorem bd_X11_pays {o : Om} (C : Cx o RX11 cX11_pays 3 (some .int) (rmx 3 67) 0) (t : Nat) (ht : kd t = 9) (a : Int32) (s0 : SS) : Xo (FX11_pays t a s0) (fun r => RT o cX11_pays (some (.int r.1)) r.2) (Yx o 0 [some (.ref t), some (.int a), none] [] s0) := by
  unfold FX11_pays
  refine x_aload_n C (pc := 0) dX11_pays_0 rfl ?_
  refine x_iload_n C (pc := 1) dX11_pays_1 rfl ?_
  refine x_callVi C (pc := 2) mv_X11_151 ht rfl [.int a] (fun _ hr => ct_X11_isUser _ ht _ _ _ hr) ⟨Nat.le_of_ble_eq_true rfl, Nat.le_of_ble_eq_true rfl⟩ rfl (Nat.le_of_ble_eq_true rfl) rfl dX11_pays_2 (fun r1 => ?_)
  refine x_if_ne C (pc := 5) (tgt := 15) dX11_pays_5 (by decide) (fun _ => ?_) (fun _ => ?_)
  · skip
    refine x_aload_n C (pc := 8) dX11_pays_8 rfl ?_
    refine x_bipush C (pc := 9) dX11_pays_9 kc_b_m2 ?_
    refine x_callVim C (pc := 11) mv_X11_96 ht rfl [.int (-2 : Int32)] (fun _ _ hr => ct_X11_refuse _ ht _ _ _ _ hr) ⟨Nat.le_of_ble_eq_true rfl, Nat.le_of_ble_eq_true rfl⟩ rfl (Nat.le_of_ble_eq_true rfl) rfl dX11_pays_11 (fun r2 s3 => ?_)
    exact x_ret dX11_pays_14 (fun h => h)
  · skip
    refine x_aload_n C (pc := 15) dX11_pays_15 rfl ?_
    refine x_getR C (pc := 16) fg_X11_12 dX11_pays_16 ht ?_
    refine x_callVv C (pc := 19) mv_X11_144 (lkd_9_0 ht) rfl [] (fun _ hr => ct_X4_remember _ (lkd_9_0 ht) _ _ hr) ⟨Nat.le_of_ble_eq_true rfl, Nat.le_of_ble_eq_true rfl⟩ rfl (Nat.le_of_ble_eq_true rfl) rfl dX11_pays_19 (fun s4 => ?_)
    refine x_aload_n C (pc := 22) dX11_pays_22 rfl ?_
    refine x_getR C (pc := 23) fg_X11_12 dX11_pays_23 ht ?_
    refine x_iload_n C (pc := 26) dX11_pays_26 rfl ?_
    refine x_callVi C (pc := 27) mv_X11_170 (lkd_9_0 ht) rfl [.int a] (fun _ hr => ct_X4_duesOf _ (lkd_9_0 ht) _ _ _ hr) ⟨Nat.le_of_ble_eq_true rfl, Nat.le_of_ble_eq_true rfl⟩ rfl (Nat.le_of_ble_eq_true rfl) rfl dX11_pays_27 (fun r5 => ?_)
    refine x_istore_n C (pc := 30) (L' := fun i6 => [some (.ref t), some (.int a), some (.int i6)]) dX11_pays_30 (by decide) (fun _ => rfl) (fun i6 => ?_)
    refine x_aload_n C (pc := 31) dX11_pays_31 rfl ?_
    refine x_getR C (pc := 32) fg_X11_12 dX11_pays_32 ht ?_
    refine x_getR C (pc := 35) fg_X11_75 dX11_pays_35 (lkd_9_0 ht) ?_
    refine x_iload_n C (pc := 38) dX11_pays_38 rfl ?_
    refine x_iconst C (pc := 39) dX11_pays_39 kc_i_3 ?_
    refine x_iconst C (pc := 40) dX11_pays_40 kc_i_0 ?_
    refine x_callVv C (pc := 41) mv_X11_173 (lkd_4_2 (lkd_9_0 ht)) rfl [.int a, .int (nI 3), .int (nI 0)] (fun _ hr => ct_X9_put _ (lkd_4_2 (lkd_9_0 ht)) _ _ _ _ _ hr) ⟨Nat.le_of_ble_eq_true rfl, Nat.le_of_ble_eq_true rfl⟩ rfl (Nat.le_of_ble_eq_true rfl) rfl dX11_pays_41 (fun s7 => ?_)
    refine x_iload_n C (pc := 44) dX11_pays_44 rfl ?_
    exact x_ret dX11_pays_45 (fun h => h)
theorem ct_X11_pays (t : Nat) (ht : kd t = 9) (a : Int32) (s0 : SS) (r : Int32) (s2 : SS) (h : FX11_pays t a s0 = some (r, s2)) : CT 0 yX11_pays cX11_pays 3 (some .int) 3 67 [.ref t, .int a] s0 (some (.int r)) s2 :=
  ct_of (by decide +kernel) (Or.inr (Or.inl ⟨_, rfl, _, rfl, rfl⟩)) (lx_args [.ref t, .int a]) (lx_entry [.ref t, .int a] (fun _ => Nat.le_of_ble_eq_true rfl)) (fun o C hR => Yx.weak (lw_s (lw_s (lw_z lw_0))) (bd_X11_pays C t ht a s0 (r, s2) h hR))
def FX11_undo (t : Nat) (s0 : SS) : Option (Int32 × SS) :=
  if (gI s0 (lk (lk t 0) 7) 3) = 0 then bd2 (FX11_refuse t (-3 : Int32) s0) (fun (r1 : Int32) (s2 : SS) => some ((r1, s2))) else (bd (FX4_takeBack (lk t 0) s0) (fun (s3 : SS) => some (((gI s3 (lk t 0) 8), s3))))
set_option maxRecDepth 100000 in
set_option maxHeartbeats 4000000 in
theorem bd_X11_undo {o : Om} (C : Cx o RX11 cX11_undo 1 (some .int) (rmx 2 45) 0) (t : Nat) (ht : kd t = 9) (s0 : SS) : Xo (FX11_undo t s0) (fun r => RT o cX11_undo (some (.int r.1)) r.2) (Yx o 0 [some (.ref t)] [] s0) := by
  unfold FX11_undo
  refine x_aload_n C (pc := 0) dX11_undo_0 rfl ?_
  refine x_getR C (pc := 1) fg_X11_12 dX11_undo_1 ht ?_
  refine x_getR C (pc := 4) fg_X11_176 dX11_undo_4 (lkd_9_0 ht) ?_
  refine x_getI C (pc := 7) fg_X11_79 dX11_undo_7 (lkd_4_7 (lkd_9_0 ht)) ?_
  refine x_if_ne C (pc := 10) (tgt := 20) dX11_undo_10 (by decide) (fun _ => ?_) (fun _ => ?_)
  · skip
    refine x_aload_n C (pc := 13) dX11_undo_13 rfl ?_
    refine x_bipush C (pc := 14) dX11_undo_14 kc_b_m3 ?_
    refine x_callVim C (pc := 16) mv_X11_96 ht rfl [.int (-3 : Int32)] (fun _ _ hr => ct_X11_refuse _ ht _ _ _ _ hr) ⟨Nat.le_of_ble_eq_true rfl, Nat.le_of_ble_eq_true rfl⟩ rfl (Nat.le_of_ble_eq_true rfl) rfl dX11_undo_16 (fun r1 s2 => ?_)
    exact x_ret dX11_undo_19 (fun h => h)
  · skip
    refine x_aload_n C (pc := 20) dX11_undo_20 rfl ?_
    refine x_getR C (pc := 21) fg_X11_12 dX11_undo_21 ht ?_
    refine x_callVv C (pc := 24) mv_X11_179 (lkd_9_0 ht) rfl [] (fun _ hr => ct_X4_takeBack _ (lkd_9_0 ht) _ _ hr) ⟨Nat.le_of_ble_eq_true rfl, Nat.le_of_ble_eq_true rfl⟩ rfl (Nat.le_of_ble_eq_true rfl) rfl dX11_undo_24 (fun s3 => ?_)
    refine x_aload_n C (pc := 27) dX11_undo_27 rfl ?_
    refine x_getR C (pc := 28) fg_X11_12 dX11_undo_28 ht ?_
    refine x_getI C (pc := 31) fg_X11_182 dX11_undo_31 (lkd_9_0 ht) ?_
    exact x_ret dX11_undo_34 (fun h => h)
theorem ct_X11_undo (t : Nat) (ht : kd t = 9) (s0 : SS) (r : Int32) (s2 : SS) (h : FX11_undo t s0 = some (r, s2)) : CT 0 yX11_undo cX11_undo 1 (some .int) 2 45 [.ref t] s0 (some (.int r)) s2 :=
  ct_of (by decide +kernel) (Or.inr (Or.inl ⟨_, rfl, _, rfl, rfl⟩)) (lx_args [.ref t]) (lx_entry [.ref t] (fun _ => Nat.le_of_ble_eq_true rfl)) (fun o C hR => Yx.weak (lw_s lw_0) (bd_X11_undo C t ht s0 (r, s2) h hR))
def FX11_of (t : Nat) (a : Int32) (b : Int32) (s0 : SS) : Option (Int32 × SS) :=
  bd (FX11_isUser t a s0) (fun (r1 : Int32) => if r1 = 0 then bd2 (FX11_refuse t (-2 : Int32) s0) (fun (r2 : Int32) (s3 : SS) => some ((r2, s3))) else (bd (FX11_within b (nI 0) (nI 3) s0) (fun (r4 : Int32) => if r4 = 0 then bd2 (FX11_refuse t (-2 : Int32) s0) (fun (r5 : Int32) (s6 : SS) => some ((r5, s6))) else (bd (FX9_at (lk (lk t 0) 2) a b s0) (fun (r7 : Int32) => some ((r7, s0)))))))
set_option maxRecDepth 100000 in
set_option maxHeartbeats 4000000 in
theorem bd_X11_of {o : Om} (C : Cx o RX11 cX11_of 3 (some .int) (rmx 2 43) 0) (t : Nat) (ht : kd t = 9) (a : Int32) (b : Int32) (s0 : SS) : Xo (FX11_of t a b s0) (fun r => RT o cX11_of (some (.int r.1)) r.2) (Yx o 0 [some (.ref t), some (.int a), some (.int b)] [] s0) := by
  unfold FX11_of
  refine x_aload_n C (pc := 0) dX11_of_0 rfl ?_
  refine x_iload_n C (pc := 1) dX11_of_1 rfl ?_
  refine x_callVi C (pc := 2) mv_X11_151 ht rfl [.int a] (fun _ hr => ct_X11_isUser _ ht _ _ _ hr) ⟨Nat.le_of_ble_eq_true rfl, Nat.le_of_ble_eq_true rfl⟩ rfl (Nat.le_of_ble_eq_true rfl) rfl dX11_of_2 (fun r1 => ?_)
  refine x_if_eq C (pc := 5) (tgt := 32) dX11_of_5 (by decide) (fun _ => ?_) (fun _ => ?_)
  · skip
    refine x_aload_n C (pc := 32) dX11_of_32 rfl ?_
    refine x_bipush C (pc := 33) dX11_of_33 kc_b_m2 ?_
    refine x_callVim C (pc := 35) mv_X11_96 ht rfl [.int (-2 : Int32)] (fun _ _ hr => ct_X11_refuse _ ht _ _ _ _ hr) ⟨Nat.le_of_ble_eq_true rfl, Nat.le_of_ble_eq_true rfl⟩ rfl (Nat.le_of_ble_eq_true rfl) rfl dX11_of_35 (fun r2 s3 => ?_)
    exact x_ret dX11_of_38 (fun h => h)
  · skip
    refine x_iload_n C (pc := 8) dX11_of_8 rfl ?_
    refine x_iconst C (pc := 9) dX11_of_9 kc_i_0 ?_
    refine x_iconst C (pc := 10) dX11_of_10 kc_i_3 ?_
    refine x_callSi C (pc := 11) ms_X11_92 [.int b, .int (nI 0), .int (nI 3)] (fun _ hr => ct_X11_within _ _ _ _ _ hr) ⟨Nat.le_of_ble_eq_true rfl, Nat.le_of_ble_eq_true rfl⟩ rfl (Nat.le_of_ble_eq_true rfl) rfl dX11_of_11 (fun r4 => ?_)
    refine x_if_eq C (pc := 14) (tgt := 32) dX11_of_14 (by decide) (fun _ => ?_) (fun _ => ?_)
    · skip
      refine x_aload_n C (pc := 32) dX11_of_32 rfl ?_
      refine x_bipush C (pc := 33) dX11_of_33 kc_b_m2 ?_
      refine x_callVim C (pc := 35) mv_X11_96 ht rfl [.int (-2 : Int32)] (fun _ _ hr => ct_X11_refuse _ ht _ _ _ _ hr) ⟨Nat.le_of_ble_eq_true rfl, Nat.le_of_ble_eq_true rfl⟩ rfl (Nat.le_of_ble_eq_true rfl) rfl dX11_of_35 (fun r5 s6 => ?_)
      exact x_ret dX11_of_38 (fun h => h)
    · skip
      refine x_aload_n C (pc := 17) dX11_of_17 rfl ?_
      refine x_getR C (pc := 18) fg_X11_12 dX11_of_18 ht ?_
      refine x_getR C (pc := 21) fg_X11_75 dX11_of_21 (lkd_9_0 ht) ?_
      refine x_iload_n C (pc := 24) dX11_of_24 rfl ?_
      refine x_iload_n C (pc := 25) dX11_of_25 rfl ?_
      refine x_callVi C (pc := 26) mv_X11_185 (lkd_4_2 (lkd_9_0 ht)) rfl [.int a, .int b] (fun _ hr => ct_X9_at _ (lkd_4_2 (lkd_9_0 ht)) _ _ _ _ hr) ⟨Nat.le_of_ble_eq_true rfl, Nat.le_of_ble_eq_true rfl⟩ rfl (Nat.le_of_ble_eq_true rfl) rfl dX11_of_26 (fun r7 => ?_)
      refine x_goto C (pc := 29) (tgt := 38) dX11_of_29 (by decide) ?_
      exact x_ret dX11_of_38 (fun h => h)
theorem ct_X11_of (t : Nat) (ht : kd t = 9) (a : Int32) (b : Int32) (s0 : SS) (r : Int32) (s2 : SS) (h : FX11_of t a b s0 = some (r, s2)) : CT 0 yX11_of cX11_of 3 (some .int) 2 43 [.ref t, .int a, .int b] s0 (some (.int r)) s2 :=
  ct_of (by decide +kernel) (Or.inr (Or.inl ⟨_, rfl, _, rfl, rfl⟩)) (lx_args [.ref t, .int a, .int b]) (lx_entry [.ref t, .int a, .int b] (fun _ => Nat.le_of_ble_eq_true rfl)) (fun o C hR => Yx.weak (lw_s (lw_s (lw_s lw_0))) (bd_X11_of C t ht a b s0 (r, s2) h hR))
def FX11_about (t : Nat) (a : Int32) (b : Int32) (s0 : SS) : Option (Int32 × SS) :=
  bd (FX11_isSuit t a s0) (fun (r1 : Int32) => if r1 = 0 then bd2 (FX11_refuse t (-2 : Int32) s0) (fun (r2 : Int32) (s3 : SS) => some ((r2, s3))) else (bd (FX11_within b (nI 0) (nI 3) s0) (fun (r4 : Int32) => if r4 = 0 then bd2 (FX11_refuse t (-2 : Int32) s0) (fun (r5 : Int32) (s6 : SS) => some ((r5, s6))) else (bd (FX9_at (lk (lk t 0) 3) a b s0) (fun (r7 : Int32) => some ((r7, s0)))))))
set_option maxRecDepth 100000 in
set_option maxHeartbeats 4000000 in
theorem bd_X11_about {o : Om} (C : Cx o RX11 cX11_about 3 (some .int) (rmx 2 43) 0) (t : Nat) (ht : kd t = 9) (a : Int32) (b : Int32) (s0 : SS) : Xo (FX11_about t a b s0) (fun r => RT o cX11_about (some (.int r.1)) r.2) (Yx o 0 [some (.ref t), some (.int a), some (.int b)] [] s0) := by
  unfold FX11_about
  refine x_aload_n C (pc := 0) dX11_about_0 rfl ?_
  refine x_iload_n C (pc := 1) dX11_about_1 rfl ?_
  refine x_callVi C (pc := 2) mv_X11_161 ht rfl [.int a] (fun _ hr => ct_X11_isSuit _ ht _ _ _ hr) ⟨Nat.le_of_ble_eq_true rfl, Nat.le_of_ble_eq_true rfl⟩ rfl (Nat.le_of_ble_eq_true rfl) rfl dX11_about_2 (fun r1 => ?_)
  refine x_if_eq C (pc := 5) (tgt := 32) dX11_about_5 (by decide) (fun _ => ?_) (fun _ => ?_)
  · skip
    refine x_aload_n C (pc := 32) dX11_about_32 rfl ?_
    refine x_bipush C (pc := 33) dX11_about_33 kc_b_m2 ?_
    refine x_callVim C (pc := 35) mv_X11_96 ht rfl [.int (-2 : Int32)] (fun _ _ hr => ct_X11_refuse _ ht _ _ _ _ hr) ⟨Nat.le_of_ble_eq_true rfl, Nat.le_of_ble_eq_true rfl⟩ rfl (Nat.le_of_ble_eq_true rfl) rfl dX11_about_35 (fun r2 s3 => ?_)
    exact x_ret dX11_about_38 (fun h => h)
  · skip
    refine x_iload_n C (pc := 8) dX11_about_8 rfl ?_
    refine x_iconst C (pc := 9) dX11_about_9 kc_i_0 ?_
    refine x_iconst C (pc := 10) dX11_about_10 kc_i_3 ?_
    refine x_callSi C (pc := 11) ms_X11_92 [.int b, .int (nI 0), .int (nI 3)] (fun _ hr => ct_X11_within _ _ _ _ _ hr) ⟨Nat.le_of_ble_eq_true rfl, Nat.le_of_ble_eq_true rfl⟩ rfl (Nat.le_of_ble_eq_true rfl) rfl dX11_about_11 (fun r4 => ?_)
    refine x_if_eq C (pc := 14) (tgt := 32) dX11_about_14 (by decide) (fun _ => ?_) (fun _ => ?_)
    · skip
      refine x_aload_n C (pc := 32) dX11_about_32 rfl ?_
      refine x_bipush C (pc := 33) dX11_about_33 kc_b_m2 ?_
      refine x_callVim C (pc := 35) mv_X11_96 ht rfl [.int (-2 : Int32)] (fun _ _ hr => ct_X11_refuse _ ht _ _ _ _ hr) ⟨Nat.le_of_ble_eq_true rfl, Nat.le_of_ble_eq_true rfl⟩ rfl (Nat.le_of_ble_eq_true rfl) rfl dX11_about_35 (fun r5 s6 => ?_)
      exact x_ret dX11_about_38 (fun h => h)
    · skip
      refine x_aload_n C (pc := 17) dX11_about_17 rfl ?_
      refine x_getR C (pc := 18) fg_X11_12 dX11_about_18 ht ?_
      refine x_getR C (pc := 21) fg_X11_154 dX11_about_21 (lkd_9_0 ht) ?_
      refine x_iload_n C (pc := 24) dX11_about_24 rfl ?_
      refine x_iload_n C (pc := 25) dX11_about_25 rfl ?_
      refine x_callVi C (pc := 26) mv_X11_185 (lkd_4_3 (lkd_9_0 ht)) rfl [.int a, .int b] (fun _ hr => ct_X9_at _ (lkd_4_3 (lkd_9_0 ht)) _ _ _ _ hr) ⟨Nat.le_of_ble_eq_true rfl, Nat.le_of_ble_eq_true rfl⟩ rfl (Nat.le_of_ble_eq_true rfl) rfl dX11_about_26 (fun r7 => ?_)
      refine x_goto C (pc := 29) (tgt := 38) dX11_about_29 (by decide) ?_
      exact x_ret dX11_about_38 (fun h => h)
theorem ct_X11_about (t : Nat) (ht : kd t = 9) (a : Int32) (b : Int32) (s0 : SS) (r : Int32) (s2 : SS) (h : FX11_about t a b s0 = some (r, s2)) : CT 0 yX11_about cX11_about 3 (some .int) 2 43 [.ref t, .int a, .int b] s0 (some (.int r)) s2 :=
  ct_of (by decide +kernel) (Or.inr (Or.inl ⟨_, rfl, _, rfl, rfl⟩)) (lx_args [.ref t, .int a, .int b]) (lx_entry [.ref t, .int a, .int b] (fun _ => Nat.le_of_ble_eq_true rfl)) (fun o C hR => Yx.weak (lw_s (lw_s (lw_s lw_0))) (bd_X11_about C t ht a b s0 (r, s2) h hR))
def FX11_blows (t : Nat) (a : Int32) (b : Int32) (c : Int32) (s0 : SS) : Option (Int32 × SS) :=
  bd (FX11_isCell a s0) (fun (r1 : Int32) => if r1 = 0 then bd2 (FX11_refuse t (-2 : Int32) s0) (fun (r2 : Int32) (s3 : SS) => some ((r2, s3))) else (bd (FX11_isHourOfDay b s0) (fun (r4 : Int32) => if r4 = 0 then bd2 (FX11_refuse t (-2 : Int32) s0) (fun (r5 : Int32) (s6 : SS) => some ((r5, s6))) else (bd (FX11_within c (nI 0) (nI 1) s0) (fun (r7 : Int32) => if r7 = 0 then bd2 (FX11_refuse t (-2 : Int32) s0) (fun (r8 : Int32) (s9 : SS) => some ((r8, s9))) else (bd (FX0_goInHour (lk t 6) (lk t 0) b (nI 127) s0) (fun (s10 : SS) => if c = 0 then gd (inb a (ln (lk (lk t 6) 0))) (some (((gI s10 (lk (lk t 6) 0) (Int32.toNatClampNeg a)), s10))) else (gd (inb a (ln (lk (lk t 6) 1))) (some (((gI s10 (lk (lk t 6) 1) (Int32.toNatClampNeg a)), s10)))))))))))
set_option maxRecDepth 100000 in
set_option maxHeartbeats 4000000 in
theorem bd_X11_blows {o : Om} (C : Cx o RX11 cX11_blows 4 (some .int) (rmx 4 101) 0) (t : Nat) (ht : kd t = 9) (a : Int32) (b : Int32) (c : Int32) (s0 : SS) : Xo (FX11_blows t a b c s0) (fun r => RT o cX11_blows (some (.int r.1)) r.2) (Yx o 0 [some (.ref t), some (.int a), some (.int b), some (.int c)] [] s0) := by
  unfold FX11_blows
  refine x_iload_n C (pc := 0) dX11_blows_0 rfl ?_
  refine x_callSi C (pc := 1) ms_X11_114 [.int a] (fun _ hr => ct_X11_isCell _ _ _ hr) ⟨Nat.le_of_ble_eq_true rfl, Nat.le_of_ble_eq_true rfl⟩ rfl (Nat.le_of_ble_eq_true rfl) rfl dX11_blows_1 (fun r1 => ?_)
  refine x_if_eq C (pc := 4) (tgt := 23) dX11_blows_4 (by decide) (fun _ => ?_) (fun _ => ?_)
  · skip
    refine x_aload_n C (pc := 23) dX11_blows_23 rfl ?_
    refine x_bipush C (pc := 24) dX11_blows_24 kc_b_m2 ?_
    refine x_callVim C (pc := 26) mv_X11_96 ht rfl [.int (-2 : Int32)] (fun _ _ hr => ct_X11_refuse _ ht _ _ _ _ hr) ⟨Nat.le_of_ble_eq_true rfl, Nat.le_of_ble_eq_true rfl⟩ rfl (Nat.le_of_ble_eq_true rfl) rfl dX11_blows_26 (fun r2 s3 => ?_)
    exact x_ret dX11_blows_29 (fun h => h)
  · skip
    refine x_iload_n C (pc := 7) dX11_blows_7 rfl ?_
    refine x_callSi C (pc := 8) ms_X11_88 [.int b] (fun _ hr => ct_X11_isHourOfDay _ _ _ hr) ⟨Nat.le_of_ble_eq_true rfl, Nat.le_of_ble_eq_true rfl⟩ rfl (Nat.le_of_ble_eq_true rfl) rfl dX11_blows_8 (fun r4 => ?_)
    refine x_if_eq C (pc := 11) (tgt := 23) dX11_blows_11 (by decide) (fun _ => ?_) (fun _ => ?_)
    · skip
      refine x_aload_n C (pc := 23) dX11_blows_23 rfl ?_
      refine x_bipush C (pc := 24) dX11_blows_24 kc_b_m2 ?_
      refine x_callVim C (pc := 26) mv_X11_96 ht rfl [.int (-2 : Int32)] (fun _ _ hr => ct_X11_refuse _ ht _ _ _ _ hr) ⟨Nat.le_of_ble_eq_true rfl, Nat.le_of_ble_eq_true rfl⟩ rfl (Nat.le_of_ble_eq_true rfl) rfl dX11_blows_26 (fun r5 s6 => ?_)
      exact x_ret dX11_blows_29 (fun h => h)
    · skip
      refine x_iload_n C (pc := 14) dX11_blows_14 rfl ?_
      refine x_iconst C (pc := 15) dX11_blows_15 kc_i_0 ?_
      refine x_iconst C (pc := 16) dX11_blows_16 kc_i_1 ?_
      refine x_callSi C (pc := 17) ms_X11_92 [.int c, .int (nI 0), .int (nI 1)] (fun _ hr => ct_X11_within _ _ _ _ _ hr) ⟨Nat.le_of_ble_eq_true rfl, Nat.le_of_ble_eq_true rfl⟩ rfl (Nat.le_of_ble_eq_true rfl) rfl dX11_blows_17 (fun r7 => ?_)
      refine x_if_ne C (pc := 20) (tgt := 30) dX11_blows_20 (by decide) (fun _ => ?_) (fun _ => ?_)
      · skip
        refine x_aload_n C (pc := 23) dX11_blows_23 rfl ?_
        refine x_bipush C (pc := 24) dX11_blows_24 kc_b_m2 ?_
        refine x_callVim C (pc := 26) mv_X11_96 ht rfl [.int (-2 : Int32)] (fun _ _ hr => ct_X11_refuse _ ht _ _ _ _ hr) ⟨Nat.le_of_ble_eq_true rfl, Nat.le_of_ble_eq_true rfl⟩ rfl (Nat.le_of_ble_eq_true rfl) rfl dX11_blows_26 (fun r8 s9 => ?_)
        exact x_ret dX11_blows_29 (fun h => h)
      · skip
        refine x_aload_n C (pc := 30) dX11_blows_30 rfl ?_
        refine x_getR C (pc := 31) fg_X11_32 dX11_blows_31 ht ?_
        refine x_aload_n C (pc := 34) dX11_blows_34 rfl ?_
        refine x_getR C (pc := 35) fg_X11_12 dX11_blows_35 ht ?_
        refine x_iload_n C (pc := 38) dX11_blows_38 rfl ?_
        refine x_bipush C (pc := 39) dX11_blows_39 kc_b_127 ?_
        refine x_callVv C (pc := 41) mv_X11_188 (lkd_9_6 ht) rfl [.ref (lk t 0), .int b, .int (nI 127)] (fun _ hr => ct_X0_goInHour _ (lkd_9_6 ht) _ (lkd_9_0 ht) _ _ _ _ hr) ⟨Nat.le_of_ble_eq_true rfl, Nat.le_of_ble_eq_true rfl⟩ rfl (Nat.le_of_ble_eq_true rfl) rfl dX11_blows_41 (fun s10 => ?_)
        refine x_iload_n C (pc := 44) dX11_blows_44 rfl ?_
        refine x_if_ne C (pc := 45) (tgt := 60) dX11_blows_45 (by decide) (fun _ => ?_) (fun _ => ?_)
        · skip
          refine x_aload_n C (pc := 48) dX11_blows_48 rfl ?_
          refine x_getR C (pc := 49) fg_X11_32 dX11_blows_49 ht ?_
          refine x_getR C (pc := 52) fg_X11_192 dX11_blows_52 (lkd_9_6 ht) ?_
          refine x_iload_n C (pc := 55) dX11_blows_55 rfl ?_
          refine x_iald C (pc := 56) dX11_blows_56 (lkd_0_0 (lkd_9_6 ht)) (fun _ => ?_)
          refine x_goto C (pc := 57) (tgt := 69) dX11_blows_57 (by decide) ?_
          exact x_ret dX11_blows_69 (fun h => h)
        · skip
          refine x_aload_n C (pc := 60) dX11_blows_60 rfl ?_
          refine x_getR C (pc := 61) fg_X11_32 dX11_blows_61 ht ?_
          refine x_getR C (pc := 64) fg_X11_195 dX11_blows_64 (lkd_9_6 ht) ?_
          refine x_iload_n C (pc := 67) dX11_blows_67 rfl ?_
          refine x_iald C (pc := 68) dX11_blows_68 (lkd_0_1 (lkd_9_6 ht)) (fun _ => ?_)
          exact x_ret dX11_blows_69 (fun h => h)
theorem ct_X11_blows (t : Nat) (ht : kd t = 9) (a : Int32) (b : Int32) (c : Int32) (s0 : SS) (r : Int32) (s2 : SS) (h : FX11_blows t a b c s0 = some (r, s2)) : CT 0 yX11_blows cX11_blows 4 (some .int) 4 101 [.ref t, .int a, .int b, .int c] s0 (some (.int r)) s2 :=
  ct_of (by decide +kernel) (Or.inr (Or.inl ⟨_, rfl, _, rfl, rfl⟩)) (lx_args [.ref t, .int a, .int b, .int c]) (lx_entry [.ref t, .int a, .int b, .int c] (fun _ => Nat.le_of_ble_eq_true rfl)) (fun o C hR => Yx.weak (lw_s (lw_s (lw_s (lw_s lw_0)))) (bd_X11_blows C t ht a b c s0 (r, s2) h hR))
def FX11_takes (t : Nat) (a : Int32) (b : Int32) (s0 : SS) : Option (Int32 × SS) :=
  bd (FX11_isUser t a s0) (fun (r1 : Int32) => if r1 = 0 then bd2 (FX11_refuse t (-2 : Int32) s0) (fun (r2 : Int32) (s3 : SS) => some ((r2, s3))) else (bd (FX11_isHourOfDay b s0) (fun (r4 : Int32) => if r4 = 0 then bd2 (FX11_refuse t (-2 : Int32) s0) (fun (r5 : Int32) (s6 : SS) => some ((r5, s6))) else (bd (FX0_goInHour (lk t 6) (lk t 0) b (nI 127) s0) (fun (s7 : SS) => bd (FX0_takenBy (lk t 6) a s7) (fun (r8 : Int32) => some ((r8, s7))))))))
set_option maxRecDepth 100000 in
set_option maxHeartbeats 4000000 in
theorem bd_X11_takes {o : Om} (C : Cx o RX11 cX11_takes 3 (some .int) (rmx 4 101) 0) (t : Nat) (ht : kd t = 9) (a : Int32) (b : Int32) (s0 : SS) : Xo (FX11_takes t a b s0) (fun r => RT o cX11_takes (some (.int r.1)) r.2) (Yx o 0 [some (.ref t), some (.int a), some (.int b)] [] s0) := by
  unfold FX11_takes
  refine x_aload_n C (pc := 0) dX11_takes_0 rfl ?_
  refine x_iload_n C (pc := 1) dX11_takes_1 rfl ?_
  refine x_callVi C (pc := 2) mv_X11_151 ht rfl [.int a] (fun _ hr => ct_X11_isUser _ ht _ _ _ hr) ⟨Nat.le_of_ble_eq_true rfl, Nat.le_of_ble_eq_true rfl⟩ rfl (Nat.le_of_ble_eq_true rfl) rfl dX11_takes_2 (fun r1 => ?_)
  refine x_if_eq C (pc := 5) (tgt := 15) dX11_takes_5 (by decide) (fun _ => ?_) (fun _ => ?_)
  · skip
    refine x_aload_n C (pc := 15) dX11_takes_15 rfl ?_
    refine x_bipush C (pc := 16) dX11_takes_16 kc_b_m2 ?_
    refine x_callVim C (pc := 18) mv_X11_96 ht rfl [.int (-2 : Int32)] (fun _ _ hr => ct_X11_refuse _ ht _ _ _ _ hr) ⟨Nat.le_of_ble_eq_true rfl, Nat.le_of_ble_eq_true rfl⟩ rfl (Nat.le_of_ble_eq_true rfl) rfl dX11_takes_18 (fun r2 s3 => ?_)
    exact x_ret dX11_takes_21 (fun h => h)
  · skip
    refine x_iload_n C (pc := 8) dX11_takes_8 rfl ?_
    refine x_callSi C (pc := 9) ms_X11_88 [.int b] (fun _ hr => ct_X11_isHourOfDay _ _ _ hr) ⟨Nat.le_of_ble_eq_true rfl, Nat.le_of_ble_eq_true rfl⟩ rfl (Nat.le_of_ble_eq_true rfl) rfl dX11_takes_9 (fun r4 => ?_)
    refine x_if_ne C (pc := 12) (tgt := 22) dX11_takes_12 (by decide) (fun _ => ?_) (fun _ => ?_)
    · skip
      refine x_aload_n C (pc := 15) dX11_takes_15 rfl ?_
      refine x_bipush C (pc := 16) dX11_takes_16 kc_b_m2 ?_
      refine x_callVim C (pc := 18) mv_X11_96 ht rfl [.int (-2 : Int32)] (fun _ _ hr => ct_X11_refuse _ ht _ _ _ _ hr) ⟨Nat.le_of_ble_eq_true rfl, Nat.le_of_ble_eq_true rfl⟩ rfl (Nat.le_of_ble_eq_true rfl) rfl dX11_takes_18 (fun r5 s6 => ?_)
      exact x_ret dX11_takes_21 (fun h => h)
    · skip
      refine x_aload_n C (pc := 22) dX11_takes_22 rfl ?_
      refine x_getR C (pc := 23) fg_X11_32 dX11_takes_23 ht ?_
      refine x_aload_n C (pc := 26) dX11_takes_26 rfl ?_
      refine x_getR C (pc := 27) fg_X11_12 dX11_takes_27 ht ?_
      refine x_iload_n C (pc := 30) dX11_takes_30 rfl ?_
      refine x_bipush C (pc := 31) dX11_takes_31 kc_b_127 ?_
      refine x_callVv C (pc := 33) mv_X11_188 (lkd_9_6 ht) rfl [.ref (lk t 0), .int b, .int (nI 127)] (fun _ hr => ct_X0_goInHour _ (lkd_9_6 ht) _ (lkd_9_0 ht) _ _ _ _ hr) ⟨Nat.le_of_ble_eq_true rfl, Nat.le_of_ble_eq_true rfl⟩ rfl (Nat.le_of_ble_eq_true rfl) rfl dX11_takes_33 (fun s7 => ?_)
      refine x_aload_n C (pc := 36) dX11_takes_36 rfl ?_
      refine x_getR C (pc := 37) fg_X11_32 dX11_takes_37 ht ?_
      refine x_iload_n C (pc := 40) dX11_takes_40 rfl ?_
      refine x_callVi C (pc := 41) mv_X11_198 (lkd_9_6 ht) rfl [.int a] (fun _ hr => ct_X0_takenBy _ (lkd_9_6 ht) _ _ _ hr) ⟨Nat.le_of_ble_eq_true rfl, Nat.le_of_ble_eq_true rfl⟩ rfl (Nat.le_of_ble_eq_true rfl) rfl dX11_takes_41 (fun r8 => ?_)
      exact x_ret dX11_takes_44 (fun h => h)
theorem ct_X11_takes (t : Nat) (ht : kd t = 9) (a : Int32) (b : Int32) (s0 : SS) (r : Int32) (s2 : SS) (h : FX11_takes t a b s0 = some (r, s2)) : CT 0 yX11_takes cX11_takes 3 (some .int) 4 101 [.ref t, .int a, .int b] s0 (some (.int r)) s2 :=
  ct_of (by decide +kernel) (Or.inr (Or.inl ⟨_, rfl, _, rfl, rfl⟩)) (lx_args [.ref t, .int a, .int b]) (lx_entry [.ref t, .int a, .int b] (fun _ => Nat.le_of_ble_eq_true rfl)) (fun o C hR => Yx.weak (lw_s (lw_s (lw_s lw_0))) (bd_X11_takes C t ht a b s0 (r, s2) h hR))
def FX11_then (t : Nat) (a : Int32) (b : Int32) (s0 : SS) : Option (Int32 × SS) :=
  bd (FX11_isUser t a s0) (fun (r1 : Int32) => if r1 = 0 then bd2 (FX11_refuse t (-2 : Int32) s0) (fun (r2 : Int32) (s3 : SS) => some ((r2, s3))) else (bd (FX11_within b (nI 0) (nI 99) s0) (fun (r4 : Int32) => if r4 = 0 then bd2 (FX11_refuse t (-2 : Int32) s0) (fun (r5 : Int32) (s6 : SS) => some ((r5, s6))) else (bd2 (FX2_duesBehind (lk t 8) (lk t 0) a b s0) (fun (r7 : Int32) (s8 : SS) => some ((r7, s8)))))))
set_option maxRecDepth 100000 in
set_option maxHeartbeats 4000000 in
theorem bd_X11_then {o : Om} (C : Cx o RX11 cX11_then 3 (some .int) (rmx 5 126) 0) (t : Nat) (ht : kd t = 9) (a : Int32) (b : Int32) (s0 : SS) : Xo (FX11_then t a b s0) (fun r => RT o cX11_then (some (.int r.1)) r.2) (Yx o 0 [some (.ref t), some (.int a), some (.int b)] [] s0) := by
  unfold FX11_then
  refine x_aload_n C (pc := 0) dX11_then_0 rfl ?_
  refine x_iload_n C (pc := 1) dX11_then_1 rfl ?_
  refine x_callVi C (pc := 2) mv_X11_151 ht rfl [.int a] (fun _ hr => ct_X11_isUser _ ht _ _ _ hr) ⟨Nat.le_of_ble_eq_true rfl, Nat.le_of_ble_eq_true rfl⟩ rfl (Nat.le_of_ble_eq_true rfl) rfl dX11_then_2 (fun r1 => ?_)
  refine x_if_eq C (pc := 5) (tgt := 34) dX11_then_5 (by decide) (fun _ => ?_) (fun _ => ?_)
  · skip
    refine x_aload_n C (pc := 34) dX11_then_34 rfl ?_
    refine x_bipush C (pc := 35) dX11_then_35 kc_b_m2 ?_
    refine x_callVim C (pc := 37) mv_X11_96 ht rfl [.int (-2 : Int32)] (fun _ _ hr => ct_X11_refuse _ ht _ _ _ _ hr) ⟨Nat.le_of_ble_eq_true rfl, Nat.le_of_ble_eq_true rfl⟩ rfl (Nat.le_of_ble_eq_true rfl) rfl dX11_then_37 (fun r2 s3 => ?_)
    exact x_ret dX11_then_40 (fun h => h)
  · skip
    refine x_iload_n C (pc := 8) dX11_then_8 rfl ?_
    refine x_iconst C (pc := 9) dX11_then_9 kc_i_0 ?_
    refine x_bipush C (pc := 10) dX11_then_10 kc_b_99 ?_
    refine x_callSi C (pc := 12) ms_X11_92 [.int b, .int (nI 0), .int (nI 99)] (fun _ hr => ct_X11_within _ _ _ _ _ hr) ⟨Nat.le_of_ble_eq_true rfl, Nat.le_of_ble_eq_true rfl⟩ rfl (Nat.le_of_ble_eq_true rfl) rfl dX11_then_12 (fun r4 => ?_)
    refine x_if_eq C (pc := 15) (tgt := 34) dX11_then_15 (by decide) (fun _ => ?_) (fun _ => ?_)
    · skip
      refine x_aload_n C (pc := 34) dX11_then_34 rfl ?_
      refine x_bipush C (pc := 35) dX11_then_35 kc_b_m2 ?_
      refine x_callVim C (pc := 37) mv_X11_96 ht rfl [.int (-2 : Int32)] (fun _ _ hr => ct_X11_refuse _ ht _ _ _ _ hr) ⟨Nat.le_of_ble_eq_true rfl, Nat.le_of_ble_eq_true rfl⟩ rfl (Nat.le_of_ble_eq_true rfl) rfl dX11_then_37 (fun r5 s6 => ?_)
      exact x_ret dX11_then_40 (fun h => h)
    · skip
      refine x_aload_n C (pc := 18) dX11_then_18 rfl ?_
      refine x_getR C (pc := 19) fg_X11_50 dX11_then_19 ht ?_
      refine x_aload_n C (pc := 22) dX11_then_22 rfl ?_
      refine x_getR C (pc := 23) fg_X11_12 dX11_then_23 ht ?_
      refine x_iload_n C (pc := 26) dX11_then_26 rfl ?_
      refine x_iload_n C (pc := 27) dX11_then_27 rfl ?_
      refine x_callVim C (pc := 28) mv_X11_201 (lkd_9_8 ht) rfl [.ref (lk t 0), .int a, .int b] (fun _ _ hr => ct_X2_duesBehind _ (lkd_9_8 ht) _ (lkd_9_0 ht) _ _ _ _ _ hr) ⟨Nat.le_of_ble_eq_true rfl, Nat.le_of_ble_eq_true rfl⟩ rfl (Nat.le_of_ble_eq_true rfl) rfl dX11_then_28 (fun r7 s8 => ?_)
      refine x_goto C (pc := 31) (tgt := 40) dX11_then_31 (by decide) ?_
      exact x_ret dX11_then_40 (fun h => h)
theorem ct_X11_then (t : Nat) (ht : kd t = 9) (a : Int32) (b : Int32) (s0 : SS) (r : Int32) (s2 : SS) (h : FX11_then t a b s0 = some (r, s2)) : CT 0 yX11_then cX11_then 3 (some .int) 5 126 [.ref t, .int a, .int b] s0 (some (.int r)) s2 :=
  ct_of (by decide +kernel) (Or.inr (Or.inl ⟨_, rfl, _, rfl, rfl⟩)) (lx_args [.ref t, .int a, .int b]) (lx_entry [.ref t, .int a, .int b] (fun _ => Nat.le_of_ble_eq_true rfl)) (fun o C hR => Yx.weak (lw_s (lw_s (lw_s lw_0))) (bd_X11_then C t ht a b s0 (r, s2) h hR))
def FX11_calm (t : Nat) (a : Int32) (s0 : SS) : Option (Int32 × SS) :=
  bd (FX11_isUser t a s0) (fun (r1 : Int32) => if r1 = 0 then bd2 (FX11_refuse t (-2 : Int32) s0) (fun (r2 : Int32) (s3 : SS) => some ((r2, s3))) else (bd2 (FX2_firstCalm (lk t 8) (lk t 0) a s0) (fun (r4 : Int32) (s5 : SS) => some ((r4, s5)))))
set_option maxRecDepth 100000 in
set_option maxHeartbeats 4000000 in
theorem bd_X11_calm {o : Om} (C : Cx o RX11 cX11_calm 2 (some .int) (rmx 5 124) 0) (t : Nat) (ht : kd t = 9) (a : Int32) (s0 : SS) : Xo (FX11_calm t a s0) (fun r => RT o cX11_calm (some (.int r.1)) r.2) (Yx o 0 [some (.ref t), some (.int a)] [] s0) := by
  unfold FX11_calm
  refine x_aload_n C (pc := 0) dX11_calm_0 rfl ?_
  refine x_iload_n C (pc := 1) dX11_calm_1 rfl ?_
  refine x_callVi C (pc := 2) mv_X11_151 ht rfl [.int a] (fun _ hr => ct_X11_isUser _ ht _ _ _ hr) ⟨Nat.le_of_ble_eq_true rfl, Nat.le_of_ble_eq_true rfl⟩ rfl (Nat.le_of_ble_eq_true rfl) rfl dX11_calm_2 (fun r1 => ?_)
  refine x_if_eq C (pc := 5) (tgt := 23) dX11_calm_5 (by decide) (fun _ => ?_) (fun _ => ?_)
  · skip
    refine x_aload_n C (pc := 23) dX11_calm_23 rfl ?_
    refine x_bipush C (pc := 24) dX11_calm_24 kc_b_m2 ?_
    refine x_callVim C (pc := 26) mv_X11_96 ht rfl [.int (-2 : Int32)] (fun _ _ hr => ct_X11_refuse _ ht _ _ _ _ hr) ⟨Nat.le_of_ble_eq_true rfl, Nat.le_of_ble_eq_true rfl⟩ rfl (Nat.le_of_ble_eq_true rfl) rfl dX11_calm_26 (fun r2 s3 => ?_)
    exact x_ret dX11_calm_29 (fun h => h)
  · skip
    refine x_aload_n C (pc := 8) dX11_calm_8 rfl ?_
    refine x_getR C (pc := 9) fg_X11_50 dX11_calm_9 ht ?_
    refine x_aload_n C (pc := 12) dX11_calm_12 rfl ?_
    refine x_getR C (pc := 13) fg_X11_12 dX11_calm_13 ht ?_
    refine x_iload_n C (pc := 16) dX11_calm_16 rfl ?_
    refine x_callVim C (pc := 17) mv_X11_205 (lkd_9_8 ht) rfl [.ref (lk t 0), .int a] (fun _ _ hr => ct_X2_firstCalm _ (lkd_9_8 ht) _ (lkd_9_0 ht) _ _ _ _ hr) ⟨Nat.le_of_ble_eq_true rfl, Nat.le_of_ble_eq_true rfl⟩ rfl (Nat.le_of_ble_eq_true rfl) rfl dX11_calm_17 (fun r4 s5 => ?_)
    refine x_goto C (pc := 20) (tgt := 29) dX11_calm_20 (by decide) ?_
    exact x_ret dX11_calm_29 (fun h => h)
theorem ct_X11_calm (t : Nat) (ht : kd t = 9) (a : Int32) (s0 : SS) (r : Int32) (s2 : SS) (h : FX11_calm t a s0 = some (r, s2)) : CT 0 yX11_calm cX11_calm 2 (some .int) 5 124 [.ref t, .int a] s0 (some (.int r)) s2 :=
  ct_of (by decide +kernel) (Or.inr (Or.inl ⟨_, rfl, _, rfl, rfl⟩)) (lx_args [.ref t, .int a]) (lx_entry [.ref t, .int a] (fun _ => Nat.le_of_ble_eq_true rfl)) (fun o C hR => Yx.weak (lw_s (lw_s lw_0)) (bd_X11_calm C t ht a s0 (r, s2) h hR))
def FX11_place (t : Nat) (a : Int32) (b : Int32) (c : Int32) (s0 : SS) : Option (Int32 × SS) :=
  bd (FX11_isKind a s0) (fun (r1 : Int32) => if r1 = 0 then bd2 (FX11_refuse t (-2 : Int32) s0) (fun (r2 : Int32) (s3 : SS) => some ((r2, s3))) else (bd (FX11_isHeight b s0) (fun (r4 : Int32) => if r4 = 0 then bd2 (FX11_refuse t (-2 : Int32) s0) (fun (r5 : Int32) (s6 : SS) => some ((r5, s6))) else (bd (FX11_within c (nI 0) (nI 1) s0) (fun (r7 : Int32) => if r7 = 0 then bd2 (FX11_refuse t (-2 : Int32) s0) (fun (r8 : Int32) (s9 : SS) => some ((r8, s9))) else (bd (FX9_isFull (lk (lk t 0) 2) s0) (fun (r10 : Int32) => if r10 = 0 then bd (FX2_findPlace (lk t 8) (lk t 0) a b s0) (fun (s11 : SS) => if c = 0 then some (((gI s11 (lk t 8) 3), s11)) else (some (((gI s11 (lk t 8) 4), s11)))) else (bd2 (FX11_refuse t (-4 : Int32) s0) (fun (r12 : Int32) (s13 : SS) => some ((r12, s13)))))))))))
set_option maxRecDepth 100000 in
set_option maxHeartbeats 4000000 in
theorem bd_X11_place {o : Om} (C : Cx o RX11 cX11_place 4 (some .int) (rmx 5 131) 0) (t : Nat) (ht : kd t = 9) (a : Int32) (b : Int32) (c : Int32) (s0 : SS) : Xo (FX11_place t a b c s0) (fun r => RT o cX11_place (some (.int r.1)) r.2) (Yx o 0 [some (.ref t), some (.int a), some (.int b), some (.int c)] [] s0) := by
  unfold FX11_place
  refine x_iload_n C (pc := 0) dX11_place_0 rfl ?_
  refine x_callSi C (pc := 1) ms_X11_111 [.int a] (fun _ hr => ct_X11_isKind _ _ _ hr) ⟨Nat.le_of_ble_eq_true rfl, Nat.le_of_ble_eq_true rfl⟩ rfl (Nat.le_of_ble_eq_true rfl) rfl dX11_place_1 (fun r1 => ?_)
  refine x_if_eq C (pc := 4) (tgt := 23) dX11_place_4 (by decide) (fun _ => ?_) (fun _ => ?_)
  · skip
    refine x_aload_n C (pc := 23) dX11_place_23 rfl ?_
    refine x_bipush C (pc := 24) dX11_place_24 kc_b_m2 ?_
    refine x_callVim C (pc := 26) mv_X11_96 ht rfl [.int (-2 : Int32)] (fun _ _ hr => ct_X11_refuse _ ht _ _ _ _ hr) ⟨Nat.le_of_ble_eq_true rfl, Nat.le_of_ble_eq_true rfl⟩ rfl (Nat.le_of_ble_eq_true rfl) rfl dX11_place_26 (fun r2 s3 => ?_)
    exact x_ret dX11_place_29 (fun h => h)
  · skip
    refine x_iload_n C (pc := 7) dX11_place_7 rfl ?_
    refine x_callSi C (pc := 8) ms_X11_117 [.int b] (fun _ hr => ct_X11_isHeight _ _ _ hr) ⟨Nat.le_of_ble_eq_true rfl, Nat.le_of_ble_eq_true rfl⟩ rfl (Nat.le_of_ble_eq_true rfl) rfl dX11_place_8 (fun r4 => ?_)
    refine x_if_eq C (pc := 11) (tgt := 23) dX11_place_11 (by decide) (fun _ => ?_) (fun _ => ?_)
    · skip
      refine x_aload_n C (pc := 23) dX11_place_23 rfl ?_
      refine x_bipush C (pc := 24) dX11_place_24 kc_b_m2 ?_
      refine x_callVim C (pc := 26) mv_X11_96 ht rfl [.int (-2 : Int32)] (fun _ _ hr => ct_X11_refuse _ ht _ _ _ _ hr) ⟨Nat.le_of_ble_eq_true rfl, Nat.le_of_ble_eq_true rfl⟩ rfl (Nat.le_of_ble_eq_true rfl) rfl dX11_place_26 (fun r5 s6 => ?_)
      exact x_ret dX11_place_29 (fun h => h)
    · skip
      refine x_iload_n C (pc := 14) dX11_place_14 rfl ?_
      refine x_iconst C (pc := 15) dX11_place_15 kc_i_0 ?_
      refine x_iconst C (pc := 16) dX11_place_16 kc_i_1 ?_
      refine x_callSi C (pc := 17) ms_X11_92 [.int c, .int (nI 0), .int (nI 1)] (fun _ hr => ct_X11_within _ _ _ _ _ hr) ⟨Nat.le_of_ble_eq_true rfl, Nat.le_of_ble_eq_true rfl⟩ rfl (Nat.le_of_ble_eq_true rfl) rfl dX11_place_17 (fun r7 => ?_)
      refine x_if_ne C (pc := 20) (tgt := 30) dX11_place_20 (by decide) (fun _ => ?_) (fun _ => ?_)
      · skip
        refine x_aload_n C (pc := 23) dX11_place_23 rfl ?_
        refine x_bipush C (pc := 24) dX11_place_24 kc_b_m2 ?_
        refine x_callVim C (pc := 26) mv_X11_96 ht rfl [.int (-2 : Int32)] (fun _ _ hr => ct_X11_refuse _ ht _ _ _ _ hr) ⟨Nat.le_of_ble_eq_true rfl, Nat.le_of_ble_eq_true rfl⟩ rfl (Nat.le_of_ble_eq_true rfl) rfl dX11_place_26 (fun r8 s9 => ?_)
        exact x_ret dX11_place_29 (fun h => h)
      · skip
        refine x_aload_n C (pc := 30) dX11_place_30 rfl ?_
        refine x_getR C (pc := 31) fg_X11_12 dX11_place_31 ht ?_
        refine x_getR C (pc := 34) fg_X11_75 dX11_place_34 (lkd_9_0 ht) ?_
        refine x_callVi C (pc := 37) mv_X11_120 (lkd_4_2 (lkd_9_0 ht)) rfl [] (fun _ hr => ct_X9_isFull _ (lkd_4_2 (lkd_9_0 ht)) _ _ hr) ⟨Nat.le_of_ble_eq_true rfl, Nat.le_of_ble_eq_true rfl⟩ rfl (Nat.le_of_ble_eq_true rfl) rfl dX11_place_37 (fun r10 => ?_)
        refine x_if_eq C (pc := 40) (tgt := 50) dX11_place_40 (by decide) (fun _ => ?_) (fun _ => ?_)
        · skip
          refine x_aload_n C (pc := 50) dX11_place_50 rfl ?_
          refine x_getR C (pc := 51) fg_X11_50 dX11_place_51 ht ?_
          refine x_aload_n C (pc := 54) dX11_place_54 rfl ?_
          refine x_getR C (pc := 55) fg_X11_12 dX11_place_55 ht ?_
          refine x_iload_n C (pc := 58) dX11_place_58 rfl ?_
          refine x_iload_n C (pc := 59) dX11_place_59 rfl ?_
          refine x_callVv C (pc := 60) mv_X11_209 (lkd_9_8 ht) rfl [.ref (lk t 0), .int a, .int b] (fun _ hr => ct_X2_findPlace _ (lkd_9_8 ht) _ (lkd_9_0 ht) _ _ _ _ hr) ⟨Nat.le_of_ble_eq_true rfl, Nat.le_of_ble_eq_true rfl⟩ rfl (Nat.le_of_ble_eq_true rfl) rfl dX11_place_60 (fun s11 => ?_)
          refine x_iload_n C (pc := 63) dX11_place_63 rfl ?_
          refine x_if_ne C (pc := 64) (tgt := 77) dX11_place_64 (by decide) (fun _ => ?_) (fun _ => ?_)
          · skip
            refine x_aload_n C (pc := 67) dX11_place_67 rfl ?_
            refine x_getR C (pc := 68) fg_X11_50 dX11_place_68 ht ?_
            refine x_getI C (pc := 71) fg_X11_212 dX11_place_71 (lkd_9_8 ht) ?_
            refine x_goto C (pc := 74) (tgt := 84) dX11_place_74 (by decide) ?_
            exact x_ret dX11_place_84 (fun h => h)
          · skip
            refine x_aload_n C (pc := 77) dX11_place_77 rfl ?_
            refine x_getR C (pc := 78) fg_X11_50 dX11_place_78 ht ?_
            refine x_getI C (pc := 81) fg_X11_215 dX11_place_81 (lkd_9_8 ht) ?_
            exact x_ret dX11_place_84 (fun h => h)
        · skip
          refine x_aload_n C (pc := 43) dX11_place_43 rfl ?_
          refine x_bipush C (pc := 44) dX11_place_44 kc_b_m4 ?_
          refine x_callVim C (pc := 46) mv_X11_96 ht rfl [.int (-4 : Int32)] (fun _ _ hr => ct_X11_refuse _ ht _ _ _ _ hr) ⟨Nat.le_of_ble_eq_true rfl, Nat.le_of_ble_eq_true rfl⟩ rfl (Nat.le_of_ble_eq_true rfl) rfl dX11_place_46 (fun r12 s13 => ?_)
          exact x_ret dX11_place_49 (fun h => h)
theorem ct_X11_place (t : Nat) (ht : kd t = 9) (a : Int32) (b : Int32) (c : Int32) (s0 : SS) (r : Int32) (s2 : SS) (h : FX11_place t a b c s0 = some (r, s2)) : CT 0 yX11_place cX11_place 4 (some .int) 5 131 [.ref t, .int a, .int b, .int c] s0 (some (.int r)) s2 :=
  ct_of (by decide +kernel) (Or.inr (Or.inl ⟨_, rfl, _, rfl, rfl⟩)) (lx_args [.ref t, .int a, .int b, .int c]) (lx_entry [.ref t, .int a, .int b, .int c] (fun _ => Nat.le_of_ble_eq_true rfl)) (fun o C hR => Yx.weak (lw_s (lw_s (lw_s (lw_s lw_0)))) (bd_X11_place C t ht a b c s0 (r, s2) h hR))
def FX11_share (t : Nat) (a : Int32) (s0 : SS) : Option (Int32 × SS) :=
  bd (FX11_isUser t a s0) (fun (r1 : Int32) => if r1 = 0 then bd2 (FX11_refuse t (-2 : Int32) s0) (fun (r2 : Int32) (s3 : SS) => some ((r2, s3))) else (bd2 (FX2_sumOverOrders (lk t 8) (lk t 0) a s0) (fun (r4 : Int64) (s5 : SS) => bd (FX11_factorial (gI s5 (lk (lk t 0) 2) 3) s5) (fun (r6 : Int32) => bd (FX3_set (lk t 11) r4 (Int32.toInt64 r6) s5) (fun (s7 : SS) => some (((nI 1), s7)))))))
set_option maxRecDepth 100000 in
set_option maxHeartbeats 4000000 in
theorem bd_X11_share {o : Om} (C : Cx o RX11 cX11_share 2 (some .int) (rmx 5 134) 0) (t : Nat) (ht : kd t = 9) (a : Int32) (s0 : SS) : Xo (FX11_share t a s0) (fun r => RT o cX11_share (some (.int r.1)) r.2) (Yx o 0 [some (.ref t), some (.int a)] [] s0) := by
  unfold FX11_share
  refine x_aload_n C (pc := 0) dX11_share_0 rfl ?_
  refine x_iload_n C (pc := 1) dX11_share_1 rfl ?_
  refine x_callVi C (pc := 2) mv_X11_151 ht rfl [.int a] (fun _ hr => ct_X11_isUser _ ht _ _ _ hr) ⟨Nat.le_of_ble_eq_true rfl, Nat.le_of_ble_eq_true rfl⟩ rfl (Nat.le_of_ble_eq_true rfl) rfl dX11_share_2 (fun r1 => ?_)
  refine x_if_ne C (pc := 5) (tgt := 15) dX11_share_5 (by decide) (fun _ => ?_) (fun _ => ?_)
  · skip
    refine x_aload_n C (pc := 8) dX11_share_8 rfl ?_
    refine x_bipush C (pc := 9) dX11_share_9 kc_b_m2 ?_
    refine x_callVim C (pc := 11) mv_X11_96 ht rfl [.int (-2 : Int32)] (fun _ _ hr => ct_X11_refuse _ ht _ _ _ _ hr) ⟨Nat.le_of_ble_eq_true rfl, Nat.le_of_ble_eq_true rfl⟩ rfl (Nat.le_of_ble_eq_true rfl) rfl dX11_share_11 (fun r2 s3 => ?_)
    exact x_ret dX11_share_14 (fun h => h)
  · skip
    refine x_aload_n C (pc := 15) dX11_share_15 rfl ?_
    refine x_getR C (pc := 16) fg_X11_71 dX11_share_16 ht ?_
    refine x_aload_n C (pc := 19) dX11_share_19 rfl ?_
    refine x_getR C (pc := 20) fg_X11_50 dX11_share_20 ht ?_
    refine x_aload_n C (pc := 23) dX11_share_23 rfl ?_
    refine x_getR C (pc := 24) fg_X11_12 dX11_share_24 ht ?_
    refine x_iload_n C (pc := 27) dX11_share_27 rfl ?_
    refine x_callVlm C (pc := 28) mv_X11_218 (lkd_9_8 ht) rfl [.ref (lk t 0), .int a] (fun _ _ hr => ct_X2_sumOverOrders _ (lkd_9_8 ht) _ (lkd_9_0 ht) _ _ _ _ hr) ⟨Nat.le_of_ble_eq_true rfl, Nat.le_of_ble_eq_true rfl⟩ rfl (Nat.le_of_ble_eq_true rfl) rfl dX11_share_28 (fun r4 s5 => ?_)
    refine x_aload_n C (pc := 31) dX11_share_31 rfl ?_
    refine x_getR C (pc := 32) fg_X11_12 dX11_share_32 ht ?_
    refine x_getR C (pc := 35) fg_X11_75 dX11_share_35 (lkd_9_0 ht) ?_
    refine x_getI C (pc := 38) fg_X11_79 dX11_share_38 (lkd_4_2 (lkd_9_0 ht)) ?_
    refine x_callSi C (pc := 41) ms_X11_222 [.int (gI s5 (lk (lk t 0) 2) 3)] (fun _ hr => ct_X11_factorial _ _ _ hr) ⟨Nat.le_of_ble_eq_true rfl, Nat.le_of_ble_eq_true rfl⟩ rfl (Nat.le_of_ble_eq_true rfl) rfl dX11_share_41 (fun r6 => ?_)
    refine x_i2l C (pc := 44) dX11_share_44 ?_
    refine x_callVv C (pc := 45) mv_X11_225 (lkd_9_11 ht) rfl [.long r4, .long (Int32.toInt64 r6)] (fun _ hr => ct_X3_set _ (lkd_9_11 ht) _ _ _ _ hr) ⟨Nat.le_of_ble_eq_true rfl, Nat.le_of_ble_eq_true rfl⟩ rfl (Nat.le_of_ble_eq_true rfl) rfl dX11_share_45 (fun s7 => ?_)
    refine x_iconst C (pc := 48) dX11_share_48 kc_i_1 ?_
    exact x_ret dX11_share_49 (fun h => h)
theorem ct_X11_share (t : Nat) (ht : kd t = 9) (a : Int32) (s0 : SS) (r : Int32) (s2 : SS) (h : FX11_share t a s0 = some (r, s2)) : CT 0 yX11_share cX11_share 2 (some .int) 5 134 [.ref t, .int a] s0 (some (.int r)) s2 :=
  ct_of (by decide +kernel) (Or.inr (Or.inl ⟨_, rfl, _, rfl, rfl⟩)) (lx_args [.ref t, .int a]) (lx_entry [.ref t, .int a] (fun _ => Nat.le_of_ble_eq_true rfl)) (fun o C hR => Yx.weak (lw_s (lw_s lw_0)) (bd_X11_share C t ht a s0 (r, s2) h hR))
def FX11_award (t : Nat) (a : Int32) (s0 : SS) : Option (Int32 × SS) :=
  bd (FX11_isSuit t a s0) (fun (r1 : Int32) => if r1 = 0 then bd2 (FX11_refuse t (-2 : Int32) s0) (fun (r2 : Int32) (s3 : SS) => some ((r2, s3))) else (bd (FX4_awardNow (lk t 0) a s0) (fun (r4 : Int32) => some ((r4, s0)))))
set_option maxRecDepth 100000 in
set_option maxHeartbeats 4000000 in
theorem bd_X11_award {o : Om} (C : Cx o RX11 cX11_award 2 (some .int) (rmx 3 66) 0) (t : Nat) (ht : kd t = 9) (a : Int32) (s0 : SS) : Xo (FX11_award t a s0) (fun r => RT o cX11_award (some (.int r.1)) r.2) (Yx o 0 [some (.ref t), some (.int a)] [] s0) := by
  unfold FX11_award
  refine x_aload_n C (pc := 0) dX11_award_0 rfl ?_
  refine x_iload_n C (pc := 1) dX11_award_1 rfl ?_
  refine x_callVi C (pc := 2) mv_X11_161 ht rfl [.int a] (fun _ hr => ct_X11_isSuit _ ht _ _ _ hr) ⟨Nat.le_of_ble_eq_true rfl, Nat.le_of_ble_eq_true rfl⟩ rfl (Nat.le_of_ble_eq_true rfl) rfl dX11_award_2 (fun r1 => ?_)
  refine x_if_eq C (pc := 5) (tgt := 19) dX11_award_5 (by decide) (fun _ => ?_) (fun _ => ?_)
  · skip
    refine x_aload_n C (pc := 19) dX11_award_19 rfl ?_
    refine x_bipush C (pc := 20) dX11_award_20 kc_b_m2 ?_
    refine x_callVim C (pc := 22) mv_X11_96 ht rfl [.int (-2 : Int32)] (fun _ _ hr => ct_X11_refuse _ ht _ _ _ _ hr) ⟨Nat.le_of_ble_eq_true rfl, Nat.le_of_ble_eq_true rfl⟩ rfl (Nat.le_of_ble_eq_true rfl) rfl dX11_award_22 (fun r2 s3 => ?_)
    exact x_ret dX11_award_25 (fun h => h)
  · skip
    refine x_aload_n C (pc := 8) dX11_award_8 rfl ?_
    refine x_getR C (pc := 9) fg_X11_12 dX11_award_9 ht ?_
    refine x_iload_n C (pc := 12) dX11_award_12 rfl ?_
    refine x_callVi C (pc := 13) mv_X11_229 (lkd_9_0 ht) rfl [.int a] (fun _ hr => ct_X4_awardNow _ (lkd_9_0 ht) _ _ _ hr) ⟨Nat.le_of_ble_eq_true rfl, Nat.le_of_ble_eq_true rfl⟩ rfl (Nat.le_of_ble_eq_true rfl) rfl dX11_award_13 (fun r4 => ?_)
    refine x_goto C (pc := 16) (tgt := 25) dX11_award_16 (by decide) ?_
    exact x_ret dX11_award_25 (fun h => h)
theorem ct_X11_award (t : Nat) (ht : kd t = 9) (a : Int32) (s0 : SS) (r : Int32) (s2 : SS) (h : FX11_award t a s0 = some (r, s2)) : CT 0 yX11_award cX11_award 2 (some .int) 3 66 [.ref t, .int a] s0 (some (.int r)) s2 :=
  ct_of (by decide +kernel) (Or.inr (Or.inl ⟨_, rfl, _, rfl, rfl⟩)) (lx_args [.ref t, .int a]) (lx_entry [.ref t, .int a] (fun _ => Nat.le_of_ble_eq_true rfl)) (fun o C hR => Yx.weak (lw_s (lw_s lw_0)) (bd_X11_award C t ht a s0 (r, s2) h hR))
def FX11_court (t : Nat) (a : Int32) (s0 : SS) : Option (Int32 × SS) :=
  if (-1 : Int32) ≤ a then bd (FX8_findBestOrder (lk t 9) (lk t 0) s0) (fun (s1 : SS) => if a = (-1 : Int32) then some (((gI s1 (lk t 9) 3), s1)) else (if (gI s1 (lk t 9) 2) ≤ a then some (((-5 : Int32), s1)) else (gd (inb a (ln (lk (lk t 9) 1))) (some (((gI s1 (lk (lk t 9) 1) (Int32.toNatClampNeg a)), s1)))))) else (bd2 (FX11_refuse t (-2 : Int32) s0) (fun (r2 : Int32) (s3 : SS) => some (((-10 : Int32), s3))))
set_option maxRecDepth 100000 in
set_option maxHeartbeats 4000000 in
theorem bd_X11_court {o : Om} (C : Cx o RX11 cX11_court 2 (some .int) (rmx 4 96) 0) (t : Nat) (ht : kd t = 9) (a : Int32) (s0 : SS) : Xo (FX11_court t a s0) (fun r => RT o cX11_court (some (.int r.1)) r.2) (Yx o 0 [some (.ref t), some (.int a)] [] s0) := by
  unfold FX11_court
  refine x_iload_n C (pc := 0) dX11_court_0 rfl ?_
  refine x_iconst C (pc := 1) dX11_court_1 kc_i_m1 ?_
  refine x_icmp_ge C (pc := 2) (tgt := 15) dX11_court_2 (by decide) (fun _ => ?_) (fun _ => ?_)
  · skip
    refine x_aload_n C (pc := 15) dX11_court_15 rfl ?_
    refine x_getR C (pc := 16) fg_X11_57 dX11_court_16 ht ?_
    refine x_aload_n C (pc := 19) dX11_court_19 rfl ?_
    refine x_getR C (pc := 20) fg_X11_12 dX11_court_20 ht ?_
    refine x_callVv C (pc := 23) mv_X11_232 (lkd_9_9 ht) rfl [.ref (lk t 0)] (fun _ hr => ct_X8_findBestOrder _ (lkd_9_9 ht) _ (lkd_9_0 ht) _ _ hr) ⟨Nat.le_of_ble_eq_true rfl, Nat.le_of_ble_eq_true rfl⟩ rfl (Nat.le_of_ble_eq_true rfl) rfl dX11_court_23 (fun s1 => ?_)
    refine x_iload_n C (pc := 26) dX11_court_26 rfl ?_
    refine x_iconst C (pc := 27) dX11_court_27 kc_i_m1 ?_
    refine x_icmp_ne C (pc := 28) (tgt := 39) dX11_court_28 (by decide) (fun _ => ?_) (fun _ => ?_)
    · skip
      refine x_aload_n C (pc := 31) dX11_court_31 rfl ?_
      refine x_getR C (pc := 32) fg_X11_57 dX11_court_32 ht ?_
      refine x_getI C (pc := 35) fg_X11_235 dX11_court_35 (lkd_9_9 ht) ?_
      exact x_ret dX11_court_38 (fun h => h)
    · skip
      refine x_iload_n C (pc := 39) dX11_court_39 rfl ?_
      refine x_aload_n C (pc := 40) dX11_court_40 rfl ?_
      refine x_getR C (pc := 41) fg_X11_57 dX11_court_41 ht ?_
      refine x_getI C (pc := 44) fg_X11_238 dX11_court_44 (lkd_9_9 ht) ?_
      refine x_icmp_ge C (pc := 47) (tgt := 62) dX11_court_47 (by decide) (fun _ => ?_) (fun _ => ?_)
      · skip
        refine x_bipush C (pc := 62) dX11_court_62 kc_b_m5 ?_
        exact x_ret dX11_court_64 (fun h => h)
      · skip
        refine x_aload_n C (pc := 50) dX11_court_50 rfl ?_
        refine x_getR C (pc := 51) fg_X11_57 dX11_court_51 ht ?_
        refine x_getR C (pc := 54) fg_X11_241 dX11_court_54 (lkd_9_9 ht) ?_
        refine x_iload_n C (pc := 57) dX11_court_57 rfl ?_
        refine x_iald C (pc := 58) dX11_court_58 (lkd_6_1 (lkd_9_9 ht)) (fun _ => ?_)
        refine x_goto C (pc := 59) (tgt := 64) dX11_court_59 (by decide) ?_
        exact x_ret dX11_court_64 (fun h => h)
  · skip
    refine x_aload_n C (pc := 5) dX11_court_5 rfl ?_
    refine x_bipush C (pc := 6) dX11_court_6 kc_b_m2 ?_
    refine x_callVim C (pc := 8) mv_X11_96 ht rfl [.int (-2 : Int32)] (fun _ _ hr => ct_X11_refuse _ ht _ _ _ _ hr) ⟨Nat.le_of_ble_eq_true rfl, Nat.le_of_ble_eq_true rfl⟩ rfl (Nat.le_of_ble_eq_true rfl) rfl dX11_court_8 (fun r2 s3 => ?_)
    refine x_pop C (pc := 11) dX11_court_11 rfl ?_
    refine x_bipush C (pc := 12) dX11_court_12 kc_b_m10 ?_
    exact x_ret dX11_court_14 (fun h => h)
theorem ct_X11_court (t : Nat) (ht : kd t = 9) (a : Int32) (s0 : SS) (r : Int32) (s2 : SS) (h : FX11_court t a s0 = some (r, s2)) : CT 0 yX11_court cX11_court 2 (some .int) 4 96 [.ref t, .int a] s0 (some (.int r)) s2 :=
  ct_of (by decide +kernel) (Or.inr (Or.inl ⟨_, rfl, _, rfl, rfl⟩)) (lx_args [.ref t, .int a]) (lx_entry [.ref t, .int a] (fun _ => Nat.le_of_ble_eq_true rfl)) (fun o C hR => Yx.weak (lw_s (lw_s lw_0)) (bd_X11_court C t ht a s0 (r, s2) h hR))
def FX11_settle (t : Nat) (s0 : SS) : Option (Int32) :=
  nm (nI 0) (fun (i1 : Int32) => nm (nI 0) (fun (i2 : Int32) => bd (lp FUEL (u2 (fun (n3 : Int32) (n4 : Int32) => if (gI s0 (lk (lk t 0) 3) 3) ≤ n4 then some (Sum.inr n3) else (bd (FX4_awardNow (lk t 0) n4 s0) (fun (r5 : Int32) => bd (if r5 < (nI 10) then some (n3) else (nm (n3 ||| ((nI 1) <<< (n4 &&& 31))) (fun (i6 : Int32) => some (i6)))) (fun (j7 : Int32) => nm (n4 + (nI 1)) (fun (i8 : Int32) => some (Sum.inl (j7, i8)))))))) (i1, i2)) (fun (e9 : Int32) => some (e9))))
set_option maxRecDepth 100000 in
set_option maxHeartbeats 4000000 in
theorem bd_X11_settle {o : Om} (C : Cx o RX11 cX11_settle 3 (some .int) (rmx 3 66) 0) (t : Nat) (ht : kd t = 9) (s0 : SS) : Xo (FX11_settle t s0) (fun r => RT o cX11_settle (some (.int r)) s0) (Yx o 0 [some (.ref t), none, none] [] s0) := by
  unfold FX11_settle
  refine x_iconst C (pc := 0) dX11_settle_0 kc_i_0 ?_
  refine x_istore_n C (pc := 1) (L' := fun i1 => [some (.ref t), some (.int i1), none]) dX11_settle_1 (by decide) (fun _ => rfl) (fun i1 => ?_)
  refine x_iconst C (pc := 2) dX11_settle_2 kc_i_0 ?_
  refine x_istore_n C (pc := 3) (L' := fun i2 => [some (.ref t), some (.int i1), some (.int i2)]) dX11_settle_3 (by decide) (fun _ => rfl) (fun i2 => ?_)
  refine xb_1 (Z1 := (fun e9 => Yx o 43 [none, some (.int e9), none] [] s0)) ?_ (fun e9 => ?_)
  · refine Xo.mono (Yx.weak (lw_s (lw_s (lw_s lw_0)))) (x_lp2 (fr := fun n3 n4 => Yx o 4 [some (.ref t), some (.int n3), some (.int n4)] [] s0) _ _ (fun n3 n4 => ?_))
    refine x_iload_n C (pc := 4) dX11_settle_4 rfl ?_
    refine x_aload_n C (pc := 5) dX11_settle_5 rfl ?_
    refine x_getR C (pc := 6) fg_X11_12 dX11_settle_6 ht ?_
    refine x_getR C (pc := 9) fg_X11_154 dX11_settle_9 (lkd_9_0 ht) ?_
    refine x_getI C (pc := 12) fg_X11_79 dX11_settle_12 (lkd_4_3 (lkd_9_0 ht)) ?_
    refine x_icmp_ge C (pc := 15) (tgt := 43) dX11_settle_15 (by decide) (fun _ => ?_) (fun _ => ?_)
    · skip
      exact Xo.done (fun h => Yx.weak (lw_n (lw_s (lw_n lw_0))) h)
    · skip
      refine x_aload_n C (pc := 18) dX11_settle_18 rfl ?_
      refine x_getR C (pc := 19) fg_X11_12 dX11_settle_19 ht ?_
      refine x_iload_n C (pc := 22) dX11_settle_22 rfl ?_
      refine x_callVi C (pc := 23) mv_X11_229 (lkd_9_0 ht) rfl [.int n4] (fun _ hr => ct_X4_awardNow _ (lkd_9_0 ht) _ _ _ hr) ⟨Nat.le_of_ble_eq_true rfl, Nat.le_of_ble_eq_true rfl⟩ rfl (Nat.le_of_ble_eq_true rfl) rfl dX11_settle_23 (fun r5 => ?_)
      refine x_bipush C (pc := 26) dX11_settle_26 kc_b_10 ?_
      refine xb_1 (Z1 := fun j7 => Yx o 37 [some (.ref t), some (.int j7), some (.int n4)] [] s0) ?_ (fun j7 => ?_)
      · skip
        refine x_icmp_lt C (pc := 28) (tgt := 37) dX11_settle_28 (by decide) (fun _ => ?_) (fun _ => ?_)
        · skip
          exact Xo.done (fun h => Yx.weak (lw_s (lw_s (lw_s lw_0))) h)
        · skip
          refine x_iload_n C (pc := 31) dX11_settle_31 rfl ?_
          refine x_iconst C (pc := 32) dX11_settle_32 kc_i_1 ?_
          refine x_iload_n C (pc := 33) dX11_settle_33 rfl ?_
          refine x_ishl C (pc := 34) dX11_settle_34 ?_
          refine x_ior C (pc := 35) dX11_settle_35 ?_
          refine x_istore_n C (pc := 36) (L' := fun i6 => [some (.ref t), some (.int i6), some (.int n4)]) dX11_settle_36 (by decide) (fun _ => rfl) (fun i6 => ?_)
          exact Xo.done (fun h => Yx.weak (lw_s (lw_s (lw_s lw_0))) h)
      refine x_iinc C (pc := 37) (L' := fun i8 => [some (.ref t), some (.int j7), some (.int i8)]) dX11_settle_37 rfl kc_i_1 (by decide) (fun _ => rfl) (fun i8 => ?_)
      refine x_goto C (pc := 40) (tgt := 4) dX11_settle_40 (by decide) ?_
      exact Xo.done (fun h => Yx.weak (lw_s (lw_s (lw_s lw_0))) h)
  refine x_iload_n C (pc := 43) dX11_settle_43 rfl ?_
  exact x_ret dX11_settle_44 (fun h => h)
theorem ct_X11_settle (t : Nat) (ht : kd t = 9) (s0 : SS) (r : Int32) (h : FX11_settle t s0 = some r) : CT 0 yX11_settle cX11_settle 3 (some .int) 3 66 [.ref t] s0 (some (.int r)) s0 :=
  ct_of (by decide +kernel) (Or.inr (Or.inl ⟨_, rfl, _, rfl, rfl⟩)) (lx_args [.ref t]) (lx_entry [.ref t] (fun _ => Nat.le_of_ble_eq_true rfl)) (fun o C hR => Yx.weak (lw_s (lw_z (lw_z lw_0))) (bd_X11_settle C t ht s0 r h hR))
def FX11_reading (t : Nat) (a : Int32) (b : Int32) (c : Int32) (s0 : SS) : Option (Int32 × SS) :=
  bd (FX11_isHourOfDay a s0) (fun (r1 : Int32) => if r1 = 0 then bd2 (FX11_refuse t (-2 : Int32) s0) (fun (r2 : Int32) (s3 : SS) => some ((r2, s3))) else (bd (FX11_isCell b s0) (fun (r4 : Int32) => if r4 = 0 then bd2 (FX11_refuse t (-2 : Int32) s0) (fun (r5 : Int32) (s6 : SS) => some ((r5, s6))) else (bd (FX11_within c (nI 0) (nI 20) s0) (fun (r7 : Int32) => if r7 = 0 then bd2 (FX11_refuse t (-2 : Int32) s0) (fun (r8 : Int32) (s9 : SS) => some ((r8, s9))) else (bd (FX9_isFull (lk (lk t 0) 4) s0) (fun (r10 : Int32) => if r10 = 0 then bd2 (FX4_addReading (lk t 0) a b c s0) (fun (r11 : Int32) (s12 : SS) => some ((r11, s12))) else (bd2 (FX11_refuse t (-4 : Int32) s0) (fun (r13 : Int32) (s14 : SS) => some ((r13, s14)))))))))))
set_option maxRecDepth 100000 in
set_option maxHeartbeats 4000000 in
theorem bd_X11_reading {o : Om} (C : Cx o RX11 cX11_reading 4 (some .int) (rmx 3 69) 0) (t : Nat) (ht : kd t = 9) (a : Int32) (b : Int32) (c : Int32) (s0 : SS) : Xo (FX11_reading t a b c s0) (fun r => RT o cX11_reading (some (.int r.1)) r.2) (Yx o 0 [some (.ref t), some (.int a), some (.int b), some (.int c)] [] s0) := by
  unfold FX11_reading
  refine x_iload_n C (pc := 0) dX11_reading_0 rfl ?_
  refine x_callSi C (pc := 1) ms_X11_88 [.int a] (fun _ hr => ct_X11_isHourOfDay _ _ _ hr) ⟨Nat.le_of_ble_eq_true rfl, Nat.le_of_ble_eq_true rfl⟩ rfl (Nat.le_of_ble_eq_true rfl) rfl dX11_reading_1 (fun r1 => ?_)
  refine x_if_eq C (pc := 4) (tgt := 24) dX11_reading_4 (by decide) (fun _ => ?_) (fun _ => ?_)
  · skip
    refine x_aload_n C (pc := 24) dX11_reading_24 rfl ?_
    refine x_bipush C (pc := 25) dX11_reading_25 kc_b_m2 ?_
    refine x_callVim C (pc := 27) mv_X11_96 ht rfl [.int (-2 : Int32)] (fun _ _ hr => ct_X11_refuse _ ht _ _ _ _ hr) ⟨Nat.le_of_ble_eq_true rfl, Nat.le_of_ble_eq_true rfl⟩ rfl (Nat.le_of_ble_eq_true rfl) rfl dX11_reading_27 (fun r2 s3 => ?_)
    exact x_ret dX11_reading_30 (fun h => h)
  · skip
    refine x_iload_n C (pc := 7) dX11_reading_7 rfl ?_
    refine x_callSi C (pc := 8) ms_X11_114 [.int b] (fun _ hr => ct_X11_isCell _ _ _ hr) ⟨Nat.le_of_ble_eq_true rfl, Nat.le_of_ble_eq_true rfl⟩ rfl (Nat.le_of_ble_eq_true rfl) rfl dX11_reading_8 (fun r4 => ?_)
    refine x_if_eq C (pc := 11) (tgt := 24) dX11_reading_11 (by decide) (fun _ => ?_) (fun _ => ?_)
    · skip
      refine x_aload_n C (pc := 24) dX11_reading_24 rfl ?_
      refine x_bipush C (pc := 25) dX11_reading_25 kc_b_m2 ?_
      refine x_callVim C (pc := 27) mv_X11_96 ht rfl [.int (-2 : Int32)] (fun _ _ hr => ct_X11_refuse _ ht _ _ _ _ hr) ⟨Nat.le_of_ble_eq_true rfl, Nat.le_of_ble_eq_true rfl⟩ rfl (Nat.le_of_ble_eq_true rfl) rfl dX11_reading_27 (fun r5 s6 => ?_)
      exact x_ret dX11_reading_30 (fun h => h)
    · skip
      refine x_iload_n C (pc := 14) dX11_reading_14 rfl ?_
      refine x_iconst C (pc := 15) dX11_reading_15 kc_i_0 ?_
      refine x_bipush C (pc := 16) dX11_reading_16 kc_b_20 ?_
      refine x_callSi C (pc := 18) ms_X11_92 [.int c, .int (nI 0), .int (nI 20)] (fun _ hr => ct_X11_within _ _ _ _ _ hr) ⟨Nat.le_of_ble_eq_true rfl, Nat.le_of_ble_eq_true rfl⟩ rfl (Nat.le_of_ble_eq_true rfl) rfl dX11_reading_18 (fun r7 => ?_)
      refine x_if_ne C (pc := 21) (tgt := 31) dX11_reading_21 (by decide) (fun _ => ?_) (fun _ => ?_)
      · skip
        refine x_aload_n C (pc := 24) dX11_reading_24 rfl ?_
        refine x_bipush C (pc := 25) dX11_reading_25 kc_b_m2 ?_
        refine x_callVim C (pc := 27) mv_X11_96 ht rfl [.int (-2 : Int32)] (fun _ _ hr => ct_X11_refuse _ ht _ _ _ _ hr) ⟨Nat.le_of_ble_eq_true rfl, Nat.le_of_ble_eq_true rfl⟩ rfl (Nat.le_of_ble_eq_true rfl) rfl dX11_reading_27 (fun r8 s9 => ?_)
        exact x_ret dX11_reading_30 (fun h => h)
      · skip
        refine x_aload_n C (pc := 31) dX11_reading_31 rfl ?_
        refine x_getR C (pc := 32) fg_X11_12 dX11_reading_32 ht ?_
        refine x_getR C (pc := 35) fg_X11_244 dX11_reading_35 (lkd_9_0 ht) ?_
        refine x_callVi C (pc := 38) mv_X11_120 (lkd_4_4 (lkd_9_0 ht)) rfl [] (fun _ hr => ct_X9_isFull _ (lkd_4_4 (lkd_9_0 ht)) _ _ hr) ⟨Nat.le_of_ble_eq_true rfl, Nat.le_of_ble_eq_true rfl⟩ rfl (Nat.le_of_ble_eq_true rfl) rfl dX11_reading_38 (fun r10 => ?_)
        refine x_if_eq C (pc := 41) (tgt := 53) dX11_reading_41 (by decide) (fun _ => ?_) (fun _ => ?_)
        · skip
          refine x_aload_n C (pc := 53) dX11_reading_53 rfl ?_
          refine x_getR C (pc := 54) fg_X11_12 dX11_reading_54 ht ?_
          refine x_iload_n C (pc := 57) dX11_reading_57 rfl ?_
          refine x_iload_n C (pc := 58) dX11_reading_58 rfl ?_
          refine x_iload_n C (pc := 59) dX11_reading_59 rfl ?_
          refine x_callVim C (pc := 60) mv_X11_247 (lkd_9_0 ht) rfl [.int a, .int b, .int c] (fun _ _ hr => ct_X4_addReading _ (lkd_9_0 ht) _ _ _ _ _ _ hr) ⟨Nat.le_of_ble_eq_true rfl, Nat.le_of_ble_eq_true rfl⟩ rfl (Nat.le_of_ble_eq_true rfl) rfl dX11_reading_60 (fun r11 s12 => ?_)
          exact x_ret dX11_reading_63 (fun h => h)
        · skip
          refine x_aload_n C (pc := 44) dX11_reading_44 rfl ?_
          refine x_bipush C (pc := 45) dX11_reading_45 kc_b_m4 ?_
          refine x_callVim C (pc := 47) mv_X11_96 ht rfl [.int (-4 : Int32)] (fun _ _ hr => ct_X11_refuse _ ht _ _ _ _ hr) ⟨Nat.le_of_ble_eq_true rfl, Nat.le_of_ble_eq_true rfl⟩ rfl (Nat.le_of_ble_eq_true rfl) rfl dX11_reading_47 (fun r13 s14 => ?_)
          refine x_goto C (pc := 50) (tgt := 63) dX11_reading_50 (by decide) ?_
          exact x_ret dX11_reading_63 (fun h => h)
theorem ct_X11_reading (t : Nat) (ht : kd t = 9) (a : Int32) (b : Int32) (c : Int32) (s0 : SS) (r : Int32) (s2 : SS) (h : FX11_reading t a b c s0 = some (r, s2)) : CT 0 yX11_reading cX11_reading 4 (some .int) 3 69 [.ref t, .int a, .int b, .int c] s0 (some (.int r)) s2 :=
  ct_of (by decide +kernel) (Or.inr (Or.inl ⟨_, rfl, _, rfl, rfl⟩)) (lx_args [.ref t, .int a, .int b, .int c]) (lx_entry [.ref t, .int a, .int b, .int c] (fun _ => Nat.le_of_ble_eq_true rfl)) (fun o C hR => Yx.weak (lw_s (lw_s (lw_s (lw_s lw_0)))) (bd_X11_reading C t ht a b c s0 (r, s2) h hR))
def FX11_stood (t : Nat) (a : Int32) (s0 : SS) : Option (Int32 × SS) :=
  bd (FX11_within a (nI 0) (nI 2) s0) (fun (r1 : Int32) => if r1 = 0 then bd2 (FX11_refuse t (-2 : Int32) s0) (fun (r2 : Int32) (s3 : SS) => some ((r2, s3))) else (bd (FX1_findSets (lk t 10) (lk t 0) s0) (fun (s4 : SS) => if a = 0 then some (((gI s4 (lk t 10) 2), s4)) else (if a = (nI 1) then some (((gI s4 (lk t 10) 3), s4)) else (some (((gI s4 (lk t 10) 4), s4)))))))
set_option maxRecDepth 100000 in
set_option maxHeartbeats 4000000 in
theorem bd_X11_stood {o : Om} (C : Cx o RX11 cX11_stood 2 (some .int) (rmx 6 146) 0) (t : Nat) (ht : kd t = 9) (a : Int32) (s0 : SS) : Xo (FX11_stood t a s0) (fun r => RT o cX11_stood (some (.int r.1)) r.2) (Yx o 0 [some (.ref t), some (.int a)] [] s0) := by
  unfold FX11_stood
  refine x_iload_n C (pc := 0) dX11_stood_0 rfl ?_
  refine x_iconst C (pc := 1) dX11_stood_1 kc_i_0 ?_
  refine x_iconst C (pc := 2) dX11_stood_2 kc_i_2 ?_
  refine x_callSi C (pc := 3) ms_X11_92 [.int a, .int (nI 0), .int (nI 2)] (fun _ hr => ct_X11_within _ _ _ _ _ hr) ⟨Nat.le_of_ble_eq_true rfl, Nat.le_of_ble_eq_true rfl⟩ rfl (Nat.le_of_ble_eq_true rfl) rfl dX11_stood_3 (fun r1 => ?_)
  refine x_if_ne C (pc := 6) (tgt := 16) dX11_stood_6 (by decide) (fun _ => ?_) (fun _ => ?_)
  · skip
    refine x_aload_n C (pc := 9) dX11_stood_9 rfl ?_
    refine x_bipush C (pc := 10) dX11_stood_10 kc_b_m2 ?_
    refine x_callVim C (pc := 12) mv_X11_96 ht rfl [.int (-2 : Int32)] (fun _ _ hr => ct_X11_refuse _ ht _ _ _ _ hr) ⟨Nat.le_of_ble_eq_true rfl, Nat.le_of_ble_eq_true rfl⟩ rfl (Nat.le_of_ble_eq_true rfl) rfl dX11_stood_12 (fun r2 s3 => ?_)
    exact x_ret dX11_stood_15 (fun h => h)
  · skip
    refine x_aload_n C (pc := 16) dX11_stood_16 rfl ?_
    refine x_getR C (pc := 17) fg_X11_64 dX11_stood_17 ht ?_
    refine x_aload_n C (pc := 20) dX11_stood_20 rfl ?_
    refine x_getR C (pc := 21) fg_X11_12 dX11_stood_21 ht ?_
    refine x_callVv C (pc := 24) mv_X11_250 (lkd_9_10 ht) rfl [.ref (lk t 0)] (fun _ hr => ct_X1_findSets _ (lkd_9_10 ht) _ (lkd_9_0 ht) _ _ hr) ⟨Nat.le_of_ble_eq_true rfl, Nat.le_of_ble_eq_true rfl⟩ rfl (Nat.le_of_ble_eq_true rfl) rfl dX11_stood_24 (fun s4 => ?_)
    refine x_iload_n C (pc := 27) dX11_stood_27 rfl ?_
    refine x_if_ne C (pc := 28) (tgt := 39) dX11_stood_28 (by decide) (fun _ => ?_) (fun _ => ?_)
    · skip
      refine x_aload_n C (pc := 31) dX11_stood_31 rfl ?_
      refine x_getR C (pc := 32) fg_X11_64 dX11_stood_32 ht ?_
      refine x_getI C (pc := 35) fg_X11_253 dX11_stood_35 (lkd_9_10 ht) ?_
      exact x_ret dX11_stood_38 (fun h => h)
    · skip
      refine x_iload_n C (pc := 39) dX11_stood_39 rfl ?_
      refine x_iconst C (pc := 40) dX11_stood_40 kc_i_1 ?_
      refine x_icmp_ne C (pc := 41) (tgt := 54) dX11_stood_41 (by decide) (fun _ => ?_) (fun _ => ?_)
      · skip
        refine x_aload_n C (pc := 44) dX11_stood_44 rfl ?_
        refine x_getR C (pc := 45) fg_X11_64 dX11_stood_45 ht ?_
        refine x_getI C (pc := 48) fg_X11_256 dX11_stood_48 (lkd_9_10 ht) ?_
        refine x_goto C (pc := 51) (tgt := 61) dX11_stood_51 (by decide) ?_
        exact x_ret dX11_stood_61 (fun h => h)
      · skip
        refine x_aload_n C (pc := 54) dX11_stood_54 rfl ?_
        refine x_getR C (pc := 55) fg_X11_64 dX11_stood_55 ht ?_
        refine x_getI C (pc := 58) fg_X11_259 dX11_stood_58 (lkd_9_10 ht) ?_
        exact x_ret dX11_stood_61 (fun h => h)
theorem ct_X11_stood (t : Nat) (ht : kd t = 9) (a : Int32) (s0 : SS) (r : Int32) (s2 : SS) (h : FX11_stood t a s0 = some (r, s2)) : CT 0 yX11_stood cX11_stood 2 (some .int) 6 146 [.ref t, .int a] s0 (some (.int r)) s2 :=
  ct_of (by decide +kernel) (Or.inr (Or.inl ⟨_, rfl, _, rfl, rfl⟩)) (lx_args [.ref t, .int a]) (lx_entry [.ref t, .int a] (fun _ => Nat.le_of_ble_eq_true rfl)) (fun o C hR => Yx.weak (lw_s (lw_s lw_0)) (bd_X11_stood C t ht a s0 (r, s2) h hR))
