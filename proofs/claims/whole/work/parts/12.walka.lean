def FX11_note (t : Nat) (a : Int32) (b : Int32) (c : Int32) (d : Int32) (g : Int32) (s0 : SS) : Option (Int32 × SS) :=
  bd (FX11_isUser t a s0) (fun (r1 : Int32) => if r1 = 0 then bd2 (FX11_refuse t (-2 : Int32) s0) (fun (r2 : Int32) (s3 : SS) => some ((r2, s3))) else (bd (FX11_isHeight b s0) (fun (r4 : Int32) => if r4 = 0 then bd2 (FX11_refuse t (-2 : Int32) s0) (fun (r5 : Int32) (s6 : SS) => some ((r5, s6))) else (bd (FX11_within c (nI 0) (nI 20) s0) (fun (r7 : Int32) => if r7 = 0 then bd2 (FX11_refuse t (-2 : Int32) s0) (fun (r8 : Int32) (s9 : SS) => some ((r8, s9))) else (bd (FX11_within d (nI 0) (nI 20) s0) (fun (r10 : Int32) => if r10 = 0 then bd2 (FX11_refuse t (-2 : Int32) s0) (fun (r11 : Int32) (s12 : SS) => some ((r11, s12))) else (bd (FX11_within g (nI 0) (nI 200) s0) (fun (r13 : Int32) => if r13 = 0 then bd2 (FX11_refuse t (-2 : Int32) s0) (fun (r14 : Int32) (s15 : SS) => some ((r14, s15))) else (bd (FX9_isFull (lk (lk t 0) 5) s0) (fun (r16 : Int32) => if r16 = 0 then bd2 (FX4_addNote (lk t 0) a b c d g s0) (fun (r17 : Int32) (s18 : SS) => some ((r17, s18))) else (bd2 (FX11_refuse t (-4 : Int32) s0) (fun (r19 : Int32) (s20 : SS) => some ((r19, s20)))))))))))))))
set_option maxRecDepth 100000 in
set_option maxHeartbeats 4000000 in
theorem bd_X11_note {o : Om} (C : Cx o RX11 cX11_note 6 (some .int) (rmx 3 71) 0) (t : Nat) (ht : kd t = 9) (a : Int32) (b : Int32) (c : Int32) (d : Int32) (g : Int32) (s0 : SS) : Xo (FX11_note t a b c d g s0) (fun r => RT o cX11_note (some (.int r.1)) r.2) (Yx o 0 [some (.ref t), some (.int a), some (.int b), some (.int c), some (.int d), some (.int g)] [] s0) := by
  unfold FX11_note
  refine x_aload_n C (pc := 0) dX11_note_0 rfl ?_
  refine x_iload_n C (pc := 1) dX11_note_1 rfl ?_
  refine x_callVi C (pc := 2) mv_X11_151 ht rfl [.int a] (fun _ hr => ct_X11_isUser _ ht _ _ _ hr) ⟨Nat.le_of_ble_eq_true rfl, Nat.le_of_ble_eq_true rfl⟩ rfl (Nat.le_of_ble_eq_true rfl) rfl dX11_note_2 (fun r1 => ?_)
  refine x_if_eq C (pc := 5) (tgt := 25) dX11_note_5 (by decide) (fun _ => ?_) (fun _ => ?_)
  · skip
    refine x_aload_n C (pc := 25) dX11_note_25 rfl ?_
    refine x_bipush C (pc := 26) dX11_note_26 kc_b_m2 ?_
    refine x_callVim C (pc := 28) mv_X11_96 ht rfl [.int (-2 : Int32)] (fun _ _ hr => ct_X11_refuse _ ht _ _ _ _ hr) ⟨Nat.le_of_ble_eq_true rfl, Nat.le_of_ble_eq_true rfl⟩ rfl (Nat.le_of_ble_eq_true rfl) rfl dX11_note_28 (fun r2 s3 => ?_)
    exact x_ret dX11_note_31 (fun h => h)
  · skip
    refine x_iload_n C (pc := 8) dX11_note_8 rfl ?_
    refine x_callSi C (pc := 9) ms_X11_117 [.int b] (fun _ hr => ct_X11_isHeight _ _ _ hr) ⟨Nat.le_of_ble_eq_true rfl, Nat.le_of_ble_eq_true rfl⟩ rfl (Nat.le_of_ble_eq_true rfl) rfl dX11_note_9 (fun r4 => ?_)
    refine x_if_eq C (pc := 12) (tgt := 25) dX11_note_12 (by decide) (fun _ => ?_) (fun _ => ?_)
    · skip
      refine x_aload_n C (pc := 25) dX11_note_25 rfl ?_
      refine x_bipush C (pc := 26) dX11_note_26 kc_b_m2 ?_
      refine x_callVim C (pc := 28) mv_X11_96 ht rfl [.int (-2 : Int32)] (fun _ _ hr => ct_X11_refuse _ ht _ _ _ _ hr) ⟨Nat.le_of_ble_eq_true rfl, Nat.le_of_ble_eq_true rfl⟩ rfl (Nat.le_of_ble_eq_true rfl) rfl dX11_note_28 (fun r5 s6 => ?_)
      exact x_ret dX11_note_31 (fun h => h)
    · skip
      refine x_iload_n C (pc := 15) dX11_note_15 rfl ?_
      refine x_iconst C (pc := 16) dX11_note_16 kc_i_0 ?_
      refine x_bipush C (pc := 17) dX11_note_17 kc_b_20 ?_
      refine x_callSi C (pc := 19) ms_X11_92 [.int c, .int (nI 0), .int (nI 20)] (fun _ hr => ct_X11_within _ _ _ _ _ hr) ⟨Nat.le_of_ble_eq_true rfl, Nat.le_of_ble_eq_true rfl⟩ rfl (Nat.le_of_ble_eq_true rfl) rfl dX11_note_19 (fun r7 => ?_)
      refine x_if_ne C (pc := 22) (tgt := 32) dX11_note_22 (by decide) (fun _ => ?_) (fun _ => ?_)
      · skip
        refine x_aload_n C (pc := 25) dX11_note_25 rfl ?_
        refine x_bipush C (pc := 26) dX11_note_26 kc_b_m2 ?_
        refine x_callVim C (pc := 28) mv_X11_96 ht rfl [.int (-2 : Int32)] (fun _ _ hr => ct_X11_refuse _ ht _ _ _ _ hr) ⟨Nat.le_of_ble_eq_true rfl, Nat.le_of_ble_eq_true rfl⟩ rfl (Nat.le_of_ble_eq_true rfl) rfl dX11_note_28 (fun r8 s9 => ?_)
        exact x_ret dX11_note_31 (fun h => h)
      · skip
        refine x_iload C (pc := 32) dX11_note_32 rfl ?_
        refine x_iconst C (pc := 34) dX11_note_34 kc_i_0 ?_
        refine x_bipush C (pc := 35) dX11_note_35 kc_b_20 ?_
        refine x_callSi C (pc := 37) ms_X11_92 [.int d, .int (nI 0), .int (nI 20)] (fun _ hr => ct_X11_within _ _ _ _ _ hr) ⟨Nat.le_of_ble_eq_true rfl, Nat.le_of_ble_eq_true rfl⟩ rfl (Nat.le_of_ble_eq_true rfl) rfl dX11_note_37 (fun r10 => ?_)
        refine x_if_eq C (pc := 40) (tgt := 55) dX11_note_40 (by decide) (fun _ => ?_) (fun _ => ?_)
        · skip
          refine x_aload_n C (pc := 55) dX11_note_55 rfl ?_
          refine x_bipush C (pc := 56) dX11_note_56 kc_b_m2 ?_
          refine x_callVim C (pc := 58) mv_X11_96 ht rfl [.int (-2 : Int32)] (fun _ _ hr => ct_X11_refuse _ ht _ _ _ _ hr) ⟨Nat.le_of_ble_eq_true rfl, Nat.le_of_ble_eq_true rfl⟩ rfl (Nat.le_of_ble_eq_true rfl) rfl dX11_note_58 (fun r11 s12 => ?_)
          exact x_ret dX11_note_61 (fun h => h)
        · skip
          refine x_iload C (pc := 43) dX11_note_43 rfl ?_
          refine x_iconst C (pc := 45) dX11_note_45 kc_i_0 ?_
          refine x_sipush C (pc := 46) dX11_note_46 kc_s_200 ?_
          refine x_callSi C (pc := 49) ms_X11_92 [.int g, .int (nI 0), .int (nI 200)] (fun _ hr => ct_X11_within _ _ _ _ _ hr) ⟨Nat.le_of_ble_eq_true rfl, Nat.le_of_ble_eq_true rfl⟩ rfl (Nat.le_of_ble_eq_true rfl) rfl dX11_note_49 (fun r13 => ?_)
          refine x_if_ne C (pc := 52) (tgt := 62) dX11_note_52 (by decide) (fun _ => ?_) (fun _ => ?_)
          · skip
            refine x_aload_n C (pc := 55) dX11_note_55 rfl ?_
            refine x_bipush C (pc := 56) dX11_note_56 kc_b_m2 ?_
            refine x_callVim C (pc := 58) mv_X11_96 ht rfl [.int (-2 : Int32)] (fun _ _ hr => ct_X11_refuse _ ht _ _ _ _ hr) ⟨Nat.le_of_ble_eq_true rfl, Nat.le_of_ble_eq_true rfl⟩ rfl (Nat.le_of_ble_eq_true rfl) rfl dX11_note_58 (fun r14 s15 => ?_)
            exact x_ret dX11_note_61 (fun h => h)
          · skip
            refine x_aload_n C (pc := 62) dX11_note_62 rfl ?_
            refine x_getR C (pc := 63) fg_X11_12 dX11_note_63 ht ?_
            refine x_getR C (pc := 66) fg_X11_262 dX11_note_66 (lkd_9_0 ht) ?_
            refine x_callVi C (pc := 69) mv_X11_120 (lkd_4_5 (lkd_9_0 ht)) rfl [] (fun _ hr => ct_X9_isFull _ (lkd_4_5 (lkd_9_0 ht)) _ _ hr) ⟨Nat.le_of_ble_eq_true rfl, Nat.le_of_ble_eq_true rfl⟩ rfl (Nat.le_of_ble_eq_true rfl) rfl dX11_note_69 (fun r16 => ?_)
            refine x_if_eq C (pc := 72) (tgt := 84) dX11_note_72 (by decide) (fun _ => ?_) (fun _ => ?_)
            · skip
              refine x_aload_n C (pc := 84) dX11_note_84 rfl ?_
              refine x_getR C (pc := 85) fg_X11_12 dX11_note_85 ht ?_
              refine x_iload_n C (pc := 88) dX11_note_88 rfl ?_
              refine x_iload_n C (pc := 89) dX11_note_89 rfl ?_
              refine x_iload_n C (pc := 90) dX11_note_90 rfl ?_
              refine x_iload C (pc := 91) dX11_note_91 rfl ?_
              refine x_iload C (pc := 93) dX11_note_93 rfl ?_
              refine x_callVim C (pc := 95) mv_X11_265 (lkd_9_0 ht) rfl [.int a, .int b, .int c, .int d, .int g] (fun _ _ hr => ct_X4_addNote _ (lkd_9_0 ht) _ _ _ _ _ _ _ _ hr) ⟨Nat.le_of_ble_eq_true rfl, Nat.le_of_ble_eq_true rfl⟩ rfl (Nat.le_of_ble_eq_true rfl) rfl dX11_note_95 (fun r17 s18 => ?_)
              exact x_ret dX11_note_98 (fun h => h)
            · skip
              refine x_aload_n C (pc := 75) dX11_note_75 rfl ?_
              refine x_bipush C (pc := 76) dX11_note_76 kc_b_m4 ?_
              refine x_callVim C (pc := 78) mv_X11_96 ht rfl [.int (-4 : Int32)] (fun _ _ hr => ct_X11_refuse _ ht _ _ _ _ hr) ⟨Nat.le_of_ble_eq_true rfl, Nat.le_of_ble_eq_true rfl⟩ rfl (Nat.le_of_ble_eq_true rfl) rfl dX11_note_78 (fun r19 s20 => ?_)
              refine x_goto C (pc := 81) (tgt := 98) dX11_note_81 (by decide) ?_
              exact x_ret dX11_note_98 (fun h => h)
theorem ct_X11_note (t : Nat) (ht : kd t = 9) (a : Int32) (b : Int32) (c : Int32) (d : Int32) (g : Int32) (s0 : SS) (r : Int32) (s2 : SS) (h : FX11_note t a b c d g s0 = some (r, s2)) : CT 0 yX11_note cX11_note 6 (some .int) 3 71 [.ref t, .int a, .int b, .int c, .int d, .int g] s0 (some (.int r)) s2 :=
  ct_of (by decide +kernel) (Or.inr (Or.inl ⟨_, rfl, _, rfl, rfl⟩)) (lx_args [.ref t, .int a, .int b, .int c, .int d, .int g]) (lx_entry [.ref t, .int a, .int b, .int c, .int d, .int g] (fun _ => Nat.le_of_ble_eq_true rfl)) (fun o C hR => Yx.weak (lw_s (lw_s (lw_s (lw_s (lw_s (lw_s lw_0)))))) (bd_X11_note C t ht a b c d g s0 (r, s2) h hR))
def FX11_mark (t : Nat) (a : Int32) (b : Int32) (c : Int32) (d : Int32) (s0 : SS) : Option (Int32 × SS) :=
  bd (FX11_isSuit t a s0) (fun (r1 : Int32) => if r1 = 0 then bd2 (FX11_refuse t (-2 : Int32) s0) (fun (r2 : Int32) (s3 : SS) => some ((r2, s3))) else (bd (FX11_within b (nI 0) (nI 200) s0) (fun (r4 : Int32) => if r4 = 0 then bd2 (FX11_refuse t (-2 : Int32) s0) (fun (r5 : Int32) (s6 : SS) => some ((r5, s6))) else (bd (FX11_within c (nI 0) (nI 99) s0) (fun (r7 : Int32) => if r7 = 0 then bd2 (FX11_refuse t (-2 : Int32) s0) (fun (r8 : Int32) (s9 : SS) => some ((r8, s9))) else (bd (FX11_within d (nI 0) (nI 999) s0) (fun (r10 : Int32) => if r10 = 0 then bd2 (FX11_refuse t (-2 : Int32) s0) (fun (r11 : Int32) (s12 : SS) => some ((r11, s12))) else (bd (FX9_isFull (lk (lk t 0) 6) s0) (fun (r13 : Int32) => if r13 = 0 then bd2 (FX4_addMark (lk t 0) a b c d s0) (fun (r14 : Int32) (s15 : SS) => some ((r14, s15))) else (bd2 (FX11_refuse t (-4 : Int32) s0) (fun (r16 : Int32) (s17 : SS) => some ((r16, s17)))))))))))))
set_option maxRecDepth 100000 in
set_option maxHeartbeats 4000000 in
theorem bd_X11_mark {o : Om} (C : Cx o RX11 cX11_mark 5 (some .int) (rmx 3 70) 0) (t : Nat) (ht : kd t = 9) (a : Int32) (b : Int32) (c : Int32) (d : Int32) (s0 : SS) : Xo (FX11_mark t a b c d s0) (fun r => RT o cX11_mark (some (.int r.1)) r.2) (Yx o 0 [some (.ref t), some (.int a), some (.int b), some (.int c), some (.int d)] [] s0) := by
  unfold FX11_mark
  refine x_aload_n C (pc := 0) dX11_mark_0 rfl ?_
  refine x_iload_n C (pc := 1) dX11_mark_1 rfl ?_
  refine x_callVi C (pc := 2) mv_X11_161 ht rfl [.int a] (fun _ hr => ct_X11_isSuit _ ht _ _ _ hr) ⟨Nat.le_of_ble_eq_true rfl, Nat.le_of_ble_eq_true rfl⟩ rfl (Nat.le_of_ble_eq_true rfl) rfl dX11_mark_2 (fun r1 => ?_)
  refine x_if_eq C (pc := 5) (tgt := 41) dX11_mark_5 (by decide) (fun _ => ?_) (fun _ => ?_)
  · skip
    refine x_aload_n C (pc := 41) dX11_mark_41 rfl ?_
    refine x_bipush C (pc := 42) dX11_mark_42 kc_b_m2 ?_
    refine x_callVim C (pc := 44) mv_X11_96 ht rfl [.int (-2 : Int32)] (fun _ _ hr => ct_X11_refuse _ ht _ _ _ _ hr) ⟨Nat.le_of_ble_eq_true rfl, Nat.le_of_ble_eq_true rfl⟩ rfl (Nat.le_of_ble_eq_true rfl) rfl dX11_mark_44 (fun r2 s3 => ?_)
    exact x_ret dX11_mark_47 (fun h => h)
  · skip
    refine x_iload_n C (pc := 8) dX11_mark_8 rfl ?_
    refine x_iconst C (pc := 9) dX11_mark_9 kc_i_0 ?_
    refine x_sipush C (pc := 10) dX11_mark_10 kc_s_200 ?_
    refine x_callSi C (pc := 13) ms_X11_92 [.int b, .int (nI 0), .int (nI 200)] (fun _ hr => ct_X11_within _ _ _ _ _ hr) ⟨Nat.le_of_ble_eq_true rfl, Nat.le_of_ble_eq_true rfl⟩ rfl (Nat.le_of_ble_eq_true rfl) rfl dX11_mark_13 (fun r4 => ?_)
    refine x_if_eq C (pc := 16) (tgt := 41) dX11_mark_16 (by decide) (fun _ => ?_) (fun _ => ?_)
    · skip
      refine x_aload_n C (pc := 41) dX11_mark_41 rfl ?_
      refine x_bipush C (pc := 42) dX11_mark_42 kc_b_m2 ?_
      refine x_callVim C (pc := 44) mv_X11_96 ht rfl [.int (-2 : Int32)] (fun _ _ hr => ct_X11_refuse _ ht _ _ _ _ hr) ⟨Nat.le_of_ble_eq_true rfl, Nat.le_of_ble_eq_true rfl⟩ rfl (Nat.le_of_ble_eq_true rfl) rfl dX11_mark_44 (fun r5 s6 => ?_)
      exact x_ret dX11_mark_47 (fun h => h)
    · skip
      refine x_iload_n C (pc := 19) dX11_mark_19 rfl ?_
      refine x_iconst C (pc := 20) dX11_mark_20 kc_i_0 ?_
      refine x_bipush C (pc := 21) dX11_mark_21 kc_b_99 ?_
      refine x_callSi C (pc := 23) ms_X11_92 [.int c, .int (nI 0), .int (nI 99)] (fun _ hr => ct_X11_within _ _ _ _ _ hr) ⟨Nat.le_of_ble_eq_true rfl, Nat.le_of_ble_eq_true rfl⟩ rfl (Nat.le_of_ble_eq_true rfl) rfl dX11_mark_23 (fun r7 => ?_)
      refine x_if_eq C (pc := 26) (tgt := 41) dX11_mark_26 (by decide) (fun _ => ?_) (fun _ => ?_)
      · skip
        refine x_aload_n C (pc := 41) dX11_mark_41 rfl ?_
        refine x_bipush C (pc := 42) dX11_mark_42 kc_b_m2 ?_
        refine x_callVim C (pc := 44) mv_X11_96 ht rfl [.int (-2 : Int32)] (fun _ _ hr => ct_X11_refuse _ ht _ _ _ _ hr) ⟨Nat.le_of_ble_eq_true rfl, Nat.le_of_ble_eq_true rfl⟩ rfl (Nat.le_of_ble_eq_true rfl) rfl dX11_mark_44 (fun r8 s9 => ?_)
        exact x_ret dX11_mark_47 (fun h => h)
      · skip
        refine x_iload C (pc := 29) dX11_mark_29 rfl ?_
        refine x_iconst C (pc := 31) dX11_mark_31 kc_i_0 ?_
        refine x_sipush C (pc := 32) dX11_mark_32 kc_s_999 ?_
        refine x_callSi C (pc := 35) ms_X11_92 [.int d, .int (nI 0), .int (nI 999)] (fun _ hr => ct_X11_within _ _ _ _ _ hr) ⟨Nat.le_of_ble_eq_true rfl, Nat.le_of_ble_eq_true rfl⟩ rfl (Nat.le_of_ble_eq_true rfl) rfl dX11_mark_35 (fun r10 => ?_)
        refine x_if_ne C (pc := 38) (tgt := 48) dX11_mark_38 (by decide) (fun _ => ?_) (fun _ => ?_)
        · skip
          refine x_aload_n C (pc := 41) dX11_mark_41 rfl ?_
          refine x_bipush C (pc := 42) dX11_mark_42 kc_b_m2 ?_
          refine x_callVim C (pc := 44) mv_X11_96 ht rfl [.int (-2 : Int32)] (fun _ _ hr => ct_X11_refuse _ ht _ _ _ _ hr) ⟨Nat.le_of_ble_eq_true rfl, Nat.le_of_ble_eq_true rfl⟩ rfl (Nat.le_of_ble_eq_true rfl) rfl dX11_mark_44 (fun r11 s12 => ?_)
          exact x_ret dX11_mark_47 (fun h => h)
        · skip
          refine x_aload_n C (pc := 48) dX11_mark_48 rfl ?_
          refine x_getR C (pc := 49) fg_X11_12 dX11_mark_49 ht ?_
          refine x_getR C (pc := 52) fg_X11_269 dX11_mark_52 (lkd_9_0 ht) ?_
          refine x_callVi C (pc := 55) mv_X11_120 (lkd_4_6 (lkd_9_0 ht)) rfl [] (fun _ hr => ct_X9_isFull _ (lkd_4_6 (lkd_9_0 ht)) _ _ hr) ⟨Nat.le_of_ble_eq_true rfl, Nat.le_of_ble_eq_true rfl⟩ rfl (Nat.le_of_ble_eq_true rfl) rfl dX11_mark_55 (fun r13 => ?_)
          refine x_if_eq C (pc := 58) (tgt := 70) dX11_mark_58 (by decide) (fun _ => ?_) (fun _ => ?_)
          · skip
            refine x_aload_n C (pc := 70) dX11_mark_70 rfl ?_
            refine x_getR C (pc := 71) fg_X11_12 dX11_mark_71 ht ?_
            refine x_iload_n C (pc := 74) dX11_mark_74 rfl ?_
            refine x_iload_n C (pc := 75) dX11_mark_75 rfl ?_
            refine x_iload_n C (pc := 76) dX11_mark_76 rfl ?_
            refine x_iload C (pc := 77) dX11_mark_77 rfl ?_
            refine x_callVim C (pc := 79) mv_X11_272 (lkd_9_0 ht) rfl [.int a, .int b, .int c, .int d] (fun _ _ hr => ct_X4_addMark _ (lkd_9_0 ht) _ _ _ _ _ _ _ hr) ⟨Nat.le_of_ble_eq_true rfl, Nat.le_of_ble_eq_true rfl⟩ rfl (Nat.le_of_ble_eq_true rfl) rfl dX11_mark_79 (fun r14 s15 => ?_)
            exact x_ret dX11_mark_82 (fun h => h)
          · skip
            refine x_aload_n C (pc := 61) dX11_mark_61 rfl ?_
            refine x_bipush C (pc := 62) dX11_mark_62 kc_b_m4 ?_
            refine x_callVim C (pc := 64) mv_X11_96 ht rfl [.int (-4 : Int32)] (fun _ _ hr => ct_X11_refuse _ ht _ _ _ _ hr) ⟨Nat.le_of_ble_eq_true rfl, Nat.le_of_ble_eq_true rfl⟩ rfl (Nat.le_of_ble_eq_true rfl) rfl dX11_mark_64 (fun r16 s17 => ?_)
            refine x_goto C (pc := 67) (tgt := 82) dX11_mark_67 (by decide) ?_
            exact x_ret dX11_mark_82 (fun h => h)
theorem ct_X11_mark (t : Nat) (ht : kd t = 9) (a : Int32) (b : Int32) (c : Int32) (d : Int32) (s0 : SS) (r : Int32) (s2 : SS) (h : FX11_mark t a b c d s0 = some (r, s2)) : CT 0 yX11_mark cX11_mark 5 (some .int) 3 70 [.ref t, .int a, .int b, .int c, .int d] s0 (some (.int r)) s2 :=
  ct_of (by decide +kernel) (Or.inr (Or.inl ⟨_, rfl, _, rfl, rfl⟩)) (lx_args [.ref t, .int a, .int b, .int c, .int d]) (lx_entry [.ref t, .int a, .int b, .int c, .int d] (fun _ => Nat.le_of_ble_eq_true rfl)) (fun o C hR => Yx.weak (lw_s (lw_s (lw_s (lw_s (lw_s lw_0))))) (bd_X11_mark C t ht a b c d s0 (r, s2) h hR))
def FX11_forget (t : Nat) (a : Int32) (s0 : SS) : Option (Int32 × SS) :=
  bd (FX11_within a (nI 0) (nI 2) s0) (fun (r1 : Int32) => if r1 = 0 then bd2 (FX11_refuse t (-2 : Int32) s0) (fun (r2 : Int32) (s3 : SS) => some ((r2, s3))) else (if a = 0 then bd2 (FX9_empty (lk (lk t 0) 4) s0) (fun (r4 : Int32) (s5 : SS) => some ((r4, s5))) else (if a = (nI 1) then bd2 (FX9_empty (lk (lk t 0) 5) s0) (fun (r6 : Int32) (s7 : SS) => some ((r6, s7))) else (bd2 (FX9_empty (lk (lk t 0) 6) s0) (fun (r8 : Int32) (s9 : SS) => some ((r8, s9)))))))
set_option maxRecDepth 100000 in
set_option maxHeartbeats 4000000 in
theorem bd_X11_forget {o : Om} (C : Cx o RX11 cX11_forget 2 (some .int) (rmx 1 22) 0) (t : Nat) (ht : kd t = 9) (a : Int32) (s0 : SS) : Xo (FX11_forget t a s0) (fun r => RT o cX11_forget (some (.int r.1)) r.2) (Yx o 0 [some (.ref t), some (.int a)] [] s0) := by
  unfold FX11_forget
  refine x_iload_n C (pc := 0) dX11_forget_0 rfl ?_
  refine x_iconst C (pc := 1) dX11_forget_1 kc_i_0 ?_
  refine x_iconst C (pc := 2) dX11_forget_2 kc_i_2 ?_
  refine x_callSi C (pc := 3) ms_X11_92 [.int a, .int (nI 0), .int (nI 2)] (fun _ hr => ct_X11_within _ _ _ _ _ hr) ⟨Nat.le_of_ble_eq_true rfl, Nat.le_of_ble_eq_true rfl⟩ rfl (Nat.le_of_ble_eq_true rfl) rfl dX11_forget_3 (fun r1 => ?_)
  refine x_if_ne C (pc := 6) (tgt := 16) dX11_forget_6 (by decide) (fun _ => ?_) (fun _ => ?_)
  · skip
    refine x_aload_n C (pc := 9) dX11_forget_9 rfl ?_
    refine x_bipush C (pc := 10) dX11_forget_10 kc_b_m2 ?_
    refine x_callVim C (pc := 12) mv_X11_96 ht rfl [.int (-2 : Int32)] (fun _ _ hr => ct_X11_refuse _ ht _ _ _ _ hr) ⟨Nat.le_of_ble_eq_true rfl, Nat.le_of_ble_eq_true rfl⟩ rfl (Nat.le_of_ble_eq_true rfl) rfl dX11_forget_12 (fun r2 s3 => ?_)
    exact x_ret dX11_forget_15 (fun h => h)
  · skip
    refine x_iload_n C (pc := 16) dX11_forget_16 rfl ?_
    refine x_if_ne C (pc := 17) (tgt := 31) dX11_forget_17 (by decide) (fun _ => ?_) (fun _ => ?_)
    · skip
      refine x_aload_n C (pc := 20) dX11_forget_20 rfl ?_
      refine x_getR C (pc := 21) fg_X11_12 dX11_forget_21 ht ?_
      refine x_getR C (pc := 24) fg_X11_244 dX11_forget_24 (lkd_9_0 ht) ?_
      refine x_callVim C (pc := 27) mv_X11_276 (lkd_4_4 (lkd_9_0 ht)) rfl [] (fun _ _ hr => ct_X9_empty _ (lkd_4_4 (lkd_9_0 ht)) _ _ _ hr) ⟨Nat.le_of_ble_eq_true rfl, Nat.le_of_ble_eq_true rfl⟩ rfl (Nat.le_of_ble_eq_true rfl) rfl dX11_forget_27 (fun r4 s5 => ?_)
      exact x_ret dX11_forget_30 (fun h => h)
    · skip
      refine x_iload_n C (pc := 31) dX11_forget_31 rfl ?_
      refine x_iconst C (pc := 32) dX11_forget_32 kc_i_1 ?_
      refine x_icmp_ne C (pc := 33) (tgt := 49) dX11_forget_33 (by decide) (fun _ => ?_) (fun _ => ?_)
      · skip
        refine x_aload_n C (pc := 36) dX11_forget_36 rfl ?_
        refine x_getR C (pc := 37) fg_X11_12 dX11_forget_37 ht ?_
        refine x_getR C (pc := 40) fg_X11_262 dX11_forget_40 (lkd_9_0 ht) ?_
        refine x_callVim C (pc := 43) mv_X11_276 (lkd_4_5 (lkd_9_0 ht)) rfl [] (fun _ _ hr => ct_X9_empty _ (lkd_4_5 (lkd_9_0 ht)) _ _ _ hr) ⟨Nat.le_of_ble_eq_true rfl, Nat.le_of_ble_eq_true rfl⟩ rfl (Nat.le_of_ble_eq_true rfl) rfl dX11_forget_43 (fun r6 s7 => ?_)
        refine x_goto C (pc := 46) (tgt := 59) dX11_forget_46 (by decide) ?_
        exact x_ret dX11_forget_59 (fun h => h)
      · skip
        refine x_aload_n C (pc := 49) dX11_forget_49 rfl ?_
        refine x_getR C (pc := 50) fg_X11_12 dX11_forget_50 ht ?_
        refine x_getR C (pc := 53) fg_X11_269 dX11_forget_53 (lkd_9_0 ht) ?_
        refine x_callVim C (pc := 56) mv_X11_276 (lkd_4_6 (lkd_9_0 ht)) rfl [] (fun _ _ hr => ct_X9_empty _ (lkd_4_6 (lkd_9_0 ht)) _ _ _ hr) ⟨Nat.le_of_ble_eq_true rfl, Nat.le_of_ble_eq_true rfl⟩ rfl (Nat.le_of_ble_eq_true rfl) rfl dX11_forget_56 (fun r8 s9 => ?_)
        exact x_ret dX11_forget_59 (fun h => h)
theorem ct_X11_forget (t : Nat) (ht : kd t = 9) (a : Int32) (s0 : SS) (r : Int32) (s2 : SS) (h : FX11_forget t a s0 = some (r, s2)) : CT 0 yX11_forget cX11_forget 2 (some .int) 1 22 [.ref t, .int a] s0 (some (.int r)) s2 :=
  ct_of (by decide +kernel) (Or.inr (Or.inl ⟨_, rfl, _, rfl, rfl⟩)) (lx_args [.ref t, .int a]) (lx_entry [.ref t, .int a] (fun _ => Nat.le_of_ble_eq_true rfl)) (fun o C hR => Yx.weak (lw_s (lw_s lw_0)) (bd_X11_forget C t ht a s0 (r, s2) h hR))
def FX11_is (t : Nat) (a : Int32) (s0 : SS) : Option (Int32 × SS) :=
  bd (FX11_isUser t a s0) (fun (r1 : Int32) => if r1 = 0 then bd2 (FX11_refuse t (-2 : Int32) s0) (fun (r2 : Int32) (s3 : SS) => some ((r2, s3))) else (bd (FX1_userKinds (lk t 10) (lk t 0) a s0) (fun (r4 : Int32) => some ((r4, s0)))))
set_option maxRecDepth 100000 in
set_option maxHeartbeats 4000000 in
theorem bd_X11_is {o : Om} (C : Cx o RX11 cX11_is 2 (some .int) (rmx 4 94) 0) (t : Nat) (ht : kd t = 9) (a : Int32) (s0 : SS) : Xo (FX11_is t a s0) (fun r => RT o cX11_is (some (.int r.1)) r.2) (Yx o 0 [some (.ref t), some (.int a)] [] s0) := by
  unfold FX11_is
  refine x_aload_n C (pc := 0) dX11_is_0 rfl ?_
  refine x_iload_n C (pc := 1) dX11_is_1 rfl ?_
  refine x_callVi C (pc := 2) mv_X11_151 ht rfl [.int a] (fun _ hr => ct_X11_isUser _ ht _ _ _ hr) ⟨Nat.le_of_ble_eq_true rfl, Nat.le_of_ble_eq_true rfl⟩ rfl (Nat.le_of_ble_eq_true rfl) rfl dX11_is_2 (fun r1 => ?_)
  refine x_if_eq C (pc := 5) (tgt := 23) dX11_is_5 (by decide) (fun _ => ?_) (fun _ => ?_)
  · skip
    refine x_aload_n C (pc := 23) dX11_is_23 rfl ?_
    refine x_bipush C (pc := 24) dX11_is_24 kc_b_m2 ?_
    refine x_callVim C (pc := 26) mv_X11_96 ht rfl [.int (-2 : Int32)] (fun _ _ hr => ct_X11_refuse _ ht _ _ _ _ hr) ⟨Nat.le_of_ble_eq_true rfl, Nat.le_of_ble_eq_true rfl⟩ rfl (Nat.le_of_ble_eq_true rfl) rfl dX11_is_26 (fun r2 s3 => ?_)
    exact x_ret dX11_is_29 (fun h => h)
  · skip
    refine x_aload_n C (pc := 8) dX11_is_8 rfl ?_
    refine x_getR C (pc := 9) fg_X11_64 dX11_is_9 ht ?_
    refine x_aload_n C (pc := 12) dX11_is_12 rfl ?_
    refine x_getR C (pc := 13) fg_X11_12 dX11_is_13 ht ?_
    refine x_iload_n C (pc := 16) dX11_is_16 rfl ?_
    refine x_callVi C (pc := 17) mv_X11_279 (lkd_9_10 ht) rfl [.ref (lk t 0), .int a] (fun _ hr => ct_X1_userKinds _ (lkd_9_10 ht) _ (lkd_9_0 ht) _ _ _ hr) ⟨Nat.le_of_ble_eq_true rfl, Nat.le_of_ble_eq_true rfl⟩ rfl (Nat.le_of_ble_eq_true rfl) rfl dX11_is_17 (fun r4 => ?_)
    refine x_goto C (pc := 20) (tgt := 29) dX11_is_20 (by decide) ?_
    exact x_ret dX11_is_29 (fun h => h)
theorem ct_X11_is (t : Nat) (ht : kd t = 9) (a : Int32) (s0 : SS) (r : Int32) (s2 : SS) (h : FX11_is t a s0 = some (r, s2)) : CT 0 yX11_is cX11_is 2 (some .int) 4 94 [.ref t, .int a] s0 (some (.int r)) s2 :=
  ct_of (by decide +kernel) (Or.inr (Or.inl ⟨_, rfl, _, rfl, rfl⟩)) (lx_args [.ref t, .int a]) (lx_entry [.ref t, .int a] (fun _ => Nat.le_of_ble_eq_true rfl)) (fun o C hR => Yx.weak (lw_s (lw_s lw_0)) (bd_X11_is C t ht a s0 (r, s2) h hR))
def FX11_look (t : Nat) (a : Int32) (s0 : SS) : Option (Int32 × SS) :=
  bd (FX11_isUser t a s0) (fun (r1 : Int32) => if r1 = 0 then bd2 (FX11_refuse t (-2 : Int32) s0) (fun (r2 : Int32) (s3 : SS) => some ((r2, s3))) else (bd2 (FX1_nextWind (lk t 10) (lk t 0) a s0) (fun (r4 : Int32) (s5 : SS) => some ((r4, s5)))))
set_option maxRecDepth 100000 in
set_option maxHeartbeats 4000000 in
theorem bd_X11_look {o : Om} (C : Cx o RX11 cX11_look 2 (some .int) (rmx 5 123) 0) (t : Nat) (ht : kd t = 9) (a : Int32) (s0 : SS) : Xo (FX11_look t a s0) (fun r => RT o cX11_look (some (.int r.1)) r.2) (Yx o 0 [some (.ref t), some (.int a)] [] s0) := by
  unfold FX11_look
  refine x_aload_n C (pc := 0) dX11_look_0 rfl ?_
  refine x_iload_n C (pc := 1) dX11_look_1 rfl ?_
  refine x_callVi C (pc := 2) mv_X11_151 ht rfl [.int a] (fun _ hr => ct_X11_isUser _ ht _ _ _ hr) ⟨Nat.le_of_ble_eq_true rfl, Nat.le_of_ble_eq_true rfl⟩ rfl (Nat.le_of_ble_eq_true rfl) rfl dX11_look_2 (fun r1 => ?_)
  refine x_if_eq C (pc := 5) (tgt := 23) dX11_look_5 (by decide) (fun _ => ?_) (fun _ => ?_)
  · skip
    refine x_aload_n C (pc := 23) dX11_look_23 rfl ?_
    refine x_bipush C (pc := 24) dX11_look_24 kc_b_m2 ?_
    refine x_callVim C (pc := 26) mv_X11_96 ht rfl [.int (-2 : Int32)] (fun _ _ hr => ct_X11_refuse _ ht _ _ _ _ hr) ⟨Nat.le_of_ble_eq_true rfl, Nat.le_of_ble_eq_true rfl⟩ rfl (Nat.le_of_ble_eq_true rfl) rfl dX11_look_26 (fun r2 s3 => ?_)
    exact x_ret dX11_look_29 (fun h => h)
  · skip
    refine x_aload_n C (pc := 8) dX11_look_8 rfl ?_
    refine x_getR C (pc := 9) fg_X11_64 dX11_look_9 ht ?_
    refine x_aload_n C (pc := 12) dX11_look_12 rfl ?_
    refine x_getR C (pc := 13) fg_X11_12 dX11_look_13 ht ?_
    refine x_iload_n C (pc := 16) dX11_look_16 rfl ?_
    refine x_callVim C (pc := 17) mv_X11_282 (lkd_9_10 ht) rfl [.ref (lk t 0), .int a] (fun _ _ hr => ct_X1_nextWind _ (lkd_9_10 ht) _ (lkd_9_0 ht) _ _ _ _ hr) ⟨Nat.le_of_ble_eq_true rfl, Nat.le_of_ble_eq_true rfl⟩ rfl (Nat.le_of_ble_eq_true rfl) rfl dX11_look_17 (fun r4 s5 => ?_)
    refine x_goto C (pc := 20) (tgt := 29) dX11_look_20 (by decide) ?_
    exact x_ret dX11_look_29 (fun h => h)
theorem ct_X11_look (t : Nat) (ht : kd t = 9) (a : Int32) (s0 : SS) (r : Int32) (s2 : SS) (h : FX11_look t a s0 = some (r, s2)) : CT 0 yX11_look cX11_look 2 (some .int) 5 123 [.ref t, .int a] s0 (some (.int r)) s2 :=
  ct_of (by decide +kernel) (Or.inr (Or.inl ⟨_, rfl, _, rfl, rfl⟩)) (lx_args [.ref t, .int a]) (lx_entry [.ref t, .int a] (fun _ => Nat.le_of_ble_eq_true rfl)) (fun o C hR => Yx.weak (lw_s (lw_s lw_0)) (bd_X11_look C t ht a s0 (r, s2) h hR))
def FX11_kinds (t : Nat) (a : Int32) (s0 : SS) : Option (Int32 × SS) :=
  bd (FX11_isSuit t a s0) (fun (r1 : Int32) => if r1 = 0 then bd2 (FX11_refuse t (-2 : Int32) s0) (fun (r2 : Int32) (s3 : SS) => some ((r2, s3))) else (bd (FX1_suitKinds (lk t 10) (lk t 0) a s0) (fun (r4 : Int32) => some ((r4, s0)))))
set_option maxRecDepth 100000 in
set_option maxHeartbeats 4000000 in
theorem bd_X11_kinds {o : Om} (C : Cx o RX11 cX11_kinds 2 (some .int) (rmx 4 93) 0) (t : Nat) (ht : kd t = 9) (a : Int32) (s0 : SS) : Xo (FX11_kinds t a s0) (fun r => RT o cX11_kinds (some (.int r.1)) r.2) (Yx o 0 [some (.ref t), some (.int a)] [] s0) := by
  unfold FX11_kinds
  refine x_aload_n C (pc := 0) dX11_kinds_0 rfl ?_
  refine x_iload_n C (pc := 1) dX11_kinds_1 rfl ?_
  refine x_callVi C (pc := 2) mv_X11_161 ht rfl [.int a] (fun _ hr => ct_X11_isSuit _ ht _ _ _ hr) ⟨Nat.le_of_ble_eq_true rfl, Nat.le_of_ble_eq_true rfl⟩ rfl (Nat.le_of_ble_eq_true rfl) rfl dX11_kinds_2 (fun r1 => ?_)
  refine x_if_eq C (pc := 5) (tgt := 23) dX11_kinds_5 (by decide) (fun _ => ?_) (fun _ => ?_)
  · skip
    refine x_aload_n C (pc := 23) dX11_kinds_23 rfl ?_
    refine x_bipush C (pc := 24) dX11_kinds_24 kc_b_m2 ?_
    refine x_callVim C (pc := 26) mv_X11_96 ht rfl [.int (-2 : Int32)] (fun _ _ hr => ct_X11_refuse _ ht _ _ _ _ hr) ⟨Nat.le_of_ble_eq_true rfl, Nat.le_of_ble_eq_true rfl⟩ rfl (Nat.le_of_ble_eq_true rfl) rfl dX11_kinds_26 (fun r2 s3 => ?_)
    exact x_ret dX11_kinds_29 (fun h => h)
  · skip
    refine x_aload_n C (pc := 8) dX11_kinds_8 rfl ?_
    refine x_getR C (pc := 9) fg_X11_64 dX11_kinds_9 ht ?_
    refine x_aload_n C (pc := 12) dX11_kinds_12 rfl ?_
    refine x_getR C (pc := 13) fg_X11_12 dX11_kinds_13 ht ?_
    refine x_iload_n C (pc := 16) dX11_kinds_16 rfl ?_
    refine x_callVi C (pc := 17) mv_X11_285 (lkd_9_10 ht) rfl [.ref (lk t 0), .int a] (fun _ hr => ct_X1_suitKinds _ (lkd_9_10 ht) _ (lkd_9_0 ht) _ _ _ hr) ⟨Nat.le_of_ble_eq_true rfl, Nat.le_of_ble_eq_true rfl⟩ rfl (Nat.le_of_ble_eq_true rfl) rfl dX11_kinds_17 (fun r4 => ?_)
    refine x_goto C (pc := 20) (tgt := 29) dX11_kinds_20 (by decide) ?_
    exact x_ret dX11_kinds_29 (fun h => h)
theorem ct_X11_kinds (t : Nat) (ht : kd t = 9) (a : Int32) (s0 : SS) (r : Int32) (s2 : SS) (h : FX11_kinds t a s0 = some (r, s2)) : CT 0 yX11_kinds cX11_kinds 2 (some .int) 4 93 [.ref t, .int a] s0 (some (.int r)) s2 :=
  ct_of (by decide +kernel) (Or.inr (Or.inl ⟨_, rfl, _, rfl, rfl⟩)) (lx_args [.ref t, .int a]) (lx_entry [.ref t, .int a] (fun _ => Nat.le_of_ble_eq_true rfl)) (fun o C hR => Yx.weak (lw_s (lw_s lw_0)) (bd_X11_kinds C t ht a s0 (r, s2) h hR))
def FX11_tries (t : Nat) (a : Int32) (s0 : SS) : Option (Int32 × SS) :=
  bd (FX11_isSuit t a s0) (fun (r1 : Int32) => if r1 = 0 then bd2 (FX11_refuse t (-2 : Int32) s0) (fun (r2 : Int32) (s3 : SS) => some ((r2, s3))) else (bd2 (FX1_nextTry (lk t 10) (lk t 0) a s0) (fun (r4 : Int32) (s5 : SS) => some ((r4, s5)))))
set_option maxRecDepth 100000 in
set_option maxHeartbeats 4000000 in
theorem bd_X11_tries {o : Om} (C : Cx o RX11 cX11_tries 2 (some .int) (rmx 5 120) 0) (t : Nat) (ht : kd t = 9) (a : Int32) (s0 : SS) : Xo (FX11_tries t a s0) (fun r => RT o cX11_tries (some (.int r.1)) r.2) (Yx o 0 [some (.ref t), some (.int a)] [] s0) := by
  unfold FX11_tries
  refine x_aload_n C (pc := 0) dX11_tries_0 rfl ?_
  refine x_iload_n C (pc := 1) dX11_tries_1 rfl ?_
  refine x_callVi C (pc := 2) mv_X11_161 ht rfl [.int a] (fun _ hr => ct_X11_isSuit _ ht _ _ _ hr) ⟨Nat.le_of_ble_eq_true rfl, Nat.le_of_ble_eq_true rfl⟩ rfl (Nat.le_of_ble_eq_true rfl) rfl dX11_tries_2 (fun r1 => ?_)
  refine x_if_eq C (pc := 5) (tgt := 23) dX11_tries_5 (by decide) (fun _ => ?_) (fun _ => ?_)
  · skip
    refine x_aload_n C (pc := 23) dX11_tries_23 rfl ?_
    refine x_bipush C (pc := 24) dX11_tries_24 kc_b_m2 ?_
    refine x_callVim C (pc := 26) mv_X11_96 ht rfl [.int (-2 : Int32)] (fun _ _ hr => ct_X11_refuse _ ht _ _ _ _ hr) ⟨Nat.le_of_ble_eq_true rfl, Nat.le_of_ble_eq_true rfl⟩ rfl (Nat.le_of_ble_eq_true rfl) rfl dX11_tries_26 (fun r2 s3 => ?_)
    exact x_ret dX11_tries_29 (fun h => h)
  · skip
    refine x_aload_n C (pc := 8) dX11_tries_8 rfl ?_
    refine x_getR C (pc := 9) fg_X11_64 dX11_tries_9 ht ?_
    refine x_aload_n C (pc := 12) dX11_tries_12 rfl ?_
    refine x_getR C (pc := 13) fg_X11_12 dX11_tries_13 ht ?_
    refine x_iload_n C (pc := 16) dX11_tries_16 rfl ?_
    refine x_callVim C (pc := 17) mv_X11_288 (lkd_9_10 ht) rfl [.ref (lk t 0), .int a] (fun _ _ hr => ct_X1_nextTry _ (lkd_9_10 ht) _ (lkd_9_0 ht) _ _ _ _ hr) ⟨Nat.le_of_ble_eq_true rfl, Nat.le_of_ble_eq_true rfl⟩ rfl (Nat.le_of_ble_eq_true rfl) rfl dX11_tries_17 (fun r4 s5 => ?_)
    refine x_goto C (pc := 20) (tgt := 29) dX11_tries_20 (by decide) ?_
    exact x_ret dX11_tries_29 (fun h => h)
theorem ct_X11_tries (t : Nat) (ht : kd t = 9) (a : Int32) (s0 : SS) (r : Int32) (s2 : SS) (h : FX11_tries t a s0 = some (r, s2)) : CT 0 yX11_tries cX11_tries 2 (some .int) 5 120 [.ref t, .int a] s0 (some (.int r)) s2 :=
  ct_of (by decide +kernel) (Or.inr (Or.inl ⟨_, rfl, _, rfl, rfl⟩)) (lx_args [.ref t, .int a]) (lx_entry [.ref t, .int a] (fun _ => Nat.le_of_ble_eq_true rfl)) (fun o C hR => Yx.weak (lw_s (lw_s lw_0)) (bd_X11_tries C t ht a s0 (r, s2) h hR))
def FX11_parties (t : Nat) (a : Int32) (s0 : SS) : Option (Int32 × SS) :=
  bd (FX11_isSuit t a s0) (fun (r1 : Int32) => if r1 = 0 then bd2 (FX11_refuse t (-2 : Int32) s0) (fun (r2 : Int32) (s3 : SS) => some ((r2, s3))) else (bd (FX4_isHeard (lk t 0) a s0) (fun (r4 : Int32) => if r4 = 0 then bd (FX9_at (lk (lk t 0) 3) a (nI 1) s0) (fun (r5 : Int32) => bd (FX4_duesOf (lk t 0) r5 s0) (fun (r6 : Int32) => bd (FX4_awardNow (lk t 0) a s0) (fun (r7 : Int32) => bd (FX6_restingPairs r6 r7 s0) (fun (r8 : Int32) => some ((r8, s0)))))) else (bd2 (FX11_refuse t (-3 : Int32) s0) (fun (r9 : Int32) (s10 : SS) => some ((r9, s10)))))))
set_option maxRecDepth 100000 in
set_option maxHeartbeats 4000000 in
theorem bd_X11_parties {o : Om} (C : Cx o RX11 cX11_parties 2 (some .int) (rmx 3 66) 0) (t : Nat) (ht : kd t = 9) (a : Int32) (s0 : SS) : Xo (FX11_parties t a s0) (fun r => RT o cX11_parties (some (.int r.1)) r.2) (Yx o 0 [some (.ref t), some (.int a)] [] s0) := by
  unfold FX11_parties
  refine x_aload_n C (pc := 0) dX11_parties_0 rfl ?_
  refine x_iload_n C (pc := 1) dX11_parties_1 rfl ?_
  refine x_callVi C (pc := 2) mv_X11_161 ht rfl [.int a] (fun _ hr => ct_X11_isSuit _ ht _ _ _ hr) ⟨Nat.le_of_ble_eq_true rfl, Nat.le_of_ble_eq_true rfl⟩ rfl (Nat.le_of_ble_eq_true rfl) rfl dX11_parties_2 (fun r1 => ?_)
  refine x_if_ne C (pc := 5) (tgt := 15) dX11_parties_5 (by decide) (fun _ => ?_) (fun _ => ?_)
  · skip
    refine x_aload_n C (pc := 8) dX11_parties_8 rfl ?_
    refine x_bipush C (pc := 9) dX11_parties_9 kc_b_m2 ?_
    refine x_callVim C (pc := 11) mv_X11_96 ht rfl [.int (-2 : Int32)] (fun _ _ hr => ct_X11_refuse _ ht _ _ _ _ hr) ⟨Nat.le_of_ble_eq_true rfl, Nat.le_of_ble_eq_true rfl⟩ rfl (Nat.le_of_ble_eq_true rfl) rfl dX11_parties_11 (fun r2 s3 => ?_)
    exact x_ret dX11_parties_14 (fun h => h)
  · skip
    refine x_aload_n C (pc := 15) dX11_parties_15 rfl ?_
    refine x_getR C (pc := 16) fg_X11_12 dX11_parties_16 ht ?_
    refine x_iload_n C (pc := 19) dX11_parties_19 rfl ?_
    refine x_callVi C (pc := 20) mv_X11_164 (lkd_9_0 ht) rfl [.int a] (fun _ hr => ct_X4_isHeard _ (lkd_9_0 ht) _ _ _ hr) ⟨Nat.le_of_ble_eq_true rfl, Nat.le_of_ble_eq_true rfl⟩ rfl (Nat.le_of_ble_eq_true rfl) rfl dX11_parties_20 (fun r4 => ?_)
    refine x_if_eq C (pc := 23) (tgt := 33) dX11_parties_23 (by decide) (fun _ => ?_) (fun _ => ?_)
    · skip
      refine x_aload_n C (pc := 33) dX11_parties_33 rfl ?_
      refine x_getR C (pc := 34) fg_X11_12 dX11_parties_34 ht ?_
      refine x_aload_n C (pc := 37) dX11_parties_37 rfl ?_
      refine x_getR C (pc := 38) fg_X11_12 dX11_parties_38 ht ?_
      refine x_getR C (pc := 41) fg_X11_154 dX11_parties_41 (lkd_9_0 ht) ?_
      refine x_iload_n C (pc := 44) dX11_parties_44 rfl ?_
      refine x_iconst C (pc := 45) dX11_parties_45 kc_i_1 ?_
      refine x_callVi C (pc := 46) mv_X11_185 (lkd_4_3 (lkd_9_0 ht)) rfl [.int a, .int (nI 1)] (fun _ hr => ct_X9_at _ (lkd_4_3 (lkd_9_0 ht)) _ _ _ _ hr) ⟨Nat.le_of_ble_eq_true rfl, Nat.le_of_ble_eq_true rfl⟩ rfl (Nat.le_of_ble_eq_true rfl) rfl dX11_parties_46 (fun r5 => ?_)
      refine x_callVi C (pc := 49) mv_X11_170 (lkd_9_0 ht) rfl [.int r5] (fun _ hr => ct_X4_duesOf _ (lkd_9_0 ht) _ _ _ hr) ⟨Nat.le_of_ble_eq_true rfl, Nat.le_of_ble_eq_true rfl⟩ rfl (Nat.le_of_ble_eq_true rfl) rfl dX11_parties_49 (fun r6 => ?_)
      refine x_aload_n C (pc := 52) dX11_parties_52 rfl ?_
      refine x_getR C (pc := 53) fg_X11_12 dX11_parties_53 ht ?_
      refine x_iload_n C (pc := 56) dX11_parties_56 rfl ?_
      refine x_callVi C (pc := 57) mv_X11_229 (lkd_9_0 ht) rfl [.int a] (fun _ hr => ct_X4_awardNow _ (lkd_9_0 ht) _ _ _ hr) ⟨Nat.le_of_ble_eq_true rfl, Nat.le_of_ble_eq_true rfl⟩ rfl (Nat.le_of_ble_eq_true rfl) rfl dX11_parties_57 (fun r7 => ?_)
      refine x_callSi C (pc := 60) ms_X11_291 [.int r6, .int r7] (fun _ hr => ct_X6_restingPairs _ _ _ _ hr) ⟨Nat.le_of_ble_eq_true rfl, Nat.le_of_ble_eq_true rfl⟩ rfl (Nat.le_of_ble_eq_true rfl) rfl dX11_parties_60 (fun r8 => ?_)
      exact x_ret dX11_parties_63 (fun h => h)
    · skip
      refine x_aload_n C (pc := 26) dX11_parties_26 rfl ?_
      refine x_bipush C (pc := 27) dX11_parties_27 kc_b_m3 ?_
      refine x_callVim C (pc := 29) mv_X11_96 ht rfl [.int (-3 : Int32)] (fun _ _ hr => ct_X11_refuse _ ht _ _ _ _ hr) ⟨Nat.le_of_ble_eq_true rfl, Nat.le_of_ble_eq_true rfl⟩ rfl (Nat.le_of_ble_eq_true rfl) rfl dX11_parties_29 (fun r9 s10 => ?_)
      exact x_ret dX11_parties_32 (fun h => h)
theorem ct_X11_parties (t : Nat) (ht : kd t = 9) (a : Int32) (s0 : SS) (r : Int32) (s2 : SS) (h : FX11_parties t a s0 = some (r, s2)) : CT 0 yX11_parties cX11_parties 2 (some .int) 3 66 [.ref t, .int a] s0 (some (.int r)) s2 :=
  ct_of (by decide +kernel) (Or.inr (Or.inl ⟨_, rfl, _, rfl, rfl⟩)) (lx_args [.ref t, .int a]) (lx_entry [.ref t, .int a] (fun _ => Nat.le_of_ble_eq_true rfl)) (fun o C hR => Yx.weak (lw_s (lw_s lw_0)) (bd_X11_parties C t ht a s0 (r, s2) h hR))
def FX11_calms (t : Nat) (a : Int32) (b : Int32) (c : Int32) (s0 : SS) : Option (Int32 × SS) :=
  bd (FX11_isUser t a s0) (fun (r1 : Int32) => if r1 = 0 then bd2 (FX11_refuse t (-2 : Int32) s0) (fun (r2 : Int32) (s3 : SS) => some ((r2, s3))) else (bd (FX11_within b (nI 0) (nI 8) s0) (fun (r4 : Int32) => if r4 = 0 then bd2 (FX11_refuse t (-2 : Int32) s0) (fun (r5 : Int32) (s6 : SS) => some ((r5, s6))) else (bd (FX11_within c (nI 0) (nI 10) s0) (fun (r7 : Int32) => if r7 = 0 then bd2 (FX11_refuse t (-2 : Int32) s0) (fun (r8 : Int32) (s9 : SS) => some ((r8, s9))) else (bd2 (FX2_takenInNext (lk t 8) (lk t 0) a b s0) (fun (r10 : Int32) (s11 : SS) => bd (FX3_set (lk t 11) ((Int32.toInt64 r10) * (Int32.toInt64 ((nI 10) - c))) (10 : Int64) s11) (fun (s12 : SS) => some (((nI 1), s12))))))))))
set_option maxRecDepth 100000 in
set_option maxHeartbeats 4000000 in
theorem bd_X11_calms {o : Om} (C : Cx o RX11 cX11_calms 4 (some .int) (rmx 5 126) 0) (t : Nat) (ht : kd t = 9) (a : Int32) (b : Int32) (c : Int32) (s0 : SS) : Xo (FX11_calms t a b c s0) (fun r => RT o cX11_calms (some (.int r.1)) r.2) (Yx o 0 [some (.ref t), some (.int a), some (.int b), some (.int c)] [] s0) := by
  unfold FX11_calms
  refine x_aload_n C (pc := 0) dX11_calms_0 rfl ?_
  refine x_iload_n C (pc := 1) dX11_calms_1 rfl ?_
  refine x_callVi C (pc := 2) mv_X11_151 ht rfl [.int a] (fun _ hr => ct_X11_isUser _ ht _ _ _ hr) ⟨Nat.le_of_ble_eq_true rfl, Nat.le_of_ble_eq_true rfl⟩ rfl (Nat.le_of_ble_eq_true rfl) rfl dX11_calms_2 (fun r1 => ?_)
  refine x_if_eq C (pc := 5) (tgt := 28) dX11_calms_5 (by decide) (fun _ => ?_) (fun _ => ?_)
  · skip
    refine x_aload_n C (pc := 28) dX11_calms_28 rfl ?_
    refine x_bipush C (pc := 29) dX11_calms_29 kc_b_m2 ?_
    refine x_callVim C (pc := 31) mv_X11_96 ht rfl [.int (-2 : Int32)] (fun _ _ hr => ct_X11_refuse _ ht _ _ _ _ hr) ⟨Nat.le_of_ble_eq_true rfl, Nat.le_of_ble_eq_true rfl⟩ rfl (Nat.le_of_ble_eq_true rfl) rfl dX11_calms_31 (fun r2 s3 => ?_)
    exact x_ret dX11_calms_34 (fun h => h)
  · skip
    refine x_iload_n C (pc := 8) dX11_calms_8 rfl ?_
    refine x_iconst C (pc := 9) dX11_calms_9 kc_i_0 ?_
    refine x_bipush C (pc := 10) dX11_calms_10 kc_b_8 ?_
    refine x_callSi C (pc := 12) ms_X11_92 [.int b, .int (nI 0), .int (nI 8)] (fun _ hr => ct_X11_within _ _ _ _ _ hr) ⟨Nat.le_of_ble_eq_true rfl, Nat.le_of_ble_eq_true rfl⟩ rfl (Nat.le_of_ble_eq_true rfl) rfl dX11_calms_12 (fun r4 => ?_)
    refine x_if_eq C (pc := 15) (tgt := 28) dX11_calms_15 (by decide) (fun _ => ?_) (fun _ => ?_)
    · skip
      refine x_aload_n C (pc := 28) dX11_calms_28 rfl ?_
      refine x_bipush C (pc := 29) dX11_calms_29 kc_b_m2 ?_
      refine x_callVim C (pc := 31) mv_X11_96 ht rfl [.int (-2 : Int32)] (fun _ _ hr => ct_X11_refuse _ ht _ _ _ _ hr) ⟨Nat.le_of_ble_eq_true rfl, Nat.le_of_ble_eq_true rfl⟩ rfl (Nat.le_of_ble_eq_true rfl) rfl dX11_calms_31 (fun r5 s6 => ?_)
      exact x_ret dX11_calms_34 (fun h => h)
    · skip
      refine x_iload_n C (pc := 18) dX11_calms_18 rfl ?_
      refine x_iconst C (pc := 19) dX11_calms_19 kc_i_0 ?_
      refine x_bipush C (pc := 20) dX11_calms_20 kc_b_10 ?_
      refine x_callSi C (pc := 22) ms_X11_92 [.int c, .int (nI 0), .int (nI 10)] (fun _ hr => ct_X11_within _ _ _ _ _ hr) ⟨Nat.le_of_ble_eq_true rfl, Nat.le_of_ble_eq_true rfl⟩ rfl (Nat.le_of_ble_eq_true rfl) rfl dX11_calms_22 (fun r7 => ?_)
      refine x_if_ne C (pc := 25) (tgt := 35) dX11_calms_25 (by decide) (fun _ => ?_) (fun _ => ?_)
      · skip
        refine x_aload_n C (pc := 28) dX11_calms_28 rfl ?_
        refine x_bipush C (pc := 29) dX11_calms_29 kc_b_m2 ?_
        refine x_callVim C (pc := 31) mv_X11_96 ht rfl [.int (-2 : Int32)] (fun _ _ hr => ct_X11_refuse _ ht _ _ _ _ hr) ⟨Nat.le_of_ble_eq_true rfl, Nat.le_of_ble_eq_true rfl⟩ rfl (Nat.le_of_ble_eq_true rfl) rfl dX11_calms_31 (fun r8 s9 => ?_)
        exact x_ret dX11_calms_34 (fun h => h)
      · skip
        refine x_aload_n C (pc := 35) dX11_calms_35 rfl ?_
        refine x_getR C (pc := 36) fg_X11_71 dX11_calms_36 ht ?_
        refine x_aload_n C (pc := 39) dX11_calms_39 rfl ?_
        refine x_getR C (pc := 40) fg_X11_50 dX11_calms_40 ht ?_
        refine x_aload_n C (pc := 43) dX11_calms_43 rfl ?_
        refine x_getR C (pc := 44) fg_X11_12 dX11_calms_44 ht ?_
        refine x_iload_n C (pc := 47) dX11_calms_47 rfl ?_
        refine x_iload_n C (pc := 48) dX11_calms_48 rfl ?_
        refine x_callVim C (pc := 49) mv_X11_296 (lkd_9_8 ht) rfl [.ref (lk t 0), .int a, .int b] (fun _ _ hr => ct_X2_takenInNext _ (lkd_9_8 ht) _ (lkd_9_0 ht) _ _ _ _ _ hr) ⟨Nat.le_of_ble_eq_true rfl, Nat.le_of_ble_eq_true rfl⟩ rfl (Nat.le_of_ble_eq_true rfl) rfl dX11_calms_49 (fun r10 s11 => ?_)
        refine x_i2l C (pc := 52) dX11_calms_52 ?_
        refine x_bipush C (pc := 53) dX11_calms_53 kc_b_10 ?_
        refine x_iload_n C (pc := 55) dX11_calms_55 rfl ?_
        refine x_isub C (pc := 56) dX11_calms_56 ?_
        refine x_i2l C (pc := 57) dX11_calms_57 ?_
        refine x_lmul C (pc := 58) dX11_calms_58 ?_
        refine x_ldc2 C (pc := 59) dX11_calms_59 cl_X11_299 ?_
        refine x_callVv C (pc := 62) mv_X11_225 (lkd_9_11 ht) rfl [.long ((Int32.toInt64 r10) * (Int32.toInt64 ((nI 10) - c))), .long (10 : Int64)] (fun _ hr => ct_X3_set _ (lkd_9_11 ht) _ _ _ _ hr) ⟨Nat.le_of_ble_eq_true rfl, Nat.le_of_ble_eq_true rfl⟩ rfl (Nat.le_of_ble_eq_true rfl) rfl dX11_calms_62 (fun s12 => ?_)
        refine x_iconst C (pc := 65) dX11_calms_65 kc_i_1 ?_
        exact x_ret dX11_calms_66 (fun h => h)
theorem ct_X11_calms (t : Nat) (ht : kd t = 9) (a : Int32) (b : Int32) (c : Int32) (s0 : SS) (r : Int32) (s2 : SS) (h : FX11_calms t a b c s0 = some (r, s2)) : CT 0 yX11_calms cX11_calms 4 (some .int) 5 126 [.ref t, .int a, .int b, .int c] s0 (some (.int r)) s2 :=
  ct_of (by decide +kernel) (Or.inr (Or.inl ⟨_, rfl, _, rfl, rfl⟩)) (lx_args [.ref t, .int a, .int b, .int c]) (lx_entry [.ref t, .int a, .int b, .int c] (fun _ => Nat.le_of_ble_eq_true rfl)) (fun o C hR => Yx.weak (lw_s (lw_s (lw_s (lw_s lw_0)))) (bd_X11_calms C t ht a b c s0 (r, s2) h hR))
def FX11_years (t : Nat) (a : Int32) (b : Int32) (s0 : SS) : Option (Int32 × SS) :=
  bd (FX11_within a (nI 0) (999999 : Int32) s0) (fun (r1 : Int32) => if r1 = 0 then bd2 (FX11_refuse t (-2 : Int32) s0) (fun (r2 : Int32) (s3 : SS) => some ((r2, s3))) else (bd (FX11_within b (nI 0) (nI 60) s0) (fun (r4 : Int32) => if r4 = 0 then bd2 (FX11_refuse t (-2 : Int32) s0) (fun (r5 : Int32) (s6 : SS) => some ((r5, s6))) else (bd2 (FX2_rentBySeed (lk t 8) (lk t 0) a b s0) (fun (r7 : Int32) (s8 : SS) => some ((r7, s8)))))))
set_option maxRecDepth 100000 in
set_option maxHeartbeats 4000000 in
theorem bd_X11_years {o : Om} (C : Cx o RX11 cX11_years 3 (some .int) (rmx 5 117) 0) (t : Nat) (ht : kd t = 9) (a : Int32) (b : Int32) (s0 : SS) : Xo (FX11_years t a b s0) (fun r => RT o cX11_years (some (.int r.1)) r.2) (Yx o 0 [some (.ref t), some (.int a), some (.int b)] [] s0) := by
  unfold FX11_years
  refine x_iload_n C (pc := 0) dX11_years_0 rfl ?_
  refine x_iconst C (pc := 1) dX11_years_1 kc_i_0 ?_
  refine x_ldcw C (pc := 2) dX11_years_2 cc_X11_301 ?_
  refine x_callSi C (pc := 5) ms_X11_92 [.int a, .int (nI 0), .int (999999 : Int32)] (fun _ hr => ct_X11_within _ _ _ _ _ hr) ⟨Nat.le_of_ble_eq_true rfl, Nat.le_of_ble_eq_true rfl⟩ rfl (Nat.le_of_ble_eq_true rfl) rfl dX11_years_5 (fun r1 => ?_)
  refine x_if_eq C (pc := 8) (tgt := 37) dX11_years_8 (by decide) (fun _ => ?_) (fun _ => ?_)
  · skip
    refine x_aload_n C (pc := 37) dX11_years_37 rfl ?_
    refine x_bipush C (pc := 38) dX11_years_38 kc_b_m2 ?_
    refine x_callVim C (pc := 40) mv_X11_96 ht rfl [.int (-2 : Int32)] (fun _ _ hr => ct_X11_refuse _ ht _ _ _ _ hr) ⟨Nat.le_of_ble_eq_true rfl, Nat.le_of_ble_eq_true rfl⟩ rfl (Nat.le_of_ble_eq_true rfl) rfl dX11_years_40 (fun r2 s3 => ?_)
    exact x_ret dX11_years_43 (fun h => h)
  · skip
    refine x_iload_n C (pc := 11) dX11_years_11 rfl ?_
    refine x_iconst C (pc := 12) dX11_years_12 kc_i_0 ?_
    refine x_bipush C (pc := 13) dX11_years_13 kc_b_60 ?_
    refine x_callSi C (pc := 15) ms_X11_92 [.int b, .int (nI 0), .int (nI 60)] (fun _ hr => ct_X11_within _ _ _ _ _ hr) ⟨Nat.le_of_ble_eq_true rfl, Nat.le_of_ble_eq_true rfl⟩ rfl (Nat.le_of_ble_eq_true rfl) rfl dX11_years_15 (fun r4 => ?_)
    refine x_if_eq C (pc := 18) (tgt := 37) dX11_years_18 (by decide) (fun _ => ?_) (fun _ => ?_)
    · skip
      refine x_aload_n C (pc := 37) dX11_years_37 rfl ?_
      refine x_bipush C (pc := 38) dX11_years_38 kc_b_m2 ?_
      refine x_callVim C (pc := 40) mv_X11_96 ht rfl [.int (-2 : Int32)] (fun _ _ hr => ct_X11_refuse _ ht _ _ _ _ hr) ⟨Nat.le_of_ble_eq_true rfl, Nat.le_of_ble_eq_true rfl⟩ rfl (Nat.le_of_ble_eq_true rfl) rfl dX11_years_40 (fun r5 s6 => ?_)
      exact x_ret dX11_years_43 (fun h => h)
    · skip
      refine x_aload_n C (pc := 21) dX11_years_21 rfl ?_
      refine x_getR C (pc := 22) fg_X11_50 dX11_years_22 ht ?_
      refine x_aload_n C (pc := 25) dX11_years_25 rfl ?_
      refine x_getR C (pc := 26) fg_X11_12 dX11_years_26 ht ?_
      refine x_iload_n C (pc := 29) dX11_years_29 rfl ?_
      refine x_iload_n C (pc := 30) dX11_years_30 rfl ?_
      refine x_callVim C (pc := 31) mv_X11_302 (lkd_9_8 ht) rfl [.ref (lk t 0), .int a, .int b] (fun _ _ hr => ct_X2_rentBySeed _ (lkd_9_8 ht) _ (lkd_9_0 ht) _ _ _ _ _ hr) ⟨Nat.le_of_ble_eq_true rfl, Nat.le_of_ble_eq_true rfl⟩ rfl (Nat.le_of_ble_eq_true rfl) rfl dX11_years_31 (fun r7 s8 => ?_)
      refine x_goto C (pc := 34) (tgt := 43) dX11_years_34 (by decide) ?_
      exact x_ret dX11_years_43 (fun h => h)
theorem ct_X11_years (t : Nat) (ht : kd t = 9) (a : Int32) (b : Int32) (s0 : SS) (r : Int32) (s2 : SS) (h : FX11_years t a b s0 = some (r, s2)) : CT 0 yX11_years cX11_years 3 (some .int) 5 117 [.ref t, .int a, .int b] s0 (some (.int r)) s2 :=
  ct_of (by decide +kernel) (Or.inr (Or.inl ⟨_, rfl, _, rfl, rfl⟩)) (lx_args [.ref t, .int a, .int b]) (lx_entry [.ref t, .int a, .int b] (fun _ => Nat.le_of_ble_eq_true rfl)) (fun o C hR => Yx.weak (lw_s (lw_s (lw_s lw_0))) (bd_X11_years C t ht a b s0 (r, s2) h hR))
def FX11_part (t : Nat) (a : Int32) (s0 : SS) : Option (Int64 × SS) :=
  bd (FX11_within a (nI 0) (nI 1) s0) (fun (r1 : Int32) => if r1 = 0 then bd2 (FX11_refuse t (-2 : Int32) s0) (fun (r2 : Int32) (s3 : SS) => some (((Int32.toInt64 r2), s3))) else (if a = 0 then some (((gL s0 (lk t 11) 0), s0)) else (some (((gL s0 (lk t 11) 1), s0)))))
set_option maxRecDepth 100000 in
set_option maxHeartbeats 4000000 in
theorem bd_X11_part {o : Om} (C : Cx o RX11 cX11_part 2 (some .long) (rmx 1 22) 0) (t : Nat) (ht : kd t = 9) (a : Int32) (s0 : SS) : Xo (FX11_part t a s0) (fun r => RT o cX11_part (some (.long r.1)) r.2) (Yx o 0 [some (.ref t), some (.int a)] [] s0) := by
  unfold FX11_part
  refine x_iload_n C (pc := 0) dX11_part_0 rfl ?_
  refine x_iconst C (pc := 1) dX11_part_1 kc_i_0 ?_
  refine x_iconst C (pc := 2) dX11_part_2 kc_i_1 ?_
  refine x_callSi C (pc := 3) ms_X11_92 [.int a, .int (nI 0), .int (nI 1)] (fun _ hr => ct_X11_within _ _ _ _ _ hr) ⟨Nat.le_of_ble_eq_true rfl, Nat.le_of_ble_eq_true rfl⟩ rfl (Nat.le_of_ble_eq_true rfl) rfl dX11_part_3 (fun r1 => ?_)
  refine x_if_ne C (pc := 6) (tgt := 17) dX11_part_6 (by decide) (fun _ => ?_) (fun _ => ?_)
  · skip
    refine x_aload_n C (pc := 9) dX11_part_9 rfl ?_
    refine x_bipush C (pc := 10) dX11_part_10 kc_b_m2 ?_
    refine x_callVim C (pc := 12) mv_X11_96 ht rfl [.int (-2 : Int32)] (fun _ _ hr => ct_X11_refuse _ ht _ _ _ _ hr) ⟨Nat.le_of_ble_eq_true rfl, Nat.le_of_ble_eq_true rfl⟩ rfl (Nat.le_of_ble_eq_true rfl) rfl dX11_part_12 (fun r2 s3 => ?_)
    refine x_i2l C (pc := 15) dX11_part_15 ?_
    exact x_lret dX11_part_16 (fun h => h)
  · skip
    refine x_iload_n C (pc := 17) dX11_part_17 rfl ?_
    refine x_if_ne C (pc := 18) (tgt := 31) dX11_part_18 (by decide) (fun _ => ?_) (fun _ => ?_)
    · skip
      refine x_aload_n C (pc := 21) dX11_part_21 rfl ?_
      refine x_getR C (pc := 22) fg_X11_71 dX11_part_22 ht ?_
      refine x_getL C (pc := 25) fg_X11_305 dX11_part_25 (lkd_9_11 ht) ?_
      refine x_goto C (pc := 28) (tgt := 38) dX11_part_28 (by decide) ?_
      exact x_lret dX11_part_38 (fun h => h)
    · skip
      refine x_aload_n C (pc := 31) dX11_part_31 rfl ?_
      refine x_getR C (pc := 32) fg_X11_71 dX11_part_32 ht ?_
      refine x_getL C (pc := 35) fg_X11_309 dX11_part_35 (lkd_9_11 ht) ?_
      exact x_lret dX11_part_38 (fun h => h)
theorem ct_X11_part (t : Nat) (ht : kd t = 9) (a : Int32) (s0 : SS) (r : Int64) (s2 : SS) (h : FX11_part t a s0 = some (r, s2)) : CT 0 yX11_part cX11_part 2 (some .long) 1 22 [.ref t, .int a] s0 (some (.long r)) s2 :=
  ct_of (by decide +kernel) (Or.inr (Or.inr ⟨_, rfl, rfl⟩)) (lx_args [.ref t, .int a]) (lx_entry [.ref t, .int a] (fun _ => Nat.le_of_ble_eq_true rfl)) (fun o C hR => Yx.weak (lw_s (lw_s lw_0)) (bd_X11_part C t ht a s0 (r, s2) h hR))
def FX11_image (t : Nat) (a : Int32) (s0 : SS) : Option (Int32 × SS) :=
  bd (FX11_within a (nI 0) (nI 1) s0) (fun (r1 : Int32) => if r1 = 0 then bd2 (FX11_refuse t (-2 : Int32) s0) (fun (r2 : Int32) (s3 : SS) => some ((r2, s3))) else (bd (if a = 0 then bd (FX4_copyFrom (lk t 1) (lk t 0) s0) (fun (s4 : SS) => nm (pI s4 t 3 (nI 1)) (fun (s5 : SS) => some (s5))) else (bd (FX4_copyFrom (lk t 2) (lk t 0) s0) (fun (s6 : SS) => nm (pI s6 t 4 (nI 1)) (fun (s7 : SS) => some (s7))))) (fun (s8 : SS) => some (((nI 1), s8)))))
set_option maxRecDepth 100000 in
set_option maxHeartbeats 4000000 in
theorem bd_X11_image {o : Om} (C : Cx o RX11 cX11_image 2 (some .int) (rmx 3 60) 0) (t : Nat) (ht : kd t = 9) (a : Int32) (s0 : SS) : Xo (FX11_image t a s0) (fun r => RT o cX11_image (some (.int r.1)) r.2) (Yx o 0 [some (.ref t), some (.int a)] [] s0) := by
  unfold FX11_image
  refine x_iload_n C (pc := 0) dX11_image_0 rfl ?_
  refine x_iconst C (pc := 1) dX11_image_1 kc_i_0 ?_
  refine x_iconst C (pc := 2) dX11_image_2 kc_i_1 ?_
  refine x_callSi C (pc := 3) ms_X11_92 [.int a, .int (nI 0), .int (nI 1)] (fun _ hr => ct_X11_within _ _ _ _ _ hr) ⟨Nat.le_of_ble_eq_true rfl, Nat.le_of_ble_eq_true rfl⟩ rfl (Nat.le_of_ble_eq_true rfl) rfl dX11_image_3 (fun r1 => ?_)
  refine x_if_ne C (pc := 6) (tgt := 16) dX11_image_6 (by decide) (fun _ => ?_) (fun _ => ?_)
  · skip
    refine x_aload_n C (pc := 9) dX11_image_9 rfl ?_
    refine x_bipush C (pc := 10) dX11_image_10 kc_b_m2 ?_
    refine x_callVim C (pc := 12) mv_X11_96 ht rfl [.int (-2 : Int32)] (fun _ _ hr => ct_X11_refuse _ ht _ _ _ _ hr) ⟨Nat.le_of_ble_eq_true rfl, Nat.le_of_ble_eq_true rfl⟩ rfl (Nat.le_of_ble_eq_true rfl) rfl dX11_image_12 (fun r2 s3 => ?_)
    exact x_ret dX11_image_15 (fun h => h)
  · skip
    refine x_iload_n C (pc := 16) dX11_image_16 rfl ?_
    refine xb_1 (Z1 := fun s8 => Yx o 55 [none, none] [] s8) ?_ (fun s8 => ?_)
    · skip
      refine x_if_ne C (pc := 17) (tgt := 39) dX11_image_17 (by decide) (fun _ => ?_) (fun _ => ?_)
      · skip
        refine x_aload_n C (pc := 20) dX11_image_20 rfl ?_
        refine x_getR C (pc := 21) fg_X11_16 dX11_image_21 ht ?_
        refine x_aload_n C (pc := 24) dX11_image_24 rfl ?_
        refine x_getR C (pc := 25) fg_X11_12 dX11_image_25 ht ?_
        refine x_callVv C (pc := 28) mv_X11_140 (lkd_9_1 ht) rfl [.ref (lk t 0)] (fun _ hr => ct_X4_copyFrom _ (lkd_9_1 ht) _ (lkd_9_0 ht) _ _ hr) ⟨Nat.le_of_ble_eq_true rfl, Nat.le_of_ble_eq_true rfl⟩ rfl (Nat.le_of_ble_eq_true rfl) rfl dX11_image_28 (fun s4 => ?_)
        refine x_aload_n C (pc := 31) dX11_image_31 rfl ?_
        refine x_iconst C (pc := 32) dX11_image_32 kc_i_1 ?_
        refine x_putZn C (pc := 33) fp_X11_312 (by decide +kernel) dX11_image_33 ht (fun s5 => ?_)
        refine x_goto C (pc := 36) (tgt := 55) dX11_image_36 (by decide) ?_
        exact Xo.done (fun h => Yx.weak (lw_n (lw_n lw_0)) h)
      · skip
        refine x_aload_n C (pc := 39) dX11_image_39 rfl ?_
        refine x_getR C (pc := 40) fg_X11_19 dX11_image_40 ht ?_
        refine x_aload_n C (pc := 43) dX11_image_43 rfl ?_
        refine x_getR C (pc := 44) fg_X11_12 dX11_image_44 ht ?_
        refine x_callVv C (pc := 47) mv_X11_140 (lkd_9_2 ht) rfl [.ref (lk t 0)] (fun _ hr => ct_X4_copyFrom _ (lkd_9_2 ht) _ (lkd_9_0 ht) _ _ hr) ⟨Nat.le_of_ble_eq_true rfl, Nat.le_of_ble_eq_true rfl⟩ rfl (Nat.le_of_ble_eq_true rfl) rfl dX11_image_47 (fun s6 => ?_)
        refine x_aload_n C (pc := 50) dX11_image_50 rfl ?_
        refine x_iconst C (pc := 51) dX11_image_51 kc_i_1 ?_
        refine x_putZn C (pc := 52) fp_X11_316 (by decide +kernel) dX11_image_52 ht (fun s7 => ?_)
        exact Xo.done (fun h => Yx.weak (lw_n (lw_n lw_0)) h)
    refine x_iconst C (pc := 55) dX11_image_55 kc_i_1 ?_
    exact x_ret dX11_image_56 (fun h => h)
theorem ct_X11_image (t : Nat) (ht : kd t = 9) (a : Int32) (s0 : SS) (r : Int32) (s2 : SS) (h : FX11_image t a s0 = some (r, s2)) : CT 0 yX11_image cX11_image 2 (some .int) 3 60 [.ref t, .int a] s0 (some (.int r)) s2 :=
  ct_of (by decide +kernel) (Or.inr (Or.inl ⟨_, rfl, _, rfl, rfl⟩)) (lx_args [.ref t, .int a]) (lx_entry [.ref t, .int a] (fun _ => Nat.le_of_ble_eq_true rfl)) (fun o C hR => Yx.weak (lw_s (lw_s lw_0)) (bd_X11_image C t ht a s0 (r, s2) h hR))
def FX11_from (t : Nat) (a : Int32) (s0 : SS) : Option (Int32 × SS) :=
  bd (FX11_within a (nI 0) (nI 1) s0) (fun (r1 : Int32) => if r1 = 0 then bd2 (FX11_refuse t (-2 : Int32) s0) (fun (r2 : Int32) (s3 : SS) => some ((r2, s3))) else (bd (if a = 0 then some ((gI s0 t 3)) else (some ((gI s0 t 4)))) (fun (j4 : Int32) => nm j4 (fun (i5 : Int32) => if i5 = 0 then bd2 (FX11_refuse t (-3 : Int32) s0) (fun (r6 : Int32) (s7 : SS) => some ((r6, s7))) else (if a = 0 then bd (FX4_copyFrom (lk t 0) (lk t 1) s0) (fun (s8 : SS) => some (((nI 1), s8))) else (bd (FX4_copyFrom (lk t 0) (lk t 2) s0) (fun (s9 : SS) => some (((nI 1), s9)))))))))
set_option maxRecDepth 100000 in
set_option maxHeartbeats 4000000 in
theorem bd_X11_from {o : Om} (C : Cx o RX11 cX11_from 3 (some .int) (rmx 3 60) 0) (t : Nat) (ht : kd t = 9) (a : Int32) (s0 : SS) : Xo (FX11_from t a s0) (fun r => RT o cX11_from (some (.int r.1)) r.2) (Yx o 0 [some (.ref t), some (.int a), none] [] s0) := by
  unfold FX11_from
  refine x_iload_n C (pc := 0) dX11_from_0 rfl ?_
  refine x_iconst C (pc := 1) dX11_from_1 kc_i_0 ?_
  refine x_iconst C (pc := 2) dX11_from_2 kc_i_1 ?_
  refine x_callSi C (pc := 3) ms_X11_92 [.int a, .int (nI 0), .int (nI 1)] (fun _ hr => ct_X11_within _ _ _ _ _ hr) ⟨Nat.le_of_ble_eq_true rfl, Nat.le_of_ble_eq_true rfl⟩ rfl (Nat.le_of_ble_eq_true rfl) rfl dX11_from_3 (fun r1 => ?_)
  refine x_if_ne C (pc := 6) (tgt := 16) dX11_from_6 (by decide) (fun _ => ?_) (fun _ => ?_)
  · skip
    refine x_aload_n C (pc := 9) dX11_from_9 rfl ?_
    refine x_bipush C (pc := 10) dX11_from_10 kc_b_m2 ?_
    refine x_callVim C (pc := 12) mv_X11_96 ht rfl [.int (-2 : Int32)] (fun _ _ hr => ct_X11_refuse _ ht _ _ _ _ hr) ⟨Nat.le_of_ble_eq_true rfl, Nat.le_of_ble_eq_true rfl⟩ rfl (Nat.le_of_ble_eq_true rfl) rfl dX11_from_12 (fun r2 s3 => ?_)
    exact x_ret dX11_from_15 (fun h => h)
  · skip
    refine x_iload_n C (pc := 16) dX11_from_16 rfl ?_
    refine xb_1 (Z1 := fun j4 => Yx o 31 [some (.ref t), some (.int a), none] [.int j4] s0) ?_ (fun j4 => ?_)
    · skip
      refine x_if_ne C (pc := 17) (tgt := 27) dX11_from_17 (by decide) (fun _ => ?_) (fun _ => ?_)
      · skip
        refine x_aload_n C (pc := 20) dX11_from_20 rfl ?_
        refine x_getI C (pc := 21) fg_X11_312 dX11_from_21 ht ?_
        refine x_goto C (pc := 24) (tgt := 31) dX11_from_24 (by decide) ?_
        exact Xo.done (fun h => Yx.weak (lw_s (lw_s (lw_n lw_0))) h)
      · skip
        refine x_aload_n C (pc := 27) dX11_from_27 rfl ?_
        refine x_getI C (pc := 28) fg_X11_316 dX11_from_28 ht ?_
        exact Xo.done (fun h => Yx.weak (lw_s (lw_s (lw_n lw_0))) h)
    refine x_istore_n C (pc := 31) (L' := fun i5 => [some (.ref t), some (.int a), some (.int i5)]) dX11_from_31 (by decide) (fun _ => rfl) (fun i5 => ?_)
    refine x_iload_n C (pc := 32) dX11_from_32 rfl ?_
    refine x_if_ne C (pc := 33) (tgt := 43) dX11_from_33 (by decide) (fun _ => ?_) (fun _ => ?_)
    · skip
      refine x_aload_n C (pc := 36) dX11_from_36 rfl ?_
      refine x_bipush C (pc := 37) dX11_from_37 kc_b_m3 ?_
      refine x_callVim C (pc := 39) mv_X11_96 ht rfl [.int (-3 : Int32)] (fun _ _ hr => ct_X11_refuse _ ht _ _ _ _ hr) ⟨Nat.le_of_ble_eq_true rfl, Nat.le_of_ble_eq_true rfl⟩ rfl (Nat.le_of_ble_eq_true rfl) rfl dX11_from_39 (fun r6 s7 => ?_)
      exact x_ret dX11_from_42 (fun h => h)
    · skip
      refine x_aload_n C (pc := 43) dX11_from_43 rfl ?_
      refine x_getR C (pc := 44) fg_X11_12 dX11_from_44 ht ?_
      refine x_iload_n C (pc := 47) dX11_from_47 rfl ?_
      refine x_if_ne C (pc := 48) (tgt := 58) dX11_from_48 (by decide) (fun _ => ?_) (fun _ => ?_)
      · skip
        refine x_aload_n C (pc := 51) dX11_from_51 rfl ?_
        refine x_getR C (pc := 52) fg_X11_16 dX11_from_52 ht ?_
        refine x_goto C (pc := 55) (tgt := 62) dX11_from_55 (by decide) ?_
        refine x_callVv C (pc := 62) mv_X11_140 (lkd_9_0 ht) rfl [.ref (lk t 1)] (fun _ hr => ct_X4_copyFrom _ (lkd_9_0 ht) _ (lkd_9_1 ht) _ _ hr) ⟨Nat.le_of_ble_eq_true rfl, Nat.le_of_ble_eq_true rfl⟩ rfl (Nat.le_of_ble_eq_true rfl) rfl dX11_from_62 (fun s8 => ?_)
        refine x_iconst C (pc := 65) dX11_from_65 kc_i_1 ?_
        exact x_ret dX11_from_66 (fun h => h)
      · skip
        refine x_aload_n C (pc := 58) dX11_from_58 rfl ?_
        refine x_getR C (pc := 59) fg_X11_19 dX11_from_59 ht ?_
        refine x_callVv C (pc := 62) mv_X11_140 (lkd_9_0 ht) rfl [.ref (lk t 2)] (fun _ hr => ct_X4_copyFrom _ (lkd_9_0 ht) _ (lkd_9_2 ht) _ _ hr) ⟨Nat.le_of_ble_eq_true rfl, Nat.le_of_ble_eq_true rfl⟩ rfl (Nat.le_of_ble_eq_true rfl) rfl dX11_from_62 (fun s9 => ?_)
        refine x_iconst C (pc := 65) dX11_from_65 kc_i_1 ?_
        exact x_ret dX11_from_66 (fun h => h)
theorem ct_X11_from (t : Nat) (ht : kd t = 9) (a : Int32) (s0 : SS) (r : Int32) (s2 : SS) (h : FX11_from t a s0 = some (r, s2)) : CT 0 yX11_from cX11_from 3 (some .int) 3 60 [.ref t, .int a] s0 (some (.int r)) s2 :=
  ct_of (by decide +kernel) (Or.inr (Or.inl ⟨_, rfl, _, rfl, rfl⟩)) (lx_args [.ref t, .int a]) (lx_entry [.ref t, .int a] (fun _ => Nat.le_of_ble_eq_true rfl)) (fun o C hR => Yx.weak (lw_s (lw_s (lw_z lw_0))) (bd_X11_from C t ht a s0 (r, s2) h hR))
def FX11_status (t : Nat) (a : Int32) (s0 : SS) : Option (Int32 × SS) :=
  if a = (nI 0) then some (((gI s0 t 12), s0)) else (if a = (nI 1) then some (((gI s0 t 13), s0)) else (if a = (nI 2) then some (((gI s0 t 14), s0)) else (bd2 (FX11_refuse t (-2 : Int32) s0) (fun (r4 : Int32) (s5 : SS) => some (((-1 : Int32), s5))))))
set_option maxRecDepth 100000 in
set_option maxHeartbeats 4000000 in
theorem bd_X11_status {o : Om} (C : Cx o RX11 cX11_status 2 (some .int) (rmx 1 21) 0) (t : Nat) (ht : kd t = 9) (a : Int32) (s0 : SS) : Xo (FX11_status t a s0) (fun r => RT o cX11_status (some (.int r.1)) r.2) (Yx o 0 [some (.ref t), some (.int a)] [] s0) := by
  unfold FX11_status
  refine x_iload_n C (pc := 0) dX11_status_0 rfl ?_
  refine Xo.ite (fun hq1 => ?_) (fun hq1 => ?_)
  · refine x_tabI C (pc := 1) (tgt := 28) (off := 27) dX11_status_1 hq1 (by decide +kernel) (by decide +kernel) (by decide +kernel) (by decide) ?_
    refine x_aload_n C (pc := 28) dX11_status_28 rfl ?_
    refine x_getI C (pc := 29) fg_X11_319 dX11_status_29 ht ?_
    exact x_ret dX11_status_32 (fun h => h)
  refine Xo.ite (fun hq2 => ?_) (fun hq2 => ?_)
  · refine x_tabI C (pc := 1) (tgt := 33) (off := 32) dX11_status_1 hq2 (by decide +kernel) (by decide +kernel) (by decide +kernel) (by decide) ?_
    refine x_aload_n C (pc := 33) dX11_status_33 rfl ?_
    refine x_getI C (pc := 34) fg_X11_322 dX11_status_34 ht ?_
    exact x_ret dX11_status_37 (fun h => h)
  refine Xo.ite (fun hq3 => ?_) (fun hq3 => ?_)
  · refine x_tabI C (pc := 1) (tgt := 38) (off := 37) dX11_status_1 hq3 (by decide +kernel) (by decide +kernel) (by decide +kernel) (by decide) ?_
    refine x_aload_n C (pc := 38) dX11_status_38 rfl ?_
    refine x_getI C (pc := 39) fg_X11_325 dX11_status_39 ht ?_
    exact x_ret dX11_status_42 (fun h => h)
  have hT := tab_out (x := a) (lo := 0) (hi := 2) 3 (fun j hj => by
    rcases j with _ | j
    · exact lv_neT hq1 (by decide +kernel)
    rcases j with _ | j
    · exact lv_neT hq2 (by decide +kernel)
    rcases j with _ | j
    · exact lv_neT hq3 (by decide +kernel)
    exact absurd hj (by omega)) (by decide)
  refine x_tabO C (pc := 1) (tgt := 43) dX11_status_1 hT (by decide) ?_
  refine x_aload_n C (pc := 43) dX11_status_43 rfl ?_
  refine x_bipush C (pc := 44) dX11_status_44 kc_b_m2 ?_
  refine x_callVim C (pc := 46) mv_X11_96 ht rfl [.int (-2 : Int32)] (fun _ _ hr => ct_X11_refuse _ ht _ _ _ _ hr) ⟨Nat.le_of_ble_eq_true rfl, Nat.le_of_ble_eq_true rfl⟩ rfl (Nat.le_of_ble_eq_true rfl) rfl dX11_status_46 (fun r4 s5 => ?_)
  refine x_pop C (pc := 49) dX11_status_49 rfl ?_
  refine x_iconst C (pc := 50) dX11_status_50 kc_i_m1 ?_
  exact x_ret dX11_status_51 (fun h => h)
theorem ct_X11_status (t : Nat) (ht : kd t = 9) (a : Int32) (s0 : SS) (r : Int32) (s2 : SS) (h : FX11_status t a s0 = some (r, s2)) : CT 0 yX11_status cX11_status 2 (some .int) 1 21 [.ref t, .int a] s0 (some (.int r)) s2 :=
  ct_of (by decide +kernel) (Or.inr (Or.inl ⟨_, rfl, _, rfl, rfl⟩)) (lx_args [.ref t, .int a]) (lx_entry [.ref t, .int a] (fun _ => Nat.le_of_ble_eq_true rfl)) (fun o C hR => Yx.weak (lw_s (lw_s lw_0)) (bd_X11_status C t ht a s0 (r, s2) h hR))
def FX11_howMany (t : Nat) (a : Int32) (s0 : SS) : Option (Int32) :=
  if a = (nI 0) then some ((gI s0 (lk (lk t 0) 2) 3)) else (if a = (nI 1) then some ((gI s0 (lk (lk t 0) 3) 3)) else (if a = (nI 2) then some ((gI s0 (lk t 0) 8)) else (if a = (nI 3) then bd (FX4_duesOfAll (lk t 0) s0) (fun (r5 : Int32) => some (r5)) else (if a = (nI 4) then some ((gI s0 (lk t 0) 9)) else (if a = (nI 5) then some ((gI s0 (lk (lk t 0) 4) 3)) else (if a = (nI 6) then some ((gI s0 (lk (lk t 0) 5) 3)) else (if a = (nI 7) then some ((gI s0 (lk (lk t 0) 6) 3)) else (if a = (nI 8) then some ((gI s0 (lk (lk t 0) 7) 3)) else (if a = (nI 9) then some ((gI s0 (lk t 5) 1)) else (some ((nI 0))))))))))))
set_option maxRecDepth 100000 in
set_option maxHeartbeats 4000000 in
theorem bd_X11_howMany {o : Om} (C : Cx o RX11 cX11_howMany 2 (some .int) (rmx 3 65) 0) (t : Nat) (ht : kd t = 9) (a : Int32) (s0 : SS) : Xo (FX11_howMany t a s0) (fun r => RT o cX11_howMany (some (.int r)) s0) (Yx o 0 [some (.ref t), some (.int a)] [] s0) := by
  unfold FX11_howMany
  refine x_iload_n C (pc := 0) dX11_howMany_0 rfl ?_
  refine Xo.ite (fun hq1 => ?_) (fun hq1 => ?_)
  · refine x_tabI C (pc := 1) (tgt := 56) (off := 55) dX11_howMany_1 hq1 (by decide +kernel) (by decide +kernel) (by decide +kernel) (by decide) ?_
    refine x_aload_n C (pc := 56) dX11_howMany_56 rfl ?_
    refine x_getR C (pc := 57) fg_X11_12 dX11_howMany_57 ht ?_
    refine x_getR C (pc := 60) fg_X11_75 dX11_howMany_60 (lkd_9_0 ht) ?_
    refine x_getI C (pc := 63) fg_X11_79 dX11_howMany_63 (lkd_4_2 (lkd_9_0 ht)) ?_
    exact x_ret dX11_howMany_66 (fun h => h)
  refine Xo.ite (fun hq2 => ?_) (fun hq2 => ?_)
  · refine x_tabI C (pc := 1) (tgt := 67) (off := 66) dX11_howMany_1 hq2 (by decide +kernel) (by decide +kernel) (by decide +kernel) (by decide) ?_
    refine x_aload_n C (pc := 67) dX11_howMany_67 rfl ?_
    refine x_getR C (pc := 68) fg_X11_12 dX11_howMany_68 ht ?_
    refine x_getR C (pc := 71) fg_X11_154 dX11_howMany_71 (lkd_9_0 ht) ?_
    refine x_getI C (pc := 74) fg_X11_79 dX11_howMany_74 (lkd_4_3 (lkd_9_0 ht)) ?_
    exact x_ret dX11_howMany_77 (fun h => h)
  refine Xo.ite (fun hq3 => ?_) (fun hq3 => ?_)
  · refine x_tabI C (pc := 1) (tgt := 78) (off := 77) dX11_howMany_1 hq3 (by decide +kernel) (by decide +kernel) (by decide +kernel) (by decide) ?_
    refine x_aload_n C (pc := 78) dX11_howMany_78 rfl ?_
    refine x_getR C (pc := 79) fg_X11_12 dX11_howMany_79 ht ?_
    refine x_getI C (pc := 82) fg_X11_182 dX11_howMany_82 (lkd_9_0 ht) ?_
    exact x_ret dX11_howMany_85 (fun h => h)
  refine Xo.ite (fun hq4 => ?_) (fun hq4 => ?_)
  · refine x_tabI C (pc := 1) (tgt := 86) (off := 85) dX11_howMany_1 hq4 (by decide +kernel) (by decide +kernel) (by decide +kernel) (by decide) ?_
    refine x_aload_n C (pc := 86) dX11_howMany_86 rfl ?_
    refine x_getR C (pc := 87) fg_X11_12 dX11_howMany_87 ht ?_
    refine x_callVi C (pc := 90) mv_X11_339 (lkd_9_0 ht) rfl [] (fun _ hr => ct_X4_duesOfAll _ (lkd_9_0 ht) _ _ hr) ⟨Nat.le_of_ble_eq_true rfl, Nat.le_of_ble_eq_true rfl⟩ rfl (Nat.le_of_ble_eq_true rfl) rfl dX11_howMany_90 (fun r5 => ?_)
    exact x_ret dX11_howMany_93 (fun h => h)
  refine Xo.ite (fun hq6 => ?_) (fun hq6 => ?_)
  · refine x_tabI C (pc := 1) (tgt := 94) (off := 93) dX11_howMany_1 hq6 (by decide +kernel) (by decide +kernel) (by decide +kernel) (by decide) ?_
    refine x_aload_n C (pc := 94) dX11_howMany_94 rfl ?_
    refine x_getR C (pc := 95) fg_X11_12 dX11_howMany_95 ht ?_
    refine x_getI C (pc := 98) fg_X11_342 dX11_howMany_98 (lkd_9_0 ht) ?_
    exact x_ret dX11_howMany_101 (fun h => h)
  refine Xo.ite (fun hq7 => ?_) (fun hq7 => ?_)
  · refine x_tabI C (pc := 1) (tgt := 102) (off := 101) dX11_howMany_1 hq7 (by decide +kernel) (by decide +kernel) (by decide +kernel) (by decide) ?_
    refine x_aload_n C (pc := 102) dX11_howMany_102 rfl ?_
    refine x_getR C (pc := 103) fg_X11_12 dX11_howMany_103 ht ?_
    refine x_getR C (pc := 106) fg_X11_244 dX11_howMany_106 (lkd_9_0 ht) ?_
    refine x_getI C (pc := 109) fg_X11_79 dX11_howMany_109 (lkd_4_4 (lkd_9_0 ht)) ?_
    exact x_ret dX11_howMany_112 (fun h => h)
  refine Xo.ite (fun hq8 => ?_) (fun hq8 => ?_)
  · refine x_tabI C (pc := 1) (tgt := 113) (off := 112) dX11_howMany_1 hq8 (by decide +kernel) (by decide +kernel) (by decide +kernel) (by decide) ?_
    refine x_aload_n C (pc := 113) dX11_howMany_113 rfl ?_
    refine x_getR C (pc := 114) fg_X11_12 dX11_howMany_114 ht ?_
    refine x_getR C (pc := 117) fg_X11_262 dX11_howMany_117 (lkd_9_0 ht) ?_
    refine x_getI C (pc := 120) fg_X11_79 dX11_howMany_120 (lkd_4_5 (lkd_9_0 ht)) ?_
    exact x_ret dX11_howMany_123 (fun h => h)
  refine Xo.ite (fun hq9 => ?_) (fun hq9 => ?_)
  · refine x_tabI C (pc := 1) (tgt := 124) (off := 123) dX11_howMany_1 hq9 (by decide +kernel) (by decide +kernel) (by decide +kernel) (by decide) ?_
    refine x_aload_n C (pc := 124) dX11_howMany_124 rfl ?_
    refine x_getR C (pc := 125) fg_X11_12 dX11_howMany_125 ht ?_
    refine x_getR C (pc := 128) fg_X11_269 dX11_howMany_128 (lkd_9_0 ht) ?_
    refine x_getI C (pc := 131) fg_X11_79 dX11_howMany_131 (lkd_4_6 (lkd_9_0 ht)) ?_
    exact x_ret dX11_howMany_134 (fun h => h)
  refine Xo.ite (fun hq10 => ?_) (fun hq10 => ?_)
  · refine x_tabI C (pc := 1) (tgt := 135) (off := 134) dX11_howMany_1 hq10 (by decide +kernel) (by decide +kernel) (by decide +kernel) (by decide) ?_
    refine x_aload_n C (pc := 135) dX11_howMany_135 rfl ?_
    refine x_getR C (pc := 136) fg_X11_12 dX11_howMany_136 ht ?_
    refine x_getR C (pc := 139) fg_X11_176 dX11_howMany_139 (lkd_9_0 ht) ?_
    refine x_getI C (pc := 142) fg_X11_79 dX11_howMany_142 (lkd_4_7 (lkd_9_0 ht)) ?_
    exact x_ret dX11_howMany_145 (fun h => h)
  refine Xo.ite (fun hq11 => ?_) (fun hq11 => ?_)
  · refine x_tabI C (pc := 1) (tgt := 146) (off := 145) dX11_howMany_1 hq11 (by decide +kernel) (by decide +kernel) (by decide +kernel) (by decide) ?_
    refine x_aload_n C (pc := 146) dX11_howMany_146 rfl ?_
    refine x_getR C (pc := 147) fg_X11_25 dX11_howMany_147 ht ?_
    refine x_getI C (pc := 150) fg_X11_132 dX11_howMany_150 (lkd_9_5 ht) ?_
    exact x_ret dX11_howMany_153 (fun h => h)
  have hT := tab_out (x := a) (lo := 0) (hi := 9) 10 (fun j hj => by
    rcases j with _ | j
    · exact lv_neT hq1 (by decide +kernel)
    rcases j with _ | j
    · exact lv_neT hq2 (by decide +kernel)
    rcases j with _ | j
    · exact lv_neT hq3 (by decide +kernel)
    rcases j with _ | j
    · exact lv_neT hq4 (by decide +kernel)
    rcases j with _ | j
    · exact lv_neT hq6 (by decide +kernel)
    rcases j with _ | j
    · exact lv_neT hq7 (by decide +kernel)
    rcases j with _ | j
    · exact lv_neT hq8 (by decide +kernel)
    rcases j with _ | j
    · exact lv_neT hq9 (by decide +kernel)
    rcases j with _ | j
    · exact lv_neT hq10 (by decide +kernel)
    rcases j with _ | j
    · exact lv_neT hq11 (by decide +kernel)
    exact absurd hj (by omega)) (by decide)
  refine x_tabO C (pc := 1) (tgt := 154) dX11_howMany_1 hT (by decide) ?_
  refine x_iconst C (pc := 154) dX11_howMany_154 kc_i_0 ?_
  exact x_ret dX11_howMany_155 (fun h => h)
theorem ct_X11_howMany (t : Nat) (ht : kd t = 9) (a : Int32) (s0 : SS) (r : Int32) (h : FX11_howMany t a s0 = some r) : CT 0 yX11_howMany cX11_howMany 2 (some .int) 3 65 [.ref t, .int a] s0 (some (.int r)) s0 :=
  ct_of (by decide +kernel) (Or.inr (Or.inl ⟨_, rfl, _, rfl, rfl⟩)) (lx_args [.ref t, .int a]) (lx_entry [.ref t, .int a] (fun _ => Nat.le_of_ble_eq_true rfl)) (fun o C hR => Yx.weak (lw_s (lw_s lw_0)) (bd_X11_howMany C t ht a s0 r h hR))
def FX11_count (t : Nat) (a : Int32) (s0 : SS) : Option (Int32 × SS) :=
  bd (FX11_within a (nI 0) (nI 9) s0) (fun (r1 : Int32) => if r1 = 0 then bd2 (FX11_refuse t (-2 : Int32) s0) (fun (r2 : Int32) (s3 : SS) => some ((r2, s3))) else (bd (FX11_howMany t a s0) (fun (r4 : Int32) => some ((r4, s0)))))
set_option maxRecDepth 100000 in
set_option maxHeartbeats 4000000 in
theorem bd_X11_count {o : Om} (C : Cx o RX11 cX11_count 2 (some .int) (rmx 4 86) 0) (t : Nat) (ht : kd t = 9) (a : Int32) (s0 : SS) : Xo (FX11_count t a s0) (fun r => RT o cX11_count (some (.int r.1)) r.2) (Yx o 0 [some (.ref t), some (.int a)] [] s0) := by
  unfold FX11_count
  refine x_iload_n C (pc := 0) dX11_count_0 rfl ?_
  refine x_iconst C (pc := 1) dX11_count_1 kc_i_0 ?_
  refine x_bipush C (pc := 2) dX11_count_2 kc_b_9 ?_
  refine x_callSi C (pc := 4) ms_X11_92 [.int a, .int (nI 0), .int (nI 9)] (fun _ hr => ct_X11_within _ _ _ _ _ hr) ⟨Nat.le_of_ble_eq_true rfl, Nat.le_of_ble_eq_true rfl⟩ rfl (Nat.le_of_ble_eq_true rfl) rfl dX11_count_4 (fun r1 => ?_)
  refine x_if_eq C (pc := 7) (tgt := 18) dX11_count_7 (by decide) (fun _ => ?_) (fun _ => ?_)
  · skip
    refine x_aload_n C (pc := 18) dX11_count_18 rfl ?_
    refine x_bipush C (pc := 19) dX11_count_19 kc_b_m2 ?_
    refine x_callVim C (pc := 21) mv_X11_96 ht rfl [.int (-2 : Int32)] (fun _ _ hr => ct_X11_refuse _ ht _ _ _ _ hr) ⟨Nat.le_of_ble_eq_true rfl, Nat.le_of_ble_eq_true rfl⟩ rfl (Nat.le_of_ble_eq_true rfl) rfl dX11_count_21 (fun r2 s3 => ?_)
    exact x_ret dX11_count_24 (fun h => h)
  · skip
    refine x_aload_n C (pc := 10) dX11_count_10 rfl ?_
    refine x_iload_n C (pc := 11) dX11_count_11 rfl ?_
    refine x_callVi C (pc := 12) mv_X11_328 ht rfl [.int a] (fun _ hr => ct_X11_howMany _ ht _ _ _ hr) ⟨Nat.le_of_ble_eq_true rfl, Nat.le_of_ble_eq_true rfl⟩ rfl (Nat.le_of_ble_eq_true rfl) rfl dX11_count_12 (fun r4 => ?_)
    refine x_goto C (pc := 15) (tgt := 24) dX11_count_15 (by decide) ?_
    exact x_ret dX11_count_24 (fun h => h)
theorem ct_X11_count (t : Nat) (ht : kd t = 9) (a : Int32) (s0 : SS) (r : Int32) (s2 : SS) (h : FX11_count t a s0 = some (r, s2)) : CT 0 yX11_count cX11_count 2 (some .int) 4 86 [.ref t, .int a] s0 (some (.int r)) s2 :=
  ct_of (by decide +kernel) (Or.inr (Or.inl ⟨_, rfl, _, rfl, rfl⟩)) (lx_args [.ref t, .int a]) (lx_entry [.ref t, .int a] (fun _ => Nat.le_of_ble_eq_true rfl)) (fun o C hR => Yx.weak (lw_s (lw_s lw_0)) (bd_X11_count C t ht a s0 (r, s2) h hR))
def FX11_digest (t : Nat) (s0 : SS) : Option (Int64) :=
  nm (1493 : Int64) (fun (l1 : Int64) => nm (nI 0) (fun (i2 : Int32) => bd (lp FUEL (u2 (fun (m3 : Int64) (n4 : Int32) => if (nI 10) ≤ n4 then some (Sum.inr m3) else (bd (FX11_howMany t n4 s0) (fun (r5 : Int32) => nm (((31 : Int64) * m3) + (Int32.toInt64 r5)) (fun (l6 : Int64) => nm (n4 + (nI 1)) (fun (i7 : Int32) => some (Sum.inl (l6, i7)))))))) (l1, i2)) (fun (f8 : Int64) => nm (nI 0) (fun (i9 : Int32) => bd (lp FUEL (u2 (fun (m10 : Int64) (n11 : Int32) => if (nI 8) ≤ n11 then some (Sum.inr m10) else (gd (inb n11 (ln (lk (lk t 0) 0))) (nm (((31 : Int64) * m10) + (Int32.toInt64 (gI s0 (lk (lk t 0) 0) (Int32.toNatClampNeg n11)))) (fun (l12 : Int64) => gd (inb n11 (ln (lk (lk t 0) 1))) (nm (((31 : Int64) * l12) + (Int32.toInt64 (gI s0 (lk (lk t 0) 1) (Int32.toNatClampNeg n11)))) (fun (l13 : Int64) => nm (n11 + (nI 1)) (fun (i14 : Int32) => some (Sum.inl (l13, i14)))))))))) (f8, i9)) (fun (f15 : Int64) => bd (FX9_digestBehind (lk (lk t 0) 2) f15 s0) (fun (r16 : Int64) => nm r16 (fun (l17 : Int64) => bd (FX9_digestBehind (lk (lk t 0) 3) l17 s0) (fun (r18 : Int64) => nm r18 (fun (l19 : Int64) => bd (FX9_digestBehind (lk (lk t 0) 4) l19 s0) (fun (r20 : Int64) => nm r20 (fun (l21 : Int64) => bd (FX9_digestBehind (lk (lk t 0) 5) l21 s0) (fun (r22 : Int64) => nm r22 (fun (l23 : Int64) => bd (FX9_digestBehind (lk (lk t 0) 6) l23 s0) (fun (r24 : Int64) => nm r24 (fun (l25 : Int64) => nm (((31 : Int64) * l25) + (gL s0 (lk t 11) 0)) (fun (l26 : Int64) => some ((((31 : Int64) * l26) + (gL s0 (lk t 11) 1)))))))))))))))))))
set_option maxRecDepth 100000 in
set_option maxHeartbeats 4000000 in
theorem bd_X11_digest {o : Om} (C : Cx o RX11 cX11_digest 4 (some .long) (rmx 4 86) 0) (t : Nat) (ht : kd t = 9) (s0 : SS) : Xo (FX11_digest t s0) (fun r => RT o cX11_digest (some (.long r)) s0) (Yx o 0 [some (.ref t), none, none, none] [] s0) := by
  unfold FX11_digest
  refine x_ldc2 C (pc := 0) dX11_digest_0 cl_X11_331 ?_
  refine x_lstore_n C (pc := 3) (L' := fun l1 => [some (.ref t), some (.long l1), none, none]) dX11_digest_3 (by decide) (fun _ => rfl) (fun l1 => ?_)
  refine x_iconst C (pc := 4) dX11_digest_4 kc_i_0 ?_
  refine x_istore_n C (pc := 5) (L' := fun i2 => [some (.ref t), some (.long l1), none, some (.int i2)]) dX11_digest_5 (by decide) (fun _ => rfl) (fun i2 => ?_)
  refine xb_1 (Z1 := (fun f8 => Yx o 31 [some (.ref t), some (.long f8), none, none] [] s0)) ?_ (fun f8 => ?_)
  · refine Xo.mono (Yx.weak (lw_s (lw_s (lw_n (lw_s lw_0))))) (x_lp2 (fr := fun m3 n4 => Yx o 6 [some (.ref t), some (.long m3), none, some (.int n4)] [] s0) _ _ (fun m3 n4 => ?_))
    refine x_iload_n C (pc := 6) dX11_digest_6 rfl ?_
    refine x_bipush C (pc := 7) dX11_digest_7 kc_b_10 ?_
    refine x_icmp_ge C (pc := 9) (tgt := 31) dX11_digest_9 (by decide) (fun _ => ?_) (fun _ => ?_)
    · skip
      exact Xo.done (fun h => Yx.weak (lw_s (lw_s (lw_n (lw_n lw_0)))) h)
    · skip
      refine x_ldc2 C (pc := 12) dX11_digest_12 cl_X11_333 ?_
      refine x_lload_n C (pc := 15) dX11_digest_15 rfl ?_
      refine x_lmul C (pc := 16) dX11_digest_16 ?_
      refine x_aload_n C (pc := 17) dX11_digest_17 rfl ?_
      refine x_iload_n C (pc := 18) dX11_digest_18 rfl ?_
      refine x_callVi C (pc := 19) mv_X11_328 ht rfl [.int n4] (fun _ hr => ct_X11_howMany _ ht _ _ _ hr) ⟨Nat.le_of_ble_eq_true rfl, Nat.le_of_ble_eq_true rfl⟩ rfl (Nat.le_of_ble_eq_true rfl) rfl dX11_digest_19 (fun r5 => ?_)
      refine x_i2l C (pc := 22) dX11_digest_22 ?_
      refine x_ladd C (pc := 23) dX11_digest_23 ?_
      refine x_lstore_n C (pc := 24) (L' := fun l6 => [some (.ref t), some (.long l6), none, some (.int n4)]) dX11_digest_24 (by decide) (fun _ => rfl) (fun l6 => ?_)
      refine x_iinc C (pc := 25) (L' := fun i7 => [some (.ref t), some (.long l6), none, some (.int i7)]) dX11_digest_25 rfl kc_i_1 (by decide) (fun _ => rfl) (fun i7 => ?_)
      refine x_goto C (pc := 28) (tgt := 6) dX11_digest_28 (by decide) ?_
      exact Xo.done (fun h => Yx.weak (lw_s (lw_s (lw_n (lw_s lw_0)))) h)
  refine x_iconst C (pc := 31) dX11_digest_31 kc_i_0 ?_
  refine x_istore_n C (pc := 32) (L' := fun i9 => [some (.ref t), some (.long f8), none, some (.int i9)]) dX11_digest_32 (by decide) (fun _ => rfl) (fun i9 => ?_)
  refine xb_1 (Z1 := (fun f15 => Yx o 79 [some (.ref t), some (.long f15), none, none] [] s0)) ?_ (fun f15 => ?_)
  · refine Xo.mono (Yx.weak (lw_s (lw_s (lw_n (lw_s lw_0))))) (x_lp2 (fr := fun m10 n11 => Yx o 33 [some (.ref t), some (.long m10), none, some (.int n11)] [] s0) _ _ (fun m10 n11 => ?_))
    refine x_iload_n C (pc := 33) dX11_digest_33 rfl ?_
    refine x_bipush C (pc := 34) dX11_digest_34 kc_b_8 ?_
    refine x_icmp_ge C (pc := 36) (tgt := 79) dX11_digest_36 (by decide) (fun _ => ?_) (fun _ => ?_)
    · skip
      exact Xo.done (fun h => Yx.weak (lw_s (lw_s (lw_n (lw_n lw_0)))) h)
    · skip
      refine x_ldc2 C (pc := 39) dX11_digest_39 cl_X11_333 ?_
      refine x_lload_n C (pc := 42) dX11_digest_42 rfl ?_
      refine x_lmul C (pc := 43) dX11_digest_43 ?_
      refine x_aload_n C (pc := 44) dX11_digest_44 rfl ?_
      refine x_getR C (pc := 45) fg_X11_12 dX11_digest_45 ht ?_
      refine x_getR C (pc := 48) fg_X11_100 dX11_digest_48 (lkd_9_0 ht) ?_
      refine x_iload_n C (pc := 51) dX11_digest_51 rfl ?_
      refine x_iald C (pc := 52) dX11_digest_52 (lkd_4_0 (lkd_9_0 ht)) (fun _ => ?_)
      refine x_i2l C (pc := 53) dX11_digest_53 ?_
      refine x_ladd C (pc := 54) dX11_digest_54 ?_
      refine x_lstore_n C (pc := 55) (L' := fun l12 => [some (.ref t), some (.long l12), none, some (.int n11)]) dX11_digest_55 (by decide) (fun _ => rfl) (fun l12 => ?_)
      refine x_ldc2 C (pc := 56) dX11_digest_56 cl_X11_333 ?_
      refine x_lload_n C (pc := 59) dX11_digest_59 rfl ?_
      refine x_lmul C (pc := 60) dX11_digest_60 ?_
      refine x_aload_n C (pc := 61) dX11_digest_61 rfl ?_
      refine x_getR C (pc := 62) fg_X11_12 dX11_digest_62 ht ?_
      refine x_getR C (pc := 65) fg_X11_104 dX11_digest_65 (lkd_9_0 ht) ?_
      refine x_iload_n C (pc := 68) dX11_digest_68 rfl ?_
      refine x_iald C (pc := 69) dX11_digest_69 (lkd_4_1 (lkd_9_0 ht)) (fun _ => ?_)
      refine x_i2l C (pc := 70) dX11_digest_70 ?_
      refine x_ladd C (pc := 71) dX11_digest_71 ?_
      refine x_lstore_n C (pc := 72) (L' := fun l13 => [some (.ref t), some (.long l13), none, some (.int n11)]) dX11_digest_72 (by decide) (fun _ => rfl) (fun l13 => ?_)
      refine x_iinc C (pc := 73) (L' := fun i14 => [some (.ref t), some (.long l13), none, some (.int i14)]) dX11_digest_73 rfl kc_i_1 (by decide) (fun _ => rfl) (fun i14 => ?_)
      refine x_goto C (pc := 76) (tgt := 33) dX11_digest_76 (by decide) ?_
      exact Xo.done (fun h => Yx.weak (lw_s (lw_s (lw_n (lw_s lw_0)))) h)
  refine x_aload_n C (pc := 79) dX11_digest_79 rfl ?_
  refine x_getR C (pc := 80) fg_X11_12 dX11_digest_80 ht ?_
  refine x_getR C (pc := 83) fg_X11_75 dX11_digest_83 (lkd_9_0 ht) ?_
  refine x_lload_n C (pc := 86) dX11_digest_86 rfl ?_
  refine x_callVl C (pc := 87) mv_X11_335 (lkd_4_2 (lkd_9_0 ht)) rfl [.long f15] (fun _ hr => ct_X9_digestBehind _ (lkd_4_2 (lkd_9_0 ht)) _ _ _ hr) ⟨Nat.le_of_ble_eq_true rfl, Nat.le_of_ble_eq_true rfl⟩ rfl (Nat.le_of_ble_eq_true rfl) rfl dX11_digest_87 (fun r16 => ?_)
  refine x_lstore_n C (pc := 90) (L' := fun l17 => [some (.ref t), some (.long l17), none, none]) dX11_digest_90 (by decide) (fun _ => rfl) (fun l17 => ?_)
  refine x_aload_n C (pc := 91) dX11_digest_91 rfl ?_
  refine x_getR C (pc := 92) fg_X11_12 dX11_digest_92 ht ?_
  refine x_getR C (pc := 95) fg_X11_154 dX11_digest_95 (lkd_9_0 ht) ?_
  refine x_lload_n C (pc := 98) dX11_digest_98 rfl ?_
  refine x_callVl C (pc := 99) mv_X11_335 (lkd_4_3 (lkd_9_0 ht)) rfl [.long l17] (fun _ hr => ct_X9_digestBehind _ (lkd_4_3 (lkd_9_0 ht)) _ _ _ hr) ⟨Nat.le_of_ble_eq_true rfl, Nat.le_of_ble_eq_true rfl⟩ rfl (Nat.le_of_ble_eq_true rfl) rfl dX11_digest_99 (fun r18 => ?_)
  refine x_lstore_n C (pc := 102) (L' := fun l19 => [some (.ref t), some (.long l19), none, none]) dX11_digest_102 (by decide) (fun _ => rfl) (fun l19 => ?_)
  refine x_aload_n C (pc := 103) dX11_digest_103 rfl ?_
  refine x_getR C (pc := 104) fg_X11_12 dX11_digest_104 ht ?_
  refine x_getR C (pc := 107) fg_X11_244 dX11_digest_107 (lkd_9_0 ht) ?_
  refine x_lload_n C (pc := 110) dX11_digest_110 rfl ?_
  refine x_callVl C (pc := 111) mv_X11_335 (lkd_4_4 (lkd_9_0 ht)) rfl [.long l19] (fun _ hr => ct_X9_digestBehind _ (lkd_4_4 (lkd_9_0 ht)) _ _ _ hr) ⟨Nat.le_of_ble_eq_true rfl, Nat.le_of_ble_eq_true rfl⟩ rfl (Nat.le_of_ble_eq_true rfl) rfl dX11_digest_111 (fun r20 => ?_)
  refine x_lstore_n C (pc := 114) (L' := fun l21 => [some (.ref t), some (.long l21), none, none]) dX11_digest_114 (by decide) (fun _ => rfl) (fun l21 => ?_)
  refine x_aload_n C (pc := 115) dX11_digest_115 rfl ?_
  refine x_getR C (pc := 116) fg_X11_12 dX11_digest_116 ht ?_
  refine x_getR C (pc := 119) fg_X11_262 dX11_digest_119 (lkd_9_0 ht) ?_
  refine x_lload_n C (pc := 122) dX11_digest_122 rfl ?_
  refine x_callVl C (pc := 123) mv_X11_335 (lkd_4_5 (lkd_9_0 ht)) rfl [.long l21] (fun _ hr => ct_X9_digestBehind _ (lkd_4_5 (lkd_9_0 ht)) _ _ _ hr) ⟨Nat.le_of_ble_eq_true rfl, Nat.le_of_ble_eq_true rfl⟩ rfl (Nat.le_of_ble_eq_true rfl) rfl dX11_digest_123 (fun r22 => ?_)
  refine x_lstore_n C (pc := 126) (L' := fun l23 => [some (.ref t), some (.long l23), none, none]) dX11_digest_126 (by decide) (fun _ => rfl) (fun l23 => ?_)
  refine x_aload_n C (pc := 127) dX11_digest_127 rfl ?_
  refine x_getR C (pc := 128) fg_X11_12 dX11_digest_128 ht ?_
  refine x_getR C (pc := 131) fg_X11_269 dX11_digest_131 (lkd_9_0 ht) ?_
  refine x_lload_n C (pc := 134) dX11_digest_134 rfl ?_
  refine x_callVl C (pc := 135) mv_X11_335 (lkd_4_6 (lkd_9_0 ht)) rfl [.long l23] (fun _ hr => ct_X9_digestBehind _ (lkd_4_6 (lkd_9_0 ht)) _ _ _ hr) ⟨Nat.le_of_ble_eq_true rfl, Nat.le_of_ble_eq_true rfl⟩ rfl (Nat.le_of_ble_eq_true rfl) rfl dX11_digest_135 (fun r24 => ?_)
  refine x_lstore_n C (pc := 138) (L' := fun l25 => [some (.ref t), some (.long l25), none, none]) dX11_digest_138 (by decide) (fun _ => rfl) (fun l25 => ?_)
  refine x_ldc2 C (pc := 139) dX11_digest_139 cl_X11_333 ?_
  refine x_lload_n C (pc := 142) dX11_digest_142 rfl ?_
  refine x_lmul C (pc := 143) dX11_digest_143 ?_
  refine x_aload_n C (pc := 144) dX11_digest_144 rfl ?_
  refine x_getR C (pc := 145) fg_X11_71 dX11_digest_145 ht ?_
  refine x_getL C (pc := 148) fg_X11_305 dX11_digest_148 (lkd_9_11 ht) ?_
  refine x_ladd C (pc := 151) dX11_digest_151 ?_
  refine x_lstore_n C (pc := 152) (L' := fun l26 => [some (.ref t), some (.long l26), none, none]) dX11_digest_152 (by decide) (fun _ => rfl) (fun l26 => ?_)
  refine x_ldc2 C (pc := 153) dX11_digest_153 cl_X11_333 ?_
  refine x_lload_n C (pc := 156) dX11_digest_156 rfl ?_
  refine x_lmul C (pc := 157) dX11_digest_157 ?_
  refine x_aload_n C (pc := 158) dX11_digest_158 rfl ?_
  refine x_getR C (pc := 159) fg_X11_71 dX11_digest_159 ht ?_
  refine x_getL C (pc := 162) fg_X11_309 dX11_digest_162 (lkd_9_11 ht) ?_
  refine x_ladd C (pc := 165) dX11_digest_165 ?_
  exact x_lret dX11_digest_166 (fun h => h)
theorem ct_X11_digest (t : Nat) (ht : kd t = 9) (s0 : SS) (r : Int64) (h : FX11_digest t s0 = some r) : CT 0 yX11_digest cX11_digest 4 (some .long) 4 86 [.ref t] s0 (some (.long r)) s0 :=
  ct_of (by decide +kernel) (Or.inr (Or.inr ⟨_, rfl, rfl⟩)) (lx_args [.ref t]) (lx_entry [.ref t] (fun _ => Nat.le_of_ble_eq_true rfl)) (fun o C hR => Yx.weak (lw_s (lw_z (lw_z (lw_z lw_0)))) (bd_X11_digest C t ht s0 r h hR))
