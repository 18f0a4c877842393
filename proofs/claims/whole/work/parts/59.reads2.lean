/-! ===== a suit, hours, winds ===== -/
section DL
variable {σx σm s1 s2 : SS} {T : Nat → Nat} {nl : Nat}
/-- where nothing more is read, the users counted between -/
theorem tailS {a1 a2 a3 : Int32} {F : SS} {k : Int32 → Int32 → SS → Option SS} (hf : ¬ gI F 78 13 = (-1 : Int32)) : bd2 (FX12_number 78 a1 a2 F) (fun r4 s5 => gd (inb (nI 16) 378) (bd2 (FX12_number 78 a3 ((gI s5 80 (Int32.toNatClampNeg (nI 16))) - (nI 1)) s5) (fun r7 s8 => bd (FX12_end 78 s8) (fun s10 => if gI s10 78 13 = (-1 : Int32) then k r4 r7 s10 else some s10)))) = some F := by
  rw [num_f hf, bd2_s, gd_n (by omega) (by omega), num_f hf, bd2_s, end_f hf, bd_s, if_neg hf]
theorem tailS_0 {a1 a2 a3 : Int32} {tok : Int32} {st nt : Nat} {k : Int32 → Int32 → SS → Option SS} (hn : nl ≤ 150) (hK : TK nl s1 s2 tok st nt) (hw : wi tok a1 a2 = 0) : bd2 (FX12_number 78 a1 a2 s2) (fun r4 s5 => gd (inb (nI 16) 378) (bd2 (FX12_number 78 a3 ((gI s5 80 (Int32.toNatClampNeg (nI 16))) - (nI 1)) s5) (fun r7 s8 => bd (FX12_end 78 s8) (fun s10 => if gI s10 78 13 = (-1 : Int32) then k r4 r7 s10 else some s10)))) = some (pI s2 78 13 (nI st)) := by
  have hf := flt_f hn hK
  rw [num_bad hn hK hw, bd2_s, gd_n (by omega) (by omega), num_f hf, bd2_s, end_f hf, bd_s, if_neg hf]
set_option maxHeartbeats 1000000 in
theorem suit_i {tok : Int32} {st nt : Nat} (hW : WV σx σm T nl s1 s2) (hK : TK nl s1 s2 tok st nt) (ht : ¬ tok = (-1 : Int32)) (hI : IVx s1 s2) : Two (FX7_readSuit 52 s1) (FX12_readSuit 78 s2) (fun y1 s2' => EN σx σm T nl nt y1 s2') := by
  obtain ⟨nu, ns, hr, hIR, hbd⟩ := hI
  have hnl := hW.1.1
  have hu7 := hIR.1.1
  have hs5 := hIR.1.2.1
  unfold FX7_readSuit FX12_readSuit
  simp only [nm_eq, lk_52_2, lk_53_2, lk_53_3, lk_78_1, ln_80]
  refine tw_bdx (isFull_eq 58 s1 hIR.2.2.1.2.1 hW.2.1.2.1.2 (by omega) (by omega)) (tw_gm (inb_n (by omega) (by omega)) ?_)
  rw [ix_n (n := 45) (by omega), hIR.2.1.2.1]
  by_cases hf : ns < 5
  rotate_left
  · rw [if_neg hf, if_neg n1_0, if_pos ((nI_le_iff (by omega) (by omega)).mpr (by omega)), bd_s, bd_of (must_0 hK.2.2.2.2.2.2.2.2 hK.2.2.1), bd_of (go_f (flt_f hnl hK)), tailS (flt_f hnl hK)]
    exact tw_some (en_bad hW hK)
  rw [if_pos hf, if_pos rfl, if_neg (fun hq => by have := le_of_nI hq (by omega) (by omega); omega), bd_s, must_1, bd_s]
  obtain ⟨m1, e1, hN1, hL1⟩ := go_la hW hK ht
  have hW1 := hW.m hN1
  have hI1 := IV.m ⟨hIR, hbd⟩ hN1
  rw [bd_of e1, show (0 : Int32) = nI 0 from zI]
  obtain ⟨c1, tk1, st1, nt1, f1, g1, hK1, p1, q1⟩ := goes_x hL1 (lo := 0) (hi := nI 5) (by omega) (le_99 (by omega))
  have hW2 := hW1.x g1
  have hI2 := hI1.x g1
  refine tw_bd2x f1 ?_
  by_cases hw1 : wi tk1 (nI 0) (nI 5) = 0
  · rw [hw1, zI, if_pos rfl, tailS_0 hnl hK1 hw1]
    exact tw_some (en_bad hW2 hK1)
  obtain ⟨v1, n1z⟩ := q1 hw1
  obtain ⟨kk, -, hk5, rfl⟩ := wi_in (by omega) (by omega) hw1
  obtain ⟨m2, e2, hN2, hL2⟩ := num_ok hW2 hK1 n1z hw1
  have hW3 := hW2.m hN2
  have hI3 := hI2.m hN2
  rw [wi_1 hw1, if_neg (by rw [← zI]; exact n1_0), v1, bd2_of e2, ix_n (n := 16) (by omega), hI3.1.2.1.1, hI3.1.2.2.1.1]
  obtain ⟨c2, tk2, st2, nt2, f2, g2, hK2, p2, q2⟩ := goes_x hL2 (lo := 0) (hi := nI nu - nI 1) (by omega) (cnt_99 hu7)
  have hW4 := hW3.x g2
  have hI4 := hI3.x g2
  refine tw_bd2x f2 (tw_gm (inb_n (by omega) (by omega)) ?_)
  by_cases hw2 : wi tk2 (nI 0) (nI nu - nI 1) = 0
  · rw [hw2, zI, if_pos rfl, bd2_of (num_bad hnl hK2 hw2), tail0 (flt_f hnl hK2)]
    exact tw_some (en_bad hW4 hK2)
  obtain ⟨v2, n2z⟩ := q2 hw2
  obtain ⟨uu, huu, rfl⟩ := wi_cnt (by omega) hw2
  obtain ⟨m3, e3, hN3, hL3⟩ := num_ok hW4 hK2 n2z hw2
  have hW5 := hW4.m hN3
  have hI5 := hI4.m hN3
  rw [wi_1 hw2, if_neg (by rw [← zI]; exact n1_0), v2, bd2_of e3]
  -- the suit is filed
  obtain ⟨c4, -, a1, -, a2, -, a3, -⟩ := file_both (kk := kk) (uu := uu) kd_53 ln_80 hW5.2.1 hI5.1 hf hk5 huu
  have a2' : Eq0 (fun c => 53 ≤ c ∧ c ≤ 67 ∨ Q3 c) c2 c4 := a2.up (fun c hq => Or.inl (by omega))
  have hW6 := hW5.isl a2' a3
  refine tw_bd2x a1 ?_
  obtain ⟨c5, tk4, st4, nt4, f4, g4, hK4, p4⟩ := stops_x (hL3.isl a2')
  have hW7 := hW6.x g4
  refine tw_bd2x f4 ?_
  by_cases h200 : tk4 = nI 200
  rotate_left
  · rw [if_neg h200, gd_of zb_0, bd_of (end_bad hnl hK4 h200), if_neg (flt_f hnl hK4)]
    exact tw_some (en_bad hW7 hK4)
  obtain ⟨m5, e5, hN5, hL5⟩ := end_ok hW7 hK4 h200
  obtain ⟨c4b, m6, b1, b2, b3, b4, b5, b6, b7, b8⟩ := file_both (σm := m5) (kk := kk) (uu := uu) kd_53 ln_80 hW5.2.1 (hI5.m hN5).1 hf hk5 huu
  have ez : c4b = c4 := (Prod.mk.inj (Option.some.inj (b1.symm.trans a1))).2
  subst ez
  have b4' : Eq0 (Pm 80) m5 m6 := b4.up (fun c hq => Or.inl hq)
  have h13 : gI m5 78 13 = (-1 : Int32) := hL5.2.2.2.1
  have l1 := la_tk n1z hK1 p1
  have l2 := la_tk n2z hK2 p2
  have l4 := la_tk (by rw [h200]; exact m1_n (by omega)) hK4 p4
  rw [if_pos h200, gd_of zb_1, bd_of e5, if_pos h13, bd_of b2]
  exact tw_some ⟨(hW7.m hN5).row b4', Or.inr ⟨rfl, ⟨nu, ns + 1, hr, IV.x ⟨b7, b8 (hI5.m hN5).2⟩ g4⟩, nt4, by omega, hL5.row b4'⟩⟩
set_option maxHeartbeats 1000000 in
theorem hours_i {tok : Int32} {st nt : Nat} (hW : WV σx σm T nl s1 s2) (hK : TK nl s1 s2 tok st nt) (ht : ¬ tok = (-1 : Int32)) (hI : IVx s1 s2) : Two (FX7_readHours 52 s1) (FX12_readHours 78 s2) (fun y1 s2' => EN σx σm T nl nt y1 s2') := by
  obtain ⟨nu, ns, hr, hIR, hbd⟩ := hI
  have hnl := hW.1.1
  unfold FX7_readHours FX12_readHours
  simp only [nm_eq, lk_52_2, lk_52_1, lk_78_1]
  obtain ⟨m1, e1, hN1, hL1⟩ := next_la hW hK ht
  have hW1 := hW.m hN1
  have hI1 := IV.m ⟨hIR, hbd⟩ hN1
  rw [show (0 : Int32) = nI 0 from zI]
  obtain ⟨c1, tk1, st1, nt1, f1, g1, hK1, p1, q1⟩ := goes_x hL1 (lo := 1) (hi := nI 99) (by omega) (le_99 (by omega))
  have hW2 := hW1.x g1
  have hI2 := hI1.x g1
  refine tw_bd2x f1 (tw_bdm e1 ?_)
  by_cases hw1 : wi tk1 (nI 1) (nI 99) = 0
  · rw [hw1, zI, if_pos rfl, bd2_of (num_bad hnl hK1 hw1), tail0 (flt_f hnl hK1)]
    exact tw_some (en_bad hW2 hK1)
  obtain ⟨v1, n1z⟩ := q1 hw1
  obtain ⟨mh, -, hm99, rfl⟩ := wi_in (by omega) (by omega) hw1
  obtain ⟨m2, e2, hN2, hL2⟩ := num_ok hW2 hK1 n1z hw1
  have hW3 := hW2.m hN2
  have hI3 := hI2.m hN2
  rw [wi_1 hw1, if_neg (by rw [← zI]; exact n1_0), v1, bd2_of e2]
  obtain ⟨acc, c4, -, -, a1, -, a2, -, a3, -⟩ := hours_both (mh := mh) kd_53 (Or.inr rfl) hm99 hW3.2.1 hI3.1
  have a2' : Eq0 (fun c => 53 ≤ c ∧ c ≤ 67 ∨ Q3 c) c1 c4 := a2.up (fun c hq => by rcases hq with hq | hq | hq; exact Or.inl (by omega); exact Or.inl (by omega); exact Or.inr hq)
  have hW4 := hW3.isl a2' a3
  refine tw_bd2x a1 ?_
  obtain ⟨c5, tk4, st4, nt4, f4, g4, hK4, p4⟩ := stops_x (hL2.isl a2')
  have hW5 := hW4.x g4
  refine tw_bd2x f4 ?_
  by_cases h200 : tk4 = nI 200
  rotate_left
  · rw [if_neg h200, gd_of zb_0, bd_of (end_bad hnl hK4 h200), if_neg (flt_f hnl hK4)]
    exact tw_some (en_bad hW5 hK4)
  obtain ⟨m5, e5, hN5, hL5⟩ := end_ok hW5 hK4 h200
  obtain ⟨acc2, c4b, m6, h2z, b1, b2, b3, b4, b5, b6, b7, b8⟩ := hours_both (σm := m5) (mh := mh) kd_53 (Or.inr rfl) hm99 hW3.2.1 (hI3.m hN5).1
  have ez : c4b = c4 := (Prod.mk.inj (Option.some.inj (b1.symm.trans a1))).2
  subst ez
  have h13 : gI m5 78 13 = (-1 : Int32) := hL5.2.2.2.1
  have l1 := la_tk n1z hK1 p1
  have l4 := la_tk (by rw [h200]; exact m1_n (by omega)) hK4 p4
  rw [if_pos h200, gd_of zb_1, bd_of e5, if_pos h13, bd2_of b2]
  exact tw_some ⟨(hW5.m hN5).row b4, Or.inr ⟨rfl, ⟨nu, ns, h2z, IV.x ⟨b7, b8 (hI3.m hN5).2⟩ g4⟩, nt4, by omega, hL5.row b4⟩⟩
end DL
