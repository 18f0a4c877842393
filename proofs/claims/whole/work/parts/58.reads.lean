/-! ===== the items: a user, a suit, hours ===== -/
section DK
variable {σx σm s1 s2 : SS} {T : Nat → Nat} {nl : Nat}
theorem upd_self {f : Nat → Int32} {k : Nat} {v : Int32} (h : f k = v) : upd f k v = f := by
  funext j
  rw [upd_ap]
  by_cases hq : j = k
  · rw [if_pos hq, hq, h]
  · rw [if_neg hq]
theorem WV.isl {s1' : SS} (h : WV σx σm T nl s1 s2) (g : Eq0 (fun c => 53 ≤ c ∧ c ≤ 67 ∨ Q3 c) s1 s1') (hT : TCw 53 s1') : WV σx σm T nl s1' s2 := by
  refine ⟨h.1.x (g.1 46 (fun hq => ?_)) (g.1 47 (fun hq => ?_)), hT, h.2.2.1.tr (g.up (fun c hq => Or.inr hq)), h.2.2.2.1, h.2.2.2.2⟩
  · rcases hq with hq | hq | hq | hq <;> omega
  · rcases hq with hq | hq | hq | hq <;> omega
theorem WV.row {s2' : SS} (h : WV σx σm T nl s1 s2) (g : Eq0 (Pm 80) s2 s2') : WV σx σm T nl s1 s2' := by
  refine ⟨h.1.m ?_ ?_, h.2.1, h.2.2.1, h.2.2.2.1.tr (g.up (fun c hq => Or.inr hq)), ?_⟩
  · rw [g.1 78 (fun hq => by rcases hq with hq | hq | hq | hq <;> omega)]
  · rw [g.1 87 (fun hq => by rcases hq with hq | hq | hq | hq <;> omega)]
  · rw [g.2 78 (fun hq => by rcases hq with hq | hq | hq | hq <;> omega)]; exact h.2.2.2.2
theorem LA.isl {s1' : SS} {pp : Nat} (h : LA T nl pp s1 s2) (g : Eq0 (fun c => 53 ≤ c ∧ c ≤ 67 ∨ Q3 c) s1 s1') : LA T nl pp s1' s2 :=
  h.x (g.1 46 (fun hq => by rcases hq with hq | hq | hq | hq <;> omega)) (g.1 47 (fun hq => by rcases hq with hq | hq | hq | hq <;> omega)) (g.1 52 (fun hq => by rcases hq with hq | hq | hq | hq <;> omega))
theorem LA.row {s2' : SS} {pp : Nat} (h : LA T nl pp s1 s2) (g : Eq0 (Pm 80) s2 s2') : LA T nl pp s1 s2' :=
  h.m (g.1 78 (fun hq => by rcases hq with hq | hq | hq | hq <;> omega)) (g.1 87 (fun hq => by rcases hq with hq | hq | hq | hq <;> omega))
theorem wi_1 {a b c : Int32} (h : ¬ wi a b c = 0) : wi a b c = nI 1 := (wi_01 a b c).resolve_left h
/-- where nothing more is read -/
theorem tail3 {a1 a2 a3 a4 a5 a6 : Int32} {F : SS} {k : Int32 → Int32 → Int32 → SS → Option SS} (hf : ¬ gI F 78 13 = (-1 : Int32)) : bd2 (FX12_number 78 a1 a2 F) (fun r4 s5 => bd2 (FX12_number 78 a3 a4 s5) (fun r7 s8 => bd2 (FX12_number 78 a5 a6 s8) (fun r10 s11 => bd (FX12_end 78 s11) (fun s13 => if gI s13 78 13 = (-1 : Int32) then k r4 r7 r10 s13 else some s13)))) = some F := by
  rw [num_f hf, bd2_s, num_f hf, bd2_s, num_f hf, bd2_s, end_f hf, bd_s, if_neg hf]
theorem tail2 {a3 a4 a5 a6 : Int32} {F : SS} {k : Int32 → Int32 → SS → Option SS} (hf : ¬ gI F 78 13 = (-1 : Int32)) : bd2 (FX12_number 78 a3 a4 F) (fun r7 s8 => bd2 (FX12_number 78 a5 a6 s8) (fun r10 s11 => bd (FX12_end 78 s11) (fun s13 => if gI s13 78 13 = (-1 : Int32) then k r7 r10 s13 else some s13))) = some F := by
  rw [num_f hf, bd2_s, num_f hf, bd2_s, end_f hf, bd_s, if_neg hf]
theorem tail1 {a5 a6 : Int32} {F : SS} {k : Int32 → SS → Option SS} (hf : ¬ gI F 78 13 = (-1 : Int32)) : bd2 (FX12_number 78 a5 a6 F) (fun r10 s11 => bd (FX12_end 78 s11) (fun s13 => if gI s13 78 13 = (-1 : Int32) then k r10 s13 else some s13)) = some F := by
  rw [num_f hf, bd2_s, end_f hf, bd_s, if_neg hf]
theorem tail0 {F : SS} {k : SS → Option SS} (hf : ¬ gI F 78 13 = (-1 : Int32)) : bd (FX12_end 78 F) (fun s13 => if gI s13 78 13 = (-1 : Int32) then k s13 else some s13) = some F := by
  rw [end_f hf, bd_s, if_neg hf]
theorem flt_f {st nt : Nat} {tok : Int32} (hn : nl ≤ 150) (hK : TK nl s1 s2 tok st nt) : ¬ gI (pI s2 78 13 (nI st)) 78 13 = (-1 : Int32) := flt_ne (by have := hK.1; omega)
theorem le_99 {nn : Nat} (h : nn ≤ 99) : nI nn ≤ nI 99 := (nI_le_iff (by omega) (by omega)).mpr h
theorem cnt_99 {nn : Nat} (h : nn ≤ 7) : nI nn - nI 1 ≤ nI 99 := by
  rcases Nat.eq_zero_or_pos nn with hz | hz
  · subst hz; decide +kernel
  · rw [nI_subn hz]; exact le_99 (by omega)
theorem la_tk {pp : Nat} {s1' : SS} {tok : Int32} {st nt : Nat} (hn : ¬ tok = (-1 : Int32)) (hK : TK nl s1' s2 tok st nt) (h : pp ≤ st) : pp ≤ nt := by
  have := (hK.2.2.2.2.2.2.1 hn).1
  omega
set_option maxHeartbeats 1000000 in
theorem user_i {tok : Int32} {st nt : Nat} (hW : WV σx σm T nl s1 s2) (hK : TK nl s1 s2 tok st nt) (ht : ¬ tok = (-1 : Int32)) (hI : IVx s1 s2) : Two (FX7_readUser 52 s1) (FX12_readUser 78 s2) (fun y1 s2' => EN σx σm T nl nt y1 s2') := by
  obtain ⟨nu, ns, hr, hIR, hbd⟩ := hI
  have hnl := hW.1.1
  have hu7 := hIR.1.1
  unfold FX7_readUser FX12_readUser
  simp only [nm_eq, lk_52_2, lk_53_2, lk_78_1, ln_80]
  refine tw_bdx (isFull_eq 56 s1 hIR.2.2.1.1 hW.2.1.1.2 (by omega) (by omega)) (tw_gm (inb_n (by omega) (by omega)) ?_)
  rw [ix_n (by omega), hIR.2.1.1]
  by_cases hf : nu < 7
  rotate_left
  · -- no room for one more
    rw [if_neg hf, if_neg n1_0, if_pos ((nI_le_iff (by omega) (by omega)).mpr (by omega)), bd_s, bd_of (must_0 hK.2.2.2.2.2.2.2.2 hK.2.2.1), bd_of (go_f (flt_f hnl hK)), tail3 (flt_f hnl hK)]
    exact tw_some (en_bad hW hK)
  rw [if_pos hf, if_pos rfl, if_neg (fun hq => by have := le_of_nI hq (by omega) (by omega); omega), bd_s, must_1, bd_s]
  obtain ⟨m1, e1, hN1, hL1⟩ := go_la hW hK ht
  have hW1 := hW.m hN1
  have hI1 := IV.m ⟨hIR, hbd⟩ hN1
  rw [bd_of e1, show (0 : Int32) = nI 0 from zI]
  obtain ⟨c1, tk1, st1, nt1, f1, g1, hK1, p1, q1⟩ := goes_x hL1 (lo := 0) (hi := nI 5) (by omega) (le_99 (by omega))
  have hW2 := hW1.x g1
  have hI2 := hI1.x g1
  refine tw_bd2x f1 ?_
  by_cases hw1 : wi tk1 (nI 0) (nI 5) = 0
  · rw [hw1, zI, if_pos rfl, bd2_of (num_bad hnl hK1 hw1), tail2 (flt_f hnl hK1)]
    exact tw_some (en_bad hW2 hK1)
  obtain ⟨v1, n1z⟩ := q1 hw1
  obtain ⟨kk, -, hk5, rfl⟩ := wi_in (by omega) (by omega) hw1
  obtain ⟨m2, e2, hN2, hL2⟩ := num_ok hW2 hK1 n1z hw1
  have hW3 := hW2.m hN2
  have hI3 := hI2.m hN2
  rw [wi_1 hw1, if_neg (by rw [← zI]; exact n1_0), v1, bd2_of e2]
  obtain ⟨c2, tk2, st2, nt2, f2, g2, hK2, p2, q2⟩ := goes_x hL2 (lo := 0) (hi := nI 11) (by omega) (le_99 (by omega))
  have hW4 := hW3.x g2
  have hI4 := hI3.x g2
  refine tw_bd2x f2 ?_
  by_cases hw2 : wi tk2 (nI 0) (nI 11) = 0
  · rw [hw2, zI, if_pos rfl, bd2_of (num_bad hnl hK2 hw2), tail1 (flt_f hnl hK2)]
    exact tw_some (en_bad hW4 hK2)
  obtain ⟨v2, n2z⟩ := q2 hw2
  obtain ⟨cc, -, hc11, rfl⟩ := wi_in (by omega) (by omega) hw2
  obtain ⟨m3, e3, hN3, hL3⟩ := num_ok hW4 hK2 n2z hw2
  have hW5 := hW4.m hN3
  have hI5 := hI4.m hN3
  rw [wi_1 hw2, if_neg (by rw [← zI]; exact n1_0), v2, bd2_of e3]
  obtain ⟨c3, tk3, st3, nt3, f3, g3, hK3, p3, q3⟩ := goes_x hL3 (lo := 1) (hi := nI 4) (by omega) (le_99 (by omega))
  have hW6 := hW5.x g3
  have hI6 := hI5.x g3
  refine tw_bd2x f3 ?_
  by_cases hw3 : wi tk3 (nI 1) (nI 4) = 0
  · rw [hw3, zI, if_pos rfl, bd2_of (num_bad hnl hK3 hw3), tail0 (flt_f hnl hK3)]
    exact tw_some (en_bad hW6 hK3)
  obtain ⟨v3, n3z⟩ := q3 hw3
  obtain ⟨hh, hh1, hh4, rfl⟩ := wi_in (by omega) (by omega) hw3
  obtain ⟨m4, e4, hN4, hL4⟩ := num_ok hW6 hK3 n3z hw3
  have hW7 := hW6.m hN4
  have hI7 := hI6.m hN4
  rw [wi_1 hw3, if_neg (by rw [← zI]; exact n1_0), v3, bd2_of e4]
  -- the user comes
  obtain ⟨c4, -, a1, -, a2, -, a3, -⟩ := come_both (kk := kk) (cc := cc) (hh := hh) kd_53 ln_80 hW7.2.1 hI7.1 hf hk5 hc11 hh1 hh4
  have a2' : Eq0 (fun c => 53 ≤ c ∧ c ≤ 67 ∨ Q3 c) c3 c4 := a2.up (fun c hq => Or.inl (by omega))
  have hW8 := hW7.isl a2' a3
  refine tw_bd2x a1 ?_
  obtain ⟨c5, tk4, st4, nt4, f4, g4, hK4, p4⟩ := stops_x (hL4.isl a2')
  have hW9 := hW8.x g4
  refine tw_bd2x f4 ?_
  by_cases h200 : tk4 = nI 200
  rotate_left
  · rw [if_neg h200, gd_of zb_0, bd_of (end_bad hnl hK4 h200), if_neg (flt_f hnl hK4)]
    exact tw_some (en_bad hW9 hK4)
  obtain ⟨m5, e5, hN5, hL5⟩ := end_ok hW9 hK4 h200
  obtain ⟨c4b, m6, b1, b2, b3, b4, b5, b6, b7, b8, b9⟩ := come_both (σm := m5) (kk := kk) (cc := cc) (hh := hh) kd_53 ln_80 hW7.2.1 (hI7.m hN5).1 hf hk5 hc11 hh1 hh4
  have ez : c4b = c4 := (Prod.mk.inj (Option.some.inj (b1.symm.trans a1))).2
  subst ez
  have b4' : Eq0 (Pm 80) m5 m6 := b4.up (fun c hq => Or.inl hq)
  have h13 : gI m5 78 13 = (-1 : Int32) := hL5.2.2.2.1
  have l1 := la_tk n1z hK1 p1
  have l2 := la_tk n2z hK2 p2
  have l3 := la_tk n3z hK3 p3
  have l4 := la_tk (by rw [h200]; exact m1_n (by omega)) hK4 p4
  rw [if_pos h200, gd_of zb_1, bd_of e5, if_pos h13, bd_of b2]
  have hup : upd (gI m6 80) 137 (nI 0) = gI m6 80 := upd_self (by rw [b6]; exact (hI7.m hN5).1.2.1.2.2.2.2.2.1)
  rw [hup] at b8 b9
  exact tw_some ⟨(hW9.m hN5).row b4', Or.inr ⟨rfl, ⟨nu + 1, ns, hr, IV.x ⟨b8, b9 (hI7.m hN5).2⟩ g4⟩, nt4, by omega, hL5.row b4'⟩⟩
end DK
