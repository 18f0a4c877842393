/-! ===== the model's first world ===== -/
section EN
variable (h0 hm : Nat) (u v β : Nat → Nat) (cI cZ : ClassId)
theorem mi10 {f : Nat → Nat → Value} : (ft 10).mapIdx f = [f 0 2, f 1 2, f 2 2, f 3 2, f 4 1, f 5 1, f 6 2, f 7 2, f 8 2, f 9 2, f 10 2, f 11 0, f 12 0, f 13 0, f 14 0, f 15 0, f 16 2, f 17 2, f 18 2] := by
  have h : ft 10 = [2, 2, 2, 2, 1, 1, 2, 2, 2, 2, 2, 0, 0, 0, 0, 0, 2, 2, 2] := rfl
  rw [h]
  simp only [List.mapIdx_cons, List.mapIdx_nil, Nat.zero_add, Nat.reduceAdd]
theorem g7813 : gI σ0 78 13 = -1 := by
  show z0 78 13 = -1
  unfold z0
  rw [if_neg (by decide), if_pos rfl]
  exact if_pos rfl
theorem g785 : gL σ0 78 5 = 1 := by
  show z1 78 5 = 1
  unfold z1
  rw [if_neg (by decide), if_pos rfl]
  exact if_pos rfl
theorem g784 : gL σ0 78 4 = 0 := by
  show z1 78 4 = 0
  unfold z1
  rw [if_neg (by decide), if_pos rfl]
  exact if_neg (by decide)
theorem fv_0 : fvl (aX h0 hm u v β) σ0 78 0 2 = .ref (v 1) := rfl
theorem fv_1 : fvl (aX h0 hm u v β) σ0 78 1 2 = .ref (v 2) := rfl
theorem fv_2 : fvl (aX h0 hm u v β) σ0 78 2 2 = .ref (v 3) := rfl
theorem fv_3 : fvl (aX h0 hm u v β) σ0 78 3 2 = .ref (v 4) := rfl
theorem fv_4 : fvl (aX h0 hm u v β) σ0 78 4 1 = .long 0 := congrArg Value.long g784
theorem fv_5 : fvl (aX h0 hm u v β) σ0 78 5 1 = .long 1 := congrArg Value.long g785
theorem fv_6 : fvl (aX h0 hm u v β) σ0 78 6 2 = .ref (v 5) := rfl
theorem fv_7 : fvl (aX h0 hm u v β) σ0 78 7 2 = .ref (v 6) := rfl
theorem fv_8 : fvl (aX h0 hm u v β) σ0 78 8 2 = .ref (v 7) := rfl
theorem fv_9 : fvl (aX h0 hm u v β) σ0 78 9 2 = .ref (v 8) := rfl
theorem fv_10 : fvl (aX h0 hm u v β) σ0 78 10 2 = .ref (v 9) := rfl
theorem g78_11 : gI σ0 78 11 = 0 := by
  show z0 78 11 = 0
  unfold z0
  rw [if_neg (by decide), if_pos rfl]
  exact if_neg (by decide)
theorem fv_11 : fvl (aX h0 hm u v β) σ0 78 11 0 = .int 0 := congrArg Value.int g78_11
theorem g78_12 : gI σ0 78 12 = 0 := by
  show z0 78 12 = 0
  unfold z0
  rw [if_neg (by decide), if_pos rfl]
  exact if_neg (by decide)
theorem fv_12 : fvl (aX h0 hm u v β) σ0 78 12 0 = .int 0 := congrArg Value.int g78_12
theorem fv_13 : fvl (aX h0 hm u v β) σ0 78 13 0 = .int (-1) := congrArg Value.int g7813
theorem g78_14 : gI σ0 78 14 = 0 := by
  show z0 78 14 = 0
  unfold z0
  rw [if_neg (by decide), if_pos rfl]
  exact if_neg (by decide)
theorem fv_14 : fvl (aX h0 hm u v β) σ0 78 14 0 = .int 0 := congrArg Value.int g78_14
theorem g78_15 : gI σ0 78 15 = 0 := by
  show z0 78 15 = 0
  unfold z0
  rw [if_neg (by decide), if_pos rfl]
  exact if_neg (by decide)
theorem fv_15 : fvl (aX h0 hm u v β) σ0 78 15 0 = .int 0 := congrArg Value.int g78_15
theorem fv_16 : fvl (aX h0 hm u v β) σ0 78 16 2 = .ref (v 10) := rfl
theorem fv_17 : fvl (aX h0 hm u v β) σ0 78 17 2 = .ref (v 11) := rfl
theorem fv_18 : fvl (aX h0 hm u v β) σ0 78 18 2 = .ref (v 12) := rfl
theorem en_78 : ((aX h0 hm u v β 78, el (aX h0 hm u v β) cI cZ σ0 78) : Nat × va_E) = (hm, .inr (10, [.ref (v 1), .ref (v 2), .ref (v 3), .ref (v 4), .long 0, .long 1, .ref (v 5), .ref (v 6), .ref (v 7), .ref (v 8), .ref (v 9), .int 0, .int 0, .int (-1), .int 0, .int 0, .ref (v 10), .ref (v 11), .ref (v 12)])) := Prod.ext rfl (Eq.trans (el_obj (aX h0 hm u v β) cI cZ σ0 (c := 78) (ci := 10) rfl (by decide)) (congrArg (fun z : List Value => (Sum.inr (10, z) : va_E)) (Eq.trans mi10 (congr (congrArg List.cons (fv_0 h0 hm u v β)) (congr (congrArg List.cons (fv_1 h0 hm u v β)) (congr (congrArg List.cons (fv_2 h0 hm u v β)) (congr (congrArg List.cons (fv_3 h0 hm u v β)) (congr (congrArg List.cons (fv_4 h0 hm u v β)) (congr (congrArg List.cons (fv_5 h0 hm u v β)) (congr (congrArg List.cons (fv_6 h0 hm u v β)) (congr (congrArg List.cons (fv_7 h0 hm u v β)) (congr (congrArg List.cons (fv_8 h0 hm u v β)) (congr (congrArg List.cons (fv_9 h0 hm u v β)) (congr (congrArg List.cons (fv_10 h0 hm u v β)) (congr (congrArg List.cons (fv_11 h0 hm u v β)) (congr (congrArg List.cons (fv_12 h0 hm u v β)) (congr (congrArg List.cons (fv_13 h0 hm u v β)) (congr (congrArg List.cons (fv_14 h0 hm u v β)) (congr (congrArg List.cons (fv_15 h0 hm u v β)) (congr (congrArg List.cons (fv_16 h0 hm u v β)) (congr (congrArg List.cons (fv_17 h0 hm u v β)) (congr (congrArg List.cons (fv_18 h0 hm u v β)) rfl))))))))))))))))))))))
theorem en_79 : ((aX h0 hm u v β 79, el (aX h0 hm u v β) cI cZ σ0 79) : Nat × va_E) = (v 1, .inl (cI, 378, .inl (fun _ => 0))) := Prod.ext rfl (Eq.trans (el_arr (w := 0) (aX h0 hm u v β) cI cZ σ0 (c := 79) (Or.inr rfl)) rfl)
theorem en_80 : ((aX h0 hm u v β 80, el (aX h0 hm u v β) cI cZ σ0 80) : Nat × va_E) = (v 2, .inl (cI, 378, .inl (fun _ => 0))) := Prod.ext rfl (Eq.trans (el_arr (w := 0) (aX h0 hm u v β) cI cZ σ0 (c := 80) (Or.inr rfl)) rfl)
theorem en_81 : ((aX h0 hm u v β 81, el (aX h0 hm u v β) cI cZ σ0 81) : Nat × va_E) = (v 3, .inl (cI, 756, .inl (fun _ => 0))) := Prod.ext rfl (Eq.trans (el_arr (w := 0) (aX h0 hm u v β) cI cZ σ0 (c := 81) (Or.inr rfl)) rfl)
theorem en_82 : ((aX h0 hm u v β 82, el (aX h0 hm u v β) cI cZ σ0 82) : Nat × va_E) = (v 4, .inl (cZ, 2, .inl (fun _ => 0))) := Prod.ext rfl (Eq.trans (el_boo (aX h0 hm u v β) cI cZ σ0 (c := 82) rfl) rfl)
theorem en_83 : ((aX h0 hm u v β 83, el (aX h0 hm u v β) cI cZ σ0 83) : Nat × va_E) = (v 5, .inl (cI, 3, .inl (fun _ => 0))) := Prod.ext rfl (Eq.trans (el_arr (w := 0) (aX h0 hm u v β) cI cZ σ0 (c := 83) (Or.inr rfl)) rfl)
theorem en_84 : ((aX h0 hm u v β 84, el (aX h0 hm u v β) cI cZ σ0 84) : Nat × va_E) = (v 6, .inl (cI, 7, .inl (fun _ => 0))) := Prod.ext rfl (Eq.trans (el_arr (w := 0) (aX h0 hm u v β) cI cZ σ0 (c := 84) (Or.inr rfl)) rfl)
theorem en_85 : ((aX h0 hm u v β 85, el (aX h0 hm u v β) cI cZ σ0 85) : Nat × va_E) = (v 7, .inl (cI, 12, .inl (fun _ => 0))) := Prod.ext rfl (Eq.trans (el_arr (w := 0) (aX h0 hm u v β) cI cZ σ0 (c := 85) (Or.inr rfl)) rfl)
theorem en_86 : ((aX h0 hm u v β 86, el (aX h0 hm u v β) cI cZ σ0 86) : Nat × va_E) = (v 8, .inl (cI, 12, .inl (fun _ => 0))) := Prod.ext rfl (Eq.trans (el_arr (w := 0) (aX h0 hm u v β) cI cZ σ0 (c := 86) (Or.inr rfl)) rfl)
theorem en_87 : ((aX h0 hm u v β 87, el (aX h0 hm u v β) cI cZ σ0 87) : Nat × va_E) = (v 9, .inl (cI, 150, .inl (fun _ => 0))) := Prod.ext rfl (Eq.trans (el_arr (w := 0) (aX h0 hm u v β) cI cZ σ0 (c := 87) (Or.inr rfl)) rfl)
theorem en_88 : ((aX h0 hm u v β 88, el (aX h0 hm u v β) cI cZ σ0 88) : Nat × va_E) = (v 10, .inl (cI, 5, .inl (fun _ => 0))) := Prod.ext rfl (Eq.trans (el_arr (w := 0) (aX h0 hm u v β) cI cZ σ0 (c := 88) (Or.inr rfl)) rfl)
theorem en_89 : ((aX h0 hm u v β 89, el (aX h0 hm u v β) cI cZ σ0 89) : Nat × va_E) = (v 11, .inl (cI, 5, .inl (fun _ => 0))) := Prod.ext rfl (Eq.trans (el_arr (w := 0) (aX h0 hm u v β) cI cZ σ0 (c := 89) (Or.inr rfl)) rfl)
theorem en_90 : ((aX h0 hm u v β 90, el (aX h0 hm u v β) cI cZ σ0 90) : Nat × va_E) = (v 12, .inl (cI, 7, .inl (fun _ => 0))) := Prod.ext rfl (Eq.trans (el_arr (w := 0) (aX h0 hm u v β) cI cZ σ0 (c := 90) (Or.inr rfl)) rfl)
theorem wX12_eq : wX12 cI cZ hm v = [(hm, .inr (10, [.ref (v 1), .ref (v 2), .ref (v 3), .ref (v 4), .long 0, .long 1, .ref (v 5), .ref (v 6), .ref (v 7), .ref (v 8), .ref (v 9), .int 0, .int 0, .int (-1), .int 0, .int 0, .ref (v 10), .ref (v 11), .ref (v 12)])), (v 1, .inl (cI, 378, .inl (fun _ => 0))), (v 2, .inl (cI, 378, .inl (fun _ => 0))), (v 3, .inl (cI, 756, .inl (fun _ => 0))), (v 4, .inl (cZ, 2, .inl (fun _ => 0))), (v 5, .inl (cI, 3, .inl (fun _ => 0))), (v 6, .inl (cI, 7, .inl (fun _ => 0))), (v 7, .inl (cI, 12, .inl (fun _ => 0))), (v 8, .inl (cI, 12, .inl (fun _ => 0))), (v 9, .inl (cI, 150, .inl (fun _ => 0))), (v 10, .inl (cI, 5, .inl (fun _ => 0))), (v 11, .inl (cI, 5, .inl (fun _ => 0))), (v 12, .inl (cI, 7, .inl (fun _ => 0)))] := rfl
theorem rg13 : List.range 13 = [0, 1, 2, 3, 4, 5, 6, 7, 8, 9, 10, 11, 12] := by decide +kernel
set_option maxRecDepth 100000 in
theorem wd1_eq : wd 1 (aX h0 hm u v β) cI cZ σ0 = wX12 cI cZ hm v := by
  rw [wX12_eq]
  show (List.range 13).map _ = _
  rw [rg13]
  exact (congr (congrArg List.cons (en_78 h0 hm u v β cI cZ)) (congr (congrArg List.cons (en_79 h0 hm u v β cI cZ)) (congr (congrArg List.cons (en_80 h0 hm u v β cI cZ)) (congr (congrArg List.cons (en_81 h0 hm u v β cI cZ)) (congr (congrArg List.cons (en_82 h0 hm u v β cI cZ)) (congr (congrArg List.cons (en_83 h0 hm u v β cI cZ)) (congr (congrArg List.cons (en_84 h0 hm u v β cI cZ)) (congr (congrArg List.cons (en_85 h0 hm u v β cI cZ)) (congr (congrArg List.cons (en_86 h0 hm u v β cI cZ)) (congr (congrArg List.cons (en_87 h0 hm u v β cI cZ)) (congr (congrArg List.cons (en_88 h0 hm u v β cI cZ)) (congr (congrArg List.cons (en_89 h0 hm u v β cI cZ)) (congr (congrArg List.cons (en_90 h0 hm u v β cI cZ)) rfl)))))))))))))
end EN
theorem rel_0 : Rel σ0 σ0 := by
  refine ⟨⟨0, 0, 0, 0, 0, 0, 0, ir_zero (fun _ _ => rfl) (fun _ _ => ⟨rfl, rfl⟩) ⟨rfl, rfl, rfl, rfl, rfl, rfl⟩ rfl rfl, bd_0 rfl⟩, ⟨⟨?_, ?_, ?_, ?_⟩, rfl, rfl⟩, Or.inl ⟨rfl, rfl⟩, Or.inl ⟨rfl, rfl⟩, ⟨0, by omega, rfl, rfl, fun k hk => absurd hk (Nat.not_lt_zero k)⟩, ⟨rfl, rfl⟩, rfl, rfl, rfl, fun k _ => rfl⟩ <;> exact ⟨⟨rfl, rfl⟩, ⟨rfl, rfl⟩, ⟨rfl, rfl⟩, ⟨rfl, rfl⟩, ⟨rfl, rfl⟩, rfl, rfl⟩
