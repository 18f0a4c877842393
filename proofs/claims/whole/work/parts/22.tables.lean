/-! ===== Table: what its methods answer ===== -/
theorem isFull_eq (t : Nat) (s : SS) {n l : Nat} (hn : gI s t 3 = nI n) (hl : gI s t 1 = nI l) (h1 : n < 1000) (h2 : l < 1000) : FX9_isFull t s = some (if n < l then 0 else nI 1) := by
  unfold FX9_isFull
  rw [hn, hl]
  by_cases h : n < l
  · rw [if_pos ((nI_ltn (by omega) (by omega)).mpr h), if_pos h, nI_0]
  · rw [if_neg (fun q => h ((nI_ltn (by omega) (by omega)).mp q)), if_neg h]
theorem at_in {t : Nat} (ht : kd t = 7) {s : SS} {w n N r c : Nat} (hw : gI s t 0 = nI w) (hn : gI s t 3 = nI n) (hN : ln (t + 1) = N) (hr : r < n) (hc : c < w) (hb : r * w + c < N) (h1 : n < 1000) (h2 : w < 1000) (h3 : N < 1000) : FX9_at t (nI r) (nI c) s = some (gI s (t + 1) (r * w + c)) := by
  unfold FX9_at
  rw [if_neg (nI_pos (by omega)), hn, if_neg (fun q => by have := (nI_len (by omega) (by omega)).mp q; omega), if_neg (nI_pos (by omega)), hw, if_pos ((nI_ltn (by omega) (by omega)).mpr hc), tl_2 ht, hN, nI_muln, nI_addn, gd_n hb (by omega), ix_n (by omega)]
theorem at_out {t : Nat} {s : SS} {n r : Nat} {c : Int32} (hn : gI s t 3 = nI n) (hr : n ≤ r) (h1 : n < 1000) (h2 : r < 1000) : FX9_at t (nI r) c s = some (nI 0) := by
  unfold FX9_at
  rw [if_neg (nI_pos (by omega)), hn, if_pos ((nI_len (by omega) (by omega)).mpr hr)]
theorem put_in {t : Nat} (ht : kd t = 7) {s : SS} {w n N r c : Nat} {v : Int32} (hw : gI s t 0 = nI w) (hn : gI s t 3 = nI n) (hN : ln (t + 1) = N) (hr : r < n) (hc : c < w) (hb : r * w + c < N) (h1 : n < 1000) (h2 : w < 1000) (h3 : N < 1000) : FX9_put t (nI r) (nI c) v s = some (pI s (t + 1) (r * w + c) v) := by
  unfold FX9_put
  rw [if_neg (nI_pos (by omega)), hn, if_neg (fun q => by have := (nI_len (by omega) (by omega)).mp q; omega), if_neg (nI_pos (by omega)), hw, if_neg (fun q => by have := (nI_len (by omega) (by omega)).mp q; omega), tl_2 ht, hN, nI_muln, nI_addn, gd_n hb (by omega), ix_n (by omega), nm_eq]
theorem put_out {t : Nat} {s : SS} {n r : Nat} {c v : Int32} (hn : gI s t 3 = nI n) (hr : n ≤ r) (h1 : n < 1000) (h2 : r < 1000) : FX9_put t (nI r) c v s = some s := by
  unfold FX9_put
  rw [if_neg (nI_pos (by omega)), hn, if_pos ((nI_len (by omega) (by omega)).mpr hr)]
theorem empty_eq (t : Nat) (s : SS) : FX9_empty t s = some (gI s t 3, pI s t 3 (nI 0)) := rfl
/-- a row of zeros behind the others -/
theorem open_in {t : Nat} (ht : kd t = 7) {s : SS} {w n l N : Nat} (hw : gI s t 0 = nI w) (hl : gI s t 1 = nI l) (hn : gI s t 3 = nI n) (hN : ln (t + 1) = N) (h : n < l) (hb : (n + 1) * w ≤ N) (h1 : l < 1000) (h2 : w < 1000) (h3 : N < 1000) :
    FX9_open t s = some (nI n, pA (pI s t 3 (nI (n + 1))) (t + 1) (fun k => if n * w ≤ k ∧ k < n * w + w then nI 0 else gI s (t + 1) k)) := by
  have hb2 : n * w + w ≤ N := by rw [Nat.add_mul, Nat.one_mul] at hb; exact hb
  have hne : t ≠ t + 1 := by omega
  have hne2 : t + 1 ≠ t := by omega
  unfold FX9_open
  rw [isFull_eq t s hn hl (by omega) (by omega), bd_s, if_pos h, if_pos rfl, nm_eq, nm_eq, nm_eq, hn]
  have e0 : pI s t 3 (nI n + nI 1) = pA (pI s t 3 (nI (n + 1))) (t + 1) (fun k => if n * w ≤ k ∧ k < n * w + 0 then nI 0 else gI s (t + 1) k) := by
    rw [nI_addn]
    have : (fun k => if n * w ≤ k ∧ k < n * w + 0 then nI 0 else gI s (t + 1) k) = gI (pI s t 3 (nI (n + 1))) (t + 1) := by
      rw [gI_pI_ne hne2]
      funext k
      rw [if_neg (by omega)]
    rw [this, pA_self]
  have key : lp FUEL (u2 (fun (n5 : Int32) (s6 : SS) => if (gI s6 t 0) ≤ n5 then some (Sum.inr s6) else (bd (FX9_put t (nI n) n5 (nI 0) s6) (fun (s7 : SS) => nm (n5 + (nI 1)) (fun (i8 : Int32) => some (Sum.inl (i8, s7))))))) (nI 0, pI s t 3 (nI n + nI 1)) = some (pA (pI s t 3 (nI (n + 1))) (t + 1) (fun k => if n * w ≤ k ∧ k < n * w + w then nI 0 else gI s (t + 1) k)) := by
    refine lp_F (fun jj => (nI jj, pA (pI s t 3 (nI (n + 1))) (t + 1) (fun k => if n * w ≤ k ∧ k < n * w + jj then nI 0 else gI s (t + 1) k))) w (fuel_of (by omega)) (by rw [e0]) ?hs ?he
    case hs =>
      intro jj hjj
      rw [u2_s]
      have q1 : gI (pA (pI s t 3 (nI (n + 1))) (t + 1) (fun k => if n * w ≤ k ∧ k < n * w + jj then nI 0 else gI s (t + 1) k)) t = upd (gI s t) 3 (nI (n + 1)) := by rw [gI_pA_ne hne, gI_pI_eq]
      have q2 : gI (pA (pI s t 3 (nI (n + 1))) (t + 1) (fun k => if n * w ≤ k ∧ k < n * w + jj then nI 0 else gI s (t + 1) k)) t 0 = nI w := by rw [q1, upd_ap, if_neg (by omega), hw]
      have q3 : gI (pA (pI s t 3 (nI (n + 1))) (t + 1) (fun k => if n * w ≤ k ∧ k < n * w + jj then nI 0 else gI s (t + 1) k)) t 3 = nI (n + 1) := by rw [q1, upd_ap, if_pos rfl]
      rw [q2, if_neg (fun q => by have := (nI_len (by omega) (by omega)).mp q; omega)]
      rw [bd_of (put_in ht q2 q3 hN (by omega) hjj (by omega) (by omega) h2 h3), nm_eq, nI_addn]
      have q4 : pI (pA (pI s t 3 (nI (n + 1))) (t + 1) (fun k => if n * w ≤ k ∧ k < n * w + jj then nI 0 else gI s (t + 1) k)) (t + 1) (n * w + jj) (nI 0) = pA (pI s t 3 (nI (n + 1))) (t + 1) (fun k => if n * w ≤ k ∧ k < n * w + (jj + 1) then nI 0 else gI s (t + 1) k) := by
        rw [pI_as, pA_pA, gI_pA_eq]
        congr 1
        funext k
        rw [upd_ap]
        by_cases z : k = n * w + jj
        · rw [if_pos z, if_pos (by omega)]
        · rw [if_neg z]
          by_cases y : n * w ≤ k ∧ k < n * w + jj
          · rw [if_pos y, if_pos (by omega)]
          · rw [if_neg y, if_neg (by omega)]
      rw [q4]
    case he =>
      rw [u2_s]
      have q2 : gI (pA (pI s t 3 (nI (n + 1))) (t + 1) (fun k => if n * w ≤ k ∧ k < n * w + w then nI 0 else gI s (t + 1) k)) t 0 = nI w := by rw [gI_pA_ne hne, gI_pI_eq, upd_ap, if_neg (by omega), hw]
      rw [q2, if_pos ((nI_len (by omega) (by omega)).mpr (Nat.le_refl _))]
  rw [bd_of key]
theorem cpok_n {a b d N M : Nat} (h1 : a + d ≤ N) (h2 : b + d ≤ M) (h3 : N < 2147483648) (h4 : M < 2147483648) : cpok (nI a) (nI b) (nI d) N M = true := by
  unfold cpok
  rw [ix_n (by omega), ix_n (by omega), ix_n (by omega)]
  simp only [Bool.and_eq_true, decide_eq_true_eq]
  exact ⟨nI_pos (by omega), nI_pos (by omega), nI_pos (by omega), h1, h2⟩
theorem cpy_0 (f g : Nat → Int32) (n : Nat) : va_cpy f g 0 0 n = fun k => if k < n then f k else g k := by
  funext k
  simp only [va_cpy]
  by_cases h : k < n
  · rw [if_pos (by omega), if_pos h, Nat.zero_add, Nat.sub_zero]
  · rw [if_neg (by omega), if_neg h]
theorem tcopy_eq {t a : Nat} (ht : kd t = 7) (ha : kd a = 7) {s : SS} {N : Nat} (h1 : ln (t + 1) = N) (h2 : ln (a + 1) = N) (h3 : N < 1000) (hne : a ≠ t + 1) : FX9_copyFrom t a s = some (pI (pA s (t + 1) (fun k => if k < N then gI s (a + 1) k else gI s (t + 1) k)) t 3 (gI s a 3)) := by
  unfold FX9_copyFrom
  rw [tl_2 ht, tl_2 ha, h1, h2, if_pos rfl, gd_of (cpok_n (by omega) (by omega) (by omega) (by omega)), nm_eq, nm_eq, ix_n (by omega), ix_n (by omega), cpy_0, gI_pA_ne hne]
theorem drop_eq {t : Nat} (ht : kd t = 7) {s : SS} {w n N : Nat} (hw : gI s t 0 = nI w) (hn : gI s t 3 = nI (n + 1)) (hN : ln (t + 1) = N) (hb : (n + 1) * w ≤ N) (h1 : n < 1000) (h2 : w < 1000) (h3 : N < 1000) :
    FX9_dropFirst t s = some (pI (pA s (t + 1) (fun k => if k < n * w then gI s (t + 1) (k + w) else gI s (t + 1) k)) t 3 (nI n)) := by
  have hb2 : n * w + w ≤ N := by rw [Nat.add_mul, Nat.one_mul] at hb; exact hb
  unfold FX9_dropFirst
  rw [hn, if_neg (fun q => by rw [zI] at q; have := (nI_len (by omega) (by omega)).mp q; omega), nI_subn (by omega), hw, tl_2 ht, hN, show n + 1 - 1 = n by omega, nI_muln, gd_of (cpok_n (by omega) (by omega) (by omega) (by omega)), nm_eq, nm_eq, ix_n (by omega), ix_n (by omega), ix_n (by omega), gI_pA_ne (show t ≠ t + 1 by omega), hn, nI_subn (by omega), show n + 1 - 1 = n by omega]
  have : va_cpy (gI s (t + 1)) (gI s (t + 1)) w 0 (n * w) = (fun k => if k < n * w then gI s (t + 1) (k + w) else gI s (t + 1) k) := by
    funext k
    simp only [va_cpy]
    by_cases h : k < n * w
    · rw [if_pos (by omega), if_pos h, show w + (k - 0) = k + w by omega]
    · rw [if_neg (by omega), if_neg h]
  rw [this]
