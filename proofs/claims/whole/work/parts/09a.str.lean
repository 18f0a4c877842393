/-! ===== the words island, winds, user, suit, hours ===== -/
def wl (a : Nat) : Nat := wo_len.getD (a - 100) 0
def wch (a i : Nat) : Int32 := (wo_byt.getD (a - 100) []).getD i 0
section RS
variable {τ : Type} {f g : Option τ} {Z : τ → Prop} {o : Om} {own : String} {cc : ByteArray} {nL : Nat} {rt : Option FieldType} {rm : Room} {w pc : Nat} {L L' : List (Option Value)} {st : List Value} {σ : SS}
theorem x_slen (C : Cx o RX7 cc nL rt (rmx 4 90) w) {a : Nat} (hd : decode cc pc = .ok (.invokevirtual 116, 3)) (ha : 100 ≤ a ∧ a < 105) (k : Xo f Z (Yx o (pc + 3) L (.int (nI (wl a)) :: st) σ)) : Xo f Z (Yx o pc L (.ref a :: st) σ) := sorry
theorem x_sch (C : Cx o RX7 cc nL rt (rmx 4 90) w) {a : Nat} {i : Int32} (hd : decode cc pc = .ok (.invokevirtual 128, 3)) (ha : 100 ≤ a ∧ a < 105) (k : inb i (wl a) = true → Xo f Z (Yx o (pc + 3) L (.int (wch a i.toNatClampNeg) :: st) σ)) : Xo (gd (inb i (wl a)) f) Z (Yx o pc L (.int i :: .ref a :: st) σ) := sorry
end RS
