/-! offers and the list, as either side keeps them -/
def OFA (a0 a : Nat → Nat → Int) (x1 x2 x3 : Int) : Prop := a 84 = rup (a0 84) (a0 83 6).toNat x1 ∧ a 85 = rup (a0 85) (a0 83 6).toNat x2 ∧ a 86 = rup (a0 86) (a0 83 6).toNat x3 ∧ a 87 = rup (a0 87) (a0 83 6).toNat 0 ∧ a 88 = rup (a0 88) (a0 83 6).toNat (-1) ∧ a 89 = rup (a0 89) (a0 83 6).toNat (-1)
def OFS (a0 a : Nat → Nat → Int) : Prop := a 84 = a0 84 ∧ a 85 = a0 85 ∧ a 86 = a0 86 ∧ a 87 = a0 87 ∧ a 88 = a0 88 ∧ a 89 = a0 89
def OFAr (a0 a : Nat → Nat → Int) (x1 x2 x3 : Int) : Prop := a 178 = rup (a0 178) (a0 146 49).toNat x1 ∧ a 179 = rup (a0 179) (a0 146 49).toNat x2 ∧ a 180 = rup (a0 180) (a0 146 49).toNat x3 ∧ a 181 = a0 181 ∧ a 182 = rup (a0 182) (a0 146 49).toNat (-1)
def OFSr (a0 a : Nat → Nat → Int) : Prop := a 178 = a0 178 ∧ a 179 = a0 179 ∧ a 180 = a0 180 ∧ a 181 = a0 181 ∧ a 182 = a0 182
def AWO (n : Int) (cd : Nat → Int) (x : Int) : Prop := 0 ≤ x ∧ x < n ∧ cd x.toNat = 0
def AWC (a0 a : Nat → Nat → Int) (x r : Int) : Prop := (AWO (a0 83 6) (a0 87) x ∧ r = 1 ∧ a 87 = rup (a0 87) x.toNat 2 ∧ a 88 = rup (a0 88) x.toNat (-1) ∧ a 89 = rup (a0 89) x.toNat (-1)) ∨ (¬ AWO (a0 83 6) (a0 87) x ∧ r = 0 ∧ a 87 = a0 87 ∧ a 88 = a0 88 ∧ a 89 = a0 89)
def AWR (a0 a : Nat → Nat → Int) (x r : Int) : Prop := (AWO (a0 146 49) (a0 181) x ∧ r = 1 ∧ a 181 = rup (a0 181) x.toNat 2) ∨ (¬ AWO (a0 146 49) (a0 181) x ∧ r = 0 ∧ a 181 = a0 181)
def LOK (n : Int) (row : Nat → Int) (nm x : Int) : Prop := 0 ≤ x ∧ x < nm ∧ n < 8 ∧ ∀ i : Nat, (i : Int) < n → ¬ row i = x
def LSP (n n1 : Int) (row row1 : Nat → Int) (nm x r : Int) : Prop := (LOK n row nm x ∧ r = n + 1 ∧ n1 = n + 1 ∧ row1 = rup row n.toNat x) ∨ (¬ LOK n row nm x ∧ r = -1 ∧ n1 = n ∧ row1 = row)
theorem AWO_c {a b : Nat → Nat → Int} {x : Int} (h2 : a 83 6 ≤ 20) : ¬ f_X4_isOpen a b x = 0 ↔ AWO (a 83 6) (a 87) x := by
  constructor
  · intro h
    have q := isOpen_in h
    exact ⟨q.1, q.2.1, q.2.2.2⟩
  · rintro ⟨q1, q2, q3⟩
    unfold f_X4_isOpen f_X4_has
    rw [if_neg (show ¬ x < 0 by omega), if_pos q2, if_pos (show x < 20 by omega), if_neg (by decide), if_pos q3]
    decide
