theorem count_law {x r r2 : Int} {a : Nat → Nat → Int} (A0 : x = 0 → r = a 0 0) (A1 : x = 1 → r = a 4 6) (A3 : x = 3 → r = a 58 8) (A4 : x = 4 → r = a 58 12) (A5 : x = 5 → r = a 83 6) (A6 : x = 6 → r = a 83 7) (A7 : x = 7 → r = a 105 5) (A8 : x = 8 → r = a 2 1) (A9 : x = 9 → r = a 0 9) (A2 : x = 2 ∧ a 4 6 = 0 → r = 0) (A10 : x = 10 → r = a 56 0) (A11 : x = 11 → r = a 56 1) (A12 : x = 12 → r = a 56 2) (A13 : x = 13 → r = a 56 3) (A14 : x = 14 → r = a 56 4) (A20 : 20 ≤ x ∧ x ≤ 27 → r = a 143 (jxw (x - 20)).toNat) (A30 : 30 ≤ x ∧ x ≤ 37 → r = a 142 (jxw (x - 30)).toNat) (AN : (((x < 0 ∨ (14 < x ∧ x < 20)) ∨ (27 < x ∧ x < 30)) ∨ 37 < x) → r = 0 - 1)
  (B0 : x = 0 → r2 = a 146 0) (B1 : x = 1 → r2 = a 146 2) (B3 : x = 3 → r2 = a 146 9) (B4 : x = 4 → r2 = a 146 17) (B5 : x = 5 → r2 = a 146 49) (B6 : x = 6 → r2 = a 146 55) (B7 : x = 7 → r2 = a 146 68) (B8 : x = 8 → r2 = a 146 22) (B9 : x = 9 → r2 = a 146 42) (B2 : x = 2 ∧ a 146 2 = 0 → r2 = 0) (B10 : 10 ≤ x ∧ x ≤ 14 → r2 = a 171 (jxw (x - 10)).toNat) (B20 : 20 ≤ x ∧ x ≤ 27 → r2 = a 197 (jxw (x - 20)).toNat) (B30 : 30 ≤ x ∧ x ≤ 37 → r2 = a 196 (jxw (x - 30)).toNat) (BN : (((x < 0 ∨ (14 < x ∧ x < 20)) ∨ (27 < x ∧ x < 30)) ∨ 37 < x) → r2 = 0 - 1)
  (E0 : a 0 0 = a 146 0) (E1 : a 4 6 = a 146 2) (E3 : a 58 8 = a 146 9) (E4 : a 58 12 = a 146 17) (E5 : a 83 6 = a 146 49) (E6 : a 83 7 = a 146 55) (E7 : a 105 5 = a 146 68) (E8 : a 2 1 = a 146 22) (E9 : a 0 9 = a 146 42) (Z1 : a 4 6 = 0) (Z2 : a 146 2 = 0) (R0 : a 56 0 = 5) (R1 : a 56 1 = 10) (R2 : a 56 2 = 3) (R3 : a 56 3 = 60) (R4 : a 56 4 = 2) (w171 : ∀ j : Nat, (j = 0 → a 171 j = 5) ∧ (j = 1 → a 171 j = 10) ∧ (j = 2 → a 171 j = 3) ∧ (j = 3 → a 171 j = 60) ∧ (j = 4 → a 171 j = 2)) (w143 : ∀ j : Nat, a 143 j = 0) (w197 : ∀ j : Nat, a 197 j = 0) (w142 : ∀ j : Nat, j < 8 → a 142 j = -1) (w196 : ∀ j : Nat, j < 8 → a 196 j = -1) : r = r2 := by
  by_cases h0 : x = 0
  · rw [A0 h0, B0 h0, E0]
  by_cases h1 : x = 1
  · rw [A1 h1, B1 h1, E1]
  by_cases h3 : x = 3
  · rw [A3 h3, B3 h3, E3]
  by_cases h4 : x = 4
  · rw [A4 h4, B4 h4, E4]
  by_cases h5 : x = 5
  · rw [A5 h5, B5 h5, E5]
  by_cases h6 : x = 6
  · rw [A6 h6, B6 h6, E6]
  by_cases h7 : x = 7
  · rw [A7 h7, B7 h7, E7]
  by_cases h8 : x = 8
  · rw [A8 h8, B8 h8, E8]
  by_cases h9 : x = 9
  · rw [A9 h9, B9 h9, E9]
  by_cases h2 : x = 2
  · rw [A2 ⟨h2, Z1⟩, B2 ⟨h2, Z2⟩]
  by_cases h10 : x = 10
  · rw [A10 h10, R0, B10 (by clear A20 A30 AN B20 B30 BN; omega)]
    exact ((w171 _).1 (by subst h10; decide +kernel)).symm
  by_cases h11 : x = 11
  · rw [A11 h11, R1, B10 (by clear A20 A30 AN B20 B30 BN; omega)]
    exact ((w171 _).2.1 (by subst h11; decide +kernel)).symm
  by_cases h12 : x = 12
  · rw [A12 h12, R2, B10 (by clear A20 A30 AN B20 B30 BN; omega)]
    exact ((w171 _).2.2.1 (by subst h12; decide +kernel)).symm
  by_cases h13 : x = 13
  · rw [A13 h13, R3, B10 (by clear A20 A30 AN B20 B30 BN; omega)]
    exact ((w171 _).2.2.2.1 (by subst h13; decide +kernel)).symm
  by_cases h14 : x = 14
  · rw [A14 h14, R4, B10 (by clear A20 A30 AN B20 B30 BN; omega)]
    exact ((w171 _).2.2.2.2 (by subst h14; decide +kernel)).symm
  by_cases h20 : 20 ≤ x ∧ x ≤ 27
  · rw [A20 h20, B20 h20, w143, w197]
  by_cases h30 : 30 ≤ x ∧ x ≤ 37
  · have hj : (jxw (x - 30)).toNat < 8 := by
      rw [jxw_id (x := x - 30) (by clear A20 A30 AN B20 B30 BN; omega) (by clear A20 A30 AN B20 B30 BN; omega)]
      clear A20 A30 AN B20 B30 BN
      omega
    rw [A30 h30, B30 h30, w142 _ hj, w196 _ hj]
  have hn : ((x < 0 ∨ (14 < x ∧ x < 20)) ∨ (27 < x ∧ x < 30)) ∨ 37 < x := by
    clear A0 A1 A3 A4 A5 A6 A7 A8 A9 A2 A10 A11 A12 A13 A14 A20 A30 AN B0 B1 B3 B4 B5 B6 B7 B8 B9 B2 B10 B20 B30 BN
    omega
  rw [AN hn, BN hn]
