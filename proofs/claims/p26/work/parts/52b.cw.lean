theorem cw_1000 (a b : Nat → Nat → Int) (x : Int) (h0 : 0 ≤ x) (h1 : x < 3) : f_J0_charAt_5068e_r1000 a b x = (wdl 2).getD x.toNat 0 := by
  have e : f_J0_charAt_5068e_r1000 a b x = jxi2c (jxand (([110, 111, 116] : List Int).getD x.toNat 0) 255) := rfl
  rw [e]
  have h : ∀ k : Nat, k < 3 → jxi2c (jxand (([110, 111, 116] : List Int).getD k 0) 255) = (wdl 2).getD k 0 := by decide +kernel
  exact h x.toNat (by omega)

theorem cw_1001 (a b : Nat → Nat → Int) (x : Int) (h0 : 0 ≤ x) (h1 : x < 4) : f_J0_charAt_5068e_r1001 a b x = (wdl 3).getD x.toNat 0 := by
  have e : f_J0_charAt_5068e_r1001 a b x = jxi2c (jxand (([108, 97, 110, 100] : List Int).getD x.toNat 0) 255) := rfl
  rw [e]
  have h : ∀ k : Nat, k < 4 → jxi2c (jxand (([108, 97, 110, 100] : List Int).getD k 0) 255) = (wdl 3).getD k 0 := by decide +kernel
  exact h x.toNat (by omega)

theorem cw_1002 (a b : Nat → Nat → Int) (x : Int) (h0 : 0 ≤ x) (h1 : x < 6) : f_J0_charAt_5068e_r1002 a b x = (wdl 4).getD x.toNat 0 := by
  have e : f_J0_charAt_5068e_r1002 a b x = jxi2c (jxand (([116, 111, 110, 103, 117, 101] : List Int).getD x.toNat 0) 255) := rfl
  rw [e]
  have h : ∀ k : Nat, k < 6 → jxi2c (jxand (([116, 111, 110, 103, 117, 101] : List Int).getD k 0) 255) = (wdl 4).getD k 0 := by decide +kernel
  exact h x.toNat (by omega)

theorem cw_1003 (a b : Nat → Nat → Int) (x : Int) (h0 : 0 ≤ x) (h1 : x < 6) : f_J0_charAt_5068e_r1003 a b x = (wdl 5).getD x.toNat 0 := by
  have e : f_J0_charAt_5068e_r1003 a b x = jxi2c (jxand (([115, 104, 97, 114, 101, 100] : List Int).getD x.toNat 0) 255) := rfl
  rw [e]
  have h : ∀ k : Nat, k < 6 → jxi2c (jxand (([115, 104, 97, 114, 101, 100] : List Int).getD k 0) 255) = (wdl 5).getD k 0 := by decide +kernel
  exact h x.toNat (by omega)

theorem cw_1004 (a b : Nat → Nat → Int) (x : Int) (h0 : 0 ≤ x) (h1 : x < 3) : f_J0_charAt_5068e_r1004 a b x = (wdl 6).getD x.toNat 0 := by
  have e : f_J0_charAt_5068e_r1004 a b x = jxi2c (jxand (([102, 97, 114] : List Int).getD x.toNat 0) 255) := rfl
  rw [e]
  have h : ∀ k : Nat, k < 3 → jxi2c (jxand (([102, 97, 114] : List Int).getD k 0) 255) = (wdl 6).getD k 0 := by decide +kernel
  exact h x.toNat (by omega)

theorem cw_1005 (a b : Nat → Nat → Int) (x : Int) (h0 : 0 ≤ x) (h1 : x < 4) : f_J0_charAt_5068e_r1005 a b x = (wdl 7).getD x.toNat 0 := by
  have e : f_J0_charAt_5068e_r1005 a b x = jxi2c (jxand (([110, 101, 97, 114] : List Int).getD x.toNat 0) 255) := rfl
  rw [e]
  have h : ∀ k : Nat, k < 4 → jxi2c (jxand (([110, 101, 97, 114] : List Int).getD k 0) 255) = (wdl 7).getD k 0 := by decide +kernel
  exact h x.toNat (by omega)

theorem cw_1006 (a b : Nat → Nat → Int) (x : Int) (h0 : 0 ≤ x) (h1 : x < 3) : f_J0_charAt_5068e_r1006 a b x = (wdl 8).getD x.toNat 0 := by
  have e : f_J0_charAt_5068e_r1006 a b x = jxi2c (jxand (([111, 108, 100] : List Int).getD x.toNat 0) 255) := rfl
  rw [e]
  have h : ∀ k : Nat, k < 3 → jxi2c (jxand (([111, 108, 100] : List Int).getD k 0) 255) = (wdl 8).getD k 0 := by decide +kernel
  exact h x.toNat (by omega)

theorem cw_1007 (a b : Nat → Nat → Int) (x : Int) (h0 : 0 ≤ x) (h1 : x < 3) : f_J0_charAt_5068e_r1007 a b x = (wdl 9).getD x.toNat 0 := by
  have e : f_J0_charAt_5068e_r1007 a b x = jxi2c (jxand (([97, 110, 121] : List Int).getD x.toNat 0) 255) := rfl
  rw [e]
  have h : ∀ k : Nat, k < 3 → jxi2c (jxand (([97, 110, 121] : List Int).getD k 0) 255) = (wdl 9).getD k 0 := by decide +kernel
  exact h x.toNat (by omega)

theorem cw_1008 (a b : Nat → Nat → Int) (x : Int) (h0 : 0 ≤ x) (h1 : x < 3) : f_J0_charAt_5068e_r1008 a b x = (wdl 1).getD x.toNat 0 := by
  have e : f_J0_charAt_5068e_r1008 a b x = jxi2c (jxand (([97, 110, 100] : List Int).getD x.toNat 0) 255) := rfl
  rw [e]
  have h : ∀ k : Nat, k < 3 → jxi2c (jxand (([97, 110, 100] : List Int).getD k 0) 255) = (wdl 1).getD k 0 := by decide +kernel
  exact h x.toNat (by omega)

theorem cw_1009 (a b : Nat → Nat → Int) (x : Int) (h0 : 0 ≤ x) (h1 : x < 2) : f_J0_charAt_5068e_r1009 a b x = (wdl 0).getD x.toNat 0 := by
  have e : f_J0_charAt_5068e_r1009 a b x = jxi2c (jxand (([111, 114] : List Int).getD x.toNat 0) 255) := rfl
  rw [e]
  have h : ∀ k : Nat, k < 2 → jxi2c (jxand (([111, 114] : List Int).getD k 0) 255) = (wdl 0).getD k 0 := by decide +kernel
  exact h x.toNat (by omega)

theorem cw_1010 (a b : Nat → Nat → Int) (x : Int) (h0 : 0 ≤ x) (h1 : x < 5) : f_J0_charAt_5068e_r1010 a b x = (wdl 10).getD x.toNat 0 := by
  have e : f_J0_charAt_5068e_r1010 a b x = jxi2c (jxand (([117, 110, 100, 101, 114] : List Int).getD x.toNat 0) 255) := rfl
  rw [e]
  have h : ∀ k : Nat, k < 5 → jxi2c (jxand (([117, 110, 100, 101, 114] : List Int).getD k 0) 255) = (wdl 10).getD k 0 := by decide +kernel
  exact h x.toNat (by omega)

theorem cw_1011 (a b : Nat → Nat → Int) (x : Int) (h0 : 0 ≤ x) (h1 : x < 4) : f_J0_charAt_5068e_r1011 a b x = (wdl 11).getD x.toNat 0 := by
  have e : f_J0_charAt_5068e_r1011 a b x = jxi2c (jxand (([109, 111, 114, 101] : List Int).getD x.toNat 0) 255) := rfl
  rw [e]
  have h : ∀ k : Nat, k < 4 → jxi2c (jxand (([109, 111, 114, 101] : List Int).getD k 0) 255) = (wdl 11).getD k 0 := by decide +kernel
  exact h x.toNat (by omega)

theorem cw_1012 (a b : Nat → Nat → Int) (x : Int) (h0 : 0 ≤ x) (h1 : x < 5) : f_J0_charAt_5068e_r1012 a b x = (wdl 12).getD x.toNat 0 := by
  have e : f_J0_charAt_5068e_r1012 a b x = jxi2c (jxand (([115, 108, 97, 99, 107] : List Int).getD x.toNat 0) 255) := rfl
  rw [e]
  have h : ∀ k : Nat, k < 5 → jxi2c (jxand (([115, 108, 97, 99, 107] : List Int).getD k 0) 255) = (wdl 12).getD k 0 := by decide +kernel
  exact h x.toNat (by omega)

theorem cw_1013 (a b : Nat → Nat → Int) (x : Int) (h0 : 0 ≤ x) (h1 : x < 4) : f_J0_charAt_5068e_r1013 a b x = (wdl 13).getD x.toNat 0 := by
  have e : f_J0_charAt_5068e_r1013 a b x = jxi2c (jxand (([108, 111, 115, 116] : List Int).getD x.toNat 0) 255) := rfl
  rw [e]
  have h : ∀ k : Nat, k < 4 → jxi2c (jxand (([108, 111, 115, 116] : List Int).getD k 0) 255) = (wdl 13).getD k 0 := by decide +kernel
  exact h x.toNat (by omega)

theorem cw_1014 (a b : Nat → Nat → Int) (x : Int) (h0 : 0 ≤ x) (h1 : x < 6) : f_J0_charAt_5068e_r1014 a b x = (wdl 14).getD x.toNat 0 := by
  have e : f_J0_charAt_5068e_r1014 a b x = jxi2c (jxand (([115, 116, 114, 105, 99, 116] : List Int).getD x.toNat 0) 255) := rfl
  rw [e]
  have h : ∀ k : Nat, k < 6 → jxi2c (jxand (([115, 116, 114, 105, 99, 116] : List Int).getD k 0) 255) = (wdl 14).getD k 0 := by decide +kernel
  exact h x.toNat (by omega)

theorem cw_1015 (a b : Nat → Nat → Int) (x : Int) (h0 : 0 ≤ x) (h1 : x < 4) : f_J0_charAt_5068e_r1015 a b x = (wdl 15).getD x.toNat 0 := by
  have e : f_J0_charAt_5068e_r1015 a b x = jxi2c (jxand (([122, 111, 110, 101] : List Int).getD x.toNat 0) 255) := rfl
  rw [e]
  have h : ∀ k : Nat, k < 4 → jxi2c (jxand (([122, 111, 110, 101] : List Int).getD k 0) 255) = (wdl 15).getD k 0 := by decide +kernel
  exact h x.toNat (by omega)

theorem zn11 (a b : Nat → Nat → Int) (x y : Int) (hx : 0 ≤ x ∧ x ≤ 15) (hy : 0 ≤ y ∧ y ≤ 15) : f_X11_zone a b x y = ZN x y (a 1 (16 * x + y).toNat) := by
  have h1 := f_X11_isLand_eq a b x
  have h2 := f_X11_isLand_eq a b y
  have h3 := f_X11_within_eq a b x 0 15
  have h4 := f_X11_within_eq a b y 0 15
  unfold f_X11_zone ZN
  by_cases e : x = y
  · rw [if_pos e, if_pos e]
  · rw [if_neg e, if_neg e, if_neg (by omega), if_neg (by omega)]
    unfold f_X11_zone_at33
    rw [show (jxw ((jxw (x * 16)) + y)).toNat = (16 * x + y).toNat from by rw [jxw_id (x := x * 16) (by omega) (by omega), jxw_id (by omega) (by omega)]; omega]

theorem wo12 (a b : Nat → Nat → Int) (w : Int) : f_X12_without a b w = RDF w := rfl
theorem mo12 (a b : Nat → Nat → Int) (w : Int) : f_X12_mostOf a b w = RHI w := by
  unfold f_X12_mostOf RHI
  by_cases h0 : w = 0
  · rw [if_pos h0, if_pos (Or.inl h0)]
  · rw [if_neg h0]
    by_cases h2 : w = 2
    · rw [if_pos h2, if_pos (Or.inr h2)]
    · rw [if_neg h2, if_neg (show ¬ (w = 0 ∨ w = 2) from fun h => h.elim h0 h2)]

theorem gn10 (a b : Nat → Nat → Int) (k : Int) (h0 : 0 ≤ k) (h1 : k ≤ 6) : f_X10_greatestNumber a b k = HIk k := by
  have h : k = 0 ∨ k = 1 ∨ k = 2 ∨ k = 3 ∨ k = 4 ∨ k = 5 ∨ k = 6 := by omega
  rcases h with rfl | rfl | rfl | rfl | rfl | rfl | rfl <;> rfl
