def f_J0_isLatin1_aae02_r1000 (a0 b0 : Nat → Nat → Int) : Int := 1
theorem eq_J0_isLatin1_aae02_r1000 (E : jxE) (d : Nat) (hd : Nat.ble 1 d = true) (a0 b0 : Nat → Nat → Int) : jxC E d 297 [.inr (.inr (.inl 1000))] (jxSH, a0, b0) = some ([.inl (f_J0_isLatin1_aae02_r1000 a0 b0)], (jxSH, a0, b0)) := by
  obtain ⟨d, rfl⟩ := jd_succ hd
  refine (bq_J0_isLatin1_aae02_r1000 E d a0 b0).trans ?_
  unfold f_J0_isLatin1_aae02_r1000
  rfl
theorem f_J0_isLatin1_aae02_r1000_eq (a0 b0 : Nat → Nat → Int) : f_J0_isLatin1_aae02_r1000 a0 b0 = 1 := rfl
theorem f_J0_isLatin1_aae02_r1000_bool (a0 b0 : Nat → Nat → Int) : f_J0_isLatin1_aae02_r1000 a0 b0 = 0 ∨ f_J0_isLatin1_aae02_r1000 a0 b0 = 1 := by
  unfold f_J0_isLatin1_aae02_r1000
  exact Or.inr rfl
def f_J3_checkIndex_8e157_r4000 (a0 b0 : Nat → Nat → Int) (x0 x1 : Int) : Int := (if x0 < 0 then 0 else (if x0 < x1 then x0 else 0))
theorem eq_J3_checkIndex_8e157_r4000 (E : jxE) (d : Nat) (hd : Nat.ble 1 d = true) (x0 x1 : Int) (a0 b0 : Nat → Nat → Int) (hp0 : (0 ≤ x0 ∧ x0 < x1)) : jxC E d 304 [.inl x0, .inl x1, .inr (.inr (.inl 4000))] (jxSH, a0, b0) = some ([.inl (f_J3_checkIndex_8e157_r4000 a0 b0 x0 x1)], (jxSH, a0, b0)) := by
  obtain ⟨d, rfl⟩ := jd_succ hd
  refine (bq_J3_checkIndex_8e157_r4000 E d x0 x1 a0 b0).trans ?_
  unfold f_J3_checkIndex_8e157_r4000
  refine eq_iteI (fun hc1 => ?_) (fun hc1 => ?_)
  ·
    exact absurd (by omega : False) id
  ·
    refine eq_iteI (fun hc2 => ?_) (fun hc2 => ?_)
    ·
      rfl
    ·
      exact absurd (by omega : False) id
theorem f_J3_checkIndex_8e157_r4000_eq (a0 b0 : Nat → Nat → Int) (x0 x1 : Int) : f_J3_checkIndex_8e157_r4000 a0 b0 x0 x1 = (if x0 < 0 then 0 else (if x0 < x1 then x0 else 0)) := rfl
theorem eq_J0_checkIndex_df160 (E : jxE) (d : Nat) (hd : Nat.ble 2 d = true) (x0 x1 : Int) (a0 b0 : Nat → Nat → Int) (hp0 : (0 ≤ x0 ∧ x0 < x1)) : jxC E d 298 [.inl x0, .inl x1] (jxSH, a0, b0) = some ([], (jxSH, a0, b0)) := by
  obtain ⟨d, rfl⟩ := jd_succ hd
  refine (bq_J0_checkIndex_df160 E d x0 x1 a0 b0).trans ?_
  refine eq_bI (eq_J3_checkIndex_8e157_r4000 E d (jd_le hd rfl) x0 x1 a0 b0 (show (0 ≤ x0 ∧ x0 < x1) from by omega)) ?_
  rfl
def f_J1_charAt_3b067_r2000 (a0 b0 : Nat → Nat → Int) (x1 : Int) : Int := (jxi2c (jxand (([110, 111, 116] : List Int).getD (x1.toNat) 0) 255))
theorem eq_J1_charAt_3b067_r2000 (E : jxE) (d : Nat) (hd : Nat.ble 3 d = true) (x1 : Int) (a0 b0 : Nat → Nat → Int) (hp0 : (0 ≤ x1 ∧ x1 < 3)) : jxC E d 299 [.inr (.inr (.inl 2000)), .inl x1] (jxSH, a0, b0) = some ([.inl (f_J1_charAt_3b067_r2000 a0 b0 x1)], (jxSH, a0, b0)) := by
  obtain ⟨d, rfl⟩ := jd_succ hd
  refine (bq_J1_charAt_3b067_r2000 E d x1 a0 b0).trans ?_
  unfold f_J1_charAt_3b067_r2000
  refine eq_bV (eq_J0_checkIndex_df160 E d (jd_le hd rfl) x1 3 a0 b0 (show (0 ≤ x1 ∧ x1 < 3) from by omega)) ?_
  refine eq_grd (by omega) ?_
  have h1_ := jxand_r (([110, 111, 116] : List Int).getD (x1.toNat) 0) 255 (by decide) (by decide)
  have h2_ := jxi2c_b (jxand (([110, 111, 116] : List Int).getD (x1.toNat) 0) 255)
  refine eq_grd (by omega) ?_
  rfl
theorem f_J1_charAt_3b067_r2000_eq (a0 b0 : Nat → Nat → Int) (x1 : Int) : f_J1_charAt_3b067_r2000 a0 b0 x1 = (jxi2c (jxand (([110, 111, 116] : List Int).getD (x1.toNat) 0) 255)) := rfl
def f_J0_charAt_5068e_r1000 (a0 b0 : Nat → Nat → Int) (x1 : Int) : Int := (if f_J0_isLatin1_aae02_r1000 a0 b0 = 0 then 0 else (f_J1_charAt_3b067_r2000 a0 b0 x1))
theorem eq_J0_charAt_5068e_r1000 (E : jxE) (d : Nat) (hd : Nat.ble 4 d = true) (x1 : Int) (a0 b0 : Nat → Nat → Int) (hp0 : (0 ≤ x1 ∧ x1 < 3)) : jxC E d 295 [.inr (.inr (.inl 1000)), .inl x1] (jxSH, a0, b0) = some ([.inl (f_J0_charAt_5068e_r1000 a0 b0 x1)], (jxSH, a0, b0)) := by
  obtain ⟨d, rfl⟩ := jd_succ hd
  refine (bq_J0_charAt_5068e_r1000 E d x1 a0 b0).trans ?_
  unfold f_J0_charAt_5068e_r1000
  refine eq_bI (eq_J0_isLatin1_aae02_r1000 E d (jd_le hd rfl) a0 b0) ?_
  have h3_ := f_J0_isLatin1_aae02_r1000_eq a0 b0
  refine eq_iteI (fun hc1 => ?_) (fun hc1 => ?_)
  ·
    exact absurd (by omega : False) id
  ·
    refine eq_bI (eq_J1_charAt_3b067_r2000 E d (jd_le hd rfl) x1 a0 b0 (show (0 ≤ x1 ∧ x1 < 3) from by omega)) ?_
    have h4_ := f_J1_charAt_3b067_r2000_eq a0 b0 x1
    have h5_ := jxand_r (([110, 111, 116] : List Int).getD (x1.toNat) 0) 255 (by decide) (by decide)
    have h6_ := jxi2c_b (jxand (([110, 111, 116] : List Int).getD (x1.toNat) 0) 255)
    refine eq_grd (by omega) ?_
    rfl
theorem f_J0_charAt_5068e_r1000_eq (a0 b0 : Nat → Nat → Int) (x1 : Int) : f_J0_charAt_5068e_r1000 a0 b0 x1 = (if f_J0_isLatin1_aae02_r1000 a0 b0 = 0 then 0 else (f_J1_charAt_3b067_r2000 a0 b0 x1)) := rfl
def f_J0_isLatin1_aae02_r1001 (a0 b0 : Nat → Nat → Int) : Int := 1
theorem eq_J0_isLatin1_aae02_r1001 (E : jxE) (d : Nat) (hd : Nat.ble 1 d = true) (a0 b0 : Nat → Nat → Int) : jxC E d 297 [.inr (.inr (.inl 1001))] (jxSH, a0, b0) = some ([.inl (f_J0_isLatin1_aae02_r1001 a0 b0)], (jxSH, a0, b0)) := by
  obtain ⟨d, rfl⟩ := jd_succ hd
  refine (bq_J0_isLatin1_aae02_r1001 E d a0 b0).trans ?_
  unfold f_J0_isLatin1_aae02_r1001
  rfl
theorem f_J0_isLatin1_aae02_r1001_eq (a0 b0 : Nat → Nat → Int) : f_J0_isLatin1_aae02_r1001 a0 b0 = 1 := rfl
theorem f_J0_isLatin1_aae02_r1001_bool (a0 b0 : Nat → Nat → Int) : f_J0_isLatin1_aae02_r1001 a0 b0 = 0 ∨ f_J0_isLatin1_aae02_r1001 a0 b0 = 1 := by
  unfold f_J0_isLatin1_aae02_r1001
  exact Or.inr rfl
def f_J1_charAt_3b067_r2001 (a0 b0 : Nat → Nat → Int) (x1 : Int) : Int := (jxi2c (jxand (([108, 97, 110, 100] : List Int).getD (x1.toNat) 0) 255))
theorem eq_J1_charAt_3b067_r2001 (E : jxE) (d : Nat) (hd : Nat.ble 3 d = true) (x1 : Int) (a0 b0 : Nat → Nat → Int) (hp0 : (0 ≤ x1 ∧ x1 < 4)) : jxC E d 299 [.inr (.inr (.inl 2001)), .inl x1] (jxSH, a0, b0) = some ([.inl (f_J1_charAt_3b067_r2001 a0 b0 x1)], (jxSH, a0, b0)) := by
  obtain ⟨d, rfl⟩ := jd_succ hd
  refine (bq_J1_charAt_3b067_r2001 E d x1 a0 b0).trans ?_
  unfold f_J1_charAt_3b067_r2001
  refine eq_bV (eq_J0_checkIndex_df160 E d (jd_le hd rfl) x1 4 a0 b0 (show (0 ≤ x1 ∧ x1 < 4) from by omega)) ?_
  refine eq_grd (by omega) ?_
  have h7_ := jxand_r (([108, 97, 110, 100] : List Int).getD (x1.toNat) 0) 255 (by decide) (by decide)
  have h8_ := jxi2c_b (jxand (([108, 97, 110, 100] : List Int).getD (x1.toNat) 0) 255)
  refine eq_grd (by omega) ?_
  rfl
theorem f_J1_charAt_3b067_r2001_eq (a0 b0 : Nat → Nat → Int) (x1 : Int) : f_J1_charAt_3b067_r2001 a0 b0 x1 = (jxi2c (jxand (([108, 97, 110, 100] : List Int).getD (x1.toNat) 0) 255)) := rfl
def f_J0_charAt_5068e_r1001 (a0 b0 : Nat → Nat → Int) (x1 : Int) : Int := (if f_J0_isLatin1_aae02_r1001 a0 b0 = 0 then 0 else (f_J1_charAt_3b067_r2001 a0 b0 x1))
theorem eq_J0_charAt_5068e_r1001 (E : jxE) (d : Nat) (hd : Nat.ble 4 d = true) (x1 : Int) (a0 b0 : Nat → Nat → Int) (hp0 : (0 ≤ x1 ∧ x1 < 4)) : jxC E d 295 [.inr (.inr (.inl 1001)), .inl x1] (jxSH, a0, b0) = some ([.inl (f_J0_charAt_5068e_r1001 a0 b0 x1)], (jxSH, a0, b0)) := by
  obtain ⟨d, rfl⟩ := jd_succ hd
  refine (bq_J0_charAt_5068e_r1001 E d x1 a0 b0).trans ?_
  unfold f_J0_charAt_5068e_r1001
  refine eq_bI (eq_J0_isLatin1_aae02_r1001 E d (jd_le hd rfl) a0 b0) ?_
  have h9_ := f_J0_isLatin1_aae02_r1001_eq a0 b0
  refine eq_iteI (fun hc1 => ?_) (fun hc1 => ?_)
  ·
    exact absurd (by omega : False) id
  ·
    refine eq_bI (eq_J1_charAt_3b067_r2001 E d (jd_le hd rfl) x1 a0 b0 (show (0 ≤ x1 ∧ x1 < 4) from by omega)) ?_
    have h10_ := f_J1_charAt_3b067_r2001_eq a0 b0 x1
    have h11_ := jxand_r (([108, 97, 110, 100] : List Int).getD (x1.toNat) 0) 255 (by decide) (by decide)
    have h12_ := jxi2c_b (jxand (([108, 97, 110, 100] : List Int).getD (x1.toNat) 0) 255)
    refine eq_grd (by omega) ?_
    rfl
theorem f_J0_charAt_5068e_r1001_eq (a0 b0 : Nat → Nat → Int) (x1 : Int) : f_J0_charAt_5068e_r1001 a0 b0 x1 = (if f_J0_isLatin1_aae02_r1001 a0 b0 = 0 then 0 else (f_J1_charAt_3b067_r2001 a0 b0 x1)) := rfl
def f_J0_isLatin1_aae02_r1002 (a0 b0 : Nat → Nat → Int) : Int := 1
theorem eq_J0_isLatin1_aae02_r1002 (E : jxE) (d : Nat) (hd : Nat.ble 1 d = true) (a0 b0 : Nat → Nat → Int) : jxC E d 297 [.inr (.inr (.inl 1002))] (jxSH, a0, b0) = some ([.inl (f_J0_isLatin1_aae02_r1002 a0 b0)], (jxSH, a0, b0)) := by
  obtain ⟨d, rfl⟩ := jd_succ hd
  refine (bq_J0_isLatin1_aae02_r1002 E d a0 b0).trans ?_
  unfold f_J0_isLatin1_aae02_r1002
  rfl
theorem f_J0_isLatin1_aae02_r1002_eq (a0 b0 : Nat → Nat → Int) : f_J0_isLatin1_aae02_r1002 a0 b0 = 1 := rfl
theorem f_J0_isLatin1_aae02_r1002_bool (a0 b0 : Nat → Nat → Int) : f_J0_isLatin1_aae02_r1002 a0 b0 = 0 ∨ f_J0_isLatin1_aae02_r1002 a0 b0 = 1 := by
  unfold f_J0_isLatin1_aae02_r1002
  exact Or.inr rfl
def f_J1_charAt_3b067_r2002 (a0 b0 : Nat → Nat → Int) (x1 : Int) : Int := (jxi2c (jxand (([116, 111, 110, 103, 117, 101] : List Int).getD (x1.toNat) 0) 255))
theorem eq_J1_charAt_3b067_r2002 (E : jxE) (d : Nat) (hd : Nat.ble 3 d = true) (x1 : Int) (a0 b0 : Nat → Nat → Int) (hp0 : (0 ≤ x1 ∧ x1 < 6)) : jxC E d 299 [.inr (.inr (.inl 2002)), .inl x1] (jxSH, a0, b0) = some ([.inl (f_J1_charAt_3b067_r2002 a0 b0 x1)], (jxSH, a0, b0)) := by
  obtain ⟨d, rfl⟩ := jd_succ hd
  refine (bq_J1_charAt_3b067_r2002 E d x1 a0 b0).trans ?_
  unfold f_J1_charAt_3b067_r2002
  refine eq_bV (eq_J0_checkIndex_df160 E d (jd_le hd rfl) x1 6 a0 b0 (show (0 ≤ x1 ∧ x1 < 6) from by omega)) ?_
  refine eq_grd (by omega) ?_
  have h13_ := jxand_r (([116, 111, 110, 103, 117, 101] : List Int).getD (x1.toNat) 0) 255 (by decide) (by decide)
  have h14_ := jxi2c_b (jxand (([116, 111, 110, 103, 117, 101] : List Int).getD (x1.toNat) 0) 255)
  refine eq_grd (by omega) ?_
  rfl
theorem f_J1_charAt_3b067_r2002_eq (a0 b0 : Nat → Nat → Int) (x1 : Int) : f_J1_charAt_3b067_r2002 a0 b0 x1 = (jxi2c (jxand (([116, 111, 110, 103, 117, 101] : List Int).getD (x1.toNat) 0) 255)) := rfl
def f_J0_charAt_5068e_r1002 (a0 b0 : Nat → Nat → Int) (x1 : Int) : Int := (if f_J0_isLatin1_aae02_r1002 a0 b0 = 0 then 0 else (f_J1_charAt_3b067_r2002 a0 b0 x1))
theorem eq_J0_charAt_5068e_r1002 (E : jxE) (d : Nat) (hd : Nat.ble 4 d = true) (x1 : Int) (a0 b0 : Nat → Nat → Int) (hp0 : (0 ≤ x1 ∧ x1 < 6)) : jxC E d 295 [.inr (.inr (.inl 1002)), .inl x1] (jxSH, a0, b0) = some ([.inl (f_J0_charAt_5068e_r1002 a0 b0 x1)], (jxSH, a0, b0)) := by
  obtain ⟨d, rfl⟩ := jd_succ hd
  refine (bq_J0_charAt_5068e_r1002 E d x1 a0 b0).trans ?_
  unfold f_J0_charAt_5068e_r1002
  refine eq_bI (eq_J0_isLatin1_aae02_r1002 E d (jd_le hd rfl) a0 b0) ?_
  have h15_ := f_J0_isLatin1_aae02_r1002_eq a0 b0
  refine eq_iteI (fun hc1 => ?_) (fun hc1 => ?_)
  ·
    exact absurd (by omega : False) id
  ·
    refine eq_bI (eq_J1_charAt_3b067_r2002 E d (jd_le hd rfl) x1 a0 b0 (show (0 ≤ x1 ∧ x1 < 6) from by omega)) ?_
    have h16_ := f_J1_charAt_3b067_r2002_eq a0 b0 x1
    have h17_ := jxand_r (([116, 111, 110, 103, 117, 101] : List Int).getD (x1.toNat) 0) 255 (by decide) (by decide)
    have h18_ := jxi2c_b (jxand (([116, 111, 110, 103, 117, 101] : List Int).getD (x1.toNat) 0) 255)
    refine eq_grd (by omega) ?_
    rfl
theorem f_J0_charAt_5068e_r1002_eq (a0 b0 : Nat → Nat → Int) (x1 : Int) : f_J0_charAt_5068e_r1002 a0 b0 x1 = (if f_J0_isLatin1_aae02_r1002 a0 b0 = 0 then 0 else (f_J1_charAt_3b067_r2002 a0 b0 x1)) := rfl
def f_J0_isLatin1_aae02_r1003 (a0 b0 : Nat → Nat → Int) : Int := 1
theorem eq_J0_isLatin1_aae02_r1003 (E : jxE) (d : Nat) (hd : Nat.ble 1 d = true) (a0 b0 : Nat → Nat → Int) : jxC E d 297 [.inr (.inr (.inl 1003))] (jxSH, a0, b0) = some ([.inl (f_J0_isLatin1_aae02_r1003 a0 b0)], (jxSH, a0, b0)) := by
  obtain ⟨d, rfl⟩ := jd_succ hd
  refine (bq_J0_isLatin1_aae02_r1003 E d a0 b0).trans ?_
  unfold f_J0_isLatin1_aae02_r1003
  rfl
theorem f_J0_isLatin1_aae02_r1003_eq (a0 b0 : Nat → Nat → Int) : f_J0_isLatin1_aae02_r1003 a0 b0 = 1 := rfl
theorem f_J0_isLatin1_aae02_r1003_bool (a0 b0 : Nat → Nat → Int) : f_J0_isLatin1_aae02_r1003 a0 b0 = 0 ∨ f_J0_isLatin1_aae02_r1003 a0 b0 = 1 := by
  unfold f_J0_isLatin1_aae02_r1003
  exact Or.inr rfl
def f_J1_charAt_3b067_r2003 (a0 b0 : Nat → Nat → Int) (x1 : Int) : Int := (jxi2c (jxand (([115, 104, 97, 114, 101, 100] : List Int).getD (x1.toNat) 0) 255))
theorem eq_J1_charAt_3b067_r2003 (E : jxE) (d : Nat) (hd : Nat.ble 3 d = true) (x1 : Int) (a0 b0 : Nat → Nat → Int) (hp0 : (0 ≤ x1 ∧ x1 < 6)) : jxC E d 299 [.inr (.inr (.inl 2003)), .inl x1] (jxSH, a0, b0) = some ([.inl (f_J1_charAt_3b067_r2003 a0 b0 x1)], (jxSH, a0, b0)) := by
  obtain ⟨d, rfl⟩ := jd_succ hd
  refine (bq_J1_charAt_3b067_r2003 E d x1 a0 b0).trans ?_
  unfold f_J1_charAt_3b067_r2003
  refine eq_bV (eq_J0_checkIndex_df160 E d (jd_le hd rfl) x1 6 a0 b0 (show (0 ≤ x1 ∧ x1 < 6) from by omega)) ?_
  refine eq_grd (by omega) ?_
  have h19_ := jxand_r (([115, 104, 97, 114, 101, 100] : List Int).getD (x1.toNat) 0) 255 (by decide) (by decide)
  have h20_ := jxi2c_b (jxand (([115, 104, 97, 114, 101, 100] : List Int).getD (x1.toNat) 0) 255)
  refine eq_grd (by omega) ?_
  rfl
theorem f_J1_charAt_3b067_r2003_eq (a0 b0 : Nat → Nat → Int) (x1 : Int) : f_J1_charAt_3b067_r2003 a0 b0 x1 = (jxi2c (jxand (([115, 104, 97, 114, 101, 100] : List Int).getD (x1.toNat) 0) 255)) := rfl
def f_J0_charAt_5068e_r1003 (a0 b0 : Nat → Nat → Int) (x1 : Int) : Int := (if f_J0_isLatin1_aae02_r1003 a0 b0 = 0 then 0 else (f_J1_charAt_3b067_r2003 a0 b0 x1))
theorem eq_J0_charAt_5068e_r1003 (E : jxE) (d : Nat) (hd : Nat.ble 4 d = true) (x1 : Int) (a0 b0 : Nat → Nat → Int) (hp0 : (0 ≤ x1 ∧ x1 < 6)) : jxC E d 295 [.inr (.inr (.inl 1003)), .inl x1] (jxSH, a0, b0) = some ([.inl (f_J0_charAt_5068e_r1003 a0 b0 x1)], (jxSH, a0, b0)) := by
  obtain ⟨d, rfl⟩ := jd_succ hd
  refine (bq_J0_charAt_5068e_r1003 E d x1 a0 b0).trans ?_
  unfold f_J0_charAt_5068e_r1003
  refine eq_bI (eq_J0_isLatin1_aae02_r1003 E d (jd_le hd rfl) a0 b0) ?_
  have h21_ := f_J0_isLatin1_aae02_r1003_eq a0 b0
  refine eq_iteI (fun hc1 => ?_) (fun hc1 => ?_)
  ·
    exact absurd (by omega : False) id
  ·
    refine eq_bI (eq_J1_charAt_3b067_r2003 E d (jd_le hd rfl) x1 a0 b0 (show (0 ≤ x1 ∧ x1 < 6) from by omega)) ?_
    have h22_ := f_J1_charAt_3b067_r2003_eq a0 b0 x1
    have h23_ := jxand_r (([115, 104, 97, 114, 101, 100] : List Int).getD (x1.toNat) 0) 255 (by decide) (by decide)
    have h24_ := jxi2c_b (jxand (([115, 104, 97, 114, 101, 100] : List Int).getD (x1.toNat) 0) 255)
    refine eq_grd (by omega) ?_
    rfl
theorem f_J0_charAt_5068e_r1003_eq (a0 b0 : Nat → Nat → Int) (x1 : Int) : f_J0_charAt_5068e_r1003 a0 b0 x1 = (if f_J0_isLatin1_aae02_r1003 a0 b0 = 0 then 0 else (f_J1_charAt_3b067_r2003 a0 b0 x1)) := rfl
def f_J0_isLatin1_aae02_r1004 (a0 b0 : Nat → Nat → Int) : Int := 1
theorem eq_J0_isLatin1_aae02_r1004 (E : jxE) (d : Nat) (hd : Nat.ble 1 d = true) (a0 b0 : Nat → Nat → Int) : jxC E d 297 [.inr (.inr (.inl 1004))] (jxSH, a0, b0) = some ([.inl (f_J0_isLatin1_aae02_r1004 a0 b0)], (jxSH, a0, b0)) := by
  obtain ⟨d, rfl⟩ := jd_succ hd
  refine (bq_J0_isLatin1_aae02_r1004 E d a0 b0).trans ?_
  unfold f_J0_isLatin1_aae02_r1004
  rfl
theorem f_J0_isLatin1_aae02_r1004_eq (a0 b0 : Nat → Nat → Int) : f_J0_isLatin1_aae02_r1004 a0 b0 = 1 := rfl
theorem f_J0_isLatin1_aae02_r1004_bool (a0 b0 : Nat → Nat → Int) : f_J0_isLatin1_aae02_r1004 a0 b0 = 0 ∨ f_J0_isLatin1_aae02_r1004 a0 b0 = 1 := by
  unfold f_J0_isLatin1_aae02_r1004
  exact Or.inr rfl
def f_J1_charAt_3b067_r2004 (a0 b0 : Nat → Nat → Int) (x1 : Int) : Int := (jxi2c (jxand (([102, 97, 114] : List Int).getD (x1.toNat) 0) 255))
theorem eq_J1_charAt_3b067_r2004 (E : jxE) (d : Nat) (hd : Nat.ble 3 d = true) (x1 : Int) (a0 b0 : Nat → Nat → Int) (hp0 : (0 ≤ x1 ∧ x1 < 3)) : jxC E d 299 [.inr (.inr (.inl 2004)), .inl x1] (jxSH, a0, b0) = some ([.inl (f_J1_charAt_3b067_r2004 a0 b0 x1)], (jxSH, a0, b0)) := by
  obtain ⟨d, rfl⟩ := jd_succ hd
  refine (bq_J1_charAt_3b067_r2004 E d x1 a0 b0).trans ?_
  unfold f_J1_charAt_3b067_r2004
  refine eq_bV (eq_J0_checkIndex_df160 E d (jd_le hd rfl) x1 3 a0 b0 (show (0 ≤ x1 ∧ x1 < 3) from by omega)) ?_
  refine eq_grd (by omega) ?_
  have h25_ := jxand_r (([102, 97, 114] : List Int).getD (x1.toNat) 0) 255 (by decide) (by decide)
  have h26_ := jxi2c_b (jxand (([102, 97, 114] : List Int).getD (x1.toNat) 0) 255)
  refine eq_grd (by omega) ?_
  rfl
theorem f_J1_charAt_3b067_r2004_eq (a0 b0 : Nat → Nat → Int) (x1 : Int) : f_J1_charAt_3b067_r2004 a0 b0 x1 = (jxi2c (jxand (([102, 97, 114] : List Int).getD (x1.toNat) 0) 255)) := rfl
def f_J0_charAt_5068e_r1004 (a0 b0 : Nat → Nat → Int) (x1 : Int) : Int := (if f_J0_isLatin1_aae02_r1004 a0 b0 = 0 then 0 else (f_J1_charAt_3b067_r2004 a0 b0 x1))
theorem eq_J0_charAt_5068e_r1004 (E : jxE) (d : Nat) (hd : Nat.ble 4 d = true) (x1 : Int) (a0 b0 : Nat → Nat → Int) (hp0 : (0 ≤ x1 ∧ x1 < 3)) : jxC E d 295 [.inr (.inr (.inl 1004)), .inl x1] (jxSH, a0, b0) = some ([.inl (f_J0_charAt_5068e_r1004 a0 b0 x1)], (jxSH, a0, b0)) := by
  obtain ⟨d, rfl⟩ := jd_succ hd
  refine (bq_J0_charAt_5068e_r1004 E d x1 a0 b0).trans ?_
  unfold f_J0_charAt_5068e_r1004
  refine eq_bI (eq_J0_isLatin1_aae02_r1004 E d (jd_le hd rfl) a0 b0) ?_
  have h27_ := f_J0_isLatin1_aae02_r1004_eq a0 b0
  refine eq_iteI (fun hc1 => ?_) (fun hc1 => ?_)
  ·
    exact absurd (by omega : False) id
  ·
    refine eq_bI (eq_J1_charAt_3b067_r2004 E d (jd_le hd rfl) x1 a0 b0 (show (0 ≤ x1 ∧ x1 < 3) from by omega)) ?_
    have h28_ := f_J1_charAt_3b067_r2004_eq a0 b0 x1
    have h29_ := jxand_r (([102, 97, 114] : List Int).getD (x1.toNat) 0) 255 (by decide) (by decide)
    have h30_ := jxi2c_b (jxand (([102, 97, 114] : List Int).getD (x1.toNat) 0) 255)
    refine eq_grd (by omega) ?_
    rfl
theorem f_J0_charAt_5068e_r1004_eq (a0 b0 : Nat → Nat → Int) (x1 : Int) : f_J0_charAt_5068e_r1004 a0 b0 x1 = (if f_J0_isLatin1_aae02_r1004 a0 b0 = 0 then 0 else (f_J1_charAt_3b067_r2004 a0 b0 x1)) := rfl
def f_J0_isLatin1_aae02_r1005 (a0 b0 : Nat → Nat → Int) : Int := 1
theorem eq_J0_isLatin1_aae02_r1005 (E : jxE) (d : Nat) (hd : Nat.ble 1 d = true) (a0 b0 : Nat → Nat → Int) : jxC E d 297 [.inr (.inr (.inl 1005))] (jxSH, a0, b0) = some ([.inl (f_J0_isLatin1_aae02_r1005 a0 b0)], (jxSH, a0, b0)) := by
  obtain ⟨d, rfl⟩ := jd_succ hd
  refine (bq_J0_isLatin1_aae02_r1005 E d a0 b0).trans ?_
  unfold f_J0_isLatin1_aae02_r1005
  rfl
theorem f_J0_isLatin1_aae02_r1005_eq (a0 b0 : Nat → Nat → Int) : f_J0_isLatin1_aae02_r1005 a0 b0 = 1 := rfl
theorem f_J0_isLatin1_aae02_r1005_bool (a0 b0 : Nat → Nat → Int) : f_J0_isLatin1_aae02_r1005 a0 b0 = 0 ∨ f_J0_isLatin1_aae02_r1005 a0 b0 = 1 := by
  unfold f_J0_isLatin1_aae02_r1005
  exact Or.inr rfl
def f_J1_charAt_3b067_r2005 (a0 b0 : Nat → Nat → Int) (x1 : Int) : Int := (jxi2c (jxand (([110, 101, 97, 114] : List Int).getD (x1.toNat) 0) 255))
theorem eq_J1_charAt_3b067_r2005 (E : jxE) (d : Nat) (hd : Nat.ble 3 d = true) (x1 : Int) (a0 b0 : Nat → Nat → Int) (hp0 : (0 ≤ x1 ∧ x1 < 4)) : jxC E d 299 [.inr (.inr (.inl 2005)), .inl x1] (jxSH, a0, b0) = some ([.inl (f_J1_charAt_3b067_r2005 a0 b0 x1)], (jxSH, a0, b0)) := by
  obtain ⟨d, rfl⟩ := jd_succ hd
  refine (bq_J1_charAt_3b067_r2005 E d x1 a0 b0).trans ?_
  unfold f_J1_charAt_3b067_r2005
  refine eq_bV (eq_J0_checkIndex_df160 E d (jd_le hd rfl) x1 4 a0 b0 (show (0 ≤ x1 ∧ x1 < 4) from by omega)) ?_
  refine eq_grd (by omega) ?_
  have h31_ := jxand_r (([110, 101, 97, 114] : List Int).getD (x1.toNat) 0) 255 (by decide) (by decide)
  have h32_ := jxi2c_b (jxand (([110, 101, 97, 114] : List Int).getD (x1.toNat) 0) 255)
  refine eq_grd (by omega) ?_
  rfl
theorem f_J1_charAt_3b067_r2005_eq (a0 b0 : Nat → Nat → Int) (x1 : Int) : f_J1_charAt_3b067_r2005 a0 b0 x1 = (jxi2c (jxand (([110, 101, 97, 114] : List Int).getD (x1.toNat) 0) 255)) := rfl
def f_J0_charAt_5068e_r1005 (a0 b0 : Nat → Nat → Int) (x1 : Int) : Int := (if f_J0_isLatin1_aae02_r1005 a0 b0 = 0 then 0 else (f_J1_charAt_3b067_r2005 a0 b0 x1))
theorem eq_J0_charAt_5068e_r1005 (E : jxE) (d : Nat) (hd : Nat.ble 4 d = true) (x1 : Int) (a0 b0 : Nat → Nat → Int) (hp0 : (0 ≤ x1 ∧ x1 < 4)) : jxC E d 295 [.inr (.inr (.inl 1005)), .inl x1] (jxSH, a0, b0) = some ([.inl (f_J0_charAt_5068e_r1005 a0 b0 x1)], (jxSH, a0, b0)) := by
  obtain ⟨d, rfl⟩ := jd_succ hd
  refine (bq_J0_charAt_5068e_r1005 E d x1 a0 b0).trans ?_
  unfold f_J0_charAt_5068e_r1005
  refine eq_bI (eq_J0_isLatin1_aae02_r1005 E d (jd_le hd rfl) a0 b0) ?_
  have h33_ := f_J0_isLatin1_aae02_r1005_eq a0 b0
  refine eq_iteI (fun hc1 => ?_) (fun hc1 => ?_)
  ·
    exact absurd (by omega : False) id
  ·
    refine eq_bI (eq_J1_charAt_3b067_r2005 E d (jd_le hd rfl) x1 a0 b0 (show (0 ≤ x1 ∧ x1 < 4) from by omega)) ?_
    have h34_ := f_J1_charAt_3b067_r2005_eq a0 b0 x1
    have h35_ := jxand_r (([110, 101, 97, 114] : List Int).getD (x1.toNat) 0) 255 (by decide) (by decide)
    have h36_ := jxi2c_b (jxand (([110, 101, 97, 114] : List Int).getD (x1.toNat) 0) 255)
    refine eq_grd (by omega) ?_
    rfl
theorem f_J0_charAt_5068e_r1005_eq (a0 b0 : Nat → Nat → Int) (x1 : Int) : f_J0_charAt_5068e_r1005 a0 b0 x1 = (if f_J0_isLatin1_aae02_r1005 a0 b0 = 0 then 0 else (f_J1_charAt_3b067_r2005 a0 b0 x1)) := rfl
def f_J0_isLatin1_aae02_r1006 (a0 b0 : Nat → Nat → Int) : Int := 1
theorem eq_J0_isLatin1_aae02_r1006 (E : jxE) (d : Nat) (hd : Nat.ble 1 d = true) (a0 b0 : Nat → Nat → Int) : jxC E d 297 [.inr (.inr (.inl 1006))] (jxSH, a0, b0) = some ([.inl (f_J0_isLatin1_aae02_r1006 a0 b0)], (jxSH, a0, b0)) := by
  obtain ⟨d, rfl⟩ := jd_succ hd
  refine (bq_J0_isLatin1_aae02_r1006 E d a0 b0).trans ?_
  unfold f_J0_isLatin1_aae02_r1006
  rfl
theorem f_J0_isLatin1_aae02_r1006_eq (a0 b0 : Nat → Nat → Int) : f_J0_isLatin1_aae02_r1006 a0 b0 = 1 := rfl
theorem f_J0_isLatin1_aae02_r1006_bool (a0 b0 : Nat → Nat → Int) : f_J0_isLatin1_aae02_r1006 a0 b0 = 0 ∨ f_J0_isLatin1_aae02_r1006 a0 b0 = 1 := by
  unfold f_J0_isLatin1_aae02_r1006
  exact Or.inr rfl
def f_J1_charAt_3b067_r2006 (a0 b0 : Nat → Nat → Int) (x1 : Int) : Int := (jxi2c (jxand (([111, 108, 100] : List Int).getD (x1.toNat) 0) 255))
theorem eq_J1_charAt_3b067_r2006 (E : jxE) (d : Nat) (hd : Nat.ble 3 d = true) (x1 : Int) (a0 b0 : Nat → Nat → Int) (hp0 : (0 ≤ x1 ∧ x1 < 3)) : jxC E d 299 [.inr (.inr (.inl 2006)), .inl x1] (jxSH, a0, b0) = some ([.inl (f_J1_charAt_3b067_r2006 a0 b0 x1)], (jxSH, a0, b0)) := by
  obtain ⟨d, rfl⟩ := jd_succ hd
  refine (bq_J1_charAt_3b067_r2006 E d x1 a0 b0).trans ?_
  unfold f_J1_charAt_3b067_r2006
  refine eq_bV (eq_J0_checkIndex_df160 E d (jd_le hd rfl) x1 3 a0 b0 (show (0 ≤ x1 ∧ x1 < 3) from by omega)) ?_
  refine eq_grd (by omega) ?_
  have h37_ := jxand_r (([111, 108, 100] : List Int).getD (x1.toNat) 0) 255 (by decide) (by decide)
  have h38_ := jxi2c_b (jxand (([111, 108, 100] : List Int).getD (x1.toNat) 0) 255)
  refine eq_grd (by omega) ?_
  rfl
theorem f_J1_charAt_3b067_r2006_eq (a0 b0 : Nat → Nat → Int) (x1 : Int) : f_J1_charAt_3b067_r2006 a0 b0 x1 = (jxi2c (jxand (([111, 108, 100] : List Int).getD (x1.toNat) 0) 255)) := rfl
def f_J0_charAt_5068e_r1006 (a0 b0 : Nat → Nat → Int) (x1 : Int) : Int := (if f_J0_isLatin1_aae02_r1006 a0 b0 = 0 then 0 else (f_J1_charAt_3b067_r2006 a0 b0 x1))
theorem eq_J0_charAt_5068e_r1006 (E : jxE) (d : Nat) (hd : Nat.ble 4 d = true) (x1 : Int) (a0 b0 : Nat → Nat → Int) (hp0 : (0 ≤ x1 ∧ x1 < 3)) : jxC E d 295 [.inr (.inr (.inl 1006)), .inl x1] (jxSH, a0, b0) = some ([.inl (f_J0_charAt_5068e_r1006 a0 b0 x1)], (jxSH, a0, b0)) := by
  obtain ⟨d, rfl⟩ := jd_succ hd
  refine (bq_J0_charAt_5068e_r1006 E d x1 a0 b0).trans ?_
  unfold f_J0_charAt_5068e_r1006
  refine eq_bI (eq_J0_isLatin1_aae02_r1006 E d (jd_le hd rfl) a0 b0) ?_
  have h39_ := f_J0_isLatin1_aae02_r1006_eq a0 b0
  refine eq_iteI (fun hc1 => ?_) (fun hc1 => ?_)
  ·
    exact absurd (by omega : False) id
  ·
    refine eq_bI (eq_J1_charAt_3b067_r2006 E d (jd_le hd rfl) x1 a0 b0 (show (0 ≤ x1 ∧ x1 < 3) from by omega)) ?_
    have h40_ := f_J1_charAt_3b067_r2006_eq a0 b0 x1
    have h41_ := jxand_r (([111, 108, 100] : List Int).getD (x1.toNat) 0) 255 (by decide) (by decide)
    have h42_ := jxi2c_b (jxand (([111, 108, 100] : List Int).getD (x1.toNat) 0) 255)
    refine eq_grd (by omega) ?_
    rfl
theorem f_J0_charAt_5068e_r1006_eq (a0 b0 : Nat → Nat → Int) (x1 : Int) : f_J0_charAt_5068e_r1006 a0 b0 x1 = (if f_J0_isLatin1_aae02_r1006 a0 b0 = 0 then 0 else (f_J1_charAt_3b067_r2006 a0 b0 x1)) := rfl
def f_J0_isLatin1_aae02_r1007 (a0 b0 : Nat → Nat → Int) : Int := 1
theorem eq_J0_isLatin1_aae02_r1007 (E : jxE) (d : Nat) (hd : Nat.ble 1 d = true) (a0 b0 : Nat → Nat → Int) : jxC E d 297 [.inr (.inr (.inl 1007))] (jxSH, a0, b0) = some ([.inl (f_J0_isLatin1_aae02_r1007 a0 b0)], (jxSH, a0, b0)) := by
  obtain ⟨d, rfl⟩ := jd_succ hd
  refine (bq_J0_isLatin1_aae02_r1007 E d a0 b0).trans ?_
  unfold f_J0_isLatin1_aae02_r1007
  rfl
theorem f_J0_isLatin1_aae02_r1007_eq (a0 b0 : Nat → Nat → Int) : f_J0_isLatin1_aae02_r1007 a0 b0 = 1 := rfl
theorem f_J0_isLatin1_aae02_r1007_bool (a0 b0 : Nat → Nat → Int) : f_J0_isLatin1_aae02_r1007 a0 b0 = 0 ∨ f_J0_isLatin1_aae02_r1007 a0 b0 = 1 := by
  unfold f_J0_isLatin1_aae02_r1007
  exact Or.inr rfl
def f_J1_charAt_3b067_r2007 (a0 b0 : Nat → Nat → Int) (x1 : Int) : Int := (jxi2c (jxand (([97, 110, 121] : List Int).getD (x1.toNat) 0) 255))
theorem eq_J1_charAt_3b067_r2007 (E : jxE) (d : Nat) (hd : Nat.ble 3 d = true) (x1 : Int) (a0 b0 : Nat → Nat → Int) (hp0 : (0 ≤ x1 ∧ x1 < 3)) : jxC E d 299 [.inr (.inr (.inl 2007)), .inl x1] (jxSH, a0, b0) = some ([.inl (f_J1_charAt_3b067_r2007 a0 b0 x1)], (jxSH, a0, b0)) := by
  obtain ⟨d, rfl⟩ := jd_succ hd
  refine (bq_J1_charAt_3b067_r2007 E d x1 a0 b0).trans ?_
  unfold f_J1_charAt_3b067_r2007
  refine eq_bV (eq_J0_checkIndex_df160 E d (jd_le hd rfl) x1 3 a0 b0 (show (0 ≤ x1 ∧ x1 < 3) from by omega)) ?_
  refine eq_grd (by omega) ?_
  have h43_ := jxand_r (([97, 110, 121] : List Int).getD (x1.toNat) 0) 255 (by decide) (by decide)
  have h44_ := jxi2c_b (jxand (([97, 110, 121] : List Int).getD (x1.toNat) 0) 255)
  refine eq_grd (by omega) ?_
  rfl
theorem f_J1_charAt_3b067_r2007_eq (a0 b0 : Nat → Nat → Int) (x1 : Int) : f_J1_charAt_3b067_r2007 a0 b0 x1 = (jxi2c (jxand (([97, 110, 121] : List Int).getD (x1.toNat) 0) 255)) := rfl
def f_J0_charAt_5068e_r1007 (a0 b0 : Nat → Nat → Int) (x1 : Int) : Int := (if f_J0_isLatin1_aae02_r1007 a0 b0 = 0 then 0 else (f_J1_charAt_3b067_r2007 a0 b0 x1))
theorem eq_J0_charAt_5068e_r1007 (E : jxE) (d : Nat) (hd : Nat.ble 4 d = true) (x1 : Int) (a0 b0 : Nat → Nat → Int) (hp0 : (0 ≤ x1 ∧ x1 < 3)) : jxC E d 295 [.inr (.inr (.inl 1007)), .inl x1] (jxSH, a0, b0) = some ([.inl (f_J0_charAt_5068e_r1007 a0 b0 x1)], (jxSH, a0, b0)) := by
  obtain ⟨d, rfl⟩ := jd_succ hd
  refine (bq_J0_charAt_5068e_r1007 E d x1 a0 b0).trans ?_
  unfold f_J0_charAt_5068e_r1007
  refine eq_bI (eq_J0_isLatin1_aae02_r1007 E d (jd_le hd rfl) a0 b0) ?_
  have h45_ := f_J0_isLatin1_aae02_r1007_eq a0 b0
  refine eq_iteI (fun hc1 => ?_) (fun hc1 => ?_)
  ·
    exact absurd (by omega : False) id
  ·
    refine eq_bI (eq_J1_charAt_3b067_r2007 E d (jd_le hd rfl) x1 a0 b0 (show (0 ≤ x1 ∧ x1 < 3) from by omega)) ?_
    have h46_ := f_J1_charAt_3b067_r2007_eq a0 b0 x1
    have h47_ := jxand_r (([97, 110, 121] : List Int).getD (x1.toNat) 0) 255 (by decide) (by decide)
    have h48_ := jxi2c_b (jxand (([97, 110, 121] : List Int).getD (x1.toNat) 0) 255)
    refine eq_grd (by omega) ?_
    rfl
theorem f_J0_charAt_5068e_r1007_eq (a0 b0 : Nat → Nat → Int) (x1 : Int) : f_J0_charAt_5068e_r1007 a0 b0 x1 = (if f_J0_isLatin1_aae02_r1007 a0 b0 = 0 then 0 else (f_J1_charAt_3b067_r2007 a0 b0 x1)) := rfl
def f_J0_isLatin1_aae02_r1008 (a0 b0 : Nat → Nat → Int) : Int := 1
theorem eq_J0_isLatin1_aae02_r1008 (E : jxE) (d : Nat) (hd : Nat.ble 1 d = true) (a0 b0 : Nat → Nat → Int) : jxC E d 297 [.inr (.inr (.inl 1008))] (jxSH, a0, b0) = some ([.inl (f_J0_isLatin1_aae02_r1008 a0 b0)], (jxSH, a0, b0)) := by
  obtain ⟨d, rfl⟩ := jd_succ hd
  refine (bq_J0_isLatin1_aae02_r1008 E d a0 b0).trans ?_
  unfold f_J0_isLatin1_aae02_r1008
  rfl
theorem f_J0_isLatin1_aae02_r1008_eq (a0 b0 : Nat → Nat → Int) : f_J0_isLatin1_aae02_r1008 a0 b0 = 1 := rfl
theorem f_J0_isLatin1_aae02_r1008_bool (a0 b0 : Nat → Nat → Int) : f_J0_isLatin1_aae02_r1008 a0 b0 = 0 ∨ f_J0_isLatin1_aae02_r1008 a0 b0 = 1 := by
  unfold f_J0_isLatin1_aae02_r1008
  exact Or.inr rfl
def f_J1_charAt_3b067_r2008 (a0 b0 : Nat → Nat → Int) (x1 : Int) : Int := (jxi2c (jxand (([97, 110, 100] : List Int).getD (x1.toNat) 0) 255))
theorem eq_J1_charAt_3b067_r2008 (E : jxE) (d : Nat) (hd : Nat.ble 3 d = true) (x1 : Int) (a0 b0 : Nat → Nat → Int) (hp0 : (0 ≤ x1 ∧ x1 < 3)) : jxC E d 299 [.inr (.inr (.inl 2008)), .inl x1] (jxSH, a0, b0) = some ([.inl (f_J1_charAt_3b067_r2008 a0 b0 x1)], (jxSH, a0, b0)) := by
  obtain ⟨d, rfl⟩ := jd_succ hd
  refine (bq_J1_charAt_3b067_r2008 E d x1 a0 b0).trans ?_
  unfold f_J1_charAt_3b067_r2008
  refine eq_bV (eq_J0_checkIndex_df160 E d (jd_le hd rfl) x1 3 a0 b0 (show (0 ≤ x1 ∧ x1 < 3) from by omega)) ?_
  refine eq_grd (by omega) ?_
  have h49_ := jxand_r (([97, 110, 100] : List Int).getD (x1.toNat) 0) 255 (by decide) (by decide)
  have h50_ := jxi2c_b (jxand (([97, 110, 100] : List Int).getD (x1.toNat) 0) 255)
  refine eq_grd (by omega) ?_
  rfl
theorem f_J1_charAt_3b067_r2008_eq (a0 b0 : Nat → Nat → Int) (x1 : Int) : f_J1_charAt_3b067_r2008 a0 b0 x1 = (jxi2c (jxand (([97, 110, 100] : List Int).getD (x1.toNat) 0) 255)) := rfl
def f_J0_charAt_5068e_r1008 (a0 b0 : Nat → Nat → Int) (x1 : Int) : Int := (if f_J0_isLatin1_aae02_r1008 a0 b0 = 0 then 0 else (f_J1_charAt_3b067_r2008 a0 b0 x1))
theorem eq_J0_charAt_5068e_r1008 (E : jxE) (d : Nat) (hd : Nat.ble 4 d = true) (x1 : Int) (a0 b0 : Nat → Nat → Int) (hp0 : (0 ≤ x1 ∧ x1 < 3)) : jxC E d 295 [.inr (.inr (.inl 1008)), .inl x1] (jxSH, a0, b0) = some ([.inl (f_J0_charAt_5068e_r1008 a0 b0 x1)], (jxSH, a0, b0)) := by
  obtain ⟨d, rfl⟩ := jd_succ hd
  refine (bq_J0_charAt_5068e_r1008 E d x1 a0 b0).trans ?_
  unfold f_J0_charAt_5068e_r1008
  refine eq_bI (eq_J0_isLatin1_aae02_r1008 E d (jd_le hd rfl) a0 b0) ?_
  have h51_ := f_J0_isLatin1_aae02_r1008_eq a0 b0
  refine eq_iteI (fun hc1 => ?_) (fun hc1 => ?_)
  ·
    exact absurd (by omega : False) id
  ·
    refine eq_bI (eq_J1_charAt_3b067_r2008 E d (jd_le hd rfl) x1 a0 b0 (show (0 ≤ x1 ∧ x1 < 3) from by omega)) ?_
    have h52_ := f_J1_charAt_3b067_r2008_eq a0 b0 x1
    have h53_ := jxand_r (([97, 110, 100] : List Int).getD (x1.toNat) 0) 255 (by decide) (by decide)
    have h54_ := jxi2c_b (jxand (([97, 110, 100] : List Int).getD (x1.toNat) 0) 255)
    refine eq_grd (by omega) ?_
    rfl
theorem f_J0_charAt_5068e_r1008_eq (a0 b0 : Nat → Nat → Int) (x1 : Int) : f_J0_charAt_5068e_r1008 a0 b0 x1 = (if f_J0_isLatin1_aae02_r1008 a0 b0 = 0 then 0 else (f_J1_charAt_3b067_r2008 a0 b0 x1)) := rfl
def f_J0_isLatin1_aae02_r1009 (a0 b0 : Nat → Nat → Int) : Int := 1
theorem eq_J0_isLatin1_aae02_r1009 (E : jxE) (d : Nat) (hd : Nat.ble 1 d = true) (a0 b0 : Nat → Nat → Int) : jxC E d 297 [.inr (.inr (.inl 1009))] (jxSH, a0, b0) = some ([.inl (f_J0_isLatin1_aae02_r1009 a0 b0)], (jxSH, a0, b0)) := by
  obtain ⟨d, rfl⟩ := jd_succ hd
  refine (bq_J0_isLatin1_aae02_r1009 E d a0 b0).trans ?_
  unfold f_J0_isLatin1_aae02_r1009
  rfl
theorem f_J0_isLatin1_aae02_r1009_eq (a0 b0 : Nat → Nat → Int) : f_J0_isLatin1_aae02_r1009 a0 b0 = 1 := rfl
theorem f_J0_isLatin1_aae02_r1009_bool (a0 b0 : Nat → Nat → Int) : f_J0_isLatin1_aae02_r1009 a0 b0 = 0 ∨ f_J0_isLatin1_aae02_r1009 a0 b0 = 1 := by
  unfold f_J0_isLatin1_aae02_r1009
  exact Or.inr rfl
def f_J1_charAt_3b067_r2009 (a0 b0 : Nat → Nat → Int) (x1 : Int) : Int := (jxi2c (jxand (([111, 114] : List Int).getD (x1.toNat) 0) 255))
theorem eq_J1_charAt_3b067_r2009 (E : jxE) (d : Nat) (hd : Nat.ble 3 d = true) (x1 : Int) (a0 b0 : Nat → Nat → Int) (hp0 : (0 ≤ x1 ∧ x1 < 2)) : jxC E d 299 [.inr (.inr (.inl 2009)), .inl x1] (jxSH, a0, b0) = some ([.inl (f_J1_charAt_3b067_r2009 a0 b0 x1)], (jxSH, a0, b0)) := by
  obtain ⟨d, rfl⟩ := jd_succ hd
  refine (bq_J1_charAt_3b067_r2009 E d x1 a0 b0).trans ?_
  unfold f_J1_charAt_3b067_r2009
  refine eq_bV (eq_J0_checkIndex_df160 E d (jd_le hd rfl) x1 2 a0 b0 (show (0 ≤ x1 ∧ x1 < 2) from by omega)) ?_
  refine eq_grd (by omega) ?_
  have h55_ := jxand_r (([111, 114] : List Int).getD (x1.toNat) 0) 255 (by decide) (by decide)
  have h56_ := jxi2c_b (jxand (([111, 114] : List Int).getD (x1.toNat) 0) 255)
  refine eq_grd (by omega) ?_
  rfl
theorem f_J1_charAt_3b067_r2009_eq (a0 b0 : Nat → Nat → Int) (x1 : Int) : f_J1_charAt_3b067_r2009 a0 b0 x1 = (jxi2c (jxand (([111, 114] : List Int).getD (x1.toNat) 0) 255)) := rfl
def f_J0_charAt_5068e_r1009 (a0 b0 : Nat → Nat → Int) (x1 : Int) : Int := (if f_J0_isLatin1_aae02_r1009 a0 b0 = 0 then 0 else (f_J1_charAt_3b067_r2009 a0 b0 x1))
theorem eq_J0_charAt_5068e_r1009 (E : jxE) (d : Nat) (hd : Nat.ble 4 d = true) (x1 : Int) (a0 b0 : Nat → Nat → Int) (hp0 : (0 ≤ x1 ∧ x1 < 2)) : jxC E d 295 [.inr (.inr (.inl 1009)), .inl x1] (jxSH, a0, b0) = some ([.inl (f_J0_charAt_5068e_r1009 a0 b0 x1)], (jxSH, a0, b0)) := by
  obtain ⟨d, rfl⟩ := jd_succ hd
  refine (bq_J0_charAt_5068e_r1009 E d x1 a0 b0).trans ?_
  unfold f_J0_charAt_5068e_r1009
  refine eq_bI (eq_J0_isLatin1_aae02_r1009 E d (jd_le hd rfl) a0 b0) ?_
  have h57_ := f_J0_isLatin1_aae02_r1009_eq a0 b0
  refine eq_iteI (fun hc1 => ?_) (fun hc1 => ?_)
  ·
    exact absurd (by omega : False) id
  ·
    refine eq_bI (eq_J1_charAt_3b067_r2009 E d (jd_le hd rfl) x1 a0 b0 (show (0 ≤ x1 ∧ x1 < 2) from by omega)) ?_
    have h58_ := f_J1_charAt_3b067_r2009_eq a0 b0 x1
    have h59_ := jxand_r (([111, 114] : List Int).getD (x1.toNat) 0) 255 (by decide) (by decide)
    have h60_ := jxi2c_b (jxand (([111, 114] : List Int).getD (x1.toNat) 0) 255)
    refine eq_grd (by omega) ?_
    rfl
theorem f_J0_charAt_5068e_r1009_eq (a0 b0 : Nat → Nat → Int) (x1 : Int) : f_J0_charAt_5068e_r1009 a0 b0 x1 = (if f_J0_isLatin1_aae02_r1009 a0 b0 = 0 then 0 else (f_J1_charAt_3b067_r2009 a0 b0 x1)) := rfl
def f_J0_isLatin1_aae02_r1010 (a0 b0 : Nat → Nat → Int) : Int := 1
theorem eq_J0_isLatin1_aae02_r1010 (E : jxE) (d : Nat) (hd : Nat.ble 1 d = true) (a0 b0 : Nat → Nat → Int) : jxC E d 297 [.inr (.inr (.inl 1010))] (jxSH, a0, b0) = some ([.inl (f_J0_isLatin1_aae02_r1010 a0 b0)], (jxSH, a0, b0)) := by
  obtain ⟨d, rfl⟩ := jd_succ hd
  refine (bq_J0_isLatin1_aae02_r1010 E d a0 b0).trans ?_
  unfold f_J0_isLatin1_aae02_r1010
  rfl
theorem f_J0_isLatin1_aae02_r1010_eq (a0 b0 : Nat → Nat → Int) : f_J0_isLatin1_aae02_r1010 a0 b0 = 1 := rfl
theorem f_J0_isLatin1_aae02_r1010_bool (a0 b0 : Nat → Nat → Int) : f_J0_isLatin1_aae02_r1010 a0 b0 = 0 ∨ f_J0_isLatin1_aae02_r1010 a0 b0 = 1 := by
  unfold f_J0_isLatin1_aae02_r1010
  exact Or.inr rfl
def f_J1_charAt_3b067_r2010 (a0 b0 : Nat → Nat → Int) (x1 : Int) : Int := (jxi2c (jxand (([117, 110, 100, 101, 114] : List Int).getD (x1.toNat) 0) 255))
theorem eq_J1_charAt_3b067_r2010 (E : jxE) (d : Nat) (hd : Nat.ble 3 d = true) (x1 : Int) (a0 b0 : Nat → Nat → Int) (hp0 : (0 ≤ x1 ∧ x1 < 5)) : jxC E d 299 [.inr (.inr (.inl 2010)), .inl x1] (jxSH, a0, b0) = some ([.inl (f_J1_charAt_3b067_r2010 a0 b0 x1)], (jxSH, a0, b0)) := by
  obtain ⟨d, rfl⟩ := jd_succ hd
  refine (bq_J1_charAt_3b067_r2010 E d x1 a0 b0).trans ?_
  unfold f_J1_charAt_3b067_r2010
  refine eq_bV (eq_J0_checkIndex_df160 E d (jd_le hd rfl) x1 5 a0 b0 (show (0 ≤ x1 ∧ x1 < 5) from by omega)) ?_
  refine eq_grd (by omega) ?_
  have h61_ := jxand_r (([117, 110, 100, 101, 114] : List Int).getD (x1.toNat) 0) 255 (by decide) (by decide)
  have h62_ := jxi2c_b (jxand (([117, 110, 100, 101, 114] : List Int).getD (x1.toNat) 0) 255)
  refine eq_grd (by omega) ?_
  rfl
theorem f_J1_charAt_3b067_r2010_eq (a0 b0 : Nat → Nat → Int) (x1 : Int) : f_J1_charAt_3b067_r2010 a0 b0 x1 = (jxi2c (jxand (([117, 110, 100, 101, 114] : List Int).getD (x1.toNat) 0) 255)) := rfl
def f_J0_charAt_5068e_r1010 (a0 b0 : Nat → Nat → Int) (x1 : Int) : Int := (if f_J0_isLatin1_aae02_r1010 a0 b0 = 0 then 0 else (f_J1_charAt_3b067_r2010 a0 b0 x1))
theorem eq_J0_charAt_5068e_r1010 (E : jxE) (d : Nat) (hd : Nat.ble 4 d = true) (x1 : Int) (a0 b0 : Nat → Nat → Int) (hp0 : (0 ≤ x1 ∧ x1 < 5)) : jxC E d 295 [.inr (.inr (.inl 1010)), .inl x1] (jxSH, a0, b0) = some ([.inl (f_J0_charAt_5068e_r1010 a0 b0 x1)], (jxSH, a0, b0)) := by
  obtain ⟨d, rfl⟩ := jd_succ hd
  refine (bq_J0_charAt_5068e_r1010 E d x1 a0 b0).trans ?_
  unfold f_J0_charAt_5068e_r1010
  refine eq_bI (eq_J0_isLatin1_aae02_r1010 E d (jd_le hd rfl) a0 b0) ?_
  have h63_ := f_J0_isLatin1_aae02_r1010_eq a0 b0
  refine eq_iteI (fun hc1 => ?_) (fun hc1 => ?_)
  ·
    exact absurd (by omega : False) id
  ·
    refine eq_bI (eq_J1_charAt_3b067_r2010 E d (jd_le hd rfl) x1 a0 b0 (show (0 ≤ x1 ∧ x1 < 5) from by omega)) ?_
    have h64_ := f_J1_charAt_3b067_r2010_eq a0 b0 x1
    have h65_ := jxand_r (([117, 110, 100, 101, 114] : List Int).getD (x1.toNat) 0) 255 (by decide) (by decide)
    have h66_ := jxi2c_b (jxand (([117, 110, 100, 101, 114] : List Int).getD (x1.toNat) 0) 255)
    refine eq_grd (by omega) ?_
    rfl
theorem f_J0_charAt_5068e_r1010_eq (a0 b0 : Nat → Nat → Int) (x1 : Int) : f_J0_charAt_5068e_r1010 a0 b0 x1 = (if f_J0_isLatin1_aae02_r1010 a0 b0 = 0 then 0 else (f_J1_charAt_3b067_r2010 a0 b0 x1)) := rfl
def f_J0_isLatin1_aae02_r1011 (a0 b0 : Nat → Nat → Int) : Int := 1
theorem eq_J0_isLatin1_aae02_r1011 (E : jxE) (d : Nat) (hd : Nat.ble 1 d = true) (a0 b0 : Nat → Nat → Int) : jxC E d 297 [.inr (.inr (.inl 1011))] (jxSH, a0, b0) = some ([.inl (f_J0_isLatin1_aae02_r1011 a0 b0)], (jxSH, a0, b0)) := by
  obtain ⟨d, rfl⟩ := jd_succ hd
  refine (bq_J0_isLatin1_aae02_r1011 E d a0 b0).trans ?_
  unfold f_J0_isLatin1_aae02_r1011
  rfl
theorem f_J0_isLatin1_aae02_r1011_eq (a0 b0 : Nat → Nat → Int) : f_J0_isLatin1_aae02_r1011 a0 b0 = 1 := rfl
theorem f_J0_isLatin1_aae02_r1011_bool (a0 b0 : Nat → Nat → Int) : f_J0_isLatin1_aae02_r1011 a0 b0 = 0 ∨ f_J0_isLatin1_aae02_r1011 a0 b0 = 1 := by
  unfold f_J0_isLatin1_aae02_r1011
  exact Or.inr rfl
def f_J1_charAt_3b067_r2011 (a0 b0 : Nat → Nat → Int) (x1 : Int) : Int := (jxi2c (jxand (([109, 111, 114, 101] : List Int).getD (x1.toNat) 0) 255))
theorem eq_J1_charAt_3b067_r2011 (E : jxE) (d : Nat) (hd : Nat.ble 3 d = true) (x1 : Int) (a0 b0 : Nat → Nat → Int) (hp0 : (0 ≤ x1 ∧ x1 < 4)) : jxC E d 299 [.inr (.inr (.inl 2011)), .inl x1] (jxSH, a0, b0) = some ([.inl (f_J1_charAt_3b067_r2011 a0 b0 x1)], (jxSH, a0, b0)) := by
  obtain ⟨d, rfl⟩ := jd_succ hd
  refine (bq_J1_charAt_3b067_r2011 E d x1 a0 b0).trans ?_
  unfold f_J1_charAt_3b067_r2011
  refine eq_bV (eq_J0_checkIndex_df160 E d (jd_le hd rfl) x1 4 a0 b0 (show (0 ≤ x1 ∧ x1 < 4) from by omega)) ?_
  refine eq_grd (by omega) ?_
  have h67_ := jxand_r (([109, 111, 114, 101] : List Int).getD (x1.toNat) 0) 255 (by decide) (by decide)
  have h68_ := jxi2c_b (jxand (([109, 111, 114, 101] : List Int).getD (x1.toNat) 0) 255)
  refine eq_grd (by omega) ?_
  rfl
theorem f_J1_charAt_3b067_r2011_eq (a0 b0 : Nat → Nat → Int) (x1 : Int) : f_J1_charAt_3b067_r2011 a0 b0 x1 = (jxi2c (jxand (([109, 111, 114, 101] : List Int).getD (x1.toNat) 0) 255)) := rfl
def f_J0_charAt_5068e_r1011 (a0 b0 : Nat → Nat → Int) (x1 : Int) : Int := (if f_J0_isLatin1_aae02_r1011 a0 b0 = 0 then 0 else (f_J1_charAt_3b067_r2011 a0 b0 x1))
theorem eq_J0_charAt_5068e_r1011 (E : jxE) (d : Nat) (hd : Nat.ble 4 d = true) (x1 : Int) (a0 b0 : Nat → Nat → Int) (hp0 : (0 ≤ x1 ∧ x1 < 4)) : jxC E d 295 [.inr (.inr (.inl 1011)), .inl x1] (jxSH, a0, b0) = some ([.inl (f_J0_charAt_5068e_r1011 a0 b0 x1)], (jxSH, a0, b0)) := by
  obtain ⟨d, rfl⟩ := jd_succ hd
  refine (bq_J0_charAt_5068e_r1011 E d x1 a0 b0).trans ?_
  unfold f_J0_charAt_5068e_r1011
  refine eq_bI (eq_J0_isLatin1_aae02_r1011 E d (jd_le hd rfl) a0 b0) ?_
  have h69_ := f_J0_isLatin1_aae02_r1011_eq a0 b0
  refine eq_iteI (fun hc1 => ?_) (fun hc1 => ?_)
  ·
    exact absurd (by omega : False) id
  ·
    refine eq_bI (eq_J1_charAt_3b067_r2011 E d (jd_le hd rfl) x1 a0 b0 (show (0 ≤ x1 ∧ x1 < 4) from by omega)) ?_
    have h70_ := f_J1_charAt_3b067_r2011_eq a0 b0 x1
    have h71_ := jxand_r (([109, 111, 114, 101] : List Int).getD (x1.toNat) 0) 255 (by decide) (by decide)
    have h72_ := jxi2c_b (jxand (([109, 111, 114, 101] : List Int).getD (x1.toNat) 0) 255)
    refine eq_grd (by omega) ?_
    rfl
theorem f_J0_charAt_5068e_r1011_eq (a0 b0 : Nat → Nat → Int) (x1 : Int) : f_J0_charAt_5068e_r1011 a0 b0 x1 = (if f_J0_isLatin1_aae02_r1011 a0 b0 = 0 then 0 else (f_J1_charAt_3b067_r2011 a0 b0 x1)) := rfl
def f_J0_isLatin1_aae02_r1012 (a0 b0 : Nat → Nat → Int) : Int := 1
theorem eq_J0_isLatin1_aae02_r1012 (E : jxE) (d : Nat) (hd : Nat.ble 1 d = true) (a0 b0 : Nat → Nat → Int) : jxC E d 297 [.inr (.inr (.inl 1012))] (jxSH, a0, b0) = some ([.inl (f_J0_isLatin1_aae02_r1012 a0 b0)], (jxSH, a0, b0)) := by
  obtain ⟨d, rfl⟩ := jd_succ hd
  refine (bq_J0_isLatin1_aae02_r1012 E d a0 b0).trans ?_
  unfold f_J0_isLatin1_aae02_r1012
  rfl
theorem f_J0_isLatin1_aae02_r1012_eq (a0 b0 : Nat → Nat → Int) : f_J0_isLatin1_aae02_r1012 a0 b0 = 1 := rfl
theorem f_J0_isLatin1_aae02_r1012_bool (a0 b0 : Nat → Nat → Int) : f_J0_isLatin1_aae02_r1012 a0 b0 = 0 ∨ f_J0_isLatin1_aae02_r1012 a0 b0 = 1 := by
  unfold f_J0_isLatin1_aae02_r1012
  exact Or.inr rfl
def f_J1_charAt_3b067_r2012 (a0 b0 : Nat → Nat → Int) (x1 : Int) : Int := (jxi2c (jxand (([115, 108, 97, 99, 107] : List Int).getD (x1.toNat) 0) 255))
theorem eq_J1_charAt_3b067_r2012 (E : jxE) (d : Nat) (hd : Nat.ble 3 d = true) (x1 : Int) (a0 b0 : Nat → Nat → Int) (hp0 : (0 ≤ x1 ∧ x1 < 5)) : jxC E d 299 [.inr (.inr (.inl 2012)), .inl x1] (jxSH, a0, b0) = some ([.inl (f_J1_charAt_3b067_r2012 a0 b0 x1)], (jxSH, a0, b0)) := by
  obtain ⟨d, rfl⟩ := jd_succ hd
  refine (bq_J1_charAt_3b067_r2012 E d x1 a0 b0).trans ?_
  unfold f_J1_charAt_3b067_r2012
  refine eq_bV (eq_J0_checkIndex_df160 E d (jd_le hd rfl) x1 5 a0 b0 (show (0 ≤ x1 ∧ x1 < 5) from by omega)) ?_
  refine eq_grd (by omega) ?_
  have h73_ := jxand_r (([115, 108, 97, 99, 107] : List Int).getD (x1.toNat) 0) 255 (by decide) (by decide)
  have h74_ := jxi2c_b (jxand (([115, 108, 97, 99, 107] : List Int).getD (x1.toNat) 0) 255)
  refine eq_grd (by omega) ?_
  rfl
theorem f_J1_charAt_3b067_r2012_eq (a0 b0 : Nat → Nat → Int) (x1 : Int) : f_J1_charAt_3b067_r2012 a0 b0 x1 = (jxi2c (jxand (([115, 108, 97, 99, 107] : List Int).getD (x1.toNat) 0) 255)) := rfl
def f_J0_charAt_5068e_r1012 (a0 b0 : Nat → Nat → Int) (x1 : Int) : Int := (if f_J0_isLatin1_aae02_r1012 a0 b0 = 0 then 0 else (f_J1_charAt_3b067_r2012 a0 b0 x1))
theorem eq_J0_charAt_5068e_r1012 (E : jxE) (d : Nat) (hd : Nat.ble 4 d = true) (x1 : Int) (a0 b0 : Nat → Nat → Int) (hp0 : (0 ≤ x1 ∧ x1 < 5)) : jxC E d 295 [.inr (.inr (.inl 1012)), .inl x1] (jxSH, a0, b0) = some ([.inl (f_J0_charAt_5068e_r1012 a0 b0 x1)], (jxSH, a0, b0)) := by
  obtain ⟨d, rfl⟩ := jd_succ hd
  refine (bq_J0_charAt_5068e_r1012 E d x1 a0 b0).trans ?_
  unfold f_J0_charAt_5068e_r1012
  refine eq_bI (eq_J0_isLatin1_aae02_r1012 E d (jd_le hd rfl) a0 b0) ?_
  have h75_ := f_J0_isLatin1_aae02_r1012_eq a0 b0
  refine eq_iteI (fun hc1 => ?_) (fun hc1 => ?_)
  ·
    exact absurd (by omega : False) id
  ·
    refine eq_bI (eq_J1_charAt_3b067_r2012 E d (jd_le hd rfl) x1 a0 b0 (show (0 ≤ x1 ∧ x1 < 5) from by omega)) ?_
    have h76_ := f_J1_charAt_3b067_r2012_eq a0 b0 x1
    have h77_ := jxand_r (([115, 108, 97, 99, 107] : List Int).getD (x1.toNat) 0) 255 (by decide) (by decide)
    have h78_ := jxi2c_b (jxand (([115, 108, 97, 99, 107] : List Int).getD (x1.toNat) 0) 255)
    refine eq_grd (by omega) ?_
    rfl
theorem f_J0_charAt_5068e_r1012_eq (a0 b0 : Nat → Nat → Int) (x1 : Int) : f_J0_charAt_5068e_r1012 a0 b0 x1 = (if f_J0_isLatin1_aae02_r1012 a0 b0 = 0 then 0 else (f_J1_charAt_3b067_r2012 a0 b0 x1)) := rfl
def f_J0_isLatin1_aae02_r1013 (a0 b0 : Nat → Nat → Int) : Int := 1
theorem eq_J0_isLatin1_aae02_r1013 (E : jxE) (d : Nat) (hd : Nat.ble 1 d = true) (a0 b0 : Nat → Nat → Int) : jxC E d 297 [.inr (.inr (.inl 1013))] (jxSH, a0, b0) = some ([.inl (f_J0_isLatin1_aae02_r1013 a0 b0)], (jxSH, a0, b0)) := by
  obtain ⟨d, rfl⟩ := jd_succ hd
  refine (bq_J0_isLatin1_aae02_r1013 E d a0 b0).trans ?_
  unfold f_J0_isLatin1_aae02_r1013
  rfl
theorem f_J0_isLatin1_aae02_r1013_eq (a0 b0 : Nat → Nat → Int) : f_J0_isLatin1_aae02_r1013 a0 b0 = 1 := rfl
theorem f_J0_isLatin1_aae02_r1013_bool (a0 b0 : Nat → Nat → Int) : f_J0_isLatin1_aae02_r1013 a0 b0 = 0 ∨ f_J0_isLatin1_aae02_r1013 a0 b0 = 1 := by
  unfold f_J0_isLatin1_aae02_r1013
  exact Or.inr rfl
def f_J1_charAt_3b067_r2013 (a0 b0 : Nat → Nat → Int) (x1 : Int) : Int := (jxi2c (jxand (([108, 111, 115, 116] : List Int).getD (x1.toNat) 0) 255))
theorem eq_J1_charAt_3b067_r2013 (E : jxE) (d : Nat) (hd : Nat.ble 3 d = true) (x1 : Int) (a0 b0 : Nat → Nat → Int) (hp0 : (0 ≤ x1 ∧ x1 < 4)) : jxC E d 299 [.inr (.inr (.inl 2013)), .inl x1] (jxSH, a0, b0) = some ([.inl (f_J1_charAt_3b067_r2013 a0 b0 x1)], (jxSH, a0, b0)) := by
  obtain ⟨d, rfl⟩ := jd_succ hd
  refine (bq_J1_charAt_3b067_r2013 E d x1 a0 b0).trans ?_
  unfold f_J1_charAt_3b067_r2013
  refine eq_bV (eq_J0_checkIndex_df160 E d (jd_le hd rfl) x1 4 a0 b0 (show (0 ≤ x1 ∧ x1 < 4) from by omega)) ?_
  refine eq_grd (by omega) ?_
  have h79_ := jxand_r (([108, 111, 115, 116] : List Int).getD (x1.toNat) 0) 255 (by decide) (by decide)
  have h80_ := jxi2c_b (jxand (([108, 111, 115, 116] : List Int).getD (x1.toNat) 0) 255)
  refine eq_grd (by omega) ?_
  rfl
theorem f_J1_charAt_3b067_r2013_eq (a0 b0 : Nat → Nat → Int) (x1 : Int) : f_J1_charAt_3b067_r2013 a0 b0 x1 = (jxi2c (jxand (([108, 111, 115, 116] : List Int).getD (x1.toNat) 0) 255)) := rfl
def f_J0_charAt_5068e_r1013 (a0 b0 : Nat → Nat → Int) (x1 : Int) : Int := (if f_J0_isLatin1_aae02_r1013 a0 b0 = 0 then 0 else (f_J1_charAt_3b067_r2013 a0 b0 x1))
theorem eq_J0_charAt_5068e_r1013 (E : jxE) (d : Nat) (hd : Nat.ble 4 d = true) (x1 : Int) (a0 b0 : Nat → Nat → Int) (hp0 : (0 ≤ x1 ∧ x1 < 4)) : jxC E d 295 [.inr (.inr (.inl 1013)), .inl x1] (jxSH, a0, b0) = some ([.inl (f_J0_charAt_5068e_r1013 a0 b0 x1)], (jxSH, a0, b0)) := by
  obtain ⟨d, rfl⟩ := jd_succ hd
  refine (bq_J0_charAt_5068e_r1013 E d x1 a0 b0).trans ?_
  unfold f_J0_charAt_5068e_r1013
  refine eq_bI (eq_J0_isLatin1_aae02_r1013 E d (jd_le hd rfl) a0 b0) ?_
  have h81_ := f_J0_isLatin1_aae02_r1013_eq a0 b0
  refine eq_iteI (fun hc1 => ?_) (fun hc1 => ?_)
  ·
    exact absurd (by omega : False) id
  ·
    refine eq_bI (eq_J1_charAt_3b067_r2013 E d (jd_le hd rfl) x1 a0 b0 (show (0 ≤ x1 ∧ x1 < 4) from by omega)) ?_
    have h82_ := f_J1_charAt_3b067_r2013_eq a0 b0 x1
    have h83_ := jxand_r (([108, 111, 115, 116] : List Int).getD (x1.toNat) 0) 255 (by decide) (by decide)
    have h84_ := jxi2c_b (jxand (([108, 111, 115, 116] : List Int).getD (x1.toNat) 0) 255)
    refine eq_grd (by omega) ?_
    rfl
theorem f_J0_charAt_5068e_r1013_eq (a0 b0 : Nat → Nat → Int) (x1 : Int) : f_J0_charAt_5068e_r1013 a0 b0 x1 = (if f_J0_isLatin1_aae02_r1013 a0 b0 = 0 then 0 else (f_J1_charAt_3b067_r2013 a0 b0 x1)) := rfl
def f_J0_isLatin1_aae02_r1014 (a0 b0 : Nat → Nat → Int) : Int := 1
theorem eq_J0_isLatin1_aae02_r1014 (E : jxE) (d : Nat) (hd : Nat.ble 1 d = true) (a0 b0 : Nat → Nat → Int) : jxC E d 297 [.inr (.inr (.inl 1014))] (jxSH, a0, b0) = some ([.inl (f_J0_isLatin1_aae02_r1014 a0 b0)], (jxSH, a0, b0)) := by
  obtain ⟨d, rfl⟩ := jd_succ hd
  refine (bq_J0_isLatin1_aae02_r1014 E d a0 b0).trans ?_
  unfold f_J0_isLatin1_aae02_r1014
  rfl
theorem f_J0_isLatin1_aae02_r1014_eq (a0 b0 : Nat → Nat → Int) : f_J0_isLatin1_aae02_r1014 a0 b0 = 1 := rfl
theorem f_J0_isLatin1_aae02_r1014_bool (a0 b0 : Nat → Nat → Int) : f_J0_isLatin1_aae02_r1014 a0 b0 = 0 ∨ f_J0_isLatin1_aae02_r1014 a0 b0 = 1 := by
  unfold f_J0_isLatin1_aae02_r1014
  exact Or.inr rfl
def f_J1_charAt_3b067_r2014 (a0 b0 : Nat → Nat → Int) (x1 : Int) : Int := (jxi2c (jxand (([115, 116, 114, 105, 99, 116] : List Int).getD (x1.toNat) 0) 255))
theorem eq_J1_charAt_3b067_r2014 (E : jxE) (d : Nat) (hd : Nat.ble 3 d = true) (x1 : Int) (a0 b0 : Nat → Nat → Int) (hp0 : (0 ≤ x1 ∧ x1 < 6)) : jxC E d 299 [.inr (.inr (.inl 2014)), .inl x1] (jxSH, a0, b0) = some ([.inl (f_J1_charAt_3b067_r2014 a0 b0 x1)], (jxSH, a0, b0)) := by
  obtain ⟨d, rfl⟩ := jd_succ hd
  refine (bq_J1_charAt_3b067_r2014 E d x1 a0 b0).trans ?_
  unfold f_J1_charAt_3b067_r2014
  refine eq_bV (eq_J0_checkIndex_df160 E d (jd_le hd rfl) x1 6 a0 b0 (show (0 ≤ x1 ∧ x1 < 6) from by omega)) ?_
  refine eq_grd (by omega) ?_
  have h85_ := jxand_r (([115, 116, 114, 105, 99, 116] : List Int).getD (x1.toNat) 0) 255 (by decide) (by decide)
  have h86_ := jxi2c_b (jxand (([115, 116, 114, 105, 99, 116] : List Int).getD (x1.toNat) 0) 255)
  refine eq_grd (by omega) ?_
  rfl
theorem f_J1_charAt_3b067_r2014_eq (a0 b0 : Nat → Nat → Int) (x1 : Int) : f_J1_charAt_3b067_r2014 a0 b0 x1 = (jxi2c (jxand (([115, 116, 114, 105, 99, 116] : List Int).getD (x1.toNat) 0) 255)) := rfl
def f_J0_charAt_5068e_r1014 (a0 b0 : Nat → Nat → Int) (x1 : Int) : Int := (if f_J0_isLatin1_aae02_r1014 a0 b0 = 0 then 0 else (f_J1_charAt_3b067_r2014 a0 b0 x1))
theorem eq_J0_charAt_5068e_r1014 (E : jxE) (d : Nat) (hd : Nat.ble 4 d = true) (x1 : Int) (a0 b0 : Nat → Nat → Int) (hp0 : (0 ≤ x1 ∧ x1 < 6)) : jxC E d 295 [.inr (.inr (.inl 1014)), .inl x1] (jxSH, a0, b0) = some ([.inl (f_J0_charAt_5068e_r1014 a0 b0 x1)], (jxSH, a0, b0)) := by
  obtain ⟨d, rfl⟩ := jd_succ hd
  refine (bq_J0_charAt_5068e_r1014 E d x1 a0 b0).trans ?_
  unfold f_J0_charAt_5068e_r1014
  refine eq_bI (eq_J0_isLatin1_aae02_r1014 E d (jd_le hd rfl) a0 b0) ?_
  have h87_ := f_J0_isLatin1_aae02_r1014_eq a0 b0
  refine eq_iteI (fun hc1 => ?_) (fun hc1 => ?_)
  ·
    exact absurd (by omega : False) id
  ·
    refine eq_bI (eq_J1_charAt_3b067_r2014 E d (jd_le hd rfl) x1 a0 b0 (show (0 ≤ x1 ∧ x1 < 6) from by omega)) ?_
    have h88_ := f_J1_charAt_3b067_r2014_eq a0 b0 x1
    have h89_ := jxand_r (([115, 116, 114, 105, 99, 116] : List Int).getD (x1.toNat) 0) 255 (by decide) (by decide)
    have h90_ := jxi2c_b (jxand (([115, 116, 114, 105, 99, 116] : List Int).getD (x1.toNat) 0) 255)
    refine eq_grd (by omega) ?_
    rfl
theorem f_J0_charAt_5068e_r1014_eq (a0 b0 : Nat → Nat → Int) (x1 : Int) : f_J0_charAt_5068e_r1014 a0 b0 x1 = (if f_J0_isLatin1_aae02_r1014 a0 b0 = 0 then 0 else (f_J1_charAt_3b067_r2014 a0 b0 x1)) := rfl
def f_J0_isLatin1_aae02_r1015 (a0 b0 : Nat → Nat → Int) : Int := 1
theorem eq_J0_isLatin1_aae02_r1015 (E : jxE) (d : Nat) (hd : Nat.ble 1 d = true) (a0 b0 : Nat → Nat → Int) : jxC E d 297 [.inr (.inr (.inl 1015))] (jxSH, a0, b0) = some ([.inl (f_J0_isLatin1_aae02_r1015 a0 b0)], (jxSH, a0, b0)) := by
  obtain ⟨d, rfl⟩ := jd_succ hd
  refine (bq_J0_isLatin1_aae02_r1015 E d a0 b0).trans ?_
  unfold f_J0_isLatin1_aae02_r1015
  rfl
theorem f_J0_isLatin1_aae02_r1015_eq (a0 b0 : Nat → Nat → Int) : f_J0_isLatin1_aae02_r1015 a0 b0 = 1 := rfl
theorem f_J0_isLatin1_aae02_r1015_bool (a0 b0 : Nat → Nat → Int) : f_J0_isLatin1_aae02_r1015 a0 b0 = 0 ∨ f_J0_isLatin1_aae02_r1015 a0 b0 = 1 := by
  unfold f_J0_isLatin1_aae02_r1015
  exact Or.inr rfl
def f_J1_charAt_3b067_r2015 (a0 b0 : Nat → Nat → Int) (x1 : Int) : Int := (jxi2c (jxand (([122, 111, 110, 101] : List Int).getD (x1.toNat) 0) 255))
theorem eq_J1_charAt_3b067_r2015 (E : jxE) (d : Nat) (hd : Nat.ble 3 d = true) (x1 : Int) (a0 b0 : Nat → Nat → Int) (hp0 : (0 ≤ x1 ∧ x1 < 4)) : jxC E d 299 [.inr (.inr (.inl 2015)), .inl x1] (jxSH, a0, b0) = some ([.inl (f_J1_charAt_3b067_r2015 a0 b0 x1)], (jxSH, a0, b0)) := by
  obtain ⟨d, rfl⟩ := jd_succ hd
  refine (bq_J1_charAt_3b067_r2015 E d x1 a0 b0).trans ?_
  unfold f_J1_charAt_3b067_r2015
  refine eq_bV (eq_J0_checkIndex_df160 E d (jd_le hd rfl) x1 4 a0 b0 (show (0 ≤ x1 ∧ x1 < 4) from by omega)) ?_
  refine eq_grd (by omega) ?_
  have h91_ := jxand_r (([122, 111, 110, 101] : List Int).getD (x1.toNat) 0) 255 (by decide) (by decide)
  have h92_ := jxi2c_b (jxand (([122, 111, 110, 101] : List Int).getD (x1.toNat) 0) 255)
  refine eq_grd (by omega) ?_
  rfl
theorem f_J1_charAt_3b067_r2015_eq (a0 b0 : Nat → Nat → Int) (x1 : Int) : f_J1_charAt_3b067_r2015 a0 b0 x1 = (jxi2c (jxand (([122, 111, 110, 101] : List Int).getD (x1.toNat) 0) 255)) := rfl
def f_J0_charAt_5068e_r1015 (a0 b0 : Nat → Nat → Int) (x1 : Int) : Int := (if f_J0_isLatin1_aae02_r1015 a0 b0 = 0 then 0 else (f_J1_charAt_3b067_r2015 a0 b0 x1))
theorem eq_J0_charAt_5068e_r1015 (E : jxE) (d : Nat) (hd : Nat.ble 4 d = true) (x1 : Int) (a0 b0 : Nat → Nat → Int) (hp0 : (0 ≤ x1 ∧ x1 < 4)) : jxC E d 295 [.inr (.inr (.inl 1015)), .inl x1] (jxSH, a0, b0) = some ([.inl (f_J0_charAt_5068e_r1015 a0 b0 x1)], (jxSH, a0, b0)) := by
  obtain ⟨d, rfl⟩ := jd_succ hd
  refine (bq_J0_charAt_5068e_r1015 E d x1 a0 b0).trans ?_
  unfold f_J0_charAt_5068e_r1015
  refine eq_bI (eq_J0_isLatin1_aae02_r1015 E d (jd_le hd rfl) a0 b0) ?_
  have h93_ := f_J0_isLatin1_aae02_r1015_eq a0 b0
  refine eq_iteI (fun hc1 => ?_) (fun hc1 => ?_)
  ·
    exact absurd (by omega : False) id
  ·
    refine eq_bI (eq_J1_charAt_3b067_r2015 E d (jd_le hd rfl) x1 a0 b0 (show (0 ≤ x1 ∧ x1 < 4) from by omega)) ?_
    have h94_ := f_J1_charAt_3b067_r2015_eq a0 b0 x1
    have h95_ := jxand_r (([122, 111, 110, 101] : List Int).getD (x1.toNat) 0) 255 (by decide) (by decide)
    have h96_ := jxi2c_b (jxand (([122, 111, 110, 101] : List Int).getD (x1.toNat) 0) 255)
    refine eq_grd (by omega) ?_
    rfl
theorem f_J0_charAt_5068e_r1015_eq (a0 b0 : Nat → Nat → Int) (x1 : Int) : f_J0_charAt_5068e_r1015 a0 b0 x1 = (if f_J0_isLatin1_aae02_r1015 a0 b0 = 0 then 0 else (f_J1_charAt_3b067_r2015 a0 b0 x1)) := rfl
def f_J0_coder_7d493_r1000 (a0 b0 : Nat → Nat → Int) : Int := 0
theorem eq_J0_coder_7d493_r1000 (E : jxE) (d : Nat) (hd : Nat.ble 1 d = true) (a0 b0 : Nat → Nat → Int) : jxC E d 296 [.inr (.inr (.inl 1000))] (jxSH, a0, b0) = some ([.inl (f_J0_coder_7d493_r1000 a0 b0)], (jxSH, a0, b0)) := by
  obtain ⟨d, rfl⟩ := jd_succ hd
  refine (bq_J0_coder_7d493_r1000 E d a0 b0).trans ?_
  unfold f_J0_coder_7d493_r1000
  rfl
theorem f_J0_coder_7d493_r1000_eq (a0 b0 : Nat → Nat → Int) : f_J0_coder_7d493_r1000 a0 b0 = 0 := rfl
def f_J0_coder_7d493_r1001 (a0 b0 : Nat → Nat → Int) : Int := 0
theorem eq_J0_coder_7d493_r1001 (E : jxE) (d : Nat) (hd : Nat.ble 1 d = true) (a0 b0 : Nat → Nat → Int) : jxC E d 296 [.inr (.inr (.inl 1001))] (jxSH, a0, b0) = some ([.inl (f_J0_coder_7d493_r1001 a0 b0)], (jxSH, a0, b0)) := by
  obtain ⟨d, rfl⟩ := jd_succ hd
  refine (bq_J0_coder_7d493_r1001 E d a0 b0).trans ?_
  unfold f_J0_coder_7d493_r1001
  rfl
theorem f_J0_coder_7d493_r1001_eq (a0 b0 : Nat → Nat → Int) : f_J0_coder_7d493_r1001 a0 b0 = 0 := rfl
def f_J0_coder_7d493_r1002 (a0 b0 : Nat → Nat → Int) : Int := 0
theorem eq_J0_coder_7d493_r1002 (E : jxE) (d : Nat) (hd : Nat.ble 1 d = true) (a0 b0 : Nat → Nat → Int) : jxC E d 296 [.inr (.inr (.inl 1002))] (jxSH, a0, b0) = some ([.inl (f_J0_coder_7d493_r1002 a0 b0)], (jxSH, a0, b0)) := by
  obtain ⟨d, rfl⟩ := jd_succ hd
  refine (bq_J0_coder_7d493_r1002 E d a0 b0).trans ?_
  unfold f_J0_coder_7d493_r1002
  rfl
theorem f_J0_coder_7d493_r1002_eq (a0 b0 : Nat → Nat → Int) : f_J0_coder_7d493_r1002 a0 b0 = 0 := rfl
def f_J0_coder_7d493_r1003 (a0 b0 : Nat → Nat → Int) : Int := 0
theorem eq_J0_coder_7d493_r1003 (E : jxE) (d : Nat) (hd : Nat.ble 1 d = true) (a0 b0 : Nat → Nat → Int) : jxC E d 296 [.inr (.inr (.inl 1003))] (jxSH, a0, b0) = some ([.inl (f_J0_coder_7d493_r1003 a0 b0)], (jxSH, a0, b0)) := by
  obtain ⟨d, rfl⟩ := jd_succ hd
  refine (bq_J0_coder_7d493_r1003 E d a0 b0).trans ?_
  unfold f_J0_coder_7d493_r1003
  rfl
theorem f_J0_coder_7d493_r1003_eq (a0 b0 : Nat → Nat → Int) : f_J0_coder_7d493_r1003 a0 b0 = 0 := rfl
def f_J0_coder_7d493_r1004 (a0 b0 : Nat → Nat → Int) : Int := 0
theorem eq_J0_coder_7d493_r1004 (E : jxE) (d : Nat) (hd : Nat.ble 1 d = true) (a0 b0 : Nat → Nat → Int) : jxC E d 296 [.inr (.inr (.inl 1004))] (jxSH, a0, b0) = some ([.inl (f_J0_coder_7d493_r1004 a0 b0)], (jxSH, a0, b0)) := by
  obtain ⟨d, rfl⟩ := jd_succ hd
  refine (bq_J0_coder_7d493_r1004 E d a0 b0).trans ?_
  unfold f_J0_coder_7d493_r1004
  rfl
theorem f_J0_coder_7d493_r1004_eq (a0 b0 : Nat → Nat → Int) : f_J0_coder_7d493_r1004 a0 b0 = 0 := rfl
def f_J0_coder_7d493_r1005 (a0 b0 : Nat → Nat → Int) : Int := 0
theorem eq_J0_coder_7d493_r1005 (E : jxE) (d : Nat) (hd : Nat.ble 1 d = true) (a0 b0 : Nat → Nat → Int) : jxC E d 296 [.inr (.inr (.inl 1005))] (jxSH, a0, b0) = some ([.inl (f_J0_coder_7d493_r1005 a0 b0)], (jxSH, a0, b0)) := by
  obtain ⟨d, rfl⟩ := jd_succ hd
  refine (bq_J0_coder_7d493_r1005 E d a0 b0).trans ?_
  unfold f_J0_coder_7d493_r1005
  rfl
theorem f_J0_coder_7d493_r1005_eq (a0 b0 : Nat → Nat → Int) : f_J0_coder_7d493_r1005 a0 b0 = 0 := rfl
def f_J0_coder_7d493_r1006 (a0 b0 : Nat → Nat → Int) : Int := 0
theorem eq_J0_coder_7d493_r1006 (E : jxE) (d : Nat) (hd : Nat.ble 1 d = true) (a0 b0 : Nat → Nat → Int) : jxC E d 296 [.inr (.inr (.inl 1006))] (jxSH, a0, b0) = some ([.inl (f_J0_coder_7d493_r1006 a0 b0)], (jxSH, a0, b0)) := by
  obtain ⟨d, rfl⟩ := jd_succ hd
  refine (bq_J0_coder_7d493_r1006 E d a0 b0).trans ?_
  unfold f_J0_coder_7d493_r1006
  rfl
theorem f_J0_coder_7d493_r1006_eq (a0 b0 : Nat → Nat → Int) : f_J0_coder_7d493_r1006 a0 b0 = 0 := rfl
def f_J0_coder_7d493_r1007 (a0 b0 : Nat → Nat → Int) : Int := 0
theorem eq_J0_coder_7d493_r1007 (E : jxE) (d : Nat) (hd : Nat.ble 1 d = true) (a0 b0 : Nat → Nat → Int) : jxC E d 296 [.inr (.inr (.inl 1007))] (jxSH, a0, b0) = some ([.inl (f_J0_coder_7d493_r1007 a0 b0)], (jxSH, a0, b0)) := by
  obtain ⟨d, rfl⟩ := jd_succ hd
  refine (bq_J0_coder_7d493_r1007 E d a0 b0).trans ?_
  unfold f_J0_coder_7d493_r1007
  rfl
theorem f_J0_coder_7d493_r1007_eq (a0 b0 : Nat → Nat → Int) : f_J0_coder_7d493_r1007 a0 b0 = 0 := rfl
def f_J0_coder_7d493_r1008 (a0 b0 : Nat → Nat → Int) : Int := 0
theorem eq_J0_coder_7d493_r1008 (E : jxE) (d : Nat) (hd : Nat.ble 1 d = true) (a0 b0 : Nat → Nat → Int) : jxC E d 296 [.inr (.inr (.inl 1008))] (jxSH, a0, b0) = some ([.inl (f_J0_coder_7d493_r1008 a0 b0)], (jxSH, a0, b0)) := by
  obtain ⟨d, rfl⟩ := jd_succ hd
  refine (bq_J0_coder_7d493_r1008 E d a0 b0).trans ?_
  unfold f_J0_coder_7d493_r1008
  rfl
theorem f_J0_coder_7d493_r1008_eq (a0 b0 : Nat → Nat → Int) : f_J0_coder_7d493_r1008 a0 b0 = 0 := rfl
def f_J0_coder_7d493_r1009 (a0 b0 : Nat → Nat → Int) : Int := 0
theorem eq_J0_coder_7d493_r1009 (E : jxE) (d : Nat) (hd : Nat.ble 1 d = true) (a0 b0 : Nat → Nat → Int) : jxC E d 296 [.inr (.inr (.inl 1009))] (jxSH, a0, b0) = some ([.inl (f_J0_coder_7d493_r1009 a0 b0)], (jxSH, a0, b0)) := by
  obtain ⟨d, rfl⟩ := jd_succ hd
  refine (bq_J0_coder_7d493_r1009 E d a0 b0).trans ?_
  unfold f_J0_coder_7d493_r1009
  rfl
theorem f_J0_coder_7d493_r1009_eq (a0 b0 : Nat → Nat → Int) : f_J0_coder_7d493_r1009 a0 b0 = 0 := rfl
def f_J0_coder_7d493_r1010 (a0 b0 : Nat → Nat → Int) : Int := 0
theorem eq_J0_coder_7d493_r1010 (E : jxE) (d : Nat) (hd : Nat.ble 1 d = true) (a0 b0 : Nat → Nat → Int) : jxC E d 296 [.inr (.inr (.inl 1010))] (jxSH, a0, b0) = some ([.inl (f_J0_coder_7d493_r1010 a0 b0)], (jxSH, a0, b0)) := by
  obtain ⟨d, rfl⟩ := jd_succ hd
  refine (bq_J0_coder_7d493_r1010 E d a0 b0).trans ?_
  unfold f_J0_coder_7d493_r1010
  rfl
theorem f_J0_coder_7d493_r1010_eq (a0 b0 : Nat → Nat → Int) : f_J0_coder_7d493_r1010 a0 b0 = 0 := rfl
def f_J0_coder_7d493_r1011 (a0 b0 : Nat → Nat → Int) : Int := 0
theorem eq_J0_coder_7d493_r1011 (E : jxE) (d : Nat) (hd : Nat.ble 1 d = true) (a0 b0 : Nat → Nat → Int) : jxC E d 296 [.inr (.inr (.inl 1011))] (jxSH, a0, b0) = some ([.inl (f_J0_coder_7d493_r1011 a0 b0)], (jxSH, a0, b0)) := by
  obtain ⟨d, rfl⟩ := jd_succ hd
  refine (bq_J0_coder_7d493_r1011 E d a0 b0).trans ?_
  unfold f_J0_coder_7d493_r1011
  rfl
theorem f_J0_coder_7d493_r1011_eq (a0 b0 : Nat → Nat → Int) : f_J0_coder_7d493_r1011 a0 b0 = 0 := rfl
def f_J0_coder_7d493_r1012 (a0 b0 : Nat → Nat → Int) : Int := 0
theorem eq_J0_coder_7d493_r1012 (E : jxE) (d : Nat) (hd : Nat.ble 1 d = true) (a0 b0 : Nat → Nat → Int) : jxC E d 296 [.inr (.inr (.inl 1012))] (jxSH, a0, b0) = some ([.inl (f_J0_coder_7d493_r1012 a0 b0)], (jxSH, a0, b0)) := by
  obtain ⟨d, rfl⟩ := jd_succ hd
  refine (bq_J0_coder_7d493_r1012 E d a0 b0).trans ?_
  unfold f_J0_coder_7d493_r1012
  rfl
theorem f_J0_coder_7d493_r1012_eq (a0 b0 : Nat → Nat → Int) : f_J0_coder_7d493_r1012 a0 b0 = 0 := rfl
def f_J0_coder_7d493_r1013 (a0 b0 : Nat → Nat → Int) : Int := 0
theorem eq_J0_coder_7d493_r1013 (E : jxE) (d : Nat) (hd : Nat.ble 1 d = true) (a0 b0 : Nat → Nat → Int) : jxC E d 296 [.inr (.inr (.inl 1013))] (jxSH, a0, b0) = some ([.inl (f_J0_coder_7d493_r1013 a0 b0)], (jxSH, a0, b0)) := by
  obtain ⟨d, rfl⟩ := jd_succ hd
  refine (bq_J0_coder_7d493_r1013 E d a0 b0).trans ?_
  unfold f_J0_coder_7d493_r1013
  rfl
theorem f_J0_coder_7d493_r1013_eq (a0 b0 : Nat → Nat → Int) : f_J0_coder_7d493_r1013 a0 b0 = 0 := rfl
def f_J0_coder_7d493_r1014 (a0 b0 : Nat → Nat → Int) : Int := 0
theorem eq_J0_coder_7d493_r1014 (E : jxE) (d : Nat) (hd : Nat.ble 1 d = true) (a0 b0 : Nat → Nat → Int) : jxC E d 296 [.inr (.inr (.inl 1014))] (jxSH, a0, b0) = some ([.inl (f_J0_coder_7d493_r1014 a0 b0)], (jxSH, a0, b0)) := by
  obtain ⟨d, rfl⟩ := jd_succ hd
  refine (bq_J0_coder_7d493_r1014 E d a0 b0).trans ?_
  unfold f_J0_coder_7d493_r1014
  rfl
theorem f_J0_coder_7d493_r1014_eq (a0 b0 : Nat → Nat → Int) : f_J0_coder_7d493_r1014 a0 b0 = 0 := rfl
def f_J0_coder_7d493_r1015 (a0 b0 : Nat → Nat → Int) : Int := 0
theorem eq_J0_coder_7d493_r1015 (E : jxE) (d : Nat) (hd : Nat.ble 1 d = true) (a0 b0 : Nat → Nat → Int) : jxC E d 296 [.inr (.inr (.inl 1015))] (jxSH, a0, b0) = some ([.inl (f_J0_coder_7d493_r1015 a0 b0)], (jxSH, a0, b0)) := by
  obtain ⟨d, rfl⟩ := jd_succ hd
  refine (bq_J0_coder_7d493_r1015 E d a0 b0).trans ?_
  unfold f_J0_coder_7d493_r1015
  rfl
theorem f_J0_coder_7d493_r1015_eq (a0 b0 : Nat → Nat → Int) : f_J0_coder_7d493_r1015 a0 b0 = 0 := rfl
def f_J0_length_8abf5_r1000 (a0 b0 : Nat → Nat → Int) : Int := (jxshr 3 (f_J0_coder_7d493_r1000 a0 b0))
theorem eq_J0_length_8abf5_r1000 (E : jxE) (d : Nat) (hd : Nat.ble 2 d = true) (a0 b0 : Nat → Nat → Int) : jxC E d 294 [.inr (.inr (.inl 1000))] (jxSH, a0, b0) = some ([.inl (f_J0_length_8abf5_r1000 a0 b0)], (jxSH, a0, b0)) := by
  obtain ⟨d, rfl⟩ := jd_succ hd
  refine (bq_J0_length_8abf5_r1000 E d a0 b0).trans ?_
  unfold f_J0_length_8abf5_r1000
  refine eq_bI (eq_J0_coder_7d493_r1000 E d (jd_le hd rfl) a0 b0) ?_
  rfl
theorem f_J0_length_8abf5_r1000_eq (a0 b0 : Nat → Nat → Int) : f_J0_length_8abf5_r1000 a0 b0 = (jxshr 3 (f_J0_coder_7d493_r1000 a0 b0)) := rfl
theorem ff_J0_length_8abf5_r1000 (a0 b0 : Nat → Nat → Int) : f_J0_length_8abf5_r1000 a0 b0 = 3 := by show jxshr 3 0 = 3; decide +kernel
def f_J0_length_8abf5_r1001 (a0 b0 : Nat → Nat → Int) : Int := (jxshr 4 (f_J0_coder_7d493_r1001 a0 b0))
theorem eq_J0_length_8abf5_r1001 (E : jxE) (d : Nat) (hd : Nat.ble 2 d = true) (a0 b0 : Nat → Nat → Int) : jxC E d 294 [.inr (.inr (.inl 1001))] (jxSH, a0, b0) = some ([.inl (f_J0_length_8abf5_r1001 a0 b0)], (jxSH, a0, b0)) := by
  obtain ⟨d, rfl⟩ := jd_succ hd
  refine (bq_J0_length_8abf5_r1001 E d a0 b0).trans ?_
  unfold f_J0_length_8abf5_r1001
  refine eq_bI (eq_J0_coder_7d493_r1001 E d (jd_le hd rfl) a0 b0) ?_
  rfl
theorem f_J0_length_8abf5_r1001_eq (a0 b0 : Nat → Nat → Int) : f_J0_length_8abf5_r1001 a0 b0 = (jxshr 4 (f_J0_coder_7d493_r1001 a0 b0)) := rfl
theorem ff_J0_length_8abf5_r1001 (a0 b0 : Nat → Nat → Int) : f_J0_length_8abf5_r1001 a0 b0 = 4 := by show jxshr 4 0 = 4; decide +kernel
def f_J0_length_8abf5_r1002 (a0 b0 : Nat → Nat → Int) : Int := (jxshr 6 (f_J0_coder_7d493_r1002 a0 b0))
theorem eq_J0_length_8abf5_r1002 (E : jxE) (d : Nat) (hd : Nat.ble 2 d = true) (a0 b0 : Nat → Nat → Int) : jxC E d 294 [.inr (.inr (.inl 1002))] (jxSH, a0, b0) = some ([.inl (f_J0_length_8abf5_r1002 a0 b0)], (jxSH, a0, b0)) := by
  obtain ⟨d, rfl⟩ := jd_succ hd
  refine (bq_J0_length_8abf5_r1002 E d a0 b0).trans ?_
  unfold f_J0_length_8abf5_r1002
  refine eq_bI (eq_J0_coder_7d493_r1002 E d (jd_le hd rfl) a0 b0) ?_
  rfl
theorem f_J0_length_8abf5_r1002_eq (a0 b0 : Nat → Nat → Int) : f_J0_length_8abf5_r1002 a0 b0 = (jxshr 6 (f_J0_coder_7d493_r1002 a0 b0)) := rfl
theorem ff_J0_length_8abf5_r1002 (a0 b0 : Nat → Nat → Int) : f_J0_length_8abf5_r1002 a0 b0 = 6 := by show jxshr 6 0 = 6; decide +kernel
def f_J0_length_8abf5_r1003 (a0 b0 : Nat → Nat → Int) : Int := (jxshr 6 (f_J0_coder_7d493_r1003 a0 b0))
theorem eq_J0_length_8abf5_r1003 (E : jxE) (d : Nat) (hd : Nat.ble 2 d = true) (a0 b0 : Nat → Nat → Int) : jxC E d 294 [.inr (.inr (.inl 1003))] (jxSH, a0, b0) = some ([.inl (f_J0_length_8abf5_r1003 a0 b0)], (jxSH, a0, b0)) := by
  obtain ⟨d, rfl⟩ := jd_succ hd
  refine (bq_J0_length_8abf5_r1003 E d a0 b0).trans ?_
  unfold f_J0_length_8abf5_r1003
  refine eq_bI (eq_J0_coder_7d493_r1003 E d (jd_le hd rfl) a0 b0) ?_
  rfl
theorem f_J0_length_8abf5_r1003_eq (a0 b0 : Nat → Nat → Int) : f_J0_length_8abf5_r1003 a0 b0 = (jxshr 6 (f_J0_coder_7d493_r1003 a0 b0)) := rfl
theorem ff_J0_length_8abf5_r1003 (a0 b0 : Nat → Nat → Int) : f_J0_length_8abf5_r1003 a0 b0 = 6 := by show jxshr 6 0 = 6; decide +kernel
def f_J0_length_8abf5_r1004 (a0 b0 : Nat → Nat → Int) : Int := (jxshr 3 (f_J0_coder_7d493_r1004 a0 b0))
theorem eq_J0_length_8abf5_r1004 (E : jxE) (d : Nat) (hd : Nat.ble 2 d = true) (a0 b0 : Nat → Nat → Int) : jxC E d 294 [.inr (.inr (.inl 1004))] (jxSH, a0, b0) = some ([.inl (f_J0_length_8abf5_r1004 a0 b0)], (jxSH, a0, b0)) := by
  obtain ⟨d, rfl⟩ := jd_succ hd
  refine (bq_J0_length_8abf5_r1004 E d a0 b0).trans ?_
  unfold f_J0_length_8abf5_r1004
  refine eq_bI (eq_J0_coder_7d493_r1004 E d (jd_le hd rfl) a0 b0) ?_
  rfl
theorem f_J0_length_8abf5_r1004_eq (a0 b0 : Nat → Nat → Int) : f_J0_length_8abf5_r1004 a0 b0 = (jxshr 3 (f_J0_coder_7d493_r1004 a0 b0)) := rfl
theorem ff_J0_length_8abf5_r1004 (a0 b0 : Nat → Nat → Int) : f_J0_length_8abf5_r1004 a0 b0 = 3 := by show jxshr 3 0 = 3; decide +kernel
def f_J0_length_8abf5_r1005 (a0 b0 : Nat → Nat → Int) : Int := (jxshr 4 (f_J0_coder_7d493_r1005 a0 b0))
theorem eq_J0_length_8abf5_r1005 (E : jxE) (d : Nat) (hd : Nat.ble 2 d = true) (a0 b0 : Nat → Nat → Int) : jxC E d 294 [.inr (.inr (.inl 1005))] (jxSH, a0, b0) = some ([.inl (f_J0_length_8abf5_r1005 a0 b0)], (jxSH, a0, b0)) := by
  obtain ⟨d, rfl⟩ := jd_succ hd
  refine (bq_J0_length_8abf5_r1005 E d a0 b0).trans ?_
  unfold f_J0_length_8abf5_r1005
  refine eq_bI (eq_J0_coder_7d493_r1005 E d (jd_le hd rfl) a0 b0) ?_
  rfl
theorem f_J0_length_8abf5_r1005_eq (a0 b0 : Nat → Nat → Int) : f_J0_length_8abf5_r1005 a0 b0 = (jxshr 4 (f_J0_coder_7d493_r1005 a0 b0)) := rfl
theorem ff_J0_length_8abf5_r1005 (a0 b0 : Nat → Nat → Int) : f_J0_length_8abf5_r1005 a0 b0 = 4 := by show jxshr 4 0 = 4; decide +kernel
def f_J0_length_8abf5_r1006 (a0 b0 : Nat → Nat → Int) : Int := (jxshr 3 (f_J0_coder_7d493_r1006 a0 b0))
theorem eq_J0_length_8abf5_r1006 (E : jxE) (d : Nat) (hd : Nat.ble 2 d = true) (a0 b0 : Nat → Nat → Int) : jxC E d 294 [.inr (.inr (.inl 1006))] (jxSH, a0, b0) = some ([.inl (f_J0_length_8abf5_r1006 a0 b0)], (jxSH, a0, b0)) := by
  obtain ⟨d, rfl⟩ := jd_succ hd
  refine (bq_J0_length_8abf5_r1006 E d a0 b0).trans ?_
  unfold f_J0_length_8abf5_r1006
  refine eq_bI (eq_J0_coder_7d493_r1006 E d (jd_le hd rfl) a0 b0) ?_
  rfl
theorem f_J0_length_8abf5_r1006_eq (a0 b0 : Nat → Nat → Int) : f_J0_length_8abf5_r1006 a0 b0 = (jxshr 3 (f_J0_coder_7d493_r1006 a0 b0)) := rfl
theorem ff_J0_length_8abf5_r1006 (a0 b0 : Nat → Nat → Int) : f_J0_length_8abf5_r1006 a0 b0 = 3 := by show jxshr 3 0 = 3; decide +kernel
def f_J0_length_8abf5_r1007 (a0 b0 : Nat → Nat → Int) : Int := (jxshr 3 (f_J0_coder_7d493_r1007 a0 b0))
theorem eq_J0_length_8abf5_r1007 (E : jxE) (d : Nat) (hd : Nat.ble 2 d = true) (a0 b0 : Nat → Nat → Int) : jxC E d 294 [.inr (.inr (.inl 1007))] (jxSH, a0, b0) = some ([.inl (f_J0_length_8abf5_r1007 a0 b0)], (jxSH, a0, b0)) := by
  obtain ⟨d, rfl⟩ := jd_succ hd
  refine (bq_J0_length_8abf5_r1007 E d a0 b0).trans ?_
  unfold f_J0_length_8abf5_r1007
  refine eq_bI (eq_J0_coder_7d493_r1007 E d (jd_le hd rfl) a0 b0) ?_
  rfl
theorem f_J0_length_8abf5_r1007_eq (a0 b0 : Nat → Nat → Int) : f_J0_length_8abf5_r1007 a0 b0 = (jxshr 3 (f_J0_coder_7d493_r1007 a0 b0)) := rfl
theorem ff_J0_length_8abf5_r1007 (a0 b0 : Nat → Nat → Int) : f_J0_length_8abf5_r1007 a0 b0 = 3 := by show jxshr 3 0 = 3; decide +kernel
def f_J0_length_8abf5_r1008 (a0 b0 : Nat → Nat → Int) : Int := (jxshr 3 (f_J0_coder_7d493_r1008 a0 b0))
theorem eq_J0_length_8abf5_r1008 (E : jxE) (d : Nat) (hd : Nat.ble 2 d = true) (a0 b0 : Nat → Nat → Int) : jxC E d 294 [.inr (.inr (.inl 1008))] (jxSH, a0, b0) = some ([.inl (f_J0_length_8abf5_r1008 a0 b0)], (jxSH, a0, b0)) := by
  obtain ⟨d, rfl⟩ := jd_succ hd
  refine (bq_J0_length_8abf5_r1008 E d a0 b0).trans ?_
  unfold f_J0_length_8abf5_r1008
  refine eq_bI (eq_J0_coder_7d493_r1008 E d (jd_le hd rfl) a0 b0) ?_
  rfl
theorem f_J0_length_8abf5_r1008_eq (a0 b0 : Nat → Nat → Int) : f_J0_length_8abf5_r1008 a0 b0 = (jxshr 3 (f_J0_coder_7d493_r1008 a0 b0)) := rfl
theorem ff_J0_length_8abf5_r1008 (a0 b0 : Nat → Nat → Int) : f_J0_length_8abf5_r1008 a0 b0 = 3 := by show jxshr 3 0 = 3; decide +kernel
def f_J0_length_8abf5_r1009 (a0 b0 : Nat → Nat → Int) : Int := (jxshr 2 (f_J0_coder_7d493_r1009 a0 b0))
theorem eq_J0_length_8abf5_r1009 (E : jxE) (d : Nat) (hd : Nat.ble 2 d = true) (a0 b0 : Nat → Nat → Int) : jxC E d 294 [.inr (.inr (.inl 1009))] (jxSH, a0, b0) = some ([.inl (f_J0_length_8abf5_r1009 a0 b0)], (jxSH, a0, b0)) := by
  obtain ⟨d, rfl⟩ := jd_succ hd
  refine (bq_J0_length_8abf5_r1009 E d a0 b0).trans ?_
  unfold f_J0_length_8abf5_r1009
  refine eq_bI (eq_J0_coder_7d493_r1009 E d (jd_le hd rfl) a0 b0) ?_
  rfl
theorem f_J0_length_8abf5_r1009_eq (a0 b0 : Nat → Nat → Int) : f_J0_length_8abf5_r1009 a0 b0 = (jxshr 2 (f_J0_coder_7d493_r1009 a0 b0)) := rfl
theorem ff_J0_length_8abf5_r1009 (a0 b0 : Nat → Nat → Int) : f_J0_length_8abf5_r1009 a0 b0 = 2 := by show jxshr 2 0 = 2; decide +kernel
def f_J0_length_8abf5_r1010 (a0 b0 : Nat → Nat → Int) : Int := (jxshr 5 (f_J0_coder_7d493_r1010 a0 b0))
theorem eq_J0_length_8abf5_r1010 (E : jxE) (d : Nat) (hd : Nat.ble 2 d = true) (a0 b0 : Nat → Nat → Int) : jxC E d 294 [.inr (.inr (.inl 1010))] (jxSH, a0, b0) = some ([.inl (f_J0_length_8abf5_r1010 a0 b0)], (jxSH, a0, b0)) := by
  obtain ⟨d, rfl⟩ := jd_succ hd
  refine (bq_J0_length_8abf5_r1010 E d a0 b0).trans ?_
  unfold f_J0_length_8abf5_r1010
  refine eq_bI (eq_J0_coder_7d493_r1010 E d (jd_le hd rfl) a0 b0) ?_
  rfl
theorem f_J0_length_8abf5_r1010_eq (a0 b0 : Nat → Nat → Int) : f_J0_length_8abf5_r1010 a0 b0 = (jxshr 5 (f_J0_coder_7d493_r1010 a0 b0)) := rfl
theorem ff_J0_length_8abf5_r1010 (a0 b0 : Nat → Nat → Int) : f_J0_length_8abf5_r1010 a0 b0 = 5 := by show jxshr 5 0 = 5; decide +kernel
def f_J0_length_8abf5_r1011 (a0 b0 : Nat → Nat → Int) : Int := (jxshr 4 (f_J0_coder_7d493_r1011 a0 b0))
theorem eq_J0_length_8abf5_r1011 (E : jxE) (d : Nat) (hd : Nat.ble 2 d = true) (a0 b0 : Nat → Nat → Int) : jxC E d 294 [.inr (.inr (.inl 1011))] (jxSH, a0, b0) = some ([.inl (f_J0_length_8abf5_r1011 a0 b0)], (jxSH, a0, b0)) := by
  obtain ⟨d, rfl⟩ := jd_succ hd
  refine (bq_J0_length_8abf5_r1011 E d a0 b0).trans ?_
  unfold f_J0_length_8abf5_r1011
  refine eq_bI (eq_J0_coder_7d493_r1011 E d (jd_le hd rfl) a0 b0) ?_
  rfl
theorem f_J0_length_8abf5_r1011_eq (a0 b0 : Nat → Nat → Int) : f_J0_length_8abf5_r1011 a0 b0 = (jxshr 4 (f_J0_coder_7d493_r1011 a0 b0)) := rfl
theorem ff_J0_length_8abf5_r1011 (a0 b0 : Nat → Nat → Int) : f_J0_length_8abf5_r1011 a0 b0 = 4 := by show jxshr 4 0 = 4; decide +kernel
def f_J0_length_8abf5_r1012 (a0 b0 : Nat → Nat → Int) : Int := (jxshr 5 (f_J0_coder_7d493_r1012 a0 b0))
theorem eq_J0_length_8abf5_r1012 (E : jxE) (d : Nat) (hd : Nat.ble 2 d = true) (a0 b0 : Nat → Nat → Int) : jxC E d 294 [.inr (.inr (.inl 1012))] (jxSH, a0, b0) = some ([.inl (f_J0_length_8abf5_r1012 a0 b0)], (jxSH, a0, b0)) := by
  obtain ⟨d, rfl⟩ := jd_succ hd
  refine (bq_J0_length_8abf5_r1012 E d a0 b0).trans ?_
  unfold f_J0_length_8abf5_r1012
  refine eq_bI (eq_J0_coder_7d493_r1012 E d (jd_le hd rfl) a0 b0) ?_
  rfl
theorem f_J0_length_8abf5_r1012_eq (a0 b0 : Nat → Nat → Int) : f_J0_length_8abf5_r1012 a0 b0 = (jxshr 5 (f_J0_coder_7d493_r1012 a0 b0)) := rfl
theorem ff_J0_length_8abf5_r1012 (a0 b0 : Nat → Nat → Int) : f_J0_length_8abf5_r1012 a0 b0 = 5 := by show jxshr 5 0 = 5; decide +kernel
def f_J0_length_8abf5_r1013 (a0 b0 : Nat → Nat → Int) : Int := (jxshr 4 (f_J0_coder_7d493_r1013 a0 b0))
theorem eq_J0_length_8abf5_r1013 (E : jxE) (d : Nat) (hd : Nat.ble 2 d = true) (a0 b0 : Nat → Nat → Int) : jxC E d 294 [.inr (.inr (.inl 1013))] (jxSH, a0, b0) = some ([.inl (f_J0_length_8abf5_r1013 a0 b0)], (jxSH, a0, b0)) := by
  obtain ⟨d, rfl⟩ := jd_succ hd
  refine (bq_J0_length_8abf5_r1013 E d a0 b0).trans ?_
  unfold f_J0_length_8abf5_r1013
  refine eq_bI (eq_J0_coder_7d493_r1013 E d (jd_le hd rfl) a0 b0) ?_
  rfl
theorem f_J0_length_8abf5_r1013_eq (a0 b0 : Nat → Nat → Int) : f_J0_length_8abf5_r1013 a0 b0 = (jxshr 4 (f_J0_coder_7d493_r1013 a0 b0)) := rfl
theorem ff_J0_length_8abf5_r1013 (a0 b0 : Nat → Nat → Int) : f_J0_length_8abf5_r1013 a0 b0 = 4 := by show jxshr 4 0 = 4; decide +kernel
def f_J0_length_8abf5_r1014 (a0 b0 : Nat → Nat → Int) : Int := (jxshr 6 (f_J0_coder_7d493_r1014 a0 b0))
theorem eq_J0_length_8abf5_r1014 (E : jxE) (d : Nat) (hd : Nat.ble 2 d = true) (a0 b0 : Nat → Nat → Int) : jxC E d 294 [.inr (.inr (.inl 1014))] (jxSH, a0, b0) = some ([.inl (f_J0_length_8abf5_r1014 a0 b0)], (jxSH, a0, b0)) := by
  obtain ⟨d, rfl⟩ := jd_succ hd
  refine (bq_J0_length_8abf5_r1014 E d a0 b0).trans ?_
  unfold f_J0_length_8abf5_r1014
  refine eq_bI (eq_J0_coder_7d493_r1014 E d (jd_le hd rfl) a0 b0) ?_
  rfl
theorem f_J0_length_8abf5_r1014_eq (a0 b0 : Nat → Nat → Int) : f_J0_length_8abf5_r1014 a0 b0 = (jxshr 6 (f_J0_coder_7d493_r1014 a0 b0)) := rfl
theorem ff_J0_length_8abf5_r1014 (a0 b0 : Nat → Nat → Int) : f_J0_length_8abf5_r1014 a0 b0 = 6 := by show jxshr 6 0 = 6; decide +kernel
def f_J0_length_8abf5_r1015 (a0 b0 : Nat → Nat → Int) : Int := (jxshr 4 (f_J0_coder_7d493_r1015 a0 b0))
theorem eq_J0_length_8abf5_r1015 (E : jxE) (d : Nat) (hd : Nat.ble 2 d = true) (a0 b0 : Nat → Nat → Int) : jxC E d 294 [.inr (.inr (.inl 1015))] (jxSH, a0, b0) = some ([.inl (f_J0_length_8abf5_r1015 a0 b0)], (jxSH, a0, b0)) := by
  obtain ⟨d, rfl⟩ := jd_succ hd
  refine (bq_J0_length_8abf5_r1015 E d a0 b0).trans ?_
  unfold f_J0_length_8abf5_r1015
  refine eq_bI (eq_J0_coder_7d493_r1015 E d (jd_le hd rfl) a0 b0) ?_
  rfl
theorem f_J0_length_8abf5_r1015_eq (a0 b0 : Nat → Nat → Int) : f_J0_length_8abf5_r1015 a0 b0 = (jxshr 4 (f_J0_coder_7d493_r1015 a0 b0)) := rfl
theorem ff_J0_length_8abf5_r1015 (a0 b0 : Nat → Nat → Int) : f_J0_length_8abf5_r1015 a0 b0 = 4 := by show jxshr 4 0 = 4; decide +kernel
def f_J6_bitCount_0f7a4_at41 (a0 b0 : Nat → Nat → Int) (y0 : Int) : Int := (jxand (jxw (y0 + (jxushr y0 16))) 63)
theorem eq_J6_bitCount_0f7a4_41 (E : jxE) (d : Nat) (hd : Nat.ble 1 (d + 1) = true) (y0 : Int) (a0 b0 : Nat → Nat → Int) : jxX E d 290 41 [some (.inl y0)] [] (jxSH, a0, b0) = some ([.inl (f_J6_bitCount_0f7a4_at41 a0 b0 y0)], (jxSH, a0, b0)) := by
  refine (bq_J6_bitCount_0f7a4_41 E d y0 a0 b0).trans ?_
  unfold f_J6_bitCount_0f7a4_at41
  rfl
def f_J6_bitCount_0f7a4_at24 (a0 b0 : Nat → Nat → Int) (y0 : Int) : Int := (f_J6_bitCount_0f7a4_at41 a0 b0 (jxw ((jxand (jxw (y0 + (jxushr y0 4))) 252645135) + (jxushr (jxand (jxw (y0 + (jxushr y0 4))) 252645135) 8))))
theorem eq_J6_bitCount_0f7a4_24 (E : jxE) (d : Nat) (hd : Nat.ble 1 (d + 1) = true) (y0 : Int) (a0 b0 : Nat → Nat → Int) : jxX E d 290 24 [some (.inl y0)] [] (jxSH, a0, b0) = some ([.inl (f_J6_bitCount_0f7a4_at24 a0 b0 y0)], (jxSH, a0, b0)) := by
  refine (bq_J6_bitCount_0f7a4_24 E d y0 a0 b0).trans ?_
  unfold f_J6_bitCount_0f7a4_at24
  exact eq_J6_bitCount_0f7a4_41 E d hd (jxw ((jxand (jxw (y0 + (jxushr y0 4))) 252645135) + (jxushr (jxand (jxw (y0 + (jxushr y0 4))) 252645135) 8))) a0 b0
def f_J6_bitCount_0f7a4 (a0 b0 : Nat → Nat → Int) (x0 : Int) : Int := (f_J6_bitCount_0f7a4_at24 a0 b0 (jxw ((jxand (jxw (x0 - (jxand (jxushr x0 1) 1431655765))) 858993459) + (jxand (jxushr (jxw (x0 - (jxand (jxushr x0 1) 1431655765))) 2) 858993459))))
theorem eq_J6_bitCount_0f7a4 (E : jxE) (d : Nat) (hd : Nat.ble 1 d = true) (x0 : Int) (a0 b0 : Nat → Nat → Int) : jxC E d 290 [.inl x0] (jxSH, a0, b0) = some ([.inl (f_J6_bitCount_0f7a4 a0 b0 x0)], (jxSH, a0, b0)) := by
  obtain ⟨d, rfl⟩ := jd_succ hd
  refine (bq_J6_bitCount_0f7a4 E d x0 a0 b0).trans ?_
  unfold f_J6_bitCount_0f7a4
  exact eq_J6_bitCount_0f7a4_24 E d hd (jxw ((jxand (jxw (x0 - (jxand (jxushr x0 1) 1431655765))) 858993459) + (jxand (jxushr (jxw (x0 - (jxand (jxushr x0 1) 1431655765))) 2) 858993459))) a0 b0
theorem f_J6_bitCount_0f7a4_eq (a0 b0 : Nat → Nat → Int) (x0 : Int) : f_J6_bitCount_0f7a4 a0 b0 x0 = (f_J6_bitCount_0f7a4_at24 a0 b0 (jxw ((jxand (jxw (x0 - (jxand (jxushr x0 1) 1431655765))) 858993459) + (jxand (jxushr (jxw (x0 - (jxand (jxushr x0 1) 1431655765))) 2) 858993459)))) := rfl
def f_J9_max_7cf53 (a0 b0 : Nat → Nat → Int) (x0 x1 : Int) : Int := (if x0 < x1 then x1 else x0)
theorem eq_J9_max_7cf53 (E : jxE) (d : Nat) (hd : Nat.ble 1 d = true) (x0 x1 : Int) (a0 b0 : Nat → Nat → Int) : jxC E d 291 [.inl x0, .inl x1] (jxSH, a0, b0) = some ([.inl (f_J9_max_7cf53 a0 b0 x0 x1)], (jxSH, a0, b0)) := by
  obtain ⟨d, rfl⟩ := jd_succ hd
  refine (bq_J9_max_7cf53 E d x0 x1 a0 b0).trans ?_
  unfold f_J9_max_7cf53
  refine eq_iteI (fun hc1 => ?_) (fun hc1 => ?_)
  ·
    rfl
  ·
    rfl
theorem f_J9_max_7cf53_eq (a0 b0 : Nat → Nat → Int) (x0 x1 : Int) : f_J9_max_7cf53 a0 b0 x0 x1 = (if x0 < x1 then x1 else x0) := rfl
def f_J9_min_7cf53 (a0 b0 : Nat → Nat → Int) (x0 x1 : Int) : Int := (if x1 < x0 then x1 else x0)
theorem eq_J9_min_7cf53 (E : jxE) (d : Nat) (hd : Nat.ble 1 d = true) (x0 x1 : Int) (a0 b0 : Nat → Nat → Int) : jxC E d 292 [.inl x0, .inl x1] (jxSH, a0, b0) = some ([.inl (f_J9_min_7cf53 a0 b0 x0 x1)], (jxSH, a0, b0)) := by
  obtain ⟨d, rfl⟩ := jd_succ hd
  refine (bq_J9_min_7cf53 E d x0 x1 a0 b0).trans ?_
  unfold f_J9_min_7cf53
  refine eq_iteI (fun hc1 => ?_) (fun hc1 => ?_)
  ·
    rfl
  ·
    rfl
theorem f_J9_min_7cf53_eq (a0 b0 : Nat → Nat → Int) (x0 x1 : Int) : f_J9_min_7cf53 a0 b0 x0 x1 = (if x1 < x0 then x1 else x0) := rfl
def f_J9_min_f86c9 (a0 b0 : Nat → Nat → Int) (x0 x1 : Int) : Int := (if 0 < jxlcmp x0 x1 then x1 else x0)
theorem eq_J9_min_f86c9 (E : jxE) (d : Nat) (hd : Nat.ble 1 d = true) (x0 x1 : Int) (a0 b0 : Nat → Nat → Int) : jxC E d 293 [.inr (.inl x0), .inr (.inl x1)] (jxSH, a0, b0) = some ([.inr (.inl (f_J9_min_f86c9 a0 b0 x0 x1))], (jxSH, a0, b0)) := by
  obtain ⟨d, rfl⟩ := jd_succ hd
  refine (bq_J9_min_f86c9 E d x0 x1 a0 b0).trans ?_
  unfold f_J9_min_f86c9
  have h97_ := jxlcmp_b x0 x1
  refine eq_iteJ (fun hc1 => ?_) (fun hc1 => ?_)
  ·
    rfl
  ·
    rfl
theorem f_J9_min_f86c9_eq (a0 b0 : Nat → Nat → Int) (x0 x1 : Int) : f_J9_min_f86c9 a0 b0 x0 x1 = (if 0 < jxlcmp x0 x1 then x1 else x0) := rfl
def f_X11_entry_r65 (a0 b0 : Nat → Nat → Int) (x1 x2 : Int) : Int := (if x2 < 0 then (-1) else (if x2 < x1 then (if x2 < 300 then (a0 65 (x2.toNat)) else (-1)) else (-1)))
theorem eq_X11_entry_r65 (E : jxE) (d : Nat) (hd : Nat.ble 1 d = true) (x1 x2 : Int) (a0 b0 : Nat → Nat → Int) : jxC E d 202 [.inr (.inr (.inl 65)), .inl x1, .inl x2] (jxSH, a0, b0) = some ([.inl (f_X11_entry_r65 a0 b0 x1 x2)], (jxSH, a0, b0)) := by
  obtain ⟨d, rfl⟩ := jd_succ hd
  refine (bq_X11_entry_r65 E d x1 x2 a0 b0).trans ?_
  unfold f_X11_entry_r65
  refine eq_iteI (fun hc1 => ?_) (fun hc1 => ?_)
  ·
    rfl
  ·
    refine eq_iteI (fun hc2 => ?_) (fun hc2 => ?_)
    ·
      refine eq_iteI (fun hc3 => ?_) (fun hc3 => ?_)
      ·
        refine eq_grd (by omega) ?_
        rfl
      ·
        rfl
    ·
      rfl
theorem f_X11_entry_r65_eq (a0 b0 : Nat → Nat → Int) (x1 x2 : Int) : f_X11_entry_r65 a0 b0 x1 x2 = (if x2 < 0 then (-1) else (if x2 < x1 then (if x2 < 300 then (a0 65 (x2.toNat)) else (-1)) else (-1))) := rfl
def f_X11_entry_r67 (a0 b0 : Nat → Nat → Int) (x1 x2 : Int) : Int := (if x2 < 0 then (-1) else (if x2 < x1 then (if x2 < 600 then (a0 67 (x2.toNat)) else (-1)) else (-1)))
theorem eq_X11_entry_r67 (E : jxE) (d : Nat) (hd : Nat.ble 1 d = true) (x1 x2 : Int) (a0 b0 : Nat → Nat → Int) : jxC E d 202 [.inr (.inr (.inl 67)), .inl x1, .inl x2] (jxSH, a0, b0) = some ([.inl (f_X11_entry_r67 a0 b0 x1 x2)], (jxSH, a0, b0)) := by
  obtain ⟨d, rfl⟩ := jd_succ hd
  refine (bq_X11_entry_r67 E d x1 x2 a0 b0).trans ?_
  unfold f_X11_entry_r67
  refine eq_iteI (fun hc1 => ?_) (fun hc1 => ?_)
  ·
    rfl
  ·
    refine eq_iteI (fun hc2 => ?_) (fun hc2 => ?_)
    ·
      refine eq_iteI (fun hc3 => ?_) (fun hc3 => ?_)
      ·
        refine eq_grd (by omega) ?_
        rfl
      ·
        rfl
    ·
      rfl
theorem f_X11_entry_r67_eq (a0 b0 : Nat → Nat → Int) (x1 x2 : Int) : f_X11_entry_r67 a0 b0 x1 x2 = (if x2 < 0 then (-1) else (if x2 < x1 then (if x2 < 600 then (a0 67 (x2.toNat)) else (-1)) else (-1))) := rfl
def f_X0_arrivedOnOf (a0 b0 : Nat → Nat → Int) (x1 : Int) : Int := (f_X11_entry_r67 a0 b0 (a0 58 12) (f_X11_entry_r65 a0 b0 (a0 58 8) x1))
theorem eq_X0_arrivedOnOf (E : jxE) (d : Nat) (hd : Nat.ble 2 d = true) (x1 : Int) (a0 b0 : Nat → Nat → Int) : jxC E d 12 [.inr (.inr (.inl 58)), .inl x1] (jxSH, a0, b0) = some ([.inl (f_X0_arrivedOnOf a0 b0 x1)], (jxSH, a0, b0)) := by
  obtain ⟨d, rfl⟩ := jd_succ hd
  refine (bq_X0_arrivedOnOf E d x1 a0 b0).trans ?_
  unfold f_X0_arrivedOnOf
  refine eq_bI (eq_X11_entry_r65 E d (jd_le hd rfl) (a0 58 8) x1 a0 b0) ?_
  refine eq_bI (eq_X11_entry_r67 E d (jd_le hd rfl) (a0 58 12) (f_X11_entry_r65 a0 b0 (a0 58 8) x1) a0 b0) ?_
  rfl
theorem f_X0_arrivedOnOf_eq (a0 b0 : Nat → Nat → Int) (x1 : Int) : f_X0_arrivedOnOf a0 b0 x1 = (f_X11_entry_r67 a0 b0 (a0 58 12) (f_X11_entry_r65 a0 b0 (a0 58 8) x1)) := rfl
def f_X0_has (a0 b0 : Nat → Nat → Int) (x1 : Int) : Int := (if x1 < 0 then 0 else (if x1 < a0 58 8 then (if x1 < 300 then 1 else 0) else 0))
theorem eq_X0_has (E : jxE) (d : Nat) (hd : Nat.ble 1 d = true) (x1 : Int) (a0 b0 : Nat → Nat → Int) : jxC E d 3 [.inr (.inr (.inl 58)), .inl x1] (jxSH, a0, b0) = some ([.inl (f_X0_has a0 b0 x1)], (jxSH, a0, b0)) := by
  obtain ⟨d, rfl⟩ := jd_succ hd
  refine (bq_X0_has E d x1 a0 b0).trans ?_
  unfold f_X0_has
  refine eq_iteI (fun hc1 => ?_) (fun hc1 => ?_)
  ·
    rfl
  ·
    refine eq_iteI (fun hc2 => ?_) (fun hc2 => ?_)
    ·
      refine eq_iteI (fun hc3 => ?_) (fun hc3 => ?_)
      ·
        rfl
      ·
        rfl
    ·
      rfl
theorem f_X0_has_eq (a0 b0 : Nat → Nat → Int) (x1 : Int) : f_X0_has a0 b0 x1 = (if x1 < 0 then 0 else (if x1 < a0 58 8 then (if x1 < 300 then 1 else 0) else 0)) := rfl
theorem f_X0_has_bool (a0 b0 : Nat → Nat → Int) (x1 : Int) : f_X0_has a0 b0 x1 = 0 ∨ f_X0_has a0 b0 x1 = 1 := by
  unfold f_X0_has
  refine bool_ite ?_ ?_
  ·
    exact Or.inl rfl
  ·
    refine bool_ite ?_ ?_
    ·
      refine bool_ite ?_ ?_
      ·
        exact Or.inr rfl
      ·
        exact Or.inl rfl
    ·
      exact Or.inl rfl
def f_X11_entry_r5 (a0 b0 : Nat → Nat → Int) (x1 x2 : Int) : Int := (if x2 < 0 then (-1) else (if x2 < x1 then (if x2 < 40 then (a0 5 (x2.toNat)) else (-1)) else (-1)))
theorem eq_X11_entry_r5 (E : jxE) (d : Nat) (hd : Nat.ble 1 d = true) (x1 x2 : Int) (a0 b0 : Nat → Nat → Int) : jxC E d 202 [.inr (.inr (.inl 5)), .inl x1, .inl x2] (jxSH, a0, b0) = some ([.inl (f_X11_entry_r5 a0 b0 x1 x2)], (jxSH, a0, b0)) := by
  obtain ⟨d, rfl⟩ := jd_succ hd
  refine (bq_X11_entry_r5 E d x1 x2 a0 b0).trans ?_
  unfold f_X11_entry_r5
  refine eq_iteI (fun hc1 => ?_) (fun hc1 => ?_)
  ·
    rfl
  ·
    refine eq_iteI (fun hc2 => ?_) (fun hc2 => ?_)
    ·
      refine eq_iteI (fun hc3 => ?_) (fun hc3 => ?_)
      ·
        refine eq_grd (by omega) ?_
        rfl
      ·
        rfl
    ·
      rfl
theorem f_X11_entry_r5_eq (a0 b0 : Nat → Nat → Int) (x1 x2 : Int) : f_X11_entry_r5 a0 b0 x1 x2 = (if x2 < 0 then (-1) else (if x2 < x1 then (if x2 < 40 then (a0 5 (x2.toNat)) else (-1)) else (-1))) := rfl
def f_X3_landOf (a0 b0 : Nat → Nat → Int) (x1 : Int) : Int := (f_X11_entry_r5 a0 b0 (a0 4 6) x1)
theorem eq_X3_landOf (E : jxE) (d : Nat) (hd : Nat.ble 2 d = true) (x1 : Int) (a0 b0 : Nat → Nat → Int) : jxC E d 57 [.inr (.inr (.inl 4)), .inl x1] (jxSH, a0, b0) = some ([.inl (f_X3_landOf a0 b0 x1)], (jxSH, a0, b0)) := by
  obtain ⟨d, rfl⟩ := jd_succ hd
  refine (bq_X3_landOf E d x1 a0 b0).trans ?_
  unfold f_X3_landOf
  refine eq_bI (eq_X11_entry_r5 E d (jd_le hd rfl) (a0 4 6) x1 a0 b0) ?_
  rfl
theorem f_X3_landOf_eq (a0 b0 : Nat → Nat → Int) (x1 : Int) : f_X3_landOf a0 b0 x1 = (f_X11_entry_r5 a0 b0 (a0 4 6) x1) := rfl
def f_X11_entry_r62 (a0 b0 : Nat → Nat → Int) (x1 x2 : Int) : Int := (if x2 < 0 then (-1) else (if x2 < x1 then (if x2 < 300 then (a0 62 (x2.toNat)) else (-1)) else (-1)))
theorem eq_X11_entry_r62 (E : jxE) (d : Nat) (hd : Nat.ble 1 d = true) (x1 x2 : Int) (a0 b0 : Nat → Nat → Int) : jxC E d 202 [.inr (.inr (.inl 62)), .inl x1, .inl x2] (jxSH, a0, b0) = some ([.inl (f_X11_entry_r62 a0 b0 x1 x2)], (jxSH, a0, b0)) := by
  obtain ⟨d, rfl⟩ := jd_succ hd
  refine (bq_X11_entry_r62 E d x1 x2 a0 b0).trans ?_
  unfold f_X11_entry_r62
  refine eq_iteI (fun hc1 => ?_) (fun hc1 => ?_)
  ·
    rfl
  ·
    refine eq_iteI (fun hc2 => ?_) (fun hc2 => ?_)
    ·
      refine eq_iteI (fun hc3 => ?_) (fun hc3 => ?_)
      ·
        refine eq_grd (by omega) ?_
        rfl
      ·
        rfl
    ·
      rfl
theorem f_X11_entry_r62_eq (a0 b0 : Nat → Nat → Int) (x1 x2 : Int) : f_X11_entry_r62 a0 b0 x1 x2 = (if x2 < 0 then (-1) else (if x2 < x1 then (if x2 < 300 then (a0 62 (x2.toNat)) else (-1)) else (-1))) := rfl
def f_X0_boundOf (a0 b0 : Nat → Nat → Int) (x1 : Int) : Int := (f_X11_entry_r62 a0 b0 (a0 58 8) x1)
theorem eq_X0_boundOf (E : jxE) (d : Nat) (hd : Nat.ble 2 d = true) (x1 : Int) (a0 b0 : Nat → Nat → Int) : jxC E d 9 [.inr (.inr (.inl 58)), .inl x1] (jxSH, a0, b0) = some ([.inl (f_X0_boundOf a0 b0 x1)], (jxSH, a0, b0)) := by
  obtain ⟨d, rfl⟩ := jd_succ hd
  refine (bq_X0_boundOf E d x1 a0 b0).trans ?_
  unfold f_X0_boundOf
  refine eq_bI (eq_X11_entry_r62 E d (jd_le hd rfl) (a0 58 8) x1 a0 b0) ?_
  rfl
theorem f_X0_boundOf_eq (a0 b0 : Nat → Nat → Int) (x1 : Int) : f_X0_boundOf a0 b0 x1 = (f_X11_entry_r62 a0 b0 (a0 58 8) x1) := rfl
def f_X11_entry_r64 (a0 b0 : Nat → Nat → Int) (x1 x2 : Int) : Int := (if x2 < 0 then (-1) else (if x2 < x1 then (if x2 < 300 then (a0 64 (x2.toNat)) else (-1)) else (-1)))
theorem eq_X11_entry_r64 (E : jxE) (d : Nat) (hd : Nat.ble 1 d = true) (x1 x2 : Int) (a0 b0 : Nat → Nat → Int) : jxC E d 202 [.inr (.inr (.inl 64)), .inl x1, .inl x2] (jxSH, a0, b0) = some ([.inl (f_X11_entry_r64 a0 b0 x1 x2)], (jxSH, a0, b0)) := by
  obtain ⟨d, rfl⟩ := jd_succ hd
  refine (bq_X11_entry_r64 E d x1 x2 a0 b0).trans ?_
  unfold f_X11_entry_r64
  refine eq_iteI (fun hc1 => ?_) (fun hc1 => ?_)
  ·
    rfl
  ·
    refine eq_iteI (fun hc2 => ?_) (fun hc2 => ?_)
    ·
      refine eq_iteI (fun hc3 => ?_) (fun hc3 => ?_)
      ·
        refine eq_grd (by omega) ?_
        rfl
      ·
        rfl
    ·
      rfl
theorem f_X11_entry_r64_eq (a0 b0 : Nat → Nat → Int) (x1 x2 : Int) : f_X11_entry_r64 a0 b0 x1 x2 = (if x2 < 0 then (-1) else (if x2 < x1 then (if x2 < 300 then (a0 64 (x2.toNat)) else (-1)) else (-1))) := rfl
def f_X0_cancelledOnOf (a0 b0 : Nat → Nat → Int) (x1 : Int) : Int := (f_X11_entry_r64 a0 b0 (a0 58 8) x1)
theorem eq_X0_cancelledOnOf (E : jxE) (d : Nat) (hd : Nat.ble 2 d = true) (x1 : Int) (a0 b0 : Nat → Nat → Int) : jxC E d 11 [.inr (.inr (.inl 58)), .inl x1] (jxSH, a0, b0) = some ([.inl (f_X0_cancelledOnOf a0 b0 x1)], (jxSH, a0, b0)) := by
  obtain ⟨d, rfl⟩ := jd_succ hd
  refine (bq_X0_cancelledOnOf E d x1 a0 b0).trans ?_
  unfold f_X0_cancelledOnOf
  refine eq_bI (eq_X11_entry_r64 E d (jd_le hd rfl) (a0 58 8) x1 a0 b0) ?_
  rfl
theorem f_X0_cancelledOnOf_eq (a0 b0 : Nat → Nat → Int) (x1 : Int) : f_X0_cancelledOnOf a0 b0 x1 = (f_X11_entry_r64 a0 b0 (a0 58 8) x1) := rfl
def f_X11_entry_r59 (a0 b0 : Nat → Nat → Int) (x1 x2 : Int) : Int := (if x2 < 0 then (-1) else (if x2 < x1 then (if x2 < 300 then (a0 59 (x2.toNat)) else (-1)) else (-1)))
theorem eq_X11_entry_r59 (E : jxE) (d : Nat) (hd : Nat.ble 1 d = true) (x1 x2 : Int) (a0 b0 : Nat → Nat → Int) : jxC E d 202 [.inr (.inr (.inl 59)), .inl x1, .inl x2] (jxSH, a0, b0) = some ([.inl (f_X11_entry_r59 a0 b0 x1 x2)], (jxSH, a0, b0)) := by
  obtain ⟨d, rfl⟩ := jd_succ hd
  refine (bq_X11_entry_r59 E d x1 x2 a0 b0).trans ?_
  unfold f_X11_entry_r59
  refine eq_iteI (fun hc1 => ?_) (fun hc1 => ?_)
  ·
    rfl
  ·
    refine eq_iteI (fun hc2 => ?_) (fun hc2 => ?_)
    ·
      refine eq_iteI (fun hc3 => ?_) (fun hc3 => ?_)
      ·
        refine eq_grd (by omega) ?_
        rfl
      ·
        rfl
    ·
      rfl
theorem f_X11_entry_r59_eq (a0 b0 : Nat → Nat → Int) (x1 x2 : Int) : f_X11_entry_r59 a0 b0 x1 x2 = (if x2 < 0 then (-1) else (if x2 < x1 then (if x2 < 300 then (a0 59 (x2.toNat)) else (-1)) else (-1))) := rfl
def f_X0_fromOf (a0 b0 : Nat → Nat → Int) (x1 : Int) : Int := (f_X11_entry_r59 a0 b0 (a0 58 8) x1)
theorem eq_X0_fromOf (E : jxE) (d : Nat) (hd : Nat.ble 2 d = true) (x1 : Int) (a0 b0 : Nat → Nat → Int) : jxC E d 6 [.inr (.inr (.inl 58)), .inl x1] (jxSH, a0, b0) = some ([.inl (f_X0_fromOf a0 b0 x1)], (jxSH, a0, b0)) := by
  obtain ⟨d, rfl⟩ := jd_succ hd
  refine (bq_X0_fromOf E d x1 a0 b0).trans ?_
  unfold f_X0_fromOf
  refine eq_bI (eq_X11_entry_r59 E d (jd_le hd rfl) (a0 58 8) x1 a0 b0) ?_
  rfl
theorem f_X0_fromOf_eq (a0 b0 : Nat → Nat → Int) (x1 : Int) : f_X0_fromOf a0 b0 x1 = (f_X11_entry_r59 a0 b0 (a0 58 8) x1) := rfl
def f_X0_hasRoom (a0 b0 : Nat → Nat → Int) (x1 : Int) : Int := (if jxw (300 - (a0 58 8)) < x1 then 0 else 1)
theorem eq_X0_hasRoom (E : jxE) (d : Nat) (hd : Nat.ble 1 d = true) (x1 : Int) (a0 b0 : Nat → Nat → Int) : jxC E d 4 [.inr (.inr (.inl 58)), .inl x1] (jxSH, a0, b0) = some ([.inl (f_X0_hasRoom a0 b0 x1)], (jxSH, a0, b0)) := by
  obtain ⟨d, rfl⟩ := jd_succ hd
  refine (bq_X0_hasRoom E d x1 a0 b0).trans ?_
  unfold f_X0_hasRoom
  have h98_ := jxw_im (300 - (a0 58 8))
  have h99_ := jxw_rg (300 - (a0 58 8))
  refine eq_iteI (fun hc1 => ?_) (fun hc1 => ?_)
  ·
    rfl
  ·
    rfl
theorem f_X0_hasRoom_eq (a0 b0 : Nat → Nat → Int) (x1 : Int) : f_X0_hasRoom a0 b0 x1 = (if jxw (300 - (a0 58 8)) < x1 then 0 else 1) := rfl
theorem f_X0_hasRoom_bool (a0 b0 : Nat → Nat → Int) (x1 : Int) : f_X0_hasRoom a0 b0 x1 = 0 ∨ f_X0_hasRoom a0 b0 x1 = 1 := by
  unfold f_X0_hasRoom
  refine bool_ite ?_ ?_
  ·
    exact Or.inl rfl
  ·
    exact Or.inr rfl
def f_X0_stateOn_at98 (a0 b0 : Nat → Nat → Int) : Int := 1
theorem eq_X0_stateOn_98 (E : jxE) (d : Nat) (hd : Nat.ble 2 (d + 1) = true) (a0 b0 : Nat → Nat → Int) : jxX E d 19 98 [none, none, none, none, none, none] [] (jxSH, a0, b0) = some ([.inl (f_X0_stateOn_at98 a0 b0)], (jxSH, a0, b0)) := by
  refine (bq_X0_stateOn_98 E d a0 b0).trans ?_
  unfold f_X0_stateOn_at98
  rfl
def f_X0_stateOn_at100 (a0 b0 : Nat → Nat → Int) (y1 y2 : Int) : Int := (if jxw (y2 - (a0 61 (y1.toNat))) < a0 62 (y1.toNat) then 0 else 2)
theorem eq_X0_stateOn_100 (E : jxE) (d : Nat) (hd : Nat.ble 2 (d + 1) = true) (y1 y2 : Int) (a0 b0 : Nat → Nat → Int) (hp0 : (0 ≤ y1 ∧ y1 < 300)) : jxX E d 19 100 [some (.inr (.inr (.inl 58))), some (.inl y1), some (.inl y2), none, none, none] [] (jxSH, a0, b0) = some ([.inl (f_X0_stateOn_at100 a0 b0 y1 y2)], (jxSH, a0, b0)) := by
  refine (bq_X0_stateOn_100 E d y1 y2 a0 b0).trans ?_
  unfold f_X0_stateOn_at100
  refine eq_grd (by omega) ?_
  refine eq_grd (by omega) ?_
  have h100_ := jxw_im (y2 - (a0 61 (y1.toNat)))
  have h101_ := jxw_rg (y2 - (a0 61 (y1.toNat)))
  refine eq_iteI (fun hc1 => ?_) (fun hc1 => ?_)
  ·
    rfl
  ·
    rfl
def f_X0_stateOn_at94 (a0 b0 : Nat → Nat → Int) : Int := 3
theorem eq_X0_stateOn_94 (E : jxE) (d : Nat) (hd : Nat.ble 2 (d + 1) = true) (a0 b0 : Nat → Nat → Int) : jxX E d 19 94 [none, none, none, none, none, none] [] (jxSH, a0, b0) = some ([.inl (f_X0_stateOn_at94 a0 b0)], (jxSH, a0, b0)) := by
  refine (bq_X0_stateOn_94 E d a0 b0).trans ?_
  unfold f_X0_stateOn_at94
  rfl
def f_X0_stateOn_at55 (a0 b0 : Nat → Nat → Int) (y1 y2 y4 s0 : Int) : Int := (if s0 = 0 then (if y4 = (-1) then (f_X0_stateOn_at100 a0 b0 y1 y2) else (if y2 < y4 then (f_X0_stateOn_at100 a0 b0 y1 y2) else (if jxw (y4 - (a0 61 (y1.toNat))) < a0 62 (y1.toNat) then (f_X0_stateOn_at98 a0 b0) else (f_X0_stateOn_at94 a0 b0)))) else 4)
theorem eq_X0_stateOn_55 (E : jxE) (d : Nat) (hd : Nat.ble 2 (d + 1) = true) (y1 y2 y4 s0 : Int) (a0 b0 : Nat → Nat → Int) (hp0 : (0 ≤ y1 ∧ y1 < 300)) : jxX E d 19 55 [some (.inr (.inr (.inl 58))), some (.inl y1), some (.inl y2), none, some (.inl y4), none] [.inl s0] (jxSH, a0, b0) = some ([.inl (f_X0_stateOn_at55 a0 b0 y1 y2 y4 s0)], (jxSH, a0, b0)) := by
  refine (bq_X0_stateOn_55 E d y1 y2 y4 s0 a0 b0).trans ?_
  unfold f_X0_stateOn_at55
  refine eq_iteI (fun hc1 => ?_) (fun hc1 => ?_)
  ·
    refine eq_iteI (fun hc2 => ?_) (fun hc2 => ?_)
    ·
      exact eq_X0_stateOn_100 E d hd y1 y2 a0 b0 (show (0 ≤ y1 ∧ y1 < 300) from by omega)
    ·
      refine eq_iteI (fun hc3 => ?_) (fun hc3 => ?_)
      ·
        exact eq_X0_stateOn_100 E d hd y1 y2 a0 b0 (show (0 ≤ y1 ∧ y1 < 300) from by omega)
      ·
        refine eq_grd (by omega) ?_
        refine eq_grd (by omega) ?_
        have h102_ := jxw_im (y4 - (a0 61 (y1.toNat)))
        have h103_ := jxw_rg (y4 - (a0 61 (y1.toNat)))
        refine eq_iteI (fun hc4 => ?_) (fun hc4 => ?_)
        ·
          exact eq_X0_stateOn_98 E d hd a0 b0
        ·
          exact eq_X0_stateOn_94 E d hd a0 b0
  ·
    rfl
def f_X0_stateOn_at54 (a0 b0 : Nat → Nat → Int) (y1 y2 y4 : Int) : Int := (f_X0_stateOn_at55 a0 b0 y1 y2 y4 0)
theorem eq_X0_stateOn_54 (E : jxE) (d : Nat) (hd : Nat.ble 2 (d + 1) = true) (y1 y2 y4 : Int) (a0 b0 : Nat → Nat → Int) (hp0 : (0 ≤ y1 ∧ y1 < 300)) : jxX E d 19 54 [some (.inr (.inr (.inl 58))), some (.inl y1), some (.inl y2), none, some (.inl y4), none] [] (jxSH, a0, b0) = some ([.inl (f_X0_stateOn_at54 a0 b0 y1 y2 y4)], (jxSH, a0, b0)) := by
  refine (bq_X0_stateOn_54 E d y1 y2 y4 a0 b0).trans ?_
  unfold f_X0_stateOn_at54
  exact eq_X0_stateOn_55 E d hd y1 y2 y4 0 a0 b0 (show (0 ≤ y1 ∧ y1 < 300) from by omega)
def f_X0_stateOn_at30 (a0 b0 : Nat → Nat → Int) (y1 y2 y3 y4 : Int) : Int := (if y2 < a0 64 (y1.toNat) then (f_X0_stateOn_at54 a0 b0 y1 y2 y4) else (if y3 < a0 64 (y1.toNat) then (f_X0_stateOn_at54 a0 b0 y1 y2 y4) else (f_X0_stateOn_at55 a0 b0 y1 y2 y4 1)))
theorem eq_X0_stateOn_30 (E : jxE) (d : Nat) (hd : Nat.ble 2 (d + 1) = true) (y1 y2 y3 y4 : Int) (a0 b0 : Nat → Nat → Int) (hp0 : (0 ≤ y1 ∧ y1 < 300)) : jxX E d 19 30 [some (.inr (.inr (.inl 58))), some (.inl y1), some (.inl y2), some (.inl y3), some (.inl y4), none] [] (jxSH, a0, b0) = some ([.inl (f_X0_stateOn_at30 a0 b0 y1 y2 y3 y4)], (jxSH, a0, b0)) := by
  refine (bq_X0_stateOn_30 E d y1 y2 y3 y4 a0 b0).trans ?_
  unfold f_X0_stateOn_at30
  refine eq_grd (by omega) ?_
  refine eq_iteI (fun hc1 => ?_) (fun hc1 => ?_)
  ·
    exact eq_X0_stateOn_54 E d hd y1 y2 y4 a0 b0 (show (0 ≤ y1 ∧ y1 < 300) from by omega)
  ·
    refine eq_grd (by omega) ?_
    refine eq_iteI (fun hc2 => ?_) (fun hc2 => ?_)
    ·
      exact eq_X0_stateOn_54 E d hd y1 y2 y4 a0 b0 (show (0 ≤ y1 ∧ y1 < 300) from by omega)
    ·
      exact eq_X0_stateOn_55 E d hd y1 y2 y4 1 a0 b0 (show (0 ≤ y1 ∧ y1 < 300) from by omega)
def f_X0_stateOn (a0 b0 : Nat → Nat → Int) (x1 x2 x3 x4 : Int) : Int := (if f_X0_has a0 b0 x1 = 0 then (-1) else (if x2 < a0 61 (x1.toNat) then (-1) else (if a0 64 (x1.toNat) = (-1) then (f_X0_stateOn_at54 a0 b0 x1 x2 x4) else (f_X0_stateOn_at30 a0 b0 x1 x2 x3 x4))))
theorem eq_X0_stateOn (E : jxE) (d : Nat) (hd : Nat.ble 2 d = true) (x1 x2 x3 x4 : Int) (a0 b0 : Nat → Nat → Int) : jxC E d 19 [.inr (.inr (.inl 58)), .inl x1, .inl x2, .inl x3, .inl x4] (jxSH, a0, b0) = some ([.inl (f_X0_stateOn a0 b0 x1 x2 x3 x4)], (jxSH, a0, b0)) := by
  obtain ⟨d, rfl⟩ := jd_succ hd
  refine (bq_X0_stateOn E d x1 x2 x3 x4 a0 b0).trans ?_
  unfold f_X0_stateOn
  refine eq_bI (eq_X0_has E d (jd_le hd rfl) x1 a0 b0) ?_
  have h104_ := f_X0_has_eq a0 b0 x1
  refine eq_iteI (fun hc1 => ?_) (fun hc1 => ?_)
  ·
    rfl
  ·
    refine eq_grd (by omega) ?_
    refine eq_iteI (fun hc2 => ?_) (fun hc2 => ?_)
    ·
      rfl
    ·
      refine eq_grd (by omega) ?_
      refine eq_iteI (fun hc3 => ?_) (fun hc3 => ?_)
      ·
        exact eq_X0_stateOn_54 E d hd x1 x2 x4 a0 b0 (show (0 ≤ x1 ∧ x1 < 300) from by omega)
      ·
        exact eq_X0_stateOn_30 E d hd x1 x2 x3 x4 a0 b0 (show (0 ≤ x1 ∧ x1 < 300) from by omega)
theorem f_X0_stateOn_eq (a0 b0 : Nat → Nat → Int) (x1 x2 x3 x4 : Int) : f_X0_stateOn a0 b0 x1 x2 x3 x4 = (if f_X0_has a0 b0 x1 = 0 then (-1) else (if x2 < a0 61 (x1.toNat) then (-1) else (if a0 64 (x1.toNat) = (-1) then (f_X0_stateOn_at54 a0 b0 x1 x2 x4) else (f_X0_stateOn_at30 a0 b0 x1 x2 x3 x4)))) := rfl
def f_X0_stateNow (a0 b0 : Nat → Nat → Int) (x1 x2 : Int) : Int := (f_X0_stateOn a0 b0 x1 x2 x2 (f_X0_arrivedOnOf a0 b0 x1))
theorem eq_X0_stateNow (E : jxE) (d : Nat) (hd : Nat.ble 3 d = true) (x1 x2 : Int) (a0 b0 : Nat → Nat → Int) : jxC E d 17 [.inr (.inr (.inl 58)), .inl x1, .inl x2] (jxSH, a0, b0) = some ([.inl (f_X0_stateNow a0 b0 x1 x2)], (jxSH, a0, b0)) := by
  obtain ⟨d, rfl⟩ := jd_succ hd
  refine (bq_X0_stateNow E d x1 x2 a0 b0).trans ?_
  unfold f_X0_stateNow
  refine eq_bI (eq_X0_arrivedOnOf E d (jd_le hd rfl) x1 a0 b0) ?_
  refine eq_bI (eq_X0_stateOn E d (jd_le hd rfl) x1 x2 x2 (f_X0_arrivedOnOf a0 b0 x1) a0 b0) ?_
  rfl
theorem f_X0_stateNow_eq (a0 b0 : Nat → Nat → Int) (x1 x2 : Int) : f_X0_stateNow a0 b0 x1 x2 = (f_X0_stateOn a0 b0 x1 x2 x2 (f_X0_arrivedOnOf a0 b0 x1)) := rfl
def f_X0_measuredArrivals (a0 b0 : Nat → Nat → Int) : Int := (a0 58 13)
theorem eq_X0_measuredArrivals (E : jxE) (d : Nat) (hd : Nat.ble 1 d = true) (a0 b0 : Nat → Nat → Int) : jxC E d 25 [.inr (.inr (.inl 58))] (jxSH, a0, b0) = some ([.inl (f_X0_measuredArrivals a0 b0)], (jxSH, a0, b0)) := by
  obtain ⟨d, rfl⟩ := jd_succ hd
  refine (bq_X0_measuredArrivals E d a0 b0).trans ?_
  unfold f_X0_measuredArrivals
  rfl
theorem f_X0_measuredArrivals_eq (a0 b0 : Nat → Nat → Int) : f_X0_measuredArrivals a0 b0 = (a0 58 13) := rfl
def f_X0_measuredGreatest (a0 b0 : Nat → Nat → Int) : Int := (a0 58 15)
theorem eq_X0_measuredGreatest (E : jxE) (d : Nat) (hd : Nat.ble 1 d = true) (a0 b0 : Nat → Nat → Int) : jxC E d 27 [.inr (.inr (.inl 58))] (jxSH, a0, b0) = some ([.inl (f_X0_measuredGreatest a0 b0)], (jxSH, a0, b0)) := by
  obtain ⟨d, rfl⟩ := jd_succ hd
  refine (bq_X0_measuredGreatest E d a0 b0).trans ?_
  unfold f_X0_measuredGreatest
  rfl
theorem f_X0_measuredGreatest_eq (a0 b0 : Nat → Nat → Int) : f_X0_measuredGreatest a0 b0 = (a0 58 15) := rfl
def f_X0_measuredLeast (a0 b0 : Nat → Nat → Int) : Int := (a0 58 14)
theorem eq_X0_measuredLeast (E : jxE) (d : Nat) (hd : Nat.ble 1 d = true) (a0 b0 : Nat → Nat → Int) : jxC E d 26 [.inr (.inr (.inl 58))] (jxSH, a0, b0) = some ([.inl (f_X0_measuredLeast a0 b0)], (jxSH, a0, b0)) := by
  obtain ⟨d, rfl⟩ := jd_succ hd
  refine (bq_X0_measuredLeast E d a0 b0).trans ?_
  unfold f_X0_measuredLeast
  rfl
theorem f_X0_measuredLeast_eq (a0 b0 : Nat → Nat → Int) : f_X0_measuredLeast a0 b0 = (a0 58 14) := rfl
def f_X3_has (a0 b0 : Nat → Nat → Int) (x1 : Int) : Int := (if x1 < 0 then 0 else (if x1 < a0 4 6 then (if x1 < 40 then 1 else 0) else 0))
theorem eq_X3_has (E : jxE) (d : Nat) (hd : Nat.ble 1 d = true) (x1 : Int) (a0 b0 : Nat → Nat → Int) : jxC E d 51 [.inr (.inr (.inl 4)), .inl x1] (jxSH, a0, b0) = some ([.inl (f_X3_has a0 b0 x1)], (jxSH, a0, b0)) := by
  obtain ⟨d, rfl⟩ := jd_succ hd
  refine (bq_X3_has E d x1 a0 b0).trans ?_
  unfold f_X3_has
  refine eq_iteI (fun hc1 => ?_) (fun hc1 => ?_)
  ·
    rfl
  ·
    refine eq_iteI (fun hc2 => ?_) (fun hc2 => ?_)
    ·
      refine eq_iteI (fun hc3 => ?_) (fun hc3 => ?_)
      ·
        rfl
      ·
        rfl
    ·
      rfl
theorem f_X3_has_eq (a0 b0 : Nat → Nat → Int) (x1 : Int) : f_X3_has a0 b0 x1 = (if x1 < 0 then 0 else (if x1 < a0 4 6 then (if x1 < 40 then 1 else 0) else 0)) := rfl
theorem f_X3_has_bool (a0 b0 : Nat → Nat → Int) (x1 : Int) : f_X3_has a0 b0 x1 = 0 ∨ f_X3_has a0 b0 x1 = 1 := by
  unfold f_X3_has
  refine bool_ite ?_ ?_
  ·
    exact Or.inl rfl
  ·
    refine bool_ite ?_ ?_
    ·
      refine bool_ite ?_ ?_
      ·
        exact Or.inr rfl
      ·
        exact Or.inl rfl
    ·
      exact Or.inl rfl
def f_X3_areKin_at50 (a0 b0 : Nat → Nat → Int) : Int := 0
theorem eq_X3_areKin_50 (E : jxE) (d : Nat) (hd : Nat.ble 2 (d + 1) = true) (a0 b0 : Nat → Nat → Int) : jxX E d 61 50 [none, none, none] [] (jxSH, a0, b0) = some ([.inl (f_X3_areKin_at50 a0 b0)], (jxSH, a0, b0)) := by
  refine (bq_X3_areKin_50 E d a0 b0).trans ?_
  unfold f_X3_areKin_at50
  rfl
theorem f_X3_areKin_at50_bool (a0 b0 : Nat → Nat → Int) : f_X3_areKin_at50 a0 b0 = 0 ∨ f_X3_areKin_at50 a0 b0 = 1 := by
  unfold f_X3_areKin_at50
  exact Or.inl rfl
def f_X3_areKin_at31 (a0 b0 : Nat → Nat → Int) (y1 y2 : Int) : Int := (if a0 7 (y1.toNat) = a0 7 (y2.toNat) then 1 else (f_X3_areKin_at50 a0 b0))
theorem eq_X3_areKin_31 (E : jxE) (d : Nat) (hd : Nat.ble 2 (d + 1) = true) (y1 y2 : Int) (a0 b0 : Nat → Nat → Int) (hp0 : (0 ≤ y1 ∧ y1 < 40)) (hp1 : (0 ≤ y2 ∧ y2 < 40)) : jxX E d 61 31 [some (.inr (.inr (.inl 4))), some (.inl y1), some (.inl y2)] [] (jxSH, a0, b0) = some ([.inl (f_X3_areKin_at31 a0 b0 y1 y2)], (jxSH, a0, b0)) := by
  refine (bq_X3_areKin_31 E d y1 y2 a0 b0).trans ?_
  unfold f_X3_areKin_at31
  refine eq_grd (by omega) ?_
  refine eq_grd (by omega) ?_
  refine eq_iteI (fun hc1 => ?_) (fun hc1 => ?_)
  ·
    rfl
  ·
    exact eq_X3_areKin_50 E d hd a0 b0
theorem f_X3_areKin_at31_bool (a0 b0 : Nat → Nat → Int) (y1 y2 : Int) : f_X3_areKin_at31 a0 b0 y1 y2 = 0 ∨ f_X3_areKin_at31 a0 b0 y1 y2 = 1 := by
  unfold f_X3_areKin_at31
  refine bool_ite ?_ ?_
  ·
    exact Or.inr rfl
  ·
    exact f_X3_areKin_at50_bool _ _
def f_X3_areKin (a0 b0 : Nat → Nat → Int) (x1 x2 : Int) : Int := (if x1 = x2 then 1 else (if f_X3_has a0 b0 x1 = 0 then (f_X3_areKin_at50 a0 b0) else (if f_X3_has a0 b0 x2 = 0 then (f_X3_areKin_at50 a0 b0) else (if a0 7 (x1.toNat) = (-1) then (f_X3_areKin_at50 a0 b0) else (f_X3_areKin_at31 a0 b0 x1 x2)))))
theorem eq_X3_areKin (E : jxE) (d : Nat) (hd : Nat.ble 2 d = true) (x1 x2 : Int) (a0 b0 : Nat → Nat → Int) : jxC E d 61 [.inr (.inr (.inl 4)), .inl x1, .inl x2] (jxSH, a0, b0) = some ([.inl (f_X3_areKin a0 b0 x1 x2)], (jxSH, a0, b0)) := by
  obtain ⟨d, rfl⟩ := jd_succ hd
  refine (bq_X3_areKin E d x1 x2 a0 b0).trans ?_
  unfold f_X3_areKin
  refine eq_iteI (fun hc1 => ?_) (fun hc1 => ?_)
  ·
    rfl
  ·
    refine eq_bI (eq_X3_has E d (jd_le hd rfl) x1 a0 b0) ?_
    have h105_ := f_X3_has_eq a0 b0 x1
    refine eq_iteI (fun hc2 => ?_) (fun hc2 => ?_)
    ·
      exact eq_X3_areKin_50 E d hd a0 b0
    ·
      refine eq_bI (eq_X3_has E d (jd_le hd rfl) x2 a0 b0) ?_
      have h106_ := f_X3_has_eq a0 b0 x2
      refine eq_iteI (fun hc3 => ?_) (fun hc3 => ?_)
      ·
        exact eq_X3_areKin_50 E d hd a0 b0
      ·
        refine eq_grd (by omega) ?_
        refine eq_iteI (fun hc4 => ?_) (fun hc4 => ?_)
        ·
          exact eq_X3_areKin_50 E d hd a0 b0
        ·
          exact eq_X3_areKin_31 E d hd x1 x2 a0 b0 (show (0 ≤ x1 ∧ x1 < 40) from by omega) (show (0 ≤ x2 ∧ x2 < 40) from by omega)
theorem f_X3_areKin_eq (a0 b0 : Nat → Nat → Int) (x1 x2 : Int) : f_X3_areKin a0 b0 x1 x2 = (if x1 = x2 then 1 else (if f_X3_has a0 b0 x1 = 0 then (f_X3_areKin_at50 a0 b0) else (if f_X3_has a0 b0 x2 = 0 then (f_X3_areKin_at50 a0 b0) else (if a0 7 (x1.toNat) = (-1) then (f_X3_areKin_at50 a0 b0) else (f_X3_areKin_at31 a0 b0 x1 x2))))) := rfl
theorem f_X3_areKin_bool (a0 b0 : Nat → Nat → Int) (x1 x2 : Int) : f_X3_areKin a0 b0 x1 x2 = 0 ∨ f_X3_areKin a0 b0 x1 x2 = 1 := by
  unfold f_X3_areKin
  refine bool_ite ?_ ?_
  ·
    exact Or.inr rfl
  ·
    refine bool_ite ?_ ?_
    ·
      exact f_X3_areKin_at50_bool _ _
    ·
      refine bool_ite ?_ ?_
      ·
        exact f_X3_areKin_at50_bool _ _
      ·
        refine bool_ite ?_ ?_
        ·
          exact f_X3_areKin_at50_bool _ _
        ·
          exact f_X3_areKin_at31_bool _ _ _ _
def f_X11_entry_r63 (a0 b0 : Nat → Nat → Int) (x1 x2 : Int) : Int := (if x2 < 0 then (-1) else (if x2 < x1 then (if x2 < 300 then (a0 63 (x2.toNat)) else (-1)) else (-1)))
theorem eq_X11_entry_r63 (E : jxE) (d : Nat) (hd : Nat.ble 1 d = true) (x1 x2 : Int) (a0 b0 : Nat → Nat → Int) : jxC E d 202 [.inr (.inr (.inl 63)), .inl x1, .inl x2] (jxSH, a0, b0) = some ([.inl (f_X11_entry_r63 a0 b0 x1 x2)], (jxSH, a0, b0)) := by
  obtain ⟨d, rfl⟩ := jd_succ hd
  refine (bq_X11_entry_r63 E d x1 x2 a0 b0).trans ?_
  unfold f_X11_entry_r63
  refine eq_iteI (fun hc1 => ?_) (fun hc1 => ?_)
  ·
    rfl
  ·
    refine eq_iteI (fun hc2 => ?_) (fun hc2 => ?_)
    ·
      refine eq_iteI (fun hc3 => ?_) (fun hc3 => ?_)
      ·
        refine eq_grd (by omega) ?_
        rfl
      ·
        rfl
    ·
      rfl
theorem f_X11_entry_r63_eq (a0 b0 : Nat → Nat → Int) (x1 x2 : Int) : f_X11_entry_r63 a0 b0 x1 x2 = (if x2 < 0 then (-1) else (if x2 < x1 then (if x2 < 300 then (a0 63 (x2.toNat)) else (-1)) else (-1))) := rfl
def f_X0_ringOf (a0 b0 : Nat → Nat → Int) (x1 : Int) : Int := (f_X11_entry_r63 a0 b0 (a0 58 8) x1)
theorem eq_X0_ringOf (E : jxE) (d : Nat) (hd : Nat.ble 2 d = true) (x1 : Int) (a0 b0 : Nat → Nat → Int) : jxC E d 10 [.inr (.inr (.inl 58)), .inl x1] (jxSH, a0, b0) = some ([.inl (f_X0_ringOf a0 b0 x1)], (jxSH, a0, b0)) := by
  obtain ⟨d, rfl⟩ := jd_succ hd
  refine (bq_X0_ringOf E d x1 a0 b0).trans ?_
  unfold f_X0_ringOf
  refine eq_bI (eq_X11_entry_r63 E d (jd_le hd rfl) (a0 58 8) x1 a0 b0) ?_
  rfl
theorem f_X0_ringOf_eq (a0 b0 : Nat → Nat → Int) (x1 : Int) : f_X0_ringOf a0 b0 x1 = (f_X11_entry_r63 a0 b0 (a0 58 8) x1) := rfl
def f_X11_entry_r61 (a0 b0 : Nat → Nat → Int) (x1 x2 : Int) : Int := (if x2 < 0 then (-1) else (if x2 < x1 then (if x2 < 300 then (a0 61 (x2.toNat)) else (-1)) else (-1)))
theorem eq_X11_entry_r61 (E : jxE) (d : Nat) (hd : Nat.ble 1 d = true) (x1 x2 : Int) (a0 b0 : Nat → Nat → Int) : jxC E d 202 [.inr (.inr (.inl 61)), .inl x1, .inl x2] (jxSH, a0, b0) = some ([.inl (f_X11_entry_r61 a0 b0 x1 x2)], (jxSH, a0, b0)) := by
  obtain ⟨d, rfl⟩ := jd_succ hd
  refine (bq_X11_entry_r61 E d x1 x2 a0 b0).trans ?_
  unfold f_X11_entry_r61
  refine eq_iteI (fun hc1 => ?_) (fun hc1 => ?_)
  ·
    rfl
  ·
    refine eq_iteI (fun hc2 => ?_) (fun hc2 => ?_)
    ·
      refine eq_iteI (fun hc3 => ?_) (fun hc3 => ?_)
      ·
        refine eq_grd (by omega) ?_
        rfl
      ·
        rfl
    ·
      rfl
theorem f_X11_entry_r61_eq (a0 b0 : Nat → Nat → Int) (x1 x2 : Int) : f_X11_entry_r61 a0 b0 x1 x2 = (if x2 < 0 then (-1) else (if x2 < x1 then (if x2 < 300 then (a0 61 (x2.toNat)) else (-1)) else (-1))) := rfl
def f_X0_sentOnOf (a0 b0 : Nat → Nat → Int) (x1 : Int) : Int := (f_X11_entry_r61 a0 b0 (a0 58 8) x1)
theorem eq_X0_sentOnOf (E : jxE) (d : Nat) (hd : Nat.ble 2 d = true) (x1 : Int) (a0 b0 : Nat → Nat → Int) : jxC E d 8 [.inr (.inr (.inl 58)), .inl x1] (jxSH, a0, b0) = some ([.inl (f_X0_sentOnOf a0 b0 x1)], (jxSH, a0, b0)) := by
  obtain ⟨d, rfl⟩ := jd_succ hd
  refine (bq_X0_sentOnOf E d x1 a0 b0).trans ?_
  unfold f_X0_sentOnOf
  refine eq_bI (eq_X11_entry_r61 E d (jd_le hd rfl) (a0 58 8) x1 a0 b0) ?_
  rfl
theorem f_X0_sentOnOf_eq (a0 b0 : Nat → Nat → Int) (x1 : Int) : f_X0_sentOnOf a0 b0 x1 = (f_X11_entry_r61 a0 b0 (a0 58 8) x1) := rfl
def f_X0_size (a0 b0 : Nat → Nat → Int) : Int := (a0 58 8)
theorem eq_X0_size (E : jxE) (d : Nat) (hd : Nat.ble 1 d = true) (a0 b0 : Nat → Nat → Int) : jxC E d 1 [.inr (.inr (.inl 58))] (jxSH, a0, b0) = some ([.inl (f_X0_size a0 b0)], (jxSH, a0, b0)) := by
  obtain ⟨d, rfl⟩ := jd_succ hd
  refine (bq_X0_size E d a0 b0).trans ?_
  unfold f_X0_size
  rfl
theorem f_X0_size_eq (a0 b0 : Nat → Nat → Int) : f_X0_size a0 b0 = (a0 58 8) := rfl
def f_X11_within (a0 b0 : Nat → Nat → Int) (x0 x1 x2 : Int) : Int := (if x0 < x1 then 0 else (if x2 < x0 then 0 else 1))
theorem eq_X11_within (E : jxE) (d : Nat) (hd : Nat.ble 1 d = true) (x0 x1 x2 : Int) (a0 b0 : Nat → Nat → Int) : jxC E d 199 [.inl x0, .inl x1, .inl x2] (jxSH, a0, b0) = some ([.inl (f_X11_within a0 b0 x0 x1 x2)], (jxSH, a0, b0)) := by
  obtain ⟨d, rfl⟩ := jd_succ hd
  refine (bq_X11_within E d x0 x1 x2 a0 b0).trans ?_
  unfold f_X11_within
  refine eq_iteI (fun hc1 => ?_) (fun hc1 => ?_)
  ·
    rfl
  ·
    refine eq_iteI (fun hc2 => ?_) (fun hc2 => ?_)
    ·
      rfl
    ·
      rfl
theorem f_X11_within_eq (a0 b0 : Nat → Nat → Int) (x0 x1 x2 : Int) : f_X11_within a0 b0 x0 x1 x2 = (if x0 < x1 then 0 else (if x2 < x0 then 0 else 1)) := rfl
theorem f_X11_within_bool (a0 b0 : Nat → Nat → Int) (x0 x1 x2 : Int) : f_X11_within a0 b0 x0 x1 x2 = 0 ∨ f_X11_within a0 b0 x0 x1 x2 = 1 := by
  unfold f_X11_within
  refine bool_ite ?_ ?_
  ·
    exact Or.inl rfl
  ·
    refine bool_ite ?_ ?_
    ·
      exact Or.inl rfl
    ·
      exact Or.inr rfl
def f_X0_tellings (a0 b0 : Nat → Nat → Int) : Int := (a0 58 12)
theorem eq_X0_tellings (E : jxE) (d : Nat) (hd : Nat.ble 1 d = true) (a0 b0 : Nat → Nat → Int) : jxC E d 2 [.inr (.inr (.inl 58))] (jxSH, a0, b0) = some ([.inl (f_X0_tellings a0 b0)], (jxSH, a0, b0)) := by
  obtain ⟨d, rfl⟩ := jd_succ hd
  refine (bq_X0_tellings E d a0 b0).trans ?_
  unfold f_X0_tellings
  rfl
theorem f_X0_tellings_eq (a0 b0 : Nat → Nat → Int) : f_X0_tellings a0 b0 = (a0 58 12) := rfl
def f_X11_entry_r60 (a0 b0 : Nat → Nat → Int) (x1 x2 : Int) : Int := (if x2 < 0 then (-1) else (if x2 < x1 then (if x2 < 300 then (a0 60 (x2.toNat)) else (-1)) else (-1)))
theorem eq_X11_entry_r60 (E : jxE) (d : Nat) (hd : Nat.ble 1 d = true) (x1 x2 : Int) (a0 b0 : Nat → Nat → Int) : jxC E d 202 [.inr (.inr (.inl 60)), .inl x1, .inl x2] (jxSH, a0, b0) = some ([.inl (f_X11_entry_r60 a0 b0 x1 x2)], (jxSH, a0, b0)) := by
  obtain ⟨d, rfl⟩ := jd_succ hd
  refine (bq_X11_entry_r60 E d x1 x2 a0 b0).trans ?_
  unfold f_X11_entry_r60
  refine eq_iteI (fun hc1 => ?_) (fun hc1 => ?_)
  ·
    rfl
  ·
    refine eq_iteI (fun hc2 => ?_) (fun hc2 => ?_)
    ·
      refine eq_iteI (fun hc3 => ?_) (fun hc3 => ?_)
      ·
        refine eq_grd (by omega) ?_
        rfl
      ·
        rfl
    ·
      rfl
theorem f_X11_entry_r60_eq (a0 b0 : Nat → Nat → Int) (x1 x2 : Int) : f_X11_entry_r60 a0 b0 x1 x2 = (if x2 < 0 then (-1) else (if x2 < x1 then (if x2 < 300 then (a0 60 (x2.toNat)) else (-1)) else (-1))) := rfl
def f_X0_toOf (a0 b0 : Nat → Nat → Int) (x1 : Int) : Int := (f_X11_entry_r60 a0 b0 (a0 58 8) x1)
theorem eq_X0_toOf (E : jxE) (d : Nat) (hd : Nat.ble 2 d = true) (x1 : Int) (a0 b0 : Nat → Nat → Int) : jxC E d 7 [.inr (.inr (.inl 58)), .inl x1] (jxSH, a0, b0) = some ([.inl (f_X0_toOf a0 b0 x1)], (jxSH, a0, b0)) := by
  obtain ⟨d, rfl⟩ := jd_succ hd
  refine (bq_X0_toOf E d x1 a0 b0).trans ?_
  unfold f_X0_toOf
  refine eq_bI (eq_X11_entry_r60 E d (jd_le hd rfl) (a0 58 8) x1 a0 b0) ?_
  rfl
theorem f_X0_toOf_eq (a0 b0 : Nat → Nat → Int) (x1 : Int) : f_X0_toOf a0 b0 x1 = (f_X11_entry_r60 a0 b0 (a0 58 8) x1) := rfl
def f_X11_entry_r1 (a0 b0 : Nat → Nat → Int) (x1 x2 : Int) : Int := (if x2 < 0 then (-1) else (if x2 < x1 then (if x2 < 256 then (a0 1 (x2.toNat)) else (-1)) else (-1)))
theorem eq_X11_entry_r1 (E : jxE) (d : Nat) (hd : Nat.ble 1 d = true) (x1 x2 : Int) (a0 b0 : Nat → Nat → Int) : jxC E d 202 [.inr (.inr (.inl 1)), .inl x1, .inl x2] (jxSH, a0, b0) = some ([.inl (f_X11_entry_r1 a0 b0 x1 x2)], (jxSH, a0, b0)) := by
  obtain ⟨d, rfl⟩ := jd_succ hd
  refine (bq_X11_entry_r1 E d x1 x2 a0 b0).trans ?_
  unfold f_X11_entry_r1
  refine eq_iteI (fun hc1 => ?_) (fun hc1 => ?_)
  ·
    rfl
  ·
    refine eq_iteI (fun hc2 => ?_) (fun hc2 => ?_)
    ·
      refine eq_iteI (fun hc3 => ?_) (fun hc3 => ?_)
      ·
        refine eq_grd (by omega) ?_
        rfl
      ·
        rfl
    ·
      rfl
theorem f_X11_entry_r1_eq (a0 b0 : Nat → Nat → Int) (x1 x2 : Int) : f_X11_entry_r1 a0 b0 x1 x2 = (if x2 < 0 then (-1) else (if x2 < x1 then (if x2 < 256 then (a0 1 (x2.toNat)) else (-1)) else (-1))) := rfl
def f_X10_distance (a0 b0 : Nat → Nat → Int) (x1 x2 : Int) : Int := (f_X11_entry_r1 a0 b0 256 (jxw ((jxw ((f_X3_landOf a0 b0 x1) * 16)) + (f_X3_landOf a0 b0 x2))))
theorem eq_X10_distance (E : jxE) (d : Nat) (hd : Nat.ble 3 d = true) (x1 x2 : Int) (a0 b0 : Nat → Nat → Int) : jxC E d 152 [.inr (.inr (.inl 11)), .inl x1, .inl x2] (jxSH, a0, b0) = some ([.inl (f_X10_distance a0 b0 x1 x2)], (jxSH, a0, b0)) := by
  obtain ⟨d, rfl⟩ := jd_succ hd
  refine (bq_X10_distance E d x1 x2 a0 b0).trans ?_
  unfold f_X10_distance
  refine eq_bI (eq_X3_landOf E d (jd_le hd rfl) x1 a0 b0) ?_
  refine eq_bI (eq_X3_landOf E d (jd_le hd rfl) x2 a0 b0) ?_
  refine eq_bI (eq_X11_entry_r1 E d (jd_le hd rfl) 256 (jxw ((jxw ((f_X3_landOf a0 b0 x1) * 16)) + (f_X3_landOf a0 b0 x2))) a0 b0) ?_
  rfl
theorem f_X10_distance_eq (a0 b0 : Nat → Nat → Int) (x1 x2 : Int) : f_X10_distance a0 b0 x1 x2 = (f_X11_entry_r1 a0 b0 256 (jxw ((jxw ((f_X3_landOf a0 b0 x1) * 16)) + (f_X3_landOf a0 b0 x2)))) := rfl
def f_X10_greatestNumber (a0 b0 : Nat → Nat → Int) (x0 : Int) : Int := (if x0 < 0 ∨ 5 < x0 then (-1) else (if x0 = 0 then 15 else (if x0 = 1 then 15 else (if x0 = 2 then (-1) else (if x0 = 3 then 99 else (if x0 = 4 then 99 else (if x0 = 5 then 999 else 0)))))))
theorem eq_X10_greatestNumber (E : jxE) (d : Nat) (hd : Nat.ble 1 d = true) (x0 : Int) (a0 b0 : Nat → Nat → Int) : jxC E d 148 [.inl x0] (jxSH, a0, b0) = some ([.inl (f_X10_greatestNumber a0 b0 x0)], (jxSH, a0, b0)) := by
  obtain ⟨d, rfl⟩ := jd_succ hd
  refine (bq_X10_greatestNumber E d x0 a0 b0).trans ?_
  unfold f_X10_greatestNumber
  refine eq_iteI (fun hc1 => ?_) (fun hc1 => ?_)
  ·
    rfl
  ·
    refine eq_iteI (fun hc2 => ?_) (fun hc2 => ?_)
    ·
      rfl
    ·
      refine eq_iteI (fun hc3 => ?_) (fun hc3 => ?_)
      ·
        rfl
      ·
        refine eq_iteI (fun hc4 => ?_) (fun hc4 => ?_)
        ·
          rfl
        ·
          refine eq_iteI (fun hc5 => ?_) (fun hc5 => ?_)
          ·
            rfl
          ·
            refine eq_iteI (fun hc6 => ?_) (fun hc6 => ?_)
            ·
              rfl
            ·
              refine eq_iteI (fun hc7 => ?_) (fun hc7 => ?_)
              ·
                rfl
              ·
                exact absurd (by omega : False) id
theorem f_X10_greatestNumber_eq (a0 b0 : Nat → Nat → Int) (x0 : Int) : f_X10_greatestNumber a0 b0 x0 = (if x0 < 0 ∨ 5 < x0 then (-1) else (if x0 = 0 then 15 else (if x0 = 1 then 15 else (if x0 = 2 then (-1) else (if x0 = 3 then 99 else (if x0 = 4 then 99 else (if x0 = 5 then 999 else 0))))))) := rfl
def f_X11_entry_r8 (a0 b0 : Nat → Nat → Int) (x1 x2 : Int) : Int := (if x2 < 0 then (-1) else (if x2 < x1 then (if x2 < 40 then (a0 8 (x2.toNat)) else (-1)) else (-1)))
theorem eq_X11_entry_r8 (E : jxE) (d : Nat) (hd : Nat.ble 1 d = true) (x1 x2 : Int) (a0 b0 : Nat → Nat → Int) : jxC E d 202 [.inr (.inr (.inl 8)), .inl x1, .inl x2] (jxSH, a0, b0) = some ([.inl (f_X11_entry_r8 a0 b0 x1 x2)], (jxSH, a0, b0)) := by
  obtain ⟨d, rfl⟩ := jd_succ hd
  refine (bq_X11_entry_r8 E d x1 x2 a0 b0).trans ?_
  unfold f_X11_entry_r8
  refine eq_iteI (fun hc1 => ?_) (fun hc1 => ?_)
  ·
    rfl
  ·
    refine eq_iteI (fun hc2 => ?_) (fun hc2 => ?_)
    ·
      refine eq_iteI (fun hc3 => ?_) (fun hc3 => ?_)
      ·
        refine eq_grd (by omega) ?_
        rfl
      ·
        rfl
    ·
      rfl
theorem f_X11_entry_r8_eq (a0 b0 : Nat → Nat → Int) (x1 x2 : Int) : f_X11_entry_r8 a0 b0 x1 x2 = (if x2 < 0 then (-1) else (if x2 < x1 then (if x2 < 40 then (a0 8 (x2.toNat)) else (-1)) else (-1))) := rfl
def f_X3_cameOnOf (a0 b0 : Nat → Nat → Int) (x1 : Int) : Int := (f_X11_entry_r8 a0 b0 (a0 4 6) x1)
theorem eq_X3_cameOnOf (E : jxE) (d : Nat) (hd : Nat.ble 2 d = true) (x1 : Int) (a0 b0 : Nat → Nat → Int) : jxC E d 59 [.inr (.inr (.inl 4)), .inl x1] (jxSH, a0, b0) = some ([.inl (f_X3_cameOnOf a0 b0 x1)], (jxSH, a0, b0)) := by
  obtain ⟨d, rfl⟩ := jd_succ hd
  refine (bq_X3_cameOnOf E d x1 a0 b0).trans ?_
  unfold f_X3_cameOnOf
  refine eq_bI (eq_X11_entry_r8 E d (jd_le hd rfl) (a0 4 6) x1 a0 b0) ?_
  rfl
theorem f_X3_cameOnOf_eq (a0 b0 : Nat → Nat → Int) (x1 : Int) : f_X3_cameOnOf a0 b0 x1 = (f_X11_entry_r8 a0 b0 (a0 4 6) x1) := rfl
def f_X3_tonguesOf (a0 b0 : Nat → Nat → Int) (x1 : Int) : Int := (if f_X3_has a0 b0 x1 = 0 then 0 else (a0 6 (x1.toNat)))
theorem eq_X3_tonguesOf (E : jxE) (d : Nat) (hd : Nat.ble 2 d = true) (x1 : Int) (a0 b0 : Nat → Nat → Int) : jxC E d 58 [.inr (.inr (.inl 4)), .inl x1] (jxSH, a0, b0) = some ([.inl (f_X3_tonguesOf a0 b0 x1)], (jxSH, a0, b0)) := by
  obtain ⟨d, rfl⟩ := jd_succ hd
  refine (bq_X3_tonguesOf E d x1 a0 b0).trans ?_
  unfold f_X3_tonguesOf
  refine eq_bI (eq_X3_has E d (jd_le hd rfl) x1 a0 b0) ?_
  have h107_ := f_X3_has_eq a0 b0 x1
  refine eq_iteI (fun hc1 => ?_) (fun hc1 => ?_)
  ·
    rfl
  ·
    refine eq_grd (by omega) ?_
    rfl
theorem f_X3_tonguesOf_eq (a0 b0 : Nat → Nat → Int) (x1 : Int) : f_X3_tonguesOf a0 b0 x1 = (if f_X3_has a0 b0 x1 = 0 then 0 else (a0 6 (x1.toNat))) := rfl
def f_X10_holdsAtom (a0 b0 : Nat → Nat → Int) (x1 x2 x3 x4 x5 : Int) : Int := (if x1 < 0 ∨ 5 < x1 then 1 else (if x1 = 0 then (if f_X3_landOf a0 b0 x4 = x2 then 1 else 0) else (if x1 = 1 then (if jxand (jxshr (f_X3_tonguesOf a0 b0 x4) x2) 1 = 1 then 1 else 0) else (if x1 = 2 then (if jxand (f_X3_tonguesOf a0 b0 x3) (f_X3_tonguesOf a0 b0 x4) = 0 then 0 else 1) else (if x1 = 3 then (if f_X10_distance a0 b0 x3 x4 < x2 then 0 else 1) else (if x1 = 4 then (if x2 < f_X10_distance a0 b0 x3 x4 then 0 else 1) else (if x1 = 5 then (if jxw (x5 - (f_X3_cameOnOf a0 b0 x4)) < x2 then 0 else 1) else 0)))))))
theorem eq_X10_holdsAtom (E : jxE) (d : Nat) (hd : Nat.ble 4 d = true) (x1 x2 x3 x4 x5 : Int) (a0 b0 : Nat → Nat → Int) : jxC E d 151 [.inr (.inr (.inl 11)), .inl x1, .inl x2, .inl x3, .inl x4, .inl x5] (jxSH, a0, b0) = some ([.inl (f_X10_holdsAtom a0 b0 x1 x2 x3 x4 x5)], (jxSH, a0, b0)) := by
  obtain ⟨d, rfl⟩ := jd_succ hd
  refine (bq_X10_holdsAtom E d x1 x2 x3 x4 x5 a0 b0).trans ?_
  unfold f_X10_holdsAtom
  refine eq_iteI (fun hc1 => ?_) (fun hc1 => ?_)
  ·
    rfl
  ·
    refine eq_iteI (fun hc2 => ?_) (fun hc2 => ?_)
    ·
      refine eq_bI (eq_X3_landOf E d (jd_le hd rfl) x4 a0 b0) ?_
      have h108_ := f_X3_landOf_eq a0 b0 x4
      have h109_ := f_X11_entry_r5_eq a0 b0 (a0 4 6) x4
      refine eq_iteI (fun hc3 => ?_) (fun hc3 => ?_)
      ·
        rfl
      ·
        rfl
    ·
      refine eq_iteI (fun hc3 => ?_) (fun hc3 => ?_)
      ·
        refine eq_bI (eq_X3_tonguesOf E d (jd_le hd rfl) x4 a0 b0) ?_
        have h110_ := f_X3_tonguesOf_eq a0 b0 x4
        have h111_ := f_X3_has_eq a0 b0 x4
        have h112_ := jxshr_b (f_X3_tonguesOf a0 b0 x4) x2
        have h113_ := jxand_r (jxshr (f_X3_tonguesOf a0 b0 x4) x2) 1 (by decide) (by decide)
        refine eq_iteI (fun hc4 => ?_) (fun hc4 => ?_)
        ·
          rfl
        ·
          rfl
      ·
        refine eq_iteI (fun hc4 => ?_) (fun hc4 => ?_)
        ·
          refine eq_bI (eq_X3_tonguesOf E d (jd_le hd rfl) x3 a0 b0) ?_
          refine eq_bI (eq_X3_tonguesOf E d (jd_le hd rfl) x4 a0 b0) ?_
          have h114_ := f_X3_tonguesOf_eq a0 b0 x3
          have h115_ := f_X3_has_eq a0 b0 x3
          have h116_ := f_X3_tonguesOf_eq a0 b0 x4
          have h117_ := f_X3_has_eq a0 b0 x4
          have h118_ := jxand_b (f_X3_tonguesOf a0 b0 x3) (f_X3_tonguesOf a0 b0 x4)
          refine eq_iteI (fun hc5 => ?_) (fun hc5 => ?_)
          ·
            rfl
          ·
            rfl
        ·
          refine eq_iteI (fun hc5 => ?_) (fun hc5 => ?_)
          ·
            refine eq_bI (eq_X10_distance E d (jd_le hd rfl) x3 x4 a0 b0) ?_
            have h119_ := f_X10_distance_eq a0 b0 x3 x4
            have h120_ := f_X3_landOf_eq a0 b0 x3
            have h121_ := f_X11_entry_r5_eq a0 b0 (a0 4 6) x3
            have h122_ := jxw_im ((f_X3_landOf a0 b0 x3) * 16)
            have h123_ := jxw_rg ((f_X3_landOf a0 b0 x3) * 16)
            have h124_ := f_X3_landOf_eq a0 b0 x4
            have h125_ := f_X11_entry_r5_eq a0 b0 (a0 4 6) x4
            have h126_ := jxw_im ((jxw ((f_X3_landOf a0 b0 x3) * 16)) + (f_X3_landOf a0 b0 x4))
            have h127_ := jxw_rg ((jxw ((f_X3_landOf a0 b0 x3) * 16)) + (f_X3_landOf a0 b0 x4))
            have h128_ := f_X11_entry_r1_eq a0 b0 256 (jxw ((jxw ((f_X3_landOf a0 b0 x3) * 16)) + (f_X3_landOf a0 b0 x4)))
            refine eq_iteI (fun hc6 => ?_) (fun hc6 => ?_)
            ·
              rfl
            ·
              rfl
          ·
            refine eq_iteI (fun hc6 => ?_) (fun hc6 => ?_)
            ·
              refine eq_bI (eq_X10_distance E d (jd_le hd rfl) x3 x4 a0 b0) ?_
              have h129_ := f_X10_distance_eq a0 b0 x3 x4
              have h130_ := f_X3_landOf_eq a0 b0 x3
              have h131_ := f_X11_entry_r5_eq a0 b0 (a0 4 6) x3
              have h132_ := jxw_im ((f_X3_landOf a0 b0 x3) * 16)
              have h133_ := jxw_rg ((f_X3_landOf a0 b0 x3) * 16)
              have h134_ := f_X3_landOf_eq a0 b0 x4
              have h135_ := f_X11_entry_r5_eq a0 b0 (a0 4 6) x4
              have h136_ := jxw_im ((jxw ((f_X3_landOf a0 b0 x3) * 16)) + (f_X3_landOf a0 b0 x4))
              have h137_ := jxw_rg ((jxw ((f_X3_landOf a0 b0 x3) * 16)) + (f_X3_landOf a0 b0 x4))
              have h138_ := f_X11_entry_r1_eq a0 b0 256 (jxw ((jxw ((f_X3_landOf a0 b0 x3) * 16)) + (f_X3_landOf a0 b0 x4)))
              refine eq_iteI (fun hc7 => ?_) (fun hc7 => ?_)
              ·
                rfl
              ·
                rfl
            ·
              refine eq_iteI (fun hc7 => ?_) (fun hc7 => ?_)
              ·
                refine eq_bI (eq_X3_cameOnOf E d (jd_le hd rfl) x4 a0 b0) ?_
                have h139_ := f_X3_cameOnOf_eq a0 b0 x4
                have h140_ := f_X11_entry_r8_eq a0 b0 (a0 4 6) x4
                have h141_ := jxw_im (x5 - (f_X3_cameOnOf a0 b0 x4))
                have h142_ := jxw_rg (x5 - (f_X3_cameOnOf a0 b0 x4))
                refine eq_iteI (fun hc8 => ?_) (fun hc8 => ?_)
                ·
                  rfl
                ·
                  rfl
              ·
                exact absurd (by omega : False) id
theorem f_X10_holdsAtom_eq (a0 b0 : Nat → Nat → Int) (x1 x2 x3 x4 x5 : Int) : f_X10_holdsAtom a0 b0 x1 x2 x3 x4 x5 = (if x1 < 0 ∨ 5 < x1 then 1 else (if x1 = 0 then (if f_X3_landOf a0 b0 x4 = x2 then 1 else 0) else (if x1 = 1 then (if jxand (jxshr (f_X3_tonguesOf a0 b0 x4) x2) 1 = 1 then 1 else 0) else (if x1 = 2 then (if jxand (f_X3_tonguesOf a0 b0 x3) (f_X3_tonguesOf a0 b0 x4) = 0 then 0 else 1) else (if x1 = 3 then (if f_X10_distance a0 b0 x3 x4 < x2 then 0 else 1) else (if x1 = 4 then (if x2 < f_X10_distance a0 b0 x3 x4 then 0 else 1) else (if x1 = 5 then (if jxw (x5 - (f_X3_cameOnOf a0 b0 x4)) < x2 then 0 else 1) else 0))))))) := rfl
theorem f_X10_holdsAtom_bool (a0 b0 : Nat → Nat → Int) (x1 x2 x3 x4 x5 : Int) : f_X10_holdsAtom a0 b0 x1 x2 x3 x4 x5 = 0 ∨ f_X10_holdsAtom a0 b0 x1 x2 x3 x4 x5 = 1 := by
  unfold f_X10_holdsAtom
  refine bool_ite ?_ ?_
  ·
    exact Or.inr rfl
  ·
    refine bool_ite ?_ ?_
    ·
      refine bool_ite ?_ ?_
      ·
        exact Or.inr rfl
      ·
        exact Or.inl rfl
    ·
      refine bool_ite ?_ ?_
      ·
        refine bool_ite ?_ ?_
        ·
          exact Or.inr rfl
        ·
          exact Or.inl rfl
      ·
        refine bool_ite ?_ ?_
        ·
          refine bool_ite ?_ ?_
          ·
            exact Or.inl rfl
          ·
            exact Or.inr rfl
        ·
          refine bool_ite ?_ ?_
          ·
            refine bool_ite ?_ ?_
            ·
              exact Or.inl rfl
            ·
              exact Or.inr rfl
          ·
            refine bool_ite ?_ ?_
            ·
              refine bool_ite ?_ ?_
              ·
                exact Or.inl rfl
              ·
                exact Or.inr rfl
            ·
              refine bool_ite ?_ ?_
              ·
                refine bool_ite ?_ ?_
                ·
                  exact Or.inl rfl
                ·
                  exact Or.inr rfl
              ·
                exact Or.inl rfl
def f_X8_isFaulty (a0 b0 : Nat → Nat → Int) : Int := (if a0 2 3 = 0 then 0 else 1)
theorem eq_X8_isFaulty (E : jxE) (d : Nat) (hd : Nat.ble 1 d = true) (a0 b0 : Nat → Nat → Int) : jxC E d 122 [.inr (.inr (.inl 2))] (jxSH, a0, b0) = some ([.inl (f_X8_isFaulty a0 b0)], (jxSH, a0, b0)) := by
  obtain ⟨d, rfl⟩ := jd_succ hd
  refine (bq_X8_isFaulty E d a0 b0).trans ?_
  unfold f_X8_isFaulty
  refine eq_iteI (fun hc1 => ?_) (fun hc1 => ?_)
  ·
    rfl
  ·
    rfl
theorem f_X8_isFaulty_eq (a0 b0 : Nat → Nat → Int) : f_X8_isFaulty a0 b0 = (if a0 2 3 = 0 then 0 else 1) := rfl
theorem f_X8_isFaulty_bool (a0 b0 : Nat → Nat → Int) : f_X8_isFaulty a0 b0 = 0 ∨ f_X8_isFaulty a0 b0 = 1 := by
  unfold f_X8_isFaulty
  refine bool_ite ?_ ?_
  ·
    exact Or.inl rfl
  ·
    exact Or.inr rfl
def f_X8_place (a0 b0 : Nat → Nat → Int) : Int := (a0 2 2)
theorem eq_X8_place (E : jxE) (d : Nat) (hd : Nat.ble 1 d = true) (a0 b0 : Nat → Nat → Int) : jxC E d 126 [.inr (.inr (.inl 2))] (jxSH, a0, b0) = some ([.inl (f_X8_place a0 b0)], (jxSH, a0, b0)) := by
  obtain ⟨d, rfl⟩ := jd_succ hd
  refine (bq_X8_place E d a0 b0).trans ?_
  unfold f_X8_place
  rfl
theorem f_X8_place_eq (a0 b0 : Nat → Nat → Int) : f_X8_place a0 b0 = (a0 2 2) := rfl
def f_X8_answerOfFault (a0 b0 : Nat → Nat → Int) : Int := (jxw ((-2) - (a0 2 3)))
theorem eq_X8_answerOfFault (E : jxE) (d : Nat) (hd : Nat.ble 1 d = true) (a0 b0 : Nat → Nat → Int) : jxC E d 123 [.inr (.inr (.inl 2))] (jxSH, a0, b0) = some ([.inl (f_X8_answerOfFault a0 b0)], (jxSH, a0, b0)) := by
  obtain ⟨d, rfl⟩ := jd_succ hd
  refine (bq_X8_answerOfFault E d a0 b0).trans ?_
  unfold f_X8_answerOfFault
  rfl
theorem f_X8_answerOfFault_eq (a0 b0 : Nat → Nat → Int) : f_X8_answerOfFault a0 b0 = (jxw ((-2) - (a0 2 3))) := rfl
def f_X8_isAtEnd (a0 b0 : Nat → Nat → Int) : Int := (if a0 2 2 < a0 2 1 then 0 else 1)
theorem eq_X8_isAtEnd (E : jxE) (d : Nat) (hd : Nat.ble 1 d = true) (a0 b0 : Nat → Nat → Int) : jxC E d 127 [.inr (.inr (.inl 2))] (jxSH, a0, b0) = some ([.inl (f_X8_isAtEnd a0 b0)], (jxSH, a0, b0)) := by
  obtain ⟨d, rfl⟩ := jd_succ hd
  refine (bq_X8_isAtEnd E d a0 b0).trans ?_
  unfold f_X8_isAtEnd
  refine eq_iteI (fun hc1 => ?_) (fun hc1 => ?_)
  ·
    rfl
  ·
    rfl
theorem f_X8_isAtEnd_eq (a0 b0 : Nat → Nat → Int) : f_X8_isAtEnd a0 b0 = (if a0 2 2 < a0 2 1 then 0 else 1) := rfl
theorem f_X8_isAtEnd_bool (a0 b0 : Nat → Nat → Int) : f_X8_isAtEnd a0 b0 = 0 ∨ f_X8_isAtEnd a0 b0 = 1 := by
  unfold f_X8_isAtEnd
  refine bool_ite ?_ ?_
  ·
    exact Or.inl rfl
  ·
    exact Or.inr rfl
def f_X3_isThere (a0 b0 : Nat → Nat → Int) (x1 : Int) : Int := (if f_X3_has a0 b0 x1 = 0 then 0 else (if a0 10 (x1.toNat) = 0 then 0 else 1))
theorem eq_X3_isThere (E : jxE) (d : Nat) (hd : Nat.ble 2 d = true) (x1 : Int) (a0 b0 : Nat → Nat → Int) : jxC E d 52 [.inr (.inr (.inl 4)), .inl x1] (jxSH, a0, b0) = some ([.inl (f_X3_isThere a0 b0 x1)], (jxSH, a0, b0)) := by
  obtain ⟨d, rfl⟩ := jd_succ hd
  refine (bq_X3_isThere E d x1 a0 b0).trans ?_
  unfold f_X3_isThere
  refine eq_bI (eq_X3_has E d (jd_le hd rfl) x1 a0 b0) ?_
  have h143_ := f_X3_has_eq a0 b0 x1
  refine eq_iteI (fun hc1 => ?_) (fun hc1 => ?_)
  ·
    rfl
  ·
    refine eq_grd (by omega) ?_
    refine eq_iteI (fun hc2 => ?_) (fun hc2 => ?_)
    ·
      rfl
    ·
      rfl
theorem f_X3_isThere_eq (a0 b0 : Nat → Nat → Int) (x1 : Int) : f_X3_isThere a0 b0 x1 = (if f_X3_has a0 b0 x1 = 0 then 0 else (if a0 10 (x1.toNat) = 0 then 0 else 1)) := rfl
theorem f_X3_isThere_bool (a0 b0 : Nat → Nat → Int) (x1 : Int) : f_X3_isThere a0 b0 x1 = 0 ∨ f_X3_isThere a0 b0 x1 = 1 := by
  unfold f_X3_isThere
  refine bool_ite ?_ ?_
  ·
    exact Or.inl rfl
  ·
    refine bool_ite ?_ ?_
    ·
      exact Or.inl rfl
    ·
      exact Or.inr rfl
def f_X6_more (a0 b0 : Nat → Nat → Int) : Int := (a0 56 1)
theorem eq_X6_more (E : jxE) (d : Nat) (hd : Nat.ble 1 d = true) (a0 b0 : Nat → Nat → Int) : jxC E d 99 [.inr (.inr (.inl 55))] (jxSH, a0, b0) = some ([.inl (f_X6_more a0 b0)], (jxSH, a0, b0)) := by
  obtain ⟨d, rfl⟩ := jd_succ hd
  refine (bq_X6_more E d a0 b0).trans ?_
  unfold f_X6_more
  rfl
theorem f_X6_more_eq (a0 b0 : Nat → Nat → Int) : f_X6_more a0 b0 = (a0 56 1) := rfl
def f_X6_under (a0 b0 : Nat → Nat → Int) : Int := (a0 56 0)
theorem eq_X6_under (E : jxE) (d : Nat) (hd : Nat.ble 1 d = true) (a0 b0 : Nat → Nat → Int) : jxC E d 98 [.inr (.inr (.inl 55))] (jxSH, a0, b0) = some ([.inl (f_X6_under a0 b0)], (jxSH, a0, b0)) := by
  obtain ⟨d, rfl⟩ := jd_succ hd
  refine (bq_X6_under E d a0 b0).trans ?_
  unfold f_X6_under
  rfl
theorem f_X6_under_eq (a0 b0 : Nat → Nat → Int) : f_X6_under a0 b0 = (a0 56 0) := rfl
def f_X11_entry_r70 (a0 b0 : Nat → Nat → Int) (x1 x2 : Int) : Int := (if x2 < 0 then (-1) else (if x2 < x1 then (if x2 < 40 then (a0 70 (x2.toNat)) else (-1)) else (-1)))
theorem eq_X11_entry_r70 (E : jxE) (d : Nat) (hd : Nat.ble 1 d = true) (x1 x2 : Int) (a0 b0 : Nat → Nat → Int) : jxC E d 202 [.inr (.inr (.inl 70)), .inl x1, .inl x2] (jxSH, a0, b0) = some ([.inl (f_X11_entry_r70 a0 b0 x1 x2)], (jxSH, a0, b0)) := by
  obtain ⟨d, rfl⟩ := jd_succ hd
  refine (bq_X11_entry_r70 E d x1 x2 a0 b0).trans ?_
  unfold f_X11_entry_r70
  refine eq_iteI (fun hc1 => ?_) (fun hc1 => ?_)
  ·
    rfl
  ·
    refine eq_iteI (fun hc2 => ?_) (fun hc2 => ?_)
    ·
      refine eq_iteI (fun hc3 => ?_) (fun hc3 => ?_)
      ·
        refine eq_grd (by omega) ?_
        rfl
      ·
        rfl
    ·
      rfl
theorem f_X11_entry_r70_eq (a0 b0 : Nat → Nat → Int) (x1 x2 : Int) : f_X11_entry_r70 a0 b0 x1 x2 = (if x2 < 0 then (-1) else (if x2 < x1 then (if x2 < 40 then (a0 70 (x2.toNat)) else (-1)) else (-1))) := rfl
def f_X7_givenBy (a0 b0 : Nat → Nat → Int) (x1 : Int) : Int := (f_X11_entry_r70 a0 b0 40 x1)
theorem eq_X7_givenBy (E : jxE) (d : Nat) (hd : Nat.ble 2 d = true) (x1 : Int) (a0 b0 : Nat → Nat → Int) : jxC E d 110 [.inr (.inr (.inl 69)), .inl x1] (jxSH, a0, b0) = some ([.inl (f_X7_givenBy a0 b0 x1)], (jxSH, a0, b0)) := by
  obtain ⟨d, rfl⟩ := jd_succ hd
  refine (bq_X7_givenBy E d x1 a0 b0).trans ?_
  unfold f_X7_givenBy
  refine eq_bI (eq_X11_entry_r70 E d (jd_le hd rfl) 40 x1 a0 b0) ?_
  rfl
theorem f_X7_givenBy_eq (a0 b0 : Nat → Nat → Int) (x1 : Int) : f_X7_givenBy a0 b0 x1 = (f_X11_entry_r70 a0 b0 40 x1) := rfl
def f_X11_entry_r73 (a0 b0 : Nat → Nat → Int) (x1 x2 : Int) : Int := (if x2 < 0 then (-1) else (if x2 < x1 then (if x2 < 40 then (a0 73 (x2.toNat)) else (-1)) else (-1)))
theorem eq_X11_entry_r73 (E : jxE) (d : Nat) (hd : Nat.ble 1 d = true) (x1 x2 : Int) (a0 b0 : Nat → Nat → Int) : jxC E d 202 [.inr (.inr (.inl 73)), .inl x1, .inl x2] (jxSH, a0, b0) = some ([.inl (f_X11_entry_r73 a0 b0 x1 x2)], (jxSH, a0, b0)) := by
  obtain ⟨d, rfl⟩ := jd_succ hd
  refine (bq_X11_entry_r73 E d x1 x2 a0 b0).trans ?_
  unfold f_X11_entry_r73
  refine eq_iteI (fun hc1 => ?_) (fun hc1 => ?_)
  ·
    rfl
  ·
    refine eq_iteI (fun hc2 => ?_) (fun hc2 => ?_)
    ·
      refine eq_iteI (fun hc3 => ?_) (fun hc3 => ?_)
      ·
        refine eq_grd (by omega) ?_
        rfl
      ·
        rfl
    ·
      rfl
theorem f_X11_entry_r73_eq (a0 b0 : Nat → Nat → Int) (x1 x2 : Int) : f_X11_entry_r73 a0 b0 x1 x2 = (if x2 < 0 then (-1) else (if x2 < x1 then (if x2 < 40 then (a0 73 (x2.toNat)) else (-1)) else (-1))) := rfl
def f_X7_outOf (a0 b0 : Nat → Nat → Int) (x1 : Int) : Int := (f_X11_entry_r73 a0 b0 40 x1)
theorem eq_X7_outOf (E : jxE) (d : Nat) (hd : Nat.ble 2 d = true) (x1 : Int) (a0 b0 : Nat → Nat → Int) : jxC E d 113 [.inr (.inr (.inl 69)), .inl x1] (jxSH, a0, b0) = some ([.inl (f_X7_outOf a0 b0 x1)], (jxSH, a0, b0)) := by
  obtain ⟨d, rfl⟩ := jd_succ hd
  refine (bq_X7_outOf E d x1 a0 b0).trans ?_
  unfold f_X7_outOf
  refine eq_bI (eq_X11_entry_r73 E d (jd_le hd rfl) 40 x1 a0 b0) ?_
  rfl
theorem f_X7_outOf_eq (a0 b0 : Nat → Nat → Int) (x1 : Int) : f_X7_outOf a0 b0 x1 = (f_X11_entry_r73 a0 b0 40 x1) := rfl
def f_X11_mayAsk_at58 (a0 b0 : Nat → Nat → Int) : Int := 1
theorem eq_X11_mayAsk_58 (E : jxE) (d : Nat) (hd : Nat.ble 3 (d + 1) = true) (a0 b0 : Nat → Nat → Int) : jxX E d 171 58 [none, none, none, none] [] (jxSH, a0, b0) = some ([.inl (f_X11_mayAsk_at58 a0 b0)], (jxSH, a0, b0)) := by
  refine (bq_X11_mayAsk_58 E d a0 b0).trans ?_
  unfold f_X11_mayAsk_at58
  rfl
theorem f_X11_mayAsk_at58_bool (a0 b0 : Nat → Nat → Int) : f_X11_mayAsk_at58 a0 b0 = 0 ∨ f_X11_mayAsk_at58 a0 b0 = 1 := by
  unfold f_X11_mayAsk_at58
  exact Or.inr rfl
def f_X11_mayAsk_at62 (a0 b0 : Nat → Nat → Int) : Int := 0
theorem eq_X11_mayAsk_62 (E : jxE) (d : Nat) (hd : Nat.ble 3 (d + 1) = true) (a0 b0 : Nat → Nat → Int) : jxX E d 171 62 [none, none, none, none] [] (jxSH, a0, b0) = some ([.inl (f_X11_mayAsk_at62 a0 b0)], (jxSH, a0, b0)) := by
  refine (bq_X11_mayAsk_62 E d a0 b0).trans ?_
  unfold f_X11_mayAsk_at62
  rfl
theorem f_X11_mayAsk_at62_bool (a0 b0 : Nat → Nat → Int) : f_X11_mayAsk_at62 a0 b0 = 0 ∨ f_X11_mayAsk_at62 a0 b0 = 1 := by
  unfold f_X11_mayAsk_at62
  exact Or.inl rfl
def f_X11_mayAsk_at26 (a0 b0 : Nat → Nat → Int) (y1 s0 : Int) : Int := (if f_X3_isThere a0 b0 y1 = 0 then (f_X11_mayAsk_at62 a0 b0) else (if f_X7_outOf a0 b0 y1 < jxw ((f_X6_under a0 b0) + s0) then (f_X11_mayAsk_at58 a0 b0) else (f_X11_mayAsk_at62 a0 b0)))
theorem eq_X11_mayAsk_26 (E : jxE) (d : Nat) (hd : Nat.ble 3 (d + 1) = true) (y1 s0 : Int) (a0 b0 : Nat → Nat → Int) : jxX E d 171 26 [some (.inr (.inr (.inl 0))), some (.inl y1), none, none] [.inl s0] (jxSH, a0, b0) = some ([.inl (f_X11_mayAsk_at26 a0 b0 y1 s0)], (jxSH, a0, b0)) := by
  refine (bq_X11_mayAsk_26 E d y1 s0 a0 b0).trans ?_
  unfold f_X11_mayAsk_at26
  refine eq_bI (eq_X3_isThere E d (jd_le hd rfl) y1 a0 b0) ?_
  have h144_ := f_X3_isThere_eq a0 b0 y1
  have h145_ := f_X3_has_eq a0 b0 y1
  refine eq_iteI (fun hc1 => ?_) (fun hc1 => ?_)
  ·
    exact eq_X11_mayAsk_62 E d hd a0 b0
  ·
    refine eq_bI (eq_X7_outOf E d (jd_le hd rfl) y1 a0 b0) ?_
    refine eq_bI (eq_X6_under E d (jd_le hd rfl) a0 b0) ?_
    have h146_ := f_X7_outOf_eq a0 b0 y1
    have h147_ := f_X11_entry_r73_eq a0 b0 40 y1
    have h148_ := f_X6_under_eq a0 b0
    have h149_ := jxw_im ((f_X6_under a0 b0) + s0)
    have h150_ := jxw_rg ((f_X6_under a0 b0) + s0)
    refine eq_iteI (fun hc2 => ?_) (fun hc2 => ?_)
    ·
      exact eq_X11_mayAsk_58 E d hd a0 b0
    ·
      exact eq_X11_mayAsk_62 E d hd a0 b0
theorem f_X11_mayAsk_at26_bool (a0 b0 : Nat → Nat → Int) (y1 s0 : Int) : f_X11_mayAsk_at26 a0 b0 y1 s0 = 0 ∨ f_X11_mayAsk_at26 a0 b0 y1 s0 = 1 := by
  unfold f_X11_mayAsk_at26
  refine bool_ite ?_ ?_
  ·
    exact f_X11_mayAsk_at62_bool _ _
  ·
    refine bool_ite ?_ ?_
    ·
      exact f_X11_mayAsk_at58_bool _ _
    ·
      exact f_X11_mayAsk_at62_bool _ _
def f_X11_mayAsk (a0 b0 : Nat → Nat → Int) (x1 : Int) : Int := (if 0 < f_X6_more a0 b0 then (f_X11_mayAsk_at26 a0 b0 x1 (jxw (Int.tdiv (f_X7_givenBy a0 b0 x1) (f_X6_more a0 b0)))) else (f_X11_mayAsk_at26 a0 b0 x1 0))
theorem eq_X11_mayAsk (E : jxE) (d : Nat) (hd : Nat.ble 3 d = true) (x1 : Int) (a0 b0 : Nat → Nat → Int) : jxC E d 171 [.inr (.inr (.inl 0)), .inl x1] (jxSH, a0, b0) = some ([.inl (f_X11_mayAsk a0 b0 x1)], (jxSH, a0, b0)) := by
  obtain ⟨d, rfl⟩ := jd_succ hd
  refine (bq_X11_mayAsk E d x1 a0 b0).trans ?_
  unfold f_X11_mayAsk
  refine eq_bI (eq_X6_more E d (jd_le hd rfl) a0 b0) ?_
  have h151_ := f_X6_more_eq a0 b0
  refine eq_iteI (fun hc1 => ?_) (fun hc1 => ?_)
  ·
    refine eq_bI (eq_X7_givenBy E d (jd_le hd rfl) x1 a0 b0) ?_
    refine eq_dvd (by omega) ?_
    exact eq_X11_mayAsk_26 E d hd x1 (jxw (Int.tdiv (f_X7_givenBy a0 b0 x1) (f_X6_more a0 b0))) a0 b0
  ·
    exact eq_X11_mayAsk_26 E d hd x1 0 a0 b0
theorem f_X11_mayAsk_eq (a0 b0 : Nat → Nat → Int) (x1 : Int) : f_X11_mayAsk a0 b0 x1 = (if 0 < f_X6_more a0 b0 then (f_X11_mayAsk_at26 a0 b0 x1 (jxw (Int.tdiv (f_X7_givenBy a0 b0 x1) (f_X6_more a0 b0)))) else (f_X11_mayAsk_at26 a0 b0 x1 0)) := rfl
theorem f_X11_mayAsk_bool (a0 b0 : Nat → Nat → Int) (x1 : Int) : f_X11_mayAsk a0 b0 x1 = 0 ∨ f_X11_mayAsk a0 b0 x1 = 1 := by
  unfold f_X11_mayAsk
  refine bool_ite ?_ ?_
  ·
    exact f_X11_mayAsk_at26_bool _ _ _ _
  ·
    exact f_X11_mayAsk_at26_bool _ _ _ _
def f_X3_creditOf (a0 b0 : Nat → Nat → Int) (x1 : Int) : Int := (if f_X3_has a0 b0 x1 = 0 then 0 else (a0 9 (x1.toNat)))
theorem eq_X3_creditOf (E : jxE) (d : Nat) (hd : Nat.ble 2 d = true) (x1 : Int) (a0 b0 : Nat → Nat → Int) : jxC E d 60 [.inr (.inr (.inl 4)), .inl x1] (jxSH, a0, b0) = some ([.inl (f_X3_creditOf a0 b0 x1)], (jxSH, a0, b0)) := by
  obtain ⟨d, rfl⟩ := jd_succ hd
  refine (bq_X3_creditOf E d x1 a0 b0).trans ?_
  unfold f_X3_creditOf
  refine eq_bI (eq_X3_has E d (jd_le hd rfl) x1 a0 b0) ?_
  have h152_ := f_X3_has_eq a0 b0 x1
  refine eq_iteI (fun hc1 => ?_) (fun hc1 => ?_)
  ·
    rfl
  ·
    refine eq_grd (by omega) ?_
    rfl
theorem f_X3_creditOf_eq (a0 b0 : Nat → Nat → Int) (x1 : Int) : f_X3_creditOf a0 b0 x1 = (if f_X3_has a0 b0 x1 = 0 then 0 else (a0 9 (x1.toNat))) := rfl
def f_X11_entry_r72 (a0 b0 : Nat → Nat → Int) (x1 x2 : Int) : Int := (if x2 < 0 then (-1) else (if x2 < x1 then (if x2 < 40 then (a0 72 (x2.toNat)) else (-1)) else (-1)))
theorem eq_X11_entry_r72 (E : jxE) (d : Nat) (hd : Nat.ble 1 d = true) (x1 x2 : Int) (a0 b0 : Nat → Nat → Int) : jxC E d 202 [.inr (.inr (.inl 72)), .inl x1, .inl x2] (jxSH, a0, b0) = some ([.inl (f_X11_entry_r72 a0 b0 x1 x2)], (jxSH, a0, b0)) := by
  obtain ⟨d, rfl⟩ := jd_succ hd
  refine (bq_X11_entry_r72 E d x1 x2 a0 b0).trans ?_
  unfold f_X11_entry_r72
  refine eq_iteI (fun hc1 => ?_) (fun hc1 => ?_)
  ·
    rfl
  ·
    refine eq_iteI (fun hc2 => ?_) (fun hc2 => ?_)
    ·
      refine eq_iteI (fun hc3 => ?_) (fun hc3 => ?_)
      ·
        refine eq_grd (by omega) ?_
        rfl
      ·
        rfl
    ·
      rfl
theorem f_X11_entry_r72_eq (a0 b0 : Nat → Nat → Int) (x1 x2 : Int) : f_X11_entry_r72 a0 b0 x1 x2 = (if x2 < 0 then (-1) else (if x2 < x1 then (if x2 < 40 then (a0 72 (x2.toNat)) else (-1)) else (-1))) := rfl
def f_X7_comingTo (a0 b0 : Nat → Nat → Int) (x1 : Int) : Int := (f_X11_entry_r72 a0 b0 40 x1)
theorem eq_X7_comingTo (E : jxE) (d : Nat) (hd : Nat.ble 2 d = true) (x1 : Int) (a0 b0 : Nat → Nat → Int) : jxC E d 112 [.inr (.inr (.inl 69)), .inl x1] (jxSH, a0, b0) = some ([.inl (f_X7_comingTo a0 b0 x1)], (jxSH, a0, b0)) := by
  obtain ⟨d, rfl⟩ := jd_succ hd
  refine (bq_X7_comingTo E d x1 a0 b0).trans ?_
  unfold f_X7_comingTo
  refine eq_bI (eq_X11_entry_r72 E d (jd_le hd rfl) 40 x1 a0 b0) ?_
  rfl
theorem f_X7_comingTo_eq (a0 b0 : Nat → Nat → Int) (x1 : Int) : f_X7_comingTo a0 b0 x1 = (f_X11_entry_r72 a0 b0 40 x1) := rfl
def f_X11_entry_r71 (a0 b0 : Nat → Nat → Int) (x1 x2 : Int) : Int := (if x2 < 0 then (-1) else (if x2 < x1 then (if x2 < 40 then (a0 71 (x2.toNat)) else (-1)) else (-1)))
theorem eq_X11_entry_r71 (E : jxE) (d : Nat) (hd : Nat.ble 1 d = true) (x1 x2 : Int) (a0 b0 : Nat → Nat → Int) : jxC E d 202 [.inr (.inr (.inl 71)), .inl x1, .inl x2] (jxSH, a0, b0) = some ([.inl (f_X11_entry_r71 a0 b0 x1 x2)], (jxSH, a0, b0)) := by
  obtain ⟨d, rfl⟩ := jd_succ hd
  refine (bq_X11_entry_r71 E d x1 x2 a0 b0).trans ?_
  unfold f_X11_entry_r71
  refine eq_iteI (fun hc1 => ?_) (fun hc1 => ?_)
  ·
    rfl
  ·
    refine eq_iteI (fun hc2 => ?_) (fun hc2 => ?_)
    ·
      refine eq_iteI (fun hc3 => ?_) (fun hc3 => ?_)
      ·
        refine eq_grd (by omega) ?_
        rfl
      ·
        rfl
    ·
      rfl
theorem f_X11_entry_r71_eq (a0 b0 : Nat → Nat → Int) (x1 x2 : Int) : f_X11_entry_r71 a0 b0 x1 x2 = (if x2 < 0 then (-1) else (if x2 < x1 then (if x2 < 40 then (a0 71 (x2.toNat)) else (-1)) else (-1))) := rfl
def f_X7_gotBy (a0 b0 : Nat → Nat → Int) (x1 : Int) : Int := (f_X11_entry_r71 a0 b0 40 x1)
theorem eq_X7_gotBy (E : jxE) (d : Nat) (hd : Nat.ble 2 d = true) (x1 : Int) (a0 b0 : Nat → Nat → Int) : jxC E d 111 [.inr (.inr (.inl 69)), .inl x1] (jxSH, a0, b0) = some ([.inl (f_X7_gotBy a0 b0 x1)], (jxSH, a0, b0)) := by
  obtain ⟨d, rfl⟩ := jd_succ hd
  refine (bq_X7_gotBy E d x1 a0 b0).trans ?_
  unfold f_X7_gotBy
  refine eq_bI (eq_X11_entry_r71 E d (jd_le hd rfl) 40 x1 a0 b0) ?_
  rfl
theorem f_X7_gotBy_eq (a0 b0 : Nat → Nat → Int) (x1 : Int) : f_X7_gotBy a0 b0 x1 = (f_X11_entry_r71 a0 b0 40 x1) := rfl
def f_X11_owed (a0 b0 : Nat → Nat → Int) (x1 : Int) : Int := (jxw ((jxw ((jxw ((f_X7_givenBy a0 b0 x1) + (f_X3_creditOf a0 b0 x1))) - (f_X7_gotBy a0 b0 x1))) - (f_X7_comingTo a0 b0 x1)))
theorem eq_X11_owed (E : jxE) (d : Nat) (hd : Nat.ble 3 d = true) (x1 : Int) (a0 b0 : Nat → Nat → Int) : jxC E d 170 [.inr (.inr (.inl 0)), .inl x1] (jxSH, a0, b0) = some ([.inl (f_X11_owed a0 b0 x1)], (jxSH, a0, b0)) := by
  obtain ⟨d, rfl⟩ := jd_succ hd
  refine (bq_X11_owed E d x1 a0 b0).trans ?_
  unfold f_X11_owed
  refine eq_bI (eq_X7_givenBy E d (jd_le hd rfl) x1 a0 b0) ?_
  refine eq_bI (eq_X3_creditOf E d (jd_le hd rfl) x1 a0 b0) ?_
  refine eq_bI (eq_X7_gotBy E d (jd_le hd rfl) x1 a0 b0) ?_
  refine eq_bI (eq_X7_comingTo E d (jd_le hd rfl) x1 a0 b0) ?_
  rfl
theorem f_X11_owed_eq (a0 b0 : Nat → Nat → Int) (x1 : Int) : f_X11_owed a0 b0 x1 = (jxw ((jxw ((jxw ((f_X7_givenBy a0 b0 x1) + (f_X3_creditOf a0 b0 x1))) - (f_X7_gotBy a0 b0 x1))) - (f_X7_comingTo a0 b0 x1))) := rfl
def f_X11_entry_r74 (a0 b0 : Nat → Nat → Int) (x1 x2 : Int) : Int := (if x2 < 0 then (-1) else (if x2 < x1 then (if x2 < 40 then (a0 74 (x2.toNat)) else (-1)) else (-1)))
theorem eq_X11_entry_r74 (E : jxE) (d : Nat) (hd : Nat.ble 1 d = true) (x1 x2 : Int) (a0 b0 : Nat → Nat → Int) : jxC E d 202 [.inr (.inr (.inl 74)), .inl x1, .inl x2] (jxSH, a0, b0) = some ([.inl (f_X11_entry_r74 a0 b0 x1 x2)], (jxSH, a0, b0)) := by
  obtain ⟨d, rfl⟩ := jd_succ hd
  refine (bq_X11_entry_r74 E d x1 x2 a0 b0).trans ?_
  unfold f_X11_entry_r74
  refine eq_iteI (fun hc1 => ?_) (fun hc1 => ?_)
  ·
    rfl
  ·
    refine eq_iteI (fun hc2 => ?_) (fun hc2 => ?_)
    ·
      refine eq_iteI (fun hc3 => ?_) (fun hc3 => ?_)
      ·
        refine eq_grd (by omega) ?_
        rfl
      ·
        rfl
    ·
      rfl
theorem f_X11_entry_r74_eq (a0 b0 : Nat → Nat → Int) (x1 x2 : Int) : f_X11_entry_r74 a0 b0 x1 x2 = (if x2 < 0 then (-1) else (if x2 < x1 then (if x2 < 40 then (a0 74 (x2.toNat)) else (-1)) else (-1))) := rfl
def f_X7_lostOf (a0 b0 : Nat → Nat → Int) (x1 : Int) : Int := (f_X11_entry_r74 a0 b0 40 x1)
theorem eq_X7_lostOf (E : jxE) (d : Nat) (hd : Nat.ble 2 d = true) (x1 : Int) (a0 b0 : Nat → Nat → Int) : jxC E d 114 [.inr (.inr (.inl 69)), .inl x1] (jxSH, a0, b0) = some ([.inl (f_X7_lostOf a0 b0 x1)], (jxSH, a0, b0)) := by
  obtain ⟨d, rfl⟩ := jd_succ hd
  refine (bq_X7_lostOf E d x1 a0 b0).trans ?_
  unfold f_X7_lostOf
  refine eq_bI (eq_X11_entry_r74 E d (jd_le hd rfl) 40 x1 a0 b0) ?_
  rfl
theorem f_X7_lostOf_eq (a0 b0 : Nat → Nat → Int) (x1 : Int) : f_X7_lostOf a0 b0 x1 = (f_X11_entry_r74 a0 b0 40 x1) := rfl
def f_X11_entry_r75 (a0 b0 : Nat → Nat → Int) (x1 x2 : Int) : Int := (if x2 < 0 then (-1) else (if x2 < x1 then (if x2 < 40 then (a0 75 (x2.toNat)) else (-1)) else (-1)))
theorem eq_X11_entry_r75 (E : jxE) (d : Nat) (hd : Nat.ble 1 d = true) (x1 x2 : Int) (a0 b0 : Nat → Nat → Int) : jxC E d 202 [.inr (.inr (.inl 75)), .inl x1, .inl x2] (jxSH, a0, b0) = some ([.inl (f_X11_entry_r75 a0 b0 x1 x2)], (jxSH, a0, b0)) := by
  obtain ⟨d, rfl⟩ := jd_succ hd
  refine (bq_X11_entry_r75 E d x1 x2 a0 b0).trans ?_
  unfold f_X11_entry_r75
  refine eq_iteI (fun hc1 => ?_) (fun hc1 => ?_)
  ·
    rfl
  ·
    refine eq_iteI (fun hc2 => ?_) (fun hc2 => ?_)
    ·
      refine eq_iteI (fun hc3 => ?_) (fun hc3 => ?_)
      ·
        refine eq_grd (by omega) ?_
        rfl
      ·
        rfl
    ·
      rfl
theorem f_X11_entry_r75_eq (a0 b0 : Nat → Nat → Int) (x1 x2 : Int) : f_X11_entry_r75 a0 b0 x1 x2 = (if x2 < 0 then (-1) else (if x2 < x1 then (if x2 < 40 then (a0 75 (x2.toNat)) else (-1)) else (-1))) := rfl
def f_X7_lastSentTo (a0 b0 : Nat → Nat → Int) (x1 : Int) : Int := (f_X11_entry_r75 a0 b0 40 x1)
theorem eq_X7_lastSentTo (E : jxE) (d : Nat) (hd : Nat.ble 2 d = true) (x1 : Int) (a0 b0 : Nat → Nat → Int) : jxC E d 115 [.inr (.inr (.inl 69)), .inl x1] (jxSH, a0, b0) = some ([.inl (f_X7_lastSentTo a0 b0 x1)], (jxSH, a0, b0)) := by
  obtain ⟨d, rfl⟩ := jd_succ hd
  refine (bq_X7_lastSentTo E d x1 a0 b0).trans ?_
  unfold f_X7_lastSentTo
  refine eq_bI (eq_X11_entry_r75 E d (jd_le hd rfl) 40 x1 a0 b0) ?_
  rfl
theorem f_X7_lastSentTo_eq (a0 b0 : Nat → Nat → Int) (x1 : Int) : f_X7_lastSentTo a0 b0 x1 = (f_X11_entry_r75 a0 b0 40 x1) := rfl
def f_X6_slack (a0 b0 : Nat → Nat → Int) : Int := (a0 56 2)
theorem eq_X6_slack (E : jxE) (d : Nat) (hd : Nat.ble 1 d = true) (a0 b0 : Nat → Nat → Int) : jxC E d 100 [.inr (.inr (.inl 55))] (jxSH, a0, b0) = some ([.inl (f_X6_slack a0 b0)], (jxSH, a0, b0)) := by
  obtain ⟨d, rfl⟩ := jd_succ hd
  refine (bq_X6_slack E d a0 b0).trans ?_
  unfold f_X6_slack
  rfl
theorem f_X6_slack_eq (a0 b0 : Nat → Nat → Int) : f_X6_slack a0 b0 = (a0 56 2) := rfl
def f_X6_strict (a0 b0 : Nat → Nat → Int) : Int := (a0 56 4)
theorem eq_X6_strict (E : jxE) (d : Nat) (hd : Nat.ble 1 d = true) (a0 b0 : Nat → Nat → Int) : jxC E d 102 [.inr (.inr (.inl 55))] (jxSH, a0, b0) = some ([.inl (f_X6_strict a0 b0)], (jxSH, a0, b0)) := by
  obtain ⟨d, rfl⟩ := jd_succ hd
  refine (bq_X6_strict E d a0 b0).trans ?_
  unfold f_X6_strict
  rfl
theorem f_X6_strict_eq (a0 b0 : Nat → Nat → Int) : f_X6_strict a0 b0 = (a0 56 4) := rfl
def f_X3_size (a0 b0 : Nat → Nat → Int) : Int := (a0 4 6)
theorem eq_X3_size (E : jxE) (d : Nat) (hd : Nat.ble 1 d = true) (a0 b0 : Nat → Nat → Int) : jxC E d 50 [.inr (.inr (.inl 4))] (jxSH, a0, b0) = some ([.inl (f_X3_size a0 b0)], (jxSH, a0, b0)) := by
  obtain ⟨d, rfl⟩ := jd_succ hd
  refine (bq_X3_size E d a0 b0).trans ?_
  unfold f_X3_size
  rfl
theorem f_X3_size_eq (a0 b0 : Nat → Nat → Int) : f_X3_size a0 b0 = (a0 4 6) := rfl
def f_X6_lost (a0 b0 : Nat → Nat → Int) : Int := (a0 56 3)
theorem eq_X6_lost (E : jxE) (d : Nat) (hd : Nat.ble 1 d = true) (a0 b0 : Nat → Nat → Int) : jxC E d 101 [.inr (.inr (.inl 55))] (jxSH, a0, b0) = some ([.inl (f_X6_lost a0 b0)], (jxSH, a0, b0)) := by
  obtain ⟨d, rfl⟩ := jd_succ hd
  refine (bq_X6_lost E d a0 b0).trans ?_
  unfold f_X6_lost
  rfl
theorem f_X6_lost_eq (a0 b0 : Nat → Nat → Int) : f_X6_lost a0 b0 = (a0 56 3) := rfl
def f_X4_has (a0 b0 : Nat → Nat → Int) (x1 : Int) : Int := (if x1 < 0 then 0 else (if x1 < a0 83 6 then (if x1 < 20 then 1 else 0) else 0))
theorem eq_X4_has (E : jxE) (d : Nat) (hd : Nat.ble 1 d = true) (x1 : Int) (a0 b0 : Nat → Nat → Int) : jxC E d 65 [.inr (.inr (.inl 83)), .inl x1] (jxSH, a0, b0) = some ([.inl (f_X4_has a0 b0 x1)], (jxSH, a0, b0)) := by
  obtain ⟨d, rfl⟩ := jd_succ hd
  refine (bq_X4_has E d x1 a0 b0).trans ?_
  unfold f_X4_has
  refine eq_iteI (fun hc1 => ?_) (fun hc1 => ?_)
  ·
    rfl
  ·
    refine eq_iteI (fun hc2 => ?_) (fun hc2 => ?_)
    ·
      refine eq_iteI (fun hc3 => ?_) (fun hc3 => ?_)
      ·
        rfl
      ·
        rfl
    ·
      rfl
theorem f_X4_has_eq (a0 b0 : Nat → Nat → Int) (x1 : Int) : f_X4_has a0 b0 x1 = (if x1 < 0 then 0 else (if x1 < a0 83 6 then (if x1 < 20 then 1 else 0) else 0)) := rfl
theorem f_X4_has_bool (a0 b0 : Nat → Nat → Int) (x1 : Int) : f_X4_has a0 b0 x1 = 0 ∨ f_X4_has a0 b0 x1 = 1 := by
  unfold f_X4_has
  refine bool_ite ?_ ?_
  ·
    exact Or.inl rfl
  ·
    refine bool_ite ?_ ?_
    ·
      refine bool_ite ?_ ?_
      ·
        exact Or.inr rfl
      ·
        exact Or.inl rfl
    ·
      exact Or.inl rfl
def f_X4_isOpen (a0 b0 : Nat → Nat → Int) (x1 : Int) : Int := (if f_X4_has a0 b0 x1 = 0 then 0 else (if a0 87 (x1.toNat) = 0 then 1 else 0))
theorem eq_X4_isOpen (E : jxE) (d : Nat) (hd : Nat.ble 2 d = true) (x1 : Int) (a0 b0 : Nat → Nat → Int) : jxC E d 70 [.inr (.inr (.inl 83)), .inl x1] (jxSH, a0, b0) = some ([.inl (f_X4_isOpen a0 b0 x1)], (jxSH, a0, b0)) := by
  obtain ⟨d, rfl⟩ := jd_succ hd
  refine (bq_X4_isOpen E d x1 a0 b0).trans ?_
  unfold f_X4_isOpen
  refine eq_bI (eq_X4_has E d (jd_le hd rfl) x1 a0 b0) ?_
  have h153_ := f_X4_has_eq a0 b0 x1
  refine eq_iteI (fun hc1 => ?_) (fun hc1 => ?_)
  ·
    rfl
  ·
    refine eq_grd (by omega) ?_
    refine eq_iteI (fun hc2 => ?_) (fun hc2 => ?_)
    ·
      rfl
    ·
      rfl
theorem f_X4_isOpen_eq (a0 b0 : Nat → Nat → Int) (x1 : Int) : f_X4_isOpen a0 b0 x1 = (if f_X4_has a0 b0 x1 = 0 then 0 else (if a0 87 (x1.toNat) = 0 then 1 else 0)) := rfl
theorem f_X4_isOpen_bool (a0 b0 : Nat → Nat → Int) (x1 : Int) : f_X4_isOpen a0 b0 x1 = 0 ∨ f_X4_isOpen a0 b0 x1 = 1 := by
  unfold f_X4_isOpen
  refine bool_ite ?_ ?_
  ·
    exact Or.inl rfl
  ·
    refine bool_ite ?_ ?_
    ·
      exact Or.inr rfl
    ·
      exact Or.inl rfl
def f_X11_card (a0 b0 : Nat → Nat → Int) (x1 x2 : Int) : Int := (if x2 < 0 ∨ 6 < x2 then (-1) else (if x2 = 0 then (f_X0_fromOf a0 b0 x1) else (if x2 = 1 then (f_X0_toOf a0 b0 x1) else (if x2 = 2 then (f_X0_sentOnOf a0 b0 x1) else (if x2 = 3 then (f_X0_boundOf a0 b0 x1) else (if x2 = 4 then (f_X0_arrivedOnOf a0 b0 x1) else (if x2 = 5 then (f_X0_ringOf a0 b0 x1) else (if x2 = 6 then (f_X0_cancelledOnOf a0 b0 x1) else 0))))))))
theorem eq_X11_card (E : jxE) (d : Nat) (hd : Nat.ble 3 d = true) (x1 x2 : Int) (a0 b0 : Nat → Nat → Int) : jxC E d 179 [.inr (.inr (.inl 0)), .inl x1, .inl x2] (jxSH, a0, b0) = some ([.inl (f_X11_card a0 b0 x1 x2)], (jxSH, a0, b0)) := by
  obtain ⟨d, rfl⟩ := jd_succ hd
  refine (bq_X11_card E d x1 x2 a0 b0).trans ?_
  unfold f_X11_card
  refine eq_iteI (fun hc1 => ?_) (fun hc1 => ?_)
  ·
    rfl
  ·
    refine eq_iteI (fun hc2 => ?_) (fun hc2 => ?_)
    ·
      refine eq_bI (eq_X0_fromOf E d (jd_le hd rfl) x1 a0 b0) ?_
      rfl
    ·
      refine eq_iteI (fun hc3 => ?_) (fun hc3 => ?_)
      ·
        refine eq_bI (eq_X0_toOf E d (jd_le hd rfl) x1 a0 b0) ?_
        rfl
      ·
        refine eq_iteI (fun hc4 => ?_) (fun hc4 => ?_)
        ·
          refine eq_bI (eq_X0_sentOnOf E d (jd_le hd rfl) x1 a0 b0) ?_
          rfl
        ·
          refine eq_iteI (fun hc5 => ?_) (fun hc5 => ?_)
          ·
            refine eq_bI (eq_X0_boundOf E d (jd_le hd rfl) x1 a0 b0) ?_
            rfl
          ·
            refine eq_iteI (fun hc6 => ?_) (fun hc6 => ?_)
            ·
              refine eq_bI (eq_X0_arrivedOnOf E d (jd_le hd rfl) x1 a0 b0) ?_
              rfl
            ·
              refine eq_iteI (fun hc7 => ?_) (fun hc7 => ?_)
              ·
                refine eq_bI (eq_X0_ringOf E d (jd_le hd rfl) x1 a0 b0) ?_
                rfl
              ·
                refine eq_iteI (fun hc8 => ?_) (fun hc8 => ?_)
                ·
                  refine eq_bI (eq_X0_cancelledOnOf E d (jd_le hd rfl) x1 a0 b0) ?_
                  rfl
                ·
                  exact absurd (by omega : False) id
theorem f_X11_card_eq (a0 b0 : Nat → Nat → Int) (x1 x2 : Int) : f_X11_card a0 b0 x1 x2 = (if x2 < 0 ∨ 6 < x2 then (-1) else (if x2 = 0 then (f_X0_fromOf a0 b0 x1) else (if x2 = 1 then (f_X0_toOf a0 b0 x1) else (if x2 = 2 then (f_X0_sentOnOf a0 b0 x1) else (if x2 = 3 then (f_X0_boundOf a0 b0 x1) else (if x2 = 4 then (f_X0_arrivedOnOf a0 b0 x1) else (if x2 = 5 then (f_X0_ringOf a0 b0 x1) else (if x2 = 6 then (f_X0_cancelledOnOf a0 b0 x1) else 0)))))))) := rfl
def f_X11_isDay (a0 b0 : Nat → Nat → Int) (x0 : Int) : Int := (f_X11_within a0 b0 x0 0 1999)
theorem eq_X11_isDay (E : jxE) (d : Nat) (hd : Nat.ble 2 d = true) (x0 : Int) (a0 b0 : Nat → Nat → Int) : jxC E d 200 [.inl x0] (jxSH, a0, b0) = some ([.inl (f_X11_isDay a0 b0 x0)], (jxSH, a0, b0)) := by
  obtain ⟨d, rfl⟩ := jd_succ hd
  refine (bq_X11_isDay E d x0 a0 b0).trans ?_
  unfold f_X11_isDay
  refine eq_bI (eq_X11_within E d (jd_le hd rfl) x0 0 1999 a0 b0) ?_
  have h154_ := f_X11_within_eq a0 b0 x0 0 1999
  refine eq_grd (by omega) ?_
  rfl
theorem f_X11_isDay_eq (a0 b0 : Nat → Nat → Int) (x0 : Int) : f_X11_isDay a0 b0 x0 = (f_X11_within a0 b0 x0 0 1999) := rfl
theorem f_X11_isDay_bool (a0 b0 : Nat → Nat → Int) (x0 : Int) : f_X11_isDay a0 b0 x0 = 0 ∨ f_X11_isDay a0 b0 x0 = 1 := by
  unfold f_X11_isDay
  exact f_X11_within_bool _ _ _ _ _
def f_X11_entry_r84 (a0 b0 : Nat → Nat → Int) (x1 x2 : Int) : Int := (if x2 < 0 then (-1) else (if x2 < x1 then (if x2 < 20 then (a0 84 (x2.toNat)) else (-1)) else (-1)))
theorem eq_X11_entry_r84 (E : jxE) (d : Nat) (hd : Nat.ble 1 d = true) (x1 x2 : Int) (a0 b0 : Nat → Nat → Int) : jxC E d 202 [.inr (.inr (.inl 84)), .inl x1, .inl x2] (jxSH, a0, b0) = some ([.inl (f_X11_entry_r84 a0 b0 x1 x2)], (jxSH, a0, b0)) := by
  obtain ⟨d, rfl⟩ := jd_succ hd
  refine (bq_X11_entry_r84 E d x1 x2 a0 b0).trans ?_
  unfold f_X11_entry_r84
  refine eq_iteI (fun hc1 => ?_) (fun hc1 => ?_)
  ·
    rfl
  ·
    refine eq_iteI (fun hc2 => ?_) (fun hc2 => ?_)
    ·
      refine eq_iteI (fun hc3 => ?_) (fun hc3 => ?_)
      ·
        refine eq_grd (by omega) ?_
        rfl
      ·
        rfl
    ·
      rfl
theorem f_X11_entry_r84_eq (a0 b0 : Nat → Nat → Int) (x1 x2 : Int) : f_X11_entry_r84 a0 b0 x1 x2 = (if x2 < 0 then (-1) else (if x2 < x1 then (if x2 < 20 then (a0 84 (x2.toNat)) else (-1)) else (-1))) := rfl
def f_X4_memberOf (a0 b0 : Nat → Nat → Int) (x1 : Int) : Int := (f_X11_entry_r84 a0 b0 (a0 83 6) x1)
theorem eq_X4_memberOf (E : jxE) (d : Nat) (hd : Nat.ble 2 d = true) (x1 : Int) (a0 b0 : Nat → Nat → Int) : jxC E d 73 [.inr (.inr (.inl 83)), .inl x1] (jxSH, a0, b0) = some ([.inl (f_X4_memberOf a0 b0 x1)], (jxSH, a0, b0)) := by
  obtain ⟨d, rfl⟩ := jd_succ hd
  refine (bq_X4_memberOf E d x1 a0 b0).trans ?_
  unfold f_X4_memberOf
  refine eq_bI (eq_X11_entry_r84 E d (jd_le hd rfl) (a0 83 6) x1 a0 b0) ?_
  rfl
theorem f_X4_memberOf_eq (a0 b0 : Nat → Nat → Int) (x1 : Int) : f_X4_memberOf a0 b0 x1 = (f_X11_entry_r84 a0 b0 (a0 83 6) x1) := rfl
def f_X5_lengthOf (a0 b0 : Nat → Nat → Int) (x1 : Int) : Int := (if x1 < 0 then 0 else (if x1 < a0 90 12 then (if x1 < 6 then (a0 104 (x1.toNat)) else 0) else 0))
theorem eq_X5_lengthOf (E : jxE) (d : Nat) (hd : Nat.ble 1 d = true) (x1 : Int) (a0 b0 : Nat → Nat → Int) : jxC E d 80 [.inr (.inr (.inl 90)), .inl x1] (jxSH, a0, b0) = some ([.inl (f_X5_lengthOf a0 b0 x1)], (jxSH, a0, b0)) := by
  obtain ⟨d, rfl⟩ := jd_succ hd
  refine (bq_X5_lengthOf E d x1 a0 b0).trans ?_
  unfold f_X5_lengthOf
  refine eq_iteI (fun hc1 => ?_) (fun hc1 => ?_)
  ·
    rfl
  ·
    refine eq_iteI (fun hc2 => ?_) (fun hc2 => ?_)
    ·
      refine eq_iteI (fun hc3 => ?_) (fun hc3 => ?_)
      ·
        refine eq_grd (by omega) ?_
        rfl
      ·
        rfl
    ·
      rfl
theorem f_X5_lengthOf_eq (a0 b0 : Nat → Nat → Int) (x1 : Int) : f_X5_lengthOf a0 b0 x1 = (if x1 < 0 then 0 else (if x1 < a0 90 12 then (if x1 < 6 then (a0 104 (x1.toNat)) else 0) else 0)) := rfl
def f_X5_offerAt (a0 b0 : Nat → Nat → Int) (x1 x2 : Int) : Int := (if x2 < 0 then (-1) else (if x2 < f_X5_lengthOf a0 b0 x1 then (if x2 < 5 then (a0 97 ((x1.toNat) * 5 + (x2.toNat))) else (-1)) else (-1)))
theorem eq_X5_offerAt (E : jxE) (d : Nat) (hd : Nat.ble 2 d = true) (x1 x2 : Int) (a0 b0 : Nat → Nat → Int) : jxC E d 81 [.inr (.inr (.inl 90)), .inl x1, .inl x2] (jxSH, a0, b0) = some ([.inl (f_X5_offerAt a0 b0 x1 x2)], (jxSH, a0, b0)) := by
  obtain ⟨d, rfl⟩ := jd_succ hd
  refine (bq_X5_offerAt E d x1 x2 a0 b0).trans ?_
  unfold f_X5_offerAt
  refine eq_iteI (fun hc1 => ?_) (fun hc1 => ?_)
  ·
    rfl
  ·
    refine eq_bI (eq_X5_lengthOf E d (jd_le hd rfl) x1 a0 b0) ?_
    have h155_ := f_X5_lengthOf_eq a0 b0 x1
    refine eq_iteI (fun hc2 => ?_) (fun hc2 => ?_)
    ·
      refine eq_iteI (fun hc3 => ?_) (fun hc3 => ?_)
      ·
        refine eq_grd (by omega) ?_
        refine eq_grd (by omega) ?_
        refine eq_grd (by omega) ?_
        rfl
      ·
        rfl
    ·
      rfl
theorem f_X5_offerAt_eq (a0 b0 : Nat → Nat → Int) (x1 x2 : Int) : f_X5_offerAt a0 b0 x1 x2 = (if x2 < 0 then (-1) else (if x2 < f_X5_lengthOf a0 b0 x1 then (if x2 < 5 then (a0 97 ((x1.toNat) * 5 + (x2.toNat))) else (-1)) else (-1))) := rfl
def f_X11_entry_r143 (a0 b0 : Nat → Nat → Int) (x1 x2 : Int) : Int := (if x2 < 0 then (-1) else (if x2 < x1 then (if x2 < 8 then (a0 143 (x2.toNat)) else (-1)) else (-1)))
theorem eq_X11_entry_r143 (E : jxE) (d : Nat) (hd : Nat.ble 1 d = true) (x1 x2 : Int) (a0 b0 : Nat → Nat → Int) : jxC E d 202 [.inr (.inr (.inl 143)), .inl x1, .inl x2] (jxSH, a0, b0) = some ([.inl (f_X11_entry_r143 a0 b0 x1 x2)], (jxSH, a0, b0)) := by
  obtain ⟨d, rfl⟩ := jd_succ hd
  refine (bq_X11_entry_r143 E d x1 x2 a0 b0).trans ?_
  unfold f_X11_entry_r143
  refine eq_iteI (fun hc1 => ?_) (fun hc1 => ?_)
  ·
    rfl
  ·
    refine eq_iteI (fun hc2 => ?_) (fun hc2 => ?_)
    ·
      refine eq_iteI (fun hc3 => ?_) (fun hc3 => ?_)
      ·
        refine eq_grd (by omega) ?_
        rfl
      ·
        rfl
    ·
      rfl
theorem f_X11_entry_r143_eq (a0 b0 : Nat → Nat → Int) (x1 x2 : Int) : f_X11_entry_r143 a0 b0 x1 x2 = (if x2 < 0 then (-1) else (if x2 < x1 then (if x2 < 8 then (a0 143 (x2.toNat)) else (-1)) else (-1))) := rfl
def f_X1_manyOf (a0 b0 : Nat → Nat → Int) (x1 : Int) : Int := (f_X11_entry_r143 a0 b0 8 x1)
theorem eq_X1_manyOf (E : jxE) (d : Nat) (hd : Nat.ble 2 d = true) (x1 : Int) (a0 b0 : Nat → Nat → Int) : jxC E d 30 [.inr (.inr (.inl 141)), .inl x1] (jxSH, a0, b0) = some ([.inl (f_X1_manyOf a0 b0 x1)], (jxSH, a0, b0)) := by
  obtain ⟨d, rfl⟩ := jd_succ hd
  refine (bq_X1_manyOf E d x1 a0 b0).trans ?_
  unfold f_X1_manyOf
  refine eq_bI (eq_X11_entry_r143 E d (jd_le hd rfl) 8 x1 a0 b0) ?_
  rfl
theorem f_X1_manyOf_eq (a0 b0 : Nat → Nat → Int) (x1 : Int) : f_X1_manyOf a0 b0 x1 = (f_X11_entry_r143 a0 b0 8 x1) := rfl
def f_X11_entry_r142 (a0 b0 : Nat → Nat → Int) (x1 x2 : Int) : Int := (if x2 < 0 then (-1) else (if x2 < x1 then (if x2 < 8 then (a0 142 (x2.toNat)) else (-1)) else (-1)))
theorem eq_X11_entry_r142 (E : jxE) (d : Nat) (hd : Nat.ble 1 d = true) (x1 x2 : Int) (a0 b0 : Nat → Nat → Int) : jxC E d 202 [.inr (.inr (.inl 142)), .inl x1, .inl x2] (jxSH, a0, b0) = some ([.inl (f_X11_entry_r142 a0 b0 x1 x2)], (jxSH, a0, b0)) := by
  obtain ⟨d, rfl⟩ := jd_succ hd
  refine (bq_X11_entry_r142 E d x1 x2 a0 b0).trans ?_
  unfold f_X11_entry_r142
  refine eq_iteI (fun hc1 => ?_) (fun hc1 => ?_)
  ·
    rfl
  ·
    refine eq_iteI (fun hc2 => ?_) (fun hc2 => ?_)
    ·
      refine eq_iteI (fun hc3 => ?_) (fun hc3 => ?_)
      ·
        refine eq_grd (by omega) ?_
        rfl
      ·
        rfl
    ·
      rfl
theorem f_X11_entry_r142_eq (a0 b0 : Nat → Nat → Int) (x1 x2 : Int) : f_X11_entry_r142 a0 b0 x1 x2 = (if x2 < 0 then (-1) else (if x2 < x1 then (if x2 < 8 then (a0 142 (x2.toNat)) else (-1)) else (-1))) := rfl
def f_X1_valueOf (a0 b0 : Nat → Nat → Int) (x1 : Int) : Int := (f_X11_entry_r142 a0 b0 8 x1)
theorem eq_X1_valueOf (E : jxE) (d : Nat) (hd : Nat.ble 2 d = true) (x1 : Int) (a0 b0 : Nat → Nat → Int) : jxC E d 31 [.inr (.inr (.inl 141)), .inl x1] (jxSH, a0, b0) = some ([.inl (f_X1_valueOf a0 b0 x1)], (jxSH, a0, b0)) := by
  obtain ⟨d, rfl⟩ := jd_succ hd
  refine (bq_X1_valueOf E d x1 a0 b0).trans ?_
  unfold f_X1_valueOf
  refine eq_bI (eq_X11_entry_r142 E d (jd_le hd rfl) 8 x1 a0 b0) ?_
  rfl
theorem f_X1_valueOf_eq (a0 b0 : Nat → Nat → Int) (x1 : Int) : f_X1_valueOf a0 b0 x1 = (f_X11_entry_r142 a0 b0 8 x1) := rfl
def f_X11_countOfDrawer (a0 b0 : Nat → Nat → Int) (x1 : Int) : Int := (if f_X11_within a0 b0 x1 20 27 = 0 then (if f_X11_within a0 b0 x1 30 37 = 0 then (-1) else (f_X1_valueOf a0 b0 (jxw (x1 - 30)))) else (f_X1_manyOf a0 b0 (jxw (x1 - 20))))
theorem eq_X11_countOfDrawer (E : jxE) (d : Nat) (hd : Nat.ble 3 d = true) (x1 : Int) (a0 b0 : Nat → Nat → Int) : jxC E d 198 [.inr (.inr (.inl 0)), .inl x1] (jxSH, a0, b0) = some ([.inl (f_X11_countOfDrawer a0 b0 x1)], (jxSH, a0, b0)) := by
  obtain ⟨d, rfl⟩ := jd_succ hd
  refine (bq_X11_countOfDrawer E d x1 a0 b0).trans ?_
  unfold f_X11_countOfDrawer
  refine eq_bI (eq_X11_within E d (jd_le hd rfl) x1 20 27 a0 b0) ?_
  have h156_ := f_X11_within_eq a0 b0 x1 20 27
  refine eq_iteI (fun hc1 => ?_) (fun hc1 => ?_)
  ·
    refine eq_bI (eq_X11_within E d (jd_le hd rfl) x1 30 37 a0 b0) ?_
    have h157_ := f_X11_within_eq a0 b0 x1 30 37
    refine eq_iteI (fun hc2 => ?_) (fun hc2 => ?_)
    ·
      rfl
    ·
      refine eq_bI (eq_X1_valueOf E d (jd_le hd rfl) (jxw (x1 - 30)) a0 b0) ?_
      rfl
  ·
    refine eq_bI (eq_X1_manyOf E d (jd_le hd rfl) (jxw (x1 - 20)) a0 b0) ?_
    rfl
theorem f_X11_countOfDrawer_eq (a0 b0 : Nat → Nat → Int) (x1 : Int) : f_X11_countOfDrawer a0 b0 x1 = (if f_X11_within a0 b0 x1 20 27 = 0 then (if f_X11_within a0 b0 x1 30 37 = 0 then (-1) else (f_X1_valueOf a0 b0 (jxw (x1 - 30)))) else (f_X1_manyOf a0 b0 (jxw (x1 - 20)))) := rfl
def f_X4_ringsClosed (a0 b0 : Nat → Nat → Int) : Int := (a0 83 7)
theorem eq_X4_ringsClosed (E : jxE) (d : Nat) (hd : Nat.ble 1 d = true) (a0 b0 : Nat → Nat → Int) : jxC E d 64 [.inr (.inr (.inl 83))] (jxSH, a0, b0) = some ([.inl (f_X4_ringsClosed a0 b0)], (jxSH, a0, b0)) := by
  obtain ⟨d, rfl⟩ := jd_succ hd
  refine (bq_X4_ringsClosed E d a0 b0).trans ?_
  unfold f_X4_ringsClosed
  rfl
theorem f_X4_ringsClosed_eq (a0 b0 : Nat → Nat → Int) : f_X4_ringsClosed a0 b0 = (a0 83 7) := rfl
def f_X4_size (a0 b0 : Nat → Nat → Int) : Int := (a0 83 6)
theorem eq_X4_size (E : jxE) (d : Nat) (hd : Nat.ble 1 d = true) (a0 b0 : Nat → Nat → Int) : jxC E d 63 [.inr (.inr (.inl 83))] (jxSH, a0, b0) = some ([.inl (f_X4_size a0 b0)], (jxSH, a0, b0)) := by
  obtain ⟨d, rfl⟩ := jd_succ hd
  refine (bq_X4_size E d a0 b0).trans ?_
  unfold f_X4_size
  rfl
theorem f_X4_size_eq (a0 b0 : Nat → Nat → Int) : f_X4_size a0 b0 = (a0 83 6) := rfl
def f_X8_length (a0 b0 : Nat → Nat → Int) : Int := (a0 2 1)
theorem eq_X8_length (E : jxE) (d : Nat) (hd : Nat.ble 1 d = true) (a0 b0 : Nat → Nat → Int) : jxC E d 117 [.inr (.inr (.inl 2))] (jxSH, a0, b0) = some ([.inl (f_X8_length a0 b0)], (jxSH, a0, b0)) := by
  obtain ⟨d, rfl⟩ := jd_succ hd
  refine (bq_X8_length E d a0 b0).trans ?_
  unfold f_X8_length
  rfl
theorem f_X8_length_eq (a0 b0 : Nat → Nat → Int) : f_X8_length a0 b0 = (a0 2 1) := rfl
def f_X9_size (a0 b0 : Nat → Nat → Int) : Int := (a0 105 5)
theorem eq_X9_size (E : jxE) (d : Nat) (hd : Nat.ble 1 d = true) (a0 b0 : Nat → Nat → Int) : jxC E d 133 [.inr (.inr (.inl 105))] (jxSH, a0, b0) = some ([.inl (f_X9_size a0 b0)], (jxSH, a0, b0)) := by
  obtain ⟨d, rfl⟩ := jd_succ hd
  refine (bq_X9_size E d a0 b0).trans ?_
  unfold f_X9_size
  rfl
theorem f_X9_size_eq (a0 b0 : Nat → Nat → Int) : f_X9_size a0 b0 = (a0 105 5) := rfl
def f_X11_entry_r89 (a0 b0 : Nat → Nat → Int) (x1 x2 : Int) : Int := (if x2 < 0 then (-1) else (if x2 < x1 then (if x2 < 20 then (a0 89 (x2.toNat)) else (-1)) else (-1)))
theorem eq_X11_entry_r89 (E : jxE) (d : Nat) (hd : Nat.ble 1 d = true) (x1 x2 : Int) (a0 b0 : Nat → Nat → Int) : jxC E d 202 [.inr (.inr (.inl 89)), .inl x1, .inl x2] (jxSH, a0, b0) = some ([.inl (f_X11_entry_r89 a0 b0 x1 x2)], (jxSH, a0, b0)) := by
  obtain ⟨d, rfl⟩ := jd_succ hd
  refine (bq_X11_entry_r89 E d x1 x2 a0 b0).trans ?_
  unfold f_X11_entry_r89
  refine eq_iteI (fun hc1 => ?_) (fun hc1 => ?_)
  ·
    rfl
  ·
    refine eq_iteI (fun hc2 => ?_) (fun hc2 => ?_)
    ·
      refine eq_iteI (fun hc3 => ?_) (fun hc3 => ?_)
      ·
        refine eq_grd (by omega) ?_
        rfl
      ·
        rfl
    ·
      rfl
theorem f_X11_entry_r89_eq (a0 b0 : Nat → Nat → Int) (x1 x2 : Int) : f_X11_entry_r89 a0 b0 x1 x2 = (if x2 < 0 then (-1) else (if x2 < x1 then (if x2 < 20 then (a0 89 (x2.toNat)) else (-1)) else (-1))) := rfl
def f_X4_cardOf (a0 b0 : Nat → Nat → Int) (x1 : Int) : Int := (f_X11_entry_r89 a0 b0 (a0 83 6) x1)
theorem eq_X4_cardOf (E : jxE) (d : Nat) (hd : Nat.ble 2 d = true) (x1 : Int) (a0 b0 : Nat → Nat → Int) : jxC E d 78 [.inr (.inr (.inl 83)), .inl x1] (jxSH, a0, b0) = some ([.inl (f_X4_cardOf a0 b0 x1)], (jxSH, a0, b0)) := by
  obtain ⟨d, rfl⟩ := jd_succ hd
  refine (bq_X4_cardOf E d x1 a0 b0).trans ?_
  unfold f_X4_cardOf
  refine eq_bI (eq_X11_entry_r89 E d (jd_le hd rfl) (a0 83 6) x1 a0 b0) ?_
  rfl
theorem f_X4_cardOf_eq (a0 b0 : Nat → Nat → Int) (x1 : Int) : f_X4_cardOf a0 b0 x1 = (f_X11_entry_r89 a0 b0 (a0 83 6) x1) := rfl
def f_X4_isInRing (a0 b0 : Nat → Nat → Int) (x1 : Int) : Int := (if f_X4_has a0 b0 x1 = 0 then 0 else (if a0 87 (x1.toNat) = 1 then 1 else 0))
theorem eq_X4_isInRing (E : jxE) (d : Nat) (hd : Nat.ble 2 d = true) (x1 : Int) (a0 b0 : Nat → Nat → Int) : jxC E d 71 [.inr (.inr (.inl 83)), .inl x1] (jxSH, a0, b0) = some ([.inl (f_X4_isInRing a0 b0 x1)], (jxSH, a0, b0)) := by
  obtain ⟨d, rfl⟩ := jd_succ hd
  refine (bq_X4_isInRing E d x1 a0 b0).trans ?_
  unfold f_X4_isInRing
  refine eq_bI (eq_X4_has E d (jd_le hd rfl) x1 a0 b0) ?_
  have h158_ := f_X4_has_eq a0 b0 x1
  refine eq_iteI (fun hc1 => ?_) (fun hc1 => ?_)
  ·
    rfl
  ·
    refine eq_grd (by omega) ?_
    refine eq_iteI (fun hc2 => ?_) (fun hc2 => ?_)
    ·
      rfl
    ·
      rfl
theorem f_X4_isInRing_eq (a0 b0 : Nat → Nat → Int) (x1 : Int) : f_X4_isInRing a0 b0 x1 = (if f_X4_has a0 b0 x1 = 0 then 0 else (if a0 87 (x1.toNat) = 1 then 1 else 0)) := rfl
theorem f_X4_isInRing_bool (a0 b0 : Nat → Nat → Int) (x1 : Int) : f_X4_isInRing a0 b0 x1 = 0 ∨ f_X4_isInRing a0 b0 x1 = 1 := by
  unfold f_X4_isInRing
  refine bool_ite ?_ ?_
  ·
    exact Or.inl rfl
  ·
    refine bool_ite ?_ ?_
    ·
      exact Or.inr rfl
    ·
      exact Or.inl rfl
def f_X11_entry_r144 (a0 b0 : Nat → Nat → Int) (x1 x2 : Int) : Int := (if x2 < 0 then (-1) else (if x2 < x1 then (if x2 < 8 then (a0 144 (x2.toNat)) else (-1)) else (-1)))
theorem eq_X11_entry_r144 (E : jxE) (d : Nat) (hd : Nat.ble 1 d = true) (x1 x2 : Int) (a0 b0 : Nat → Nat → Int) : jxC E d 202 [.inr (.inr (.inl 144)), .inl x1, .inl x2] (jxSH, a0, b0) = some ([.inl (f_X11_entry_r144 a0 b0 x1 x2)], (jxSH, a0, b0)) := by
  obtain ⟨d, rfl⟩ := jd_succ hd
  refine (bq_X11_entry_r144 E d x1 x2 a0 b0).trans ?_
  unfold f_X11_entry_r144
  refine eq_iteI (fun hc1 => ?_) (fun hc1 => ?_)
  ·
    rfl
  ·
    refine eq_iteI (fun hc2 => ?_) (fun hc2 => ?_)
    ·
      refine eq_iteI (fun hc3 => ?_) (fun hc3 => ?_)
      ·
        refine eq_grd (by omega) ?_
        rfl
      ·
        rfl
    ·
      rfl
theorem f_X11_entry_r144_eq (a0 b0 : Nat → Nat → Int) (x1 x2 : Int) : f_X11_entry_r144 a0 b0 x1 x2 = (if x2 < 0 then (-1) else (if x2 < x1 then (if x2 < 8 then (a0 144 (x2.toNat)) else (-1)) else (-1))) := rfl
def f_X11_entry_r85 (a0 b0 : Nat → Nat → Int) (x1 x2 : Int) : Int := (if x2 < 0 then (-1) else (if x2 < x1 then (if x2 < 20 then (a0 85 (x2.toNat)) else (-1)) else (-1)))
theorem eq_X11_entry_r85 (E : jxE) (d : Nat) (hd : Nat.ble 1 d = true) (x1 x2 : Int) (a0 b0 : Nat → Nat → Int) : jxC E d 202 [.inr (.inr (.inl 85)), .inl x1, .inl x2] (jxSH, a0, b0) = some ([.inl (f_X11_entry_r85 a0 b0 x1 x2)], (jxSH, a0, b0)) := by
  obtain ⟨d, rfl⟩ := jd_succ hd
  refine (bq_X11_entry_r85 E d x1 x2 a0 b0).trans ?_
  unfold f_X11_entry_r85
  refine eq_iteI (fun hc1 => ?_) (fun hc1 => ?_)
  ·
    rfl
  ·
    refine eq_iteI (fun hc2 => ?_) (fun hc2 => ?_)
    ·
      refine eq_iteI (fun hc3 => ?_) (fun hc3 => ?_)
      ·
        refine eq_grd (by omega) ?_
        rfl
      ·
        rfl
    ·
      rfl
theorem f_X11_entry_r85_eq (a0 b0 : Nat → Nat → Int) (x1 x2 : Int) : f_X11_entry_r85 a0 b0 x1 x2 = (if x2 < 0 then (-1) else (if x2 < x1 then (if x2 < 20 then (a0 85 (x2.toNat)) else (-1)) else (-1))) := rfl
def f_X11_entry_r87 (a0 b0 : Nat → Nat → Int) (x1 x2 : Int) : Int := (if x2 < 0 then (-1) else (if x2 < x1 then (if x2 < 20 then (a0 87 (x2.toNat)) else (-1)) else (-1)))
theorem eq_X11_entry_r87 (E : jxE) (d : Nat) (hd : Nat.ble 1 d = true) (x1 x2 : Int) (a0 b0 : Nat → Nat → Int) : jxC E d 202 [.inr (.inr (.inl 87)), .inl x1, .inl x2] (jxSH, a0, b0) = some ([.inl (f_X11_entry_r87 a0 b0 x1 x2)], (jxSH, a0, b0)) := by
  obtain ⟨d, rfl⟩ := jd_succ hd
  refine (bq_X11_entry_r87 E d x1 x2 a0 b0).trans ?_
  unfold f_X11_entry_r87
  refine eq_iteI (fun hc1 => ?_) (fun hc1 => ?_)
  ·
    rfl
  ·
    refine eq_iteI (fun hc2 => ?_) (fun hc2 => ?_)
    ·
      refine eq_iteI (fun hc3 => ?_) (fun hc3 => ?_)
      ·
        refine eq_grd (by omega) ?_
        rfl
      ·
        rfl
    ·
      rfl
theorem f_X11_entry_r87_eq (a0 b0 : Nat → Nat → Int) (x1 x2 : Int) : f_X11_entry_r87 a0 b0 x1 x2 = (if x2 < 0 then (-1) else (if x2 < x1 then (if x2 < 20 then (a0 87 (x2.toNat)) else (-1)) else (-1))) := rfl
def f_X11_entry_r88 (a0 b0 : Nat → Nat → Int) (x1 x2 : Int) : Int := (if x2 < 0 then (-1) else (if x2 < x1 then (if x2 < 20 then (a0 88 (x2.toNat)) else (-1)) else (-1)))
theorem eq_X11_entry_r88 (E : jxE) (d : Nat) (hd : Nat.ble 1 d = true) (x1 x2 : Int) (a0 b0 : Nat → Nat → Int) : jxC E d 202 [.inr (.inr (.inl 88)), .inl x1, .inl x2] (jxSH, a0, b0) = some ([.inl (f_X11_entry_r88 a0 b0 x1 x2)], (jxSH, a0, b0)) := by
  obtain ⟨d, rfl⟩ := jd_succ hd
  refine (bq_X11_entry_r88 E d x1 x2 a0 b0).trans ?_
  unfold f_X11_entry_r88
  refine eq_iteI (fun hc1 => ?_) (fun hc1 => ?_)
  ·
    rfl
  ·
    refine eq_iteI (fun hc2 => ?_) (fun hc2 => ?_)
    ·
      refine eq_iteI (fun hc3 => ?_) (fun hc3 => ?_)
      ·
        refine eq_grd (by omega) ?_
        rfl
      ·
        rfl
    ·
      rfl
theorem f_X11_entry_r88_eq (a0 b0 : Nat → Nat → Int) (x1 x2 : Int) : f_X11_entry_r88 a0 b0 x1 x2 = (if x2 < 0 then (-1) else (if x2 < x1 then (if x2 < 20 then (a0 88 (x2.toNat)) else (-1)) else (-1))) := rfl
def f_X11_isLand (a0 b0 : Nat → Nat → Int) (x0 : Int) : Int := (f_X11_within a0 b0 x0 0 15)
theorem eq_X11_isLand (E : jxE) (d : Nat) (hd : Nat.ble 2 d = true) (x0 : Int) (a0 b0 : Nat → Nat → Int) : jxC E d 201 [.inl x0] (jxSH, a0, b0) = some ([.inl (f_X11_isLand a0 b0 x0)], (jxSH, a0, b0)) := by
  obtain ⟨d, rfl⟩ := jd_succ hd
  refine (bq_X11_isLand E d x0 a0 b0).trans ?_
  unfold f_X11_isLand
  refine eq_bI (eq_X11_within E d (jd_le hd rfl) x0 0 15 a0 b0) ?_
  have h159_ := f_X11_within_eq a0 b0 x0 0 15
  refine eq_grd (by omega) ?_
  rfl
theorem f_X11_isLand_eq (a0 b0 : Nat → Nat → Int) (x0 : Int) : f_X11_isLand a0 b0 x0 = (f_X11_within a0 b0 x0 0 15) := rfl
theorem f_X11_isLand_bool (a0 b0 : Nat → Nat → Int) (x0 : Int) : f_X11_isLand a0 b0 x0 = 0 ∨ f_X11_isLand a0 b0 x0 = 1 := by
  unfold f_X11_isLand
  exact f_X11_within_bool _ _ _ _ _
def f_X8_hasRoom (a0 b0 : Nat → Nat → Int) (x1 : Int) : Int := (if jxw (200 - (a0 2 1)) < x1 then 0 else 1)
theorem eq_X8_hasRoom (E : jxE) (d : Nat) (hd : Nat.ble 1 d = true) (x1 : Int) (a0 b0 : Nat → Nat → Int) : jxC E d 118 [.inr (.inr (.inl 2)), .inl x1] (jxSH, a0, b0) = some ([.inl (f_X8_hasRoom a0 b0 x1)], (jxSH, a0, b0)) := by
  obtain ⟨d, rfl⟩ := jd_succ hd
  refine (bq_X8_hasRoom E d x1 a0 b0).trans ?_
  unfold f_X8_hasRoom
  have h160_ := jxw_im (200 - (a0 2 1))
  have h161_ := jxw_rg (200 - (a0 2 1))
  refine eq_iteI (fun hc1 => ?_) (fun hc1 => ?_)
  ·
    rfl
  ·
    rfl
theorem f_X8_hasRoom_eq (a0 b0 : Nat → Nat → Int) (x1 : Int) : f_X8_hasRoom a0 b0 x1 = (if jxw (200 - (a0 2 1)) < x1 then 0 else 1) := rfl
theorem f_X8_hasRoom_bool (a0 b0 : Nat → Nat → Int) (x1 : Int) : f_X8_hasRoom a0 b0 x1 = 0 ∨ f_X8_hasRoom a0 b0 x1 = 1 := by
  unfold f_X8_hasRoom
  refine bool_ite ?_ ?_
  ·
    exact Or.inl rfl
  ·
    exact Or.inr rfl
def f_X2_shiftOf (a0 b0 : Nat → Nat → Int) (x0 : Int) : Int := (jxw (6 * (jxw (7 - x0))))
theorem eq_X2_shiftOf (E : jxE) (d : Nat) (hd : Nat.ble 1 d = true) (x0 : Int) (a0 b0 : Nat → Nat → Int) : jxC E d 48 [.inl x0] (jxSH, a0, b0) = some ([.inl (f_X2_shiftOf a0 b0 x0)], (jxSH, a0, b0)) := by
  obtain ⟨d, rfl⟩ := jd_succ hd
  refine (bq_X2_shiftOf E d x0 a0 b0).trans ?_
  unfold f_X2_shiftOf
  rfl
theorem f_X2_shiftOf_eq (a0 b0 : Nat → Nat → Int) (x0 : Int) : f_X2_shiftOf a0 b0 x0 = (jxw (6 * (jxw (7 - x0)))) := rfl
def f_X2_receiverOf_at30 (a0 b0 : Nat → Nat → Int) (y2 : Int) : Int := (if y2 = 40 then (-1) else y2)
theorem eq_X2_receiverOf_30 (E : jxE) (d : Nat) (hd : Nat.ble 2 (d + 1) = true) (y2 : Int) (a0 b0 : Nat → Nat → Int) : jxX E d 47 30 [none, none, some (.inl y2)] [] (jxSH, a0, b0) = some ([.inl (f_X2_receiverOf_at30 a0 b0 y2)], (jxSH, a0, b0)) := by
  refine (bq_X2_receiverOf_30 E d y2 a0 b0).trans ?_
  unfold f_X2_receiverOf_at30
  refine eq_iteI (fun hc1 => ?_) (fun hc1 => ?_)
  ·
    rfl
  ·
    rfl
def f_X2_receiverOf (a0 b0 : Nat → Nat → Int) (x1 : Int) : Int := (if f_X11_within a0 b0 x1 0 (jxw ((a0 79 3) - 1)) = 0 then (-1) else (f_X2_receiverOf_at30 a0 b0 (jxand (jxw (jxshrl (b0 79 4) (f_X2_shiftOf a0 b0 x1))) 63)))
theorem eq_X2_receiverOf (E : jxE) (d : Nat) (hd : Nat.ble 2 d = true) (x1 : Int) (a0 b0 : Nat → Nat → Int) : jxC E d 47 [.inr (.inr (.inl 79)), .inl x1] (jxSH, a0, b0) = some ([.inl (f_X2_receiverOf a0 b0 x1)], (jxSH, a0, b0)) := by
  obtain ⟨d, rfl⟩ := jd_succ hd
  refine (bq_X2_receiverOf E d x1 a0 b0).trans ?_
  unfold f_X2_receiverOf
  refine eq_bI (eq_X11_within E d (jd_le hd rfl) x1 0 (jxw ((a0 79 3) - 1)) a0 b0) ?_
  have h162_ := jxw_im ((a0 79 3) - 1)
  have h163_ := jxw_rg ((a0 79 3) - 1)
  have h164_ := f_X11_within_eq a0 b0 x1 0 (jxw ((a0 79 3) - 1))
  refine eq_iteI (fun hc1 => ?_) (fun hc1 => ?_)
  ·
    rfl
  ·
    refine eq_bI (eq_X2_shiftOf E d (jd_le hd rfl) x1 a0 b0) ?_
    exact eq_X2_receiverOf_30 E d hd (jxand (jxw (jxshrl (b0 79 4) (f_X2_shiftOf a0 b0 x1))) 63) a0 b0
theorem f_X2_receiverOf_eq (a0 b0 : Nat → Nat → Int) (x1 : Int) : f_X2_receiverOf a0 b0 x1 = (if f_X11_within a0 b0 x1 0 (jxw ((a0 79 3) - 1)) = 0 then (-1) else (f_X2_receiverOf_at30 a0 b0 (jxand (jxw (jxshrl (b0 79 4) (f_X2_shiftOf a0 b0 x1))) 63))) := rfl
def f_X4_conditionOf (a0 b0 : Nat → Nat → Int) (x1 : Int) : Int := (f_X11_entry_r87 a0 b0 (a0 83 6) x1)
theorem eq_X4_conditionOf (E : jxE) (d : Nat) (hd : Nat.ble 2 d = true) (x1 : Int) (a0 b0 : Nat → Nat → Int) : jxC E d 76 [.inr (.inr (.inl 83)), .inl x1] (jxSH, a0, b0) = some ([.inl (f_X4_conditionOf a0 b0 x1)], (jxSH, a0, b0)) := by
  obtain ⟨d, rfl⟩ := jd_succ hd
  refine (bq_X4_conditionOf E d x1 a0 b0).trans ?_
  unfold f_X4_conditionOf
  refine eq_bI (eq_X11_entry_r87 E d (jd_le hd rfl) (a0 83 6) x1 a0 b0) ?_
  rfl
theorem f_X4_conditionOf_eq (a0 b0 : Nat → Nat → Int) (x1 : Int) : f_X4_conditionOf a0 b0 x1 = (f_X11_entry_r87 a0 b0 (a0 83 6) x1) := rfl
def f_X4_kindOf (a0 b0 : Nat → Nat → Int) (x1 : Int) : Int := (f_X11_entry_r85 a0 b0 (a0 83 6) x1)
theorem eq_X4_kindOf (E : jxE) (d : Nat) (hd : Nat.ble 2 d = true) (x1 : Int) (a0 b0 : Nat → Nat → Int) : jxC E d 74 [.inr (.inr (.inl 83)), .inl x1] (jxSH, a0, b0) = some ([.inl (f_X4_kindOf a0 b0 x1)], (jxSH, a0, b0)) := by
  obtain ⟨d, rfl⟩ := jd_succ hd
  refine (bq_X4_kindOf E d x1 a0 b0).trans ?_
  unfold f_X4_kindOf
  refine eq_bI (eq_X11_entry_r85 E d (jd_le hd rfl) (a0 83 6) x1 a0 b0) ?_
  rfl
theorem f_X4_kindOf_eq (a0 b0 : Nat → Nat → Int) (x1 : Int) : f_X4_kindOf a0 b0 x1 = (f_X11_entry_r85 a0 b0 (a0 83 6) x1) := rfl
def f_X4_ringOf (a0 b0 : Nat → Nat → Int) (x1 : Int) : Int := (f_X11_entry_r88 a0 b0 (a0 83 6) x1)
theorem eq_X4_ringOf (E : jxE) (d : Nat) (hd : Nat.ble 2 d = true) (x1 : Int) (a0 b0 : Nat → Nat → Int) : jxC E d 77 [.inr (.inr (.inl 83)), .inl x1] (jxSH, a0, b0) = some ([.inl (f_X4_ringOf a0 b0 x1)], (jxSH, a0, b0)) := by
  obtain ⟨d, rfl⟩ := jd_succ hd
  refine (bq_X4_ringOf E d x1 a0 b0).trans ?_
  unfold f_X4_ringOf
  refine eq_bI (eq_X11_entry_r88 E d (jd_le hd rfl) (a0 83 6) x1 a0 b0) ?_
  rfl
theorem f_X4_ringOf_eq (a0 b0 : Nat → Nat → Int) (x1 : Int) : f_X4_ringOf a0 b0 x1 = (f_X11_entry_r88 a0 b0 (a0 83 6) x1) := rfl
def f_X4_wantsOf (a0 b0 : Nat → Nat → Int) (x1 : Int) : Int := (if f_X4_has a0 b0 x1 = 0 then 0 else (a0 86 (x1.toNat)))
theorem eq_X4_wantsOf (E : jxE) (d : Nat) (hd : Nat.ble 2 d = true) (x1 : Int) (a0 b0 : Nat → Nat → Int) : jxC E d 75 [.inr (.inr (.inl 83)), .inl x1] (jxSH, a0, b0) = some ([.inl (f_X4_wantsOf a0 b0 x1)], (jxSH, a0, b0)) := by
  obtain ⟨d, rfl⟩ := jd_succ hd
  refine (bq_X4_wantsOf E d x1 a0 b0).trans ?_
  unfold f_X4_wantsOf
  refine eq_bI (eq_X4_has E d (jd_le hd rfl) x1 a0 b0) ?_
  have h165_ := f_X4_has_eq a0 b0 x1
  refine eq_iteI (fun hc1 => ?_) (fun hc1 => ?_)
  ·
    rfl
  ·
    refine eq_grd (by omega) ?_
    rfl
theorem f_X4_wantsOf_eq (a0 b0 : Nat → Nat → Int) (x1 : Int) : f_X4_wantsOf a0 b0 x1 = (if f_X4_has a0 b0 x1 = 0 then 0 else (a0 86 (x1.toNat))) := rfl
def f_X11_offers (a0 b0 : Nat → Nat → Int) (x1 x2 : Int) : Int := (if x2 < 0 ∨ 4 < x2 then (-1) else (if x2 = 0 then (f_X4_memberOf a0 b0 x1) else (if x2 = 1 then (f_X4_kindOf a0 b0 x1) else (if x2 = 2 then (if f_X4_has a0 b0 x1 = 0 then (-1) else (f_X4_wantsOf a0 b0 x1)) else (if x2 = 3 then (f_X4_conditionOf a0 b0 x1) else (if x2 = 4 then (f_X4_ringOf a0 b0 x1) else 0))))))
theorem eq_X11_offers (E : jxE) (d : Nat) (hd : Nat.ble 3 d = true) (x1 x2 : Int) (a0 b0 : Nat → Nat → Int) : jxC E d 190 [.inr (.inr (.inl 0)), .inl x1, .inl x2] (jxSH, a0, b0) = some ([.inl (f_X11_offers a0 b0 x1 x2)], (jxSH, a0, b0)) := by
  obtain ⟨d, rfl⟩ := jd_succ hd
  refine (bq_X11_offers E d x1 x2 a0 b0).trans ?_
  unfold f_X11_offers
  refine eq_iteI (fun hc1 => ?_) (fun hc1 => ?_)
  ·
    rfl
  ·
    refine eq_iteI (fun hc2 => ?_) (fun hc2 => ?_)
    ·
      refine eq_bI (eq_X4_memberOf E d (jd_le hd rfl) x1 a0 b0) ?_
      rfl
    ·
      refine eq_iteI (fun hc3 => ?_) (fun hc3 => ?_)
      ·
        refine eq_bI (eq_X4_kindOf E d (jd_le hd rfl) x1 a0 b0) ?_
        rfl
      ·
        refine eq_iteI (fun hc4 => ?_) (fun hc4 => ?_)
        ·
          refine eq_bI (eq_X4_has E d (jd_le hd rfl) x1 a0 b0) ?_
          have h166_ := f_X4_has_eq a0 b0 x1
          refine eq_iteI (fun hc5 => ?_) (fun hc5 => ?_)
          ·
            rfl
          ·
            refine eq_bI (eq_X4_wantsOf E d (jd_le hd rfl) x1 a0 b0) ?_
            rfl
        ·
          refine eq_iteI (fun hc5 => ?_) (fun hc5 => ?_)
          ·
            refine eq_bI (eq_X4_conditionOf E d (jd_le hd rfl) x1 a0 b0) ?_
            rfl
          ·
            refine eq_iteI (fun hc6 => ?_) (fun hc6 => ?_)
            ·
              refine eq_bI (eq_X4_ringOf E d (jd_le hd rfl) x1 a0 b0) ?_
              rfl
            ·
              exact absurd (by omega : False) id
theorem f_X11_offers_eq (a0 b0 : Nat → Nat → Int) (x1 x2 : Int) : f_X11_offers a0 b0 x1 x2 = (if x2 < 0 ∨ 4 < x2 then (-1) else (if x2 = 0 then (f_X4_memberOf a0 b0 x1) else (if x2 = 1 then (f_X4_kindOf a0 b0 x1) else (if x2 = 2 then (if f_X4_has a0 b0 x1 = 0 then (-1) else (f_X4_wantsOf a0 b0 x1)) else (if x2 = 3 then (f_X4_conditionOf a0 b0 x1) else (if x2 = 4 then (f_X4_ringOf a0 b0 x1) else 0)))))) := rfl
def f_X1_wentOf (a0 b0 : Nat → Nat → Int) (x1 : Int) : Int := (f_X11_entry_r144 a0 b0 8 x1)
theorem eq_X1_wentOf (E : jxE) (d : Nat) (hd : Nat.ble 2 d = true) (x1 : Int) (a0 b0 : Nat → Nat → Int) : jxC E d 32 [.inr (.inr (.inl 141)), .inl x1] (jxSH, a0, b0) = some ([.inl (f_X1_wentOf a0 b0 x1)], (jxSH, a0, b0)) := by
  obtain ⟨d, rfl⟩ := jd_succ hd
  refine (bq_X1_wentOf E d x1 a0 b0).trans ?_
  unfold f_X1_wentOf
  refine eq_bI (eq_X11_entry_r144 E d (jd_le hd rfl) 8 x1 a0 b0) ?_
  rfl
theorem f_X1_wentOf_eq (a0 b0 : Nat → Nat → Int) (x1 : Int) : f_X1_wentOf a0 b0 x1 = (f_X11_entry_r144 a0 b0 8 x1) := rfl
def f_X11_paid (a0 b0 : Nat → Nat → Int) (x1 : Int) : Int := (f_X1_wentOf a0 b0 x1)
theorem eq_X11_paid (E : jxE) (d : Nat) (hd : Nat.ble 3 d = true) (x1 : Int) (a0 b0 : Nat → Nat → Int) : jxC E d 195 [.inr (.inr (.inl 0)), .inl x1] (jxSH, a0, b0) = some ([.inl (f_X11_paid a0 b0 x1)], (jxSH, a0, b0)) := by
  obtain ⟨d, rfl⟩ := jd_succ hd
  refine (bq_X11_paid E d x1 a0 b0).trans ?_
  unfold f_X11_paid
  refine eq_bI (eq_X1_wentOf E d (jd_le hd rfl) x1 a0 b0) ?_
  rfl
theorem f_X11_paid_eq (a0 b0 : Nat → Nat → Int) (x1 : Int) : f_X11_paid a0 b0 x1 = (f_X1_wentOf a0 b0 x1) := rfl
def f_X11_zone_at33 (a0 b0 : Nat → Nat → Int) (y3 : Int) : Int := (if y3 < 20 then 1 else (if y3 < 50 then 2 else 3))
theorem eq_X11_zone_33 (E : jxE) (d : Nat) (hd : Nat.ble 3 (d + 1) = true) (y3 : Int) (a0 b0 : Nat → Nat → Int) : jxX E d 196 33 [none, none, none, some (.inl y3)] [] (jxSH, a0, b0) = some ([.inl (f_X11_zone_at33 a0 b0 y3)], (jxSH, a0, b0)) := by
  refine (bq_X11_zone_33 E d y3 a0 b0).trans ?_
  unfold f_X11_zone_at33
  refine eq_iteI (fun hc1 => ?_) (fun hc1 => ?_)
  ·
    rfl
  ·
    refine eq_iteI (fun hc2 => ?_) (fun hc2 => ?_)
    ·
      rfl
    ·
      rfl
def f_X11_zone (a0 b0 : Nat → Nat → Int) (x1 x2 : Int) : Int := (if x1 = x2 then 0 else (if f_X11_isLand a0 b0 x1 = 0 then 0 else (if f_X11_isLand a0 b0 x2 = 0 then 0 else (f_X11_zone_at33 a0 b0 (a0 1 ((jxw ((jxw (x1 * 16)) + x2)).toNat))))))
theorem eq_X11_zone (E : jxE) (d : Nat) (hd : Nat.ble 3 d = true) (x1 x2 : Int) (a0 b0 : Nat → Nat → Int) : jxC E d 196 [.inr (.inr (.inl 0)), .inl x1, .inl x2] (jxSH, a0, b0) = some ([.inl (f_X11_zone a0 b0 x1 x2)], (jxSH, a0, b0)) := by
  obtain ⟨d, rfl⟩ := jd_succ hd
  refine (bq_X11_zone E d x1 x2 a0 b0).trans ?_
  unfold f_X11_zone
  refine eq_iteI (fun hc1 => ?_) (fun hc1 => ?_)
  ·
    rfl
  ·
    refine eq_bI (eq_X11_isLand E d (jd_le hd rfl) x1 a0 b0) ?_
    have h167_ := f_X11_isLand_eq a0 b0 x1
    have h168_ := f_X11_within_eq a0 b0 x1 0 15
    refine eq_iteI (fun hc2 => ?_) (fun hc2 => ?_)
    ·
      rfl
    ·
      refine eq_bI (eq_X11_isLand E d (jd_le hd rfl) x2 a0 b0) ?_
      have h169_ := f_X11_isLand_eq a0 b0 x2
      have h170_ := f_X11_within_eq a0 b0 x2 0 15
      refine eq_iteI (fun hc3 => ?_) (fun hc3 => ?_)
      ·
        rfl
      ·
        have h171_ : jxw (x1 * 16) = x1 * 16 := jxw_id (by omega) (by omega)
        have h172_ : jxw ((jxw (x1 * 16)) + x2) = (jxw (x1 * 16)) + x2 := jxw_id (by omega) (by omega)
        refine eq_grd (by omega) ?_
        exact eq_X11_zone_33 E d hd (a0 1 ((jxw ((jxw (x1 * 16)) + x2)).toNat)) a0 b0
theorem f_X11_zone_eq (a0 b0 : Nat → Nat → Int) (x1 x2 : Int) : f_X11_zone a0 b0 x1 x2 = (if x1 = x2 then 0 else (if f_X11_isLand a0 b0 x1 = 0 then 0 else (if f_X11_isLand a0 b0 x2 = 0 then 0 else (f_X11_zone_at33 a0 b0 (a0 1 ((jxw ((jxw (x1 * 16)) + x2)).toNat)))))) := rfl
def f_X1_shiftOf (a0 b0 : Nat → Nat → Int) (x0 : Int) : Int := (jxw (6 * (jxw (7 - x0))))
theorem eq_X1_shiftOf (E : jxE) (d : Nat) (hd : Nat.ble 1 d = true) (x0 : Int) (a0 b0 : Nat → Nat → Int) : jxC E d 39 [.inl x0] (jxSH, a0, b0) = some ([.inl (f_X1_shiftOf a0 b0 x0)], (jxSH, a0, b0)) := by
  obtain ⟨d, rfl⟩ := jd_succ hd
  refine (bq_X1_shiftOf E d x0 a0 b0).trans ?_
  unfold f_X1_shiftOf
  rfl
theorem f_X1_shiftOf_eq (a0 b0 : Nat → Nat → Int) (x0 : Int) : f_X1_shiftOf a0 b0 x0 = (jxw (6 * (jxw (7 - x0)))) := rfl
def f_X9_hasRoom (a0 b0 : Nat → Nat → Int) : Int := (if a0 105 5 < 10 then 1 else 0)
theorem eq_X9_hasRoom (E : jxE) (d : Nat) (hd : Nat.ble 1 d = true) (a0 b0 : Nat → Nat → Int) : jxC E d 134 [.inr (.inr (.inl 105))] (jxSH, a0, b0) = some ([.inl (f_X9_hasRoom a0 b0)], (jxSH, a0, b0)) := by
  obtain ⟨d, rfl⟩ := jd_succ hd
  refine (bq_X9_hasRoom E d a0 b0).trans ?_
  unfold f_X9_hasRoom
  refine eq_iteI (fun hc1 => ?_) (fun hc1 => ?_)
  ·
    rfl
  ·
    rfl
theorem f_X9_hasRoom_eq (a0 b0 : Nat → Nat → Int) : f_X9_hasRoom a0 b0 = (if a0 105 5 < 10 then 1 else 0) := rfl
theorem f_X9_hasRoom_bool (a0 b0 : Nat → Nat → Int) : f_X9_hasRoom a0 b0 = 0 ∨ f_X9_hasRoom a0 b0 = 1 := by
  unfold f_X9_hasRoom
  refine bool_ite ?_ ?_
  ·
    exact Or.inr rfl
  ·
    exact Or.inl rfl
def f_X11_ring (a0 b0 : Nat → Nat → Int) (x1 x2 : Int) : Int := (f_X5_offerAt a0 b0 x1 x2)
theorem eq_X11_ring (E : jxE) (d : Nat) (hd : Nat.ble 3 d = true) (x1 x2 : Int) (a0 b0 : Nat → Nat → Int) : jxC E d 187 [.inr (.inr (.inl 0)), .inl x1, .inl x2] (jxSH, a0, b0) = some ([.inl (f_X11_ring a0 b0 x1 x2)], (jxSH, a0, b0)) := by
  obtain ⟨d, rfl⟩ := jd_succ hd
  refine (bq_X11_ring E d x1 x2 a0 b0).trans ?_
  unfold f_X11_ring
  refine eq_bI (eq_X5_offerAt E d (jd_le hd rfl) x1 x2 a0 b0) ?_
  rfl
theorem f_X11_ring_eq (a0 b0 : Nat → Nat → Int) (x1 x2 : Int) : f_X11_ring a0 b0 x1 x2 = (f_X5_offerAt a0 b0 x1 x2) := rfl
def f_X5_mayFollow (a0 b0 : Nat → Nat → Int) (x1 x2 : Int) : Int := (if jxand (jxshr (a0 92 (x1.toNat)) x2) 1 = 1 then 1 else 0)
theorem eq_X5_mayFollow (E : jxE) (d : Nat) (hd : Nat.ble 1 d = true) (x1 x2 : Int) (a0 b0 : Nat → Nat → Int) (hp0 : (0 ≤ x1 ∧ x1 < 12)) : jxC E d 85 [.inr (.inr (.inl 90)), .inl x1, .inl x2] (jxSH, a0, b0) = some ([.inl (f_X5_mayFollow a0 b0 x1 x2)], (jxSH, a0, b0)) := by
  obtain ⟨d, rfl⟩ := jd_succ hd
  refine (bq_X5_mayFollow E d x1 x2 a0 b0).trans ?_
  unfold f_X5_mayFollow
  refine eq_grd (by omega) ?_
  have h173_ := jxshr_b (a0 92 (x1.toNat)) x2
  have h174_ := jxand_r (jxshr (a0 92 (x1.toNat)) x2) 1 (by decide) (by decide)
  refine eq_iteI (fun hc1 => ?_) (fun hc1 => ?_)
  ·
    rfl
  ·
    rfl
theorem f_X5_mayFollow_eq (a0 b0 : Nat → Nat → Int) (x1 x2 : Int) : f_X5_mayFollow a0 b0 x1 x2 = (if jxand (jxshr (a0 92 (x1.toNat)) x2) 1 = 1 then 1 else 0) := rfl
theorem f_X5_mayFollow_bool (a0 b0 : Nat → Nat → Int) (x1 x2 : Int) : f_X5_mayFollow a0 b0 x1 x2 = 0 ∨ f_X5_mayFollow a0 b0 x1 x2 = 1 := by
  unfold f_X5_mayFollow
  refine bool_ite ?_ ?_
  ·
    exact Or.inr rfl
  ·
    exact Or.inl rfl
def f_X5_wordOf (a0 b0 : Nat → Nat → Int) (x0 : Int) : Int := (jxw (Int.tdiv (jxand x0 4095) 64))
theorem eq_X5_wordOf (E : jxE) (d : Nat) (hd : Nat.ble 1 d = true) (x0 : Int) (a0 b0 : Nat → Nat → Int) : jxC E d 88 [.inl x0] (jxSH, a0, b0) = some ([.inl (f_X5_wordOf a0 b0 x0)], (jxSH, a0, b0)) := by
  obtain ⟨d, rfl⟩ := jd_succ hd
  refine (bq_X5_wordOf E d x0 a0 b0).trans ?_
  unfold f_X5_wordOf
  rfl
theorem f_X5_wordOf_eq (a0 b0 : Nat → Nat → Int) (x0 : Int) : f_X5_wordOf a0 b0 x0 = (jxw (Int.tdiv (jxand x0 4095) 64)) := rfl
def f_X5_worth (a0 b0 : Nat → Nat → Int) (x0 : Int) : Int := (jxw ((jxw (16 * x0)) - 1))
theorem eq_X5_worth (E : jxE) (d : Nat) (hd : Nat.ble 1 d = true) (x0 : Int) (a0 b0 : Nat → Nat → Int) : jxC E d 92 [.inl x0] (jxSH, a0, b0) = some ([.inl (f_X5_worth a0 b0 x0)], (jxSH, a0, b0)) := by
  obtain ⟨d, rfl⟩ := jd_succ hd
  refine (bq_X5_worth E d x0 a0 b0).trans ?_
  unfold f_X5_worth
  rfl
theorem f_X5_worth_eq (a0 b0 : Nat → Nat → Int) (x0 : Int) : f_X5_worth a0 b0 x0 = (jxw ((jxw (16 * x0)) - 1)) := rfl
def f_X5_isRingSet_at25 (a0 b0 : Nat → Nat → Int) : Int := 0
theorem eq_X5_isRingSet_25 (E : jxE) (d : Nat) (hd : Nat.ble 2 (d + 1) = true) (a0 b0 : Nat → Nat → Int) : jxX E d 89 25 [none, none] [] (jxSH, a0, b0) = some ([.inl (f_X5_isRingSet_at25 a0 b0)], (jxSH, a0, b0)) := by
  refine (bq_X5_isRingSet_25 E d a0 b0).trans ?_
  unfold f_X5_isRingSet_at25
  rfl
theorem f_X5_isRingSet_at25_bool (a0 b0 : Nat → Nat → Int) : f_X5_isRingSet_at25 a0 b0 = 0 ∨ f_X5_isRingSet_at25 a0 b0 = 1 := by
  unfold f_X5_isRingSet_at25
  exact Or.inl rfl
def f_X5_isRingSet_at21 (a0 b0 : Nat → Nat → Int) : Int := 1
theorem eq_X5_isRingSet_21 (E : jxE) (d : Nat) (hd : Nat.ble 2 (d + 1) = true) (a0 b0 : Nat → Nat → Int) : jxX E d 89 21 [none, none] [] (jxSH, a0, b0) = some ([.inl (f_X5_isRingSet_at21 a0 b0)], (jxSH, a0, b0)) := by
  refine (bq_X5_isRingSet_21 E d a0 b0).trans ?_
  unfold f_X5_isRingSet_at21
  rfl
theorem f_X5_isRingSet_at21_bool (a0 b0 : Nat → Nat → Int) : f_X5_isRingSet_at21 a0 b0 = 0 ∨ f_X5_isRingSet_at21 a0 b0 = 1 := by
  unfold f_X5_isRingSet_at21
  exact Or.inr rfl
def f_X5_isRingSet (a0 b0 : Nat → Nat → Int) (x1 : Int) : Int := (if jxlcmp (jxandl (jxshrl (b0 94 ((f_X5_wordOf a0 b0 x1).toNat)) (jxw (Int.tmod x1 64))) 1) 1 = 0 then (f_X5_isRingSet_at21 a0 b0) else (f_X5_isRingSet_at25 a0 b0))
theorem eq_X5_isRingSet (E : jxE) (d : Nat) (hd : Nat.ble 2 d = true) (x1 : Int) (a0 b0 : Nat → Nat → Int) : jxC E d 89 [.inr (.inr (.inl 90)), .inl x1] (jxSH, a0, b0) = some ([.inl (f_X5_isRingSet a0 b0 x1)], (jxSH, a0, b0)) := by
  obtain ⟨d, rfl⟩ := jd_succ hd
  refine (bq_X5_isRingSet E d x1 a0 b0).trans ?_
  unfold f_X5_isRingSet
  refine eq_bI (eq_X5_wordOf E d (jd_le hd rfl) x1 a0 b0) ?_
  have h175_ := f_X5_wordOf_eq a0 b0 x1
  have h176_ := jxand_r x1 4095 (by decide) (by decide)
  have h177_ := jx_td (jxand x1 4095) 64
  have h178_ := jx_tdr (jxand x1 4095) 64 (by decide)
  have h179_ : jxw (Int.tdiv (jxand x1 4095) 64) = Int.tdiv (jxand x1 4095) 64 := jxw_id (by omega) (by omega)
  refine eq_grd (by omega) ?_
  have h180_ := jx_tm x1 64
  have h181_ := jx_tmr x1 64 (by decide)
  have h182_ : jxw (Int.tmod x1 64) = Int.tmod x1 64 := jxw_id (by omega) (by omega)
  have h183_ := jxlcmp_b (jxandl (jxshrl (b0 94 ((f_X5_wordOf a0 b0 x1).toNat)) (jxw (Int.tmod x1 64))) 1) 1
  refine eq_iteI (fun hc1 => ?_) (fun hc1 => ?_)
  ·
    exact eq_X5_isRingSet_21 E d hd a0 b0
  ·
    exact eq_X5_isRingSet_25 E d hd a0 b0
theorem f_X5_isRingSet_eq (a0 b0 : Nat → Nat → Int) (x1 : Int) : f_X5_isRingSet a0 b0 x1 = (if jxlcmp (jxandl (jxshrl (b0 94 ((f_X5_wordOf a0 b0 x1).toNat)) (jxw (Int.tmod x1 64))) 1) 1 = 0 then (f_X5_isRingSet_at21 a0 b0) else (f_X5_isRingSet_at25 a0 b0)) := rfl
theorem f_X5_isRingSet_bool (a0 b0 : Nat → Nat → Int) (x1 : Int) : f_X5_isRingSet a0 b0 x1 = 0 ∨ f_X5_isRingSet a0 b0 x1 = 1 := by
  unfold f_X5_isRingSet
  refine bool_ite ?_ ?_
  ·
    exact f_X5_isRingSet_at21_bool _ _
  ·
    exact f_X5_isRingSet_at25_bool _ _
def f_X5_mostWorth (a0 b0 : Nat → Nat → Int) (x0 : Int) : Int := (jxw ((jxw (16 * x0)) - (jxw (Int.tdiv (jxw ((jxw (x0 + 5)) - 1)) 5))))
theorem eq_X5_mostWorth (E : jxE) (d : Nat) (hd : Nat.ble 1 d = true) (x0 : Int) (a0 b0 : Nat → Nat → Int) : jxC E d 93 [.inl x0] (jxSH, a0, b0) = some ([.inl (f_X5_mostWorth a0 b0 x0)], (jxSH, a0, b0)) := by
  obtain ⟨d, rfl⟩ := jd_succ hd
  refine (bq_X5_mostWorth E d x0 a0 b0).trans ?_
  unfold f_X5_mostWorth
  rfl
theorem f_X5_mostWorth_eq (a0 b0 : Nat → Nat → Int) (x0 : Int) : f_X5_mostWorth a0 b0 x0 = (jxw ((jxw (16 * x0)) - (jxw (Int.tdiv (jxw ((jxw (x0 + 5)) - 1)) 5)))) := rfl
def f_X12_in (a0 b0 : Nat → Nat → Int) (x0 x1 x2 : Int) : Int := (if x0 < x1 then 0 else (if x2 < x0 then 0 else 1))
theorem eq_X12_in (E : jxE) (d : Nat) (hd : Nat.ble 1 d = true) (x0 x1 x2 : Int) (a0 b0 : Nat → Nat → Int) : jxC E d 204 [.inl x0, .inl x1, .inl x2] (jxSH, a0, b0) = some ([.inl (f_X12_in a0 b0 x0 x1 x2)], (jxSH, a0, b0)) := by
  obtain ⟨d, rfl⟩ := jd_succ hd
  refine (bq_X12_in E d x0 x1 x2 a0 b0).trans ?_
  unfold f_X12_in
  refine eq_iteI (fun hc1 => ?_) (fun hc1 => ?_)
  ·
    rfl
  ·
    refine eq_iteI (fun hc2 => ?_) (fun hc2 => ?_)
    ·
      rfl
    ·
      rfl
theorem f_X12_in_eq (a0 b0 : Nat → Nat → Int) (x0 x1 x2 : Int) : f_X12_in a0 b0 x0 x1 x2 = (if x0 < x1 then 0 else (if x2 < x0 then 0 else 1)) := rfl
theorem f_X12_in_bool (a0 b0 : Nat → Nat → Int) (x0 x1 x2 : Int) : f_X12_in a0 b0 x0 x1 x2 = 0 ∨ f_X12_in a0 b0 x0 x1 x2 = 1 := by
  unfold f_X12_in
  refine bool_ite ?_ ?_
  ·
    exact Or.inl rfl
  ·
    refine bool_ite ?_ ?_
    ·
      exact Or.inl rfl
    ·
      exact Or.inr rfl
def f_X12_isMember (a0 b0 : Nat → Nat → Int) (x1 : Int) : Int := (f_X12_in a0 b0 x1 0 (jxw ((a0 146 2) - 1)))
theorem eq_X12_isMember (E : jxE) (d : Nat) (hd : Nat.ble 2 d = true) (x1 : Int) (a0 b0 : Nat → Nat → Int) : jxC E d 207 [.inr (.inr (.inl 146)), .inl x1] (jxSH, a0, b0) = some ([.inl (f_X12_isMember a0 b0 x1)], (jxSH, a0, b0)) := by
  obtain ⟨d, rfl⟩ := jd_succ hd
  refine (bq_X12_isMember E d x1 a0 b0).trans ?_
  unfold f_X12_isMember
  refine eq_bI (eq_X12_in E d (jd_le hd rfl) x1 0 (jxw ((a0 146 2) - 1)) a0 b0) ?_
  have h184_ := jxw_im ((a0 146 2) - 1)
  have h185_ := jxw_rg ((a0 146 2) - 1)
  have h186_ := f_X12_in_eq a0 b0 x1 0 (jxw ((a0 146 2) - 1))
  refine eq_grd (by omega) ?_
  rfl
theorem f_X12_isMember_eq (a0 b0 : Nat → Nat → Int) (x1 : Int) : f_X12_isMember a0 b0 x1 = (f_X12_in a0 b0 x1 0 (jxw ((a0 146 2) - 1))) := rfl
theorem f_X12_isMember_bool (a0 b0 : Nat → Nat → Int) (x1 : Int) : f_X12_isMember a0 b0 x1 = 0 ∨ f_X12_isMember a0 b0 x1 = 1 := by
  unfold f_X12_isMember
  exact f_X12_in_bool _ _ _ _ _
def f_X12_isKin_at33 (a0 b0 : Nat → Nat → Int) : Int := 0
theorem eq_X12_isKin_33 (E : jxE) (d : Nat) (hd : Nat.ble 1 (d + 1) = true) (a0 b0 : Nat → Nat → Int) : jxX E d 247 33 [none, none, none] [] (jxSH, a0, b0) = some ([.inl (f_X12_isKin_at33 a0 b0)], (jxSH, a0, b0)) := by
  refine (bq_X12_isKin_33 E d a0 b0).trans ?_
  unfold f_X12_isKin_at33
  rfl
theorem f_X12_isKin_at33_bool (a0 b0 : Nat → Nat → Int) : f_X12_isKin_at33 a0 b0 = 0 ∨ f_X12_isKin_at33 a0 b0 = 1 := by
  unfold f_X12_isKin_at33
  exact Or.inl rfl
def f_X12_isKin_at29 (a0 b0 : Nat → Nat → Int) : Int := 1
theorem eq_X12_isKin_29 (E : jxE) (d : Nat) (hd : Nat.ble 1 (d + 1) = true) (a0 b0 : Nat → Nat → Int) : jxX E d 247 29 [none, none, none] [] (jxSH, a0, b0) = some ([.inl (f_X12_isKin_at29 a0 b0)], (jxSH, a0, b0)) := by
  refine (bq_X12_isKin_29 E d a0 b0).trans ?_
  unfold f_X12_isKin_at29
  rfl
theorem f_X12_isKin_at29_bool (a0 b0 : Nat → Nat → Int) : f_X12_isKin_at29 a0 b0 = 0 ∨ f_X12_isKin_at29 a0 b0 = 1 := by
  unfold f_X12_isKin_at29
  exact Or.inr rfl
def f_X12_isKin (a0 b0 : Nat → Nat → Int) (x1 x2 : Int) : Int := (if x1 = x2 then (f_X12_isKin_at29 a0 b0) else (if a0 150 (x1.toNat) < 0 then (f_X12_isKin_at33 a0 b0) else (if a0 150 (x1.toNat) = a0 150 (x2.toNat) then (f_X12_isKin_at29 a0 b0) else (f_X12_isKin_at33 a0 b0))))
theorem eq_X12_isKin (E : jxE) (d : Nat) (hd : Nat.ble 1 d = true) (x1 x2 : Int) (a0 b0 : Nat → Nat → Int) (hp0 : (0 ≤ x1 ∧ x1 < 40)) (hp1 : (0 ≤ x2 ∧ x2 < 40)) : jxC E d 247 [.inr (.inr (.inl 146)), .inl x1, .inl x2] (jxSH, a0, b0) = some ([.inl (f_X12_isKin a0 b0 x1 x2)], (jxSH, a0, b0)) := by
  obtain ⟨d, rfl⟩ := jd_succ hd
  refine (bq_X12_isKin E d x1 x2 a0 b0).trans ?_
  unfold f_X12_isKin
  refine eq_iteI (fun hc1 => ?_) (fun hc1 => ?_)
  ·
    exact eq_X12_isKin_29 E d hd a0 b0
  ·
    refine eq_grd (by omega) ?_
    refine eq_iteI (fun hc2 => ?_) (fun hc2 => ?_)
    ·
      exact eq_X12_isKin_33 E d hd a0 b0
    ·
      refine eq_grd (by omega) ?_
      refine eq_grd (by omega) ?_
      refine eq_iteI (fun hc3 => ?_) (fun hc3 => ?_)
      ·
        exact eq_X12_isKin_29 E d hd a0 b0
      ·
        exact eq_X12_isKin_33 E d hd a0 b0
theorem f_X12_isKin_eq (a0 b0 : Nat → Nat → Int) (x1 x2 : Int) : f_X12_isKin a0 b0 x1 x2 = (if x1 = x2 then (f_X12_isKin_at29 a0 b0) else (if a0 150 (x1.toNat) < 0 then (f_X12_isKin_at33 a0 b0) else (if a0 150 (x1.toNat) = a0 150 (x2.toNat) then (f_X12_isKin_at29 a0 b0) else (f_X12_isKin_at33 a0 b0)))) := rfl
theorem f_X12_isKin_bool (a0 b0 : Nat → Nat → Int) (x1 x2 : Int) : f_X12_isKin a0 b0 x1 x2 = 0 ∨ f_X12_isKin a0 b0 x1 x2 = 1 := by
  unfold f_X12_isKin
  refine bool_ite ?_ ?_
  ·
    exact f_X12_isKin_at29_bool _ _
  ·
    refine bool_ite ?_ ?_
    ·
      exact f_X12_isKin_at33_bool _ _
    ·
      refine bool_ite ?_ ?_
      ·
        exact f_X12_isKin_at29_bool _ _
      ·
        exact f_X12_isKin_at33_bool _ _
def f_X12_isAtom_at67 (a0 b0 : Nat → Nat → Int) : Int := 1
theorem eq_X12_isAtom_67 (E : jxE) (d : Nat) (hd : Nat.ble 1 (d + 1) = true) (a0 b0 : Nat → Nat → Int) (hv0 : iv a0) : jxX E d 226 67 [none, none, none, none, none] [] (jxSH, a0, b0) = some ([.inl (f_X12_isAtom_at67 a0 b0)], (jxSH, a0, b0)) := by
  refine (bq_X12_isAtom_67 E d a0 b0).trans ?_
  unfold f_X12_isAtom_at67
  rfl
theorem f_X12_isAtom_at67_bool (a0 b0 : Nat → Nat → Int) : f_X12_isAtom_at67 a0 b0 = 0 ∨ f_X12_isAtom_at67 a0 b0 = 1 := by
  unfold f_X12_isAtom_at67
  exact Or.inr rfl
def f_X12_isAtom_at196 (a0 b0 : Nat → Nat → Int) : Int := 1
theorem eq_X12_isAtom_196 (E : jxE) (d : Nat) (hd : Nat.ble 1 (d + 1) = true) (a0 b0 : Nat → Nat → Int) (hv0 : iv a0) : jxX E d 226 196 [none, none, none, none, none] [] (jxSH, a0, b0) = some ([.inl (f_X12_isAtom_at196 a0 b0)], (jxSH, a0, b0)) := by
  refine (bq_X12_isAtom_196 E d a0 b0).trans ?_
  unfold f_X12_isAtom_at196
  rfl
theorem f_X12_isAtom_at196_bool (a0 b0 : Nat → Nat → Int) : f_X12_isAtom_at196 a0 b0 = 0 ∨ f_X12_isAtom_at196 a0 b0 = 1 := by
  unfold f_X12_isAtom_at196
  exact Or.inr rfl
def f_X12_isAtom_at71 (a0 b0 : Nat → Nat → Int) : Int := 0
theorem eq_X12_isAtom_71 (E : jxE) (d : Nat) (hd : Nat.ble 1 (d + 1) = true) (a0 b0 : Nat → Nat → Int) (hv0 : iv a0) : jxX E d 226 71 [none, none, none, none, none] [] (jxSH, a0, b0) = some ([.inl (f_X12_isAtom_at71 a0 b0)], (jxSH, a0, b0)) := by
  refine (bq_X12_isAtom_71 E d a0 b0).trans ?_
  unfold f_X12_isAtom_at71
  rfl
theorem f_X12_isAtom_at71_bool (a0 b0 : Nat → Nat → Int) : f_X12_isAtom_at71 a0 b0 = 0 ∨ f_X12_isAtom_at71 a0 b0 = 1 := by
  unfold f_X12_isAtom_at71
  exact Or.inl rfl
def f_X12_isAtom_at200 (a0 b0 : Nat → Nat → Int) : Int := 0
theorem eq_X12_isAtom_200 (E : jxE) (d : Nat) (hd : Nat.ble 1 (d + 1) = true) (a0 b0 : Nat → Nat → Int) (hv0 : iv a0) : jxX E d 226 200 [none, none, none, none, none] [] (jxSH, a0, b0) = some ([.inl (f_X12_isAtom_at200 a0 b0)], (jxSH, a0, b0)) := by
  refine (bq_X12_isAtom_200 E d a0 b0).trans ?_
  unfold f_X12_isAtom_at200
  rfl
theorem f_X12_isAtom_at200_bool (a0 b0 : Nat → Nat → Int) : f_X12_isAtom_at200 a0 b0 = 0 ∨ f_X12_isAtom_at200 a0 b0 = 1 := by
  unfold f_X12_isAtom_at200
  exact Or.inl rfl
def f_X12_isAtom_at110 (a0 b0 : Nat → Nat → Int) : Int := 1
theorem eq_X12_isAtom_110 (E : jxE) (d : Nat) (hd : Nat.ble 1 (d + 1) = true) (a0 b0 : Nat → Nat → Int) (hv0 : iv a0) : jxX E d 226 110 [none, none, none, none, none] [] (jxSH, a0, b0) = some ([.inl (f_X12_isAtom_at110 a0 b0)], (jxSH, a0, b0)) := by
  refine (bq_X12_isAtom_110 E d a0 b0).trans ?_
  unfold f_X12_isAtom_at110
  rfl
theorem f_X12_isAtom_at110_bool (a0 b0 : Nat → Nat → Int) : f_X12_isAtom_at110 a0 b0 = 0 ∨ f_X12_isAtom_at110 a0 b0 = 1 := by
  unfold f_X12_isAtom_at110
  exact Or.inr rfl
def f_X12_isAtom_at142 (a0 b0 : Nat → Nat → Int) : Int := 1
theorem eq_X12_isAtom_142 (E : jxE) (d : Nat) (hd : Nat.ble 1 (d + 1) = true) (a0 b0 : Nat → Nat → Int) (hv0 : iv a0) : jxX E d 226 142 [none, none, none, none, none] [] (jxSH, a0, b0) = some ([.inl (f_X12_isAtom_at142 a0 b0)], (jxSH, a0, b0)) := by
  refine (bq_X12_isAtom_142 E d a0 b0).trans ?_
  unfold f_X12_isAtom_at142
  rfl
theorem f_X12_isAtom_at142_bool (a0 b0 : Nat → Nat → Int) : f_X12_isAtom_at142 a0 b0 = 0 ∨ f_X12_isAtom_at142 a0 b0 = 1 := by
  unfold f_X12_isAtom_at142
  exact Or.inr rfl
def f_X12_isAtom_at174 (a0 b0 : Nat → Nat → Int) : Int := 1
theorem eq_X12_isAtom_174 (E : jxE) (d : Nat) (hd : Nat.ble 1 (d + 1) = true) (a0 b0 : Nat → Nat → Int) (hv0 : iv a0) : jxX E d 226 174 [none, none, none, none, none] [] (jxSH, a0, b0) = some ([.inl (f_X12_isAtom_at174 a0 b0)], (jxSH, a0, b0)) := by
  refine (bq_X12_isAtom_174 E d a0 b0).trans ?_
  unfold f_X12_isAtom_at174
  rfl
theorem f_X12_isAtom_at174_bool (a0 b0 : Nat → Nat → Int) : f_X12_isAtom_at174 a0 b0 = 0 ∨ f_X12_isAtom_at174 a0 b0 = 1 := by
  unfold f_X12_isAtom_at174
  exact Or.inr rfl
def f_X12_isAtom_at114 (a0 b0 : Nat → Nat → Int) : Int := 0
theorem eq_X12_isAtom_114 (E : jxE) (d : Nat) (hd : Nat.ble 1 (d + 1) = true) (a0 b0 : Nat → Nat → Int) (hv0 : iv a0) : jxX E d 226 114 [none, none, none, none, none] [] (jxSH, a0, b0) = some ([.inl (f_X12_isAtom_at114 a0 b0)], (jxSH, a0, b0)) := by
  refine (bq_X12_isAtom_114 E d a0 b0).trans ?_
  unfold f_X12_isAtom_at114
  rfl
theorem f_X12_isAtom_at114_bool (a0 b0 : Nat → Nat → Int) : f_X12_isAtom_at114 a0 b0 = 0 ∨ f_X12_isAtom_at114 a0 b0 = 1 := by
  unfold f_X12_isAtom_at114
  exact Or.inl rfl
def f_X12_isAtom_at146 (a0 b0 : Nat → Nat → Int) : Int := 0
theorem eq_X12_isAtom_146 (E : jxE) (d : Nat) (hd : Nat.ble 1 (d + 1) = true) (a0 b0 : Nat → Nat → Int) (hv0 : iv a0) : jxX E d 226 146 [none, none, none, none, none] [] (jxSH, a0, b0) = some ([.inl (f_X12_isAtom_at146 a0 b0)], (jxSH, a0, b0)) := by
  refine (bq_X12_isAtom_146 E d a0 b0).trans ?_
  unfold f_X12_isAtom_at146
  rfl
theorem f_X12_isAtom_at146_bool (a0 b0 : Nat → Nat → Int) : f_X12_isAtom_at146 a0 b0 = 0 ∨ f_X12_isAtom_at146 a0 b0 = 1 := by
  unfold f_X12_isAtom_at146
  exact Or.inl rfl
def f_X12_isAtom_at178 (a0 b0 : Nat → Nat → Int) : Int := 0
theorem eq_X12_isAtom_178 (E : jxE) (d : Nat) (hd : Nat.ble 1 (d + 1) = true) (a0 b0 : Nat → Nat → Int) (hv0 : iv a0) : jxX E d 226 178 [none, none, none, none, none] [] (jxSH, a0, b0) = some ([.inl (f_X12_isAtom_at178 a0 b0)], (jxSH, a0, b0)) := by
  refine (bq_X12_isAtom_178 E d a0 b0).trans ?_
  unfold f_X12_isAtom_at178
  rfl
theorem f_X12_isAtom_at178_bool (a0 b0 : Nat → Nat → Int) : f_X12_isAtom_at178 a0 b0 = 0 ∨ f_X12_isAtom_at178 a0 b0 = 1 := by
  unfold f_X12_isAtom_at178
  exact Or.inl rfl
def f_X12_isAtom_at88 (a0 b0 : Nat → Nat → Int) : Int := 1
theorem eq_X12_isAtom_88 (E : jxE) (d : Nat) (hd : Nat.ble 1 (d + 1) = true) (a0 b0 : Nat → Nat → Int) (hv0 : iv a0) : jxX E d 226 88 [none, none, none, none, none] [] (jxSH, a0, b0) = some ([.inl (f_X12_isAtom_at88 a0 b0)], (jxSH, a0, b0)) := by
  refine (bq_X12_isAtom_88 E d a0 b0).trans ?_
  unfold f_X12_isAtom_at88
  rfl
theorem f_X12_isAtom_at88_bool (a0 b0 : Nat → Nat → Int) : f_X12_isAtom_at88 a0 b0 = 0 ∨ f_X12_isAtom_at88 a0 b0 = 1 := by
  unfold f_X12_isAtom_at88
  exact Or.inr rfl
def f_X12_isAtom_at92 (a0 b0 : Nat → Nat → Int) : Int := 0
theorem eq_X12_isAtom_92 (E : jxE) (d : Nat) (hd : Nat.ble 1 (d + 1) = true) (a0 b0 : Nat → Nat → Int) (hv0 : iv a0) : jxX E d 226 92 [none, none, none, none, none] [] (jxSH, a0, b0) = some ([.inl (f_X12_isAtom_at92 a0 b0)], (jxSH, a0, b0)) := by
  refine (bq_X12_isAtom_92 E d a0 b0).trans ?_
  unfold f_X12_isAtom_at92
  rfl
theorem f_X12_isAtom_at92_bool (a0 b0 : Nat → Nat → Int) : f_X12_isAtom_at92 a0 b0 = 0 ∨ f_X12_isAtom_at92 a0 b0 = 1 := by
  unfold f_X12_isAtom_at92
  exact Or.inl rfl
def f_X12_isAtom (a0 b0 : Nat → Nat → Int) (x1 x2 x3 : Int) : Int := (if jxw ((jxw ((jxw (Int.tdiv x1 1024)) - 1)) - 3) < 0 ∨ 5 < jxw ((jxw ((jxw (Int.tdiv x1 1024)) - 1)) - 3) then 1 else (if jxw ((jxw ((jxw (Int.tdiv x1 1024)) - 1)) - 3) = 0 then (if a0 148 (x3.toNat) = jxw (Int.tmod x1 1024) then (f_X12_isAtom_at67 a0 b0) else (f_X12_isAtom_at71 a0 b0)) else (if jxw ((jxw ((jxw (Int.tdiv x1 1024)) - 1)) - 3) = 1 then (if jxand (jxshr (a0 149 (x3.toNat)) (jxw (Int.tmod x1 1024))) 1 = 1 then (f_X12_isAtom_at88 a0 b0) else (f_X12_isAtom_at92 a0 b0)) else (if jxw ((jxw ((jxw (Int.tdiv x1 1024)) - 1)) - 3) = 2 then (if jxand (a0 149 (x2.toNat)) (a0 149 (x3.toNat)) = 0 then (f_X12_isAtom_at114 a0 b0) else (f_X12_isAtom_at110 a0 b0)) else (if jxw ((jxw ((jxw (Int.tdiv x1 1024)) - 1)) - 3) = 3 then (if a0 147 ((jxw ((jxw (16 * (a0 148 (x2.toNat)))) + (a0 148 (x3.toNat)))).toNat) < jxw (Int.tmod x1 1024) then (f_X12_isAtom_at146 a0 b0) else (f_X12_isAtom_at142 a0 b0)) else (if jxw ((jxw ((jxw (Int.tdiv x1 1024)) - 1)) - 3) = 4 then (if jxw (Int.tmod x1 1024) < a0 147 ((jxw ((jxw (16 * (a0 148 (x2.toNat)))) + (a0 148 (x3.toNat)))).toNat) then (f_X12_isAtom_at178 a0 b0) else (f_X12_isAtom_at174 a0 b0)) else (if jxw ((jxw ((jxw (Int.tdiv x1 1024)) - 1)) - 3) = 5 then (if jxw ((a0 146 0) - (a0 151 (x3.toNat))) < jxw (Int.tmod x1 1024) then (f_X12_isAtom_at200 a0 b0) else (f_X12_isAtom_at196 a0 b0)) else 0)))))))
theorem eq_X12_isAtom (E : jxE) (d : Nat) (hd : Nat.ble 1 d = true) (x1 x2 x3 : Int) (a0 b0 : Nat → Nat → Int) (hv0 : iv a0) (hp0 : (0 ≤ x2 ∧ x2 < 40)) (hp1 : (0 ≤ x3 ∧ x3 < 40)) : jxC E d 226 [.inr (.inr (.inl 146)), .inl x1, .inl x2, .inl x3] (jxSH, a0, b0) = some ([.inl (f_X12_isAtom a0 b0 x1 x2 x3)], (jxSH, a0, b0)) := by
  obtain ⟨d, rfl⟩ := jd_succ hd
  refine (bq_X12_isAtom E d x1 x2 x3 a0 b0).trans ?_
  unfold f_X12_isAtom
  have h187_ := jx_td x1 1024
  have h188_ := jx_tdr x1 1024 (by decide)
  have h189_ := jxw_im (Int.tdiv x1 1024)
  have h190_ := jxw_rg (Int.tdiv x1 1024)
  have h191_ := jxw_im ((jxw (Int.tdiv x1 1024)) - 1)
  have h192_ := jxw_rg ((jxw (Int.tdiv x1 1024)) - 1)
  have h193_ := jxw_im ((jxw ((jxw (Int.tdiv x1 1024)) - 1)) - 3)
  have h194_ := jxw_rg ((jxw ((jxw (Int.tdiv x1 1024)) - 1)) - 3)
  refine eq_iteI (fun hc1 => ?_) (fun hc1 => ?_)
  ·
    rfl
  ·
    refine eq_iteI (fun hc2 => ?_) (fun hc2 => ?_)
    ·
      refine eq_grd (by omega) ?_
      have h195_ := iv_get hv0 (k := 148) (j := x3.toNat) (l := 0) (u := 15) rfl
      have h196_ := jx_tm x1 1024
      have h197_ := jx_tmr x1 1024 (by decide)
      have h198_ : jxw (Int.tmod x1 1024) = Int.tmod x1 1024 := jxw_id (by omega) (by omega)
      refine eq_iteI (fun hc3 => ?_) (fun hc3 => ?_)
      ·
        exact eq_X12_isAtom_67 E d hd a0 b0 hv0
      ·
        exact eq_X12_isAtom_71 E d hd a0 b0 hv0
    ·
      refine eq_iteI (fun hc3 => ?_) (fun hc3 => ?_)
      ·
        refine eq_grd (by omega) ?_
        have h199_ := jx_tm x1 1024
        have h200_ := jx_tmr x1 1024 (by decide)
        have h201_ : jxw (Int.tmod x1 1024) = Int.tmod x1 1024 := jxw_id (by omega) (by omega)
        have h202_ := jxshr_b (a0 149 (x3.toNat)) (jxw (Int.tmod x1 1024))
        have h203_ := jxand_r (jxshr (a0 149 (x3.toNat)) (jxw (Int.tmod x1 1024))) 1 (by decide) (by decide)
        refine eq_iteI (fun hc4 => ?_) (fun hc4 => ?_)
        ·
          exact eq_X12_isAtom_88 E d hd a0 b0 hv0
        ·
          exact eq_X12_isAtom_92 E d hd a0 b0 hv0
      ·
        refine eq_iteI (fun hc4 => ?_) (fun hc4 => ?_)
        ·
          refine eq_grd (by omega) ?_
          refine eq_grd (by omega) ?_
          have h204_ := jxand_b (a0 149 (x2.toNat)) (a0 149 (x3.toNat))
          refine eq_iteI (fun hc5 => ?_) (fun hc5 => ?_)
          ·
            exact eq_X12_isAtom_114 E d hd a0 b0 hv0
          ·
            exact eq_X12_isAtom_110 E d hd a0 b0 hv0
        ·
          refine eq_iteI (fun hc5 => ?_) (fun hc5 => ?_)
          ·
            refine eq_grd (by omega) ?_
            refine eq_grd (by omega) ?_
            have h205_ := iv_get hv0 (k := 148) (j := x2.toNat) (l := 0) (u := 15) rfl
            have h206_ : jxw (16 * (a0 148 (x2.toNat))) = 16 * (a0 148 (x2.toNat)) := jxw_id (by omega) (by omega)
            have h207_ := iv_get hv0 (k := 148) (j := x3.toNat) (l := 0) (u := 15) rfl
            have h208_ : jxw ((jxw (16 * (a0 148 (x2.toNat)))) + (a0 148 (x3.toNat))) = (jxw (16 * (a0 148 (x2.toNat)))) + (a0 148 (x3.toNat)) := jxw_id (by omega) (by omega)
            refine eq_grd (by omega) ?_
            have h209_ := iv_get hv0 (k := 147) (j := (jxw ((jxw (16 * (a0 148 (x2.toNat)))) + (a0 148 (x3.toNat)))).toNat) (l := 0) (u := 99) rfl
            have h210_ := jx_tm x1 1024
            have h211_ := jx_tmr x1 1024 (by decide)
            have h212_ : jxw (Int.tmod x1 1024) = Int.tmod x1 1024 := jxw_id (by omega) (by omega)
            refine eq_iteI (fun hc6 => ?_) (fun hc6 => ?_)
            ·
              exact eq_X12_isAtom_146 E d hd a0 b0 hv0
            ·
              exact eq_X12_isAtom_142 E d hd a0 b0 hv0
          ·
            refine eq_iteI (fun hc6 => ?_) (fun hc6 => ?_)
            ·
              refine eq_grd (by omega) ?_
              refine eq_grd (by omega) ?_
              have h213_ := iv_get hv0 (k := 148) (j := x2.toNat) (l := 0) (u := 15) rfl
              have h214_ : jxw (16 * (a0 148 (x2.toNat))) = 16 * (a0 148 (x2.toNat)) := jxw_id (by omega) (by omega)
              have h215_ := iv_get hv0 (k := 148) (j := x3.toNat) (l := 0) (u := 15) rfl
              have h216_ : jxw ((jxw (16 * (a0 148 (x2.toNat)))) + (a0 148 (x3.toNat))) = (jxw (16 * (a0 148 (x2.toNat)))) + (a0 148 (x3.toNat)) := jxw_id (by omega) (by omega)
              refine eq_grd (by omega) ?_
              have h217_ := jx_tm x1 1024
              have h218_ := jx_tmr x1 1024 (by decide)
              have h219_ : jxw (Int.tmod x1 1024) = Int.tmod x1 1024 := jxw_id (by omega) (by omega)
              have h220_ := iv_get hv0 (k := 147) (j := (jxw ((jxw (16 * (a0 148 (x2.toNat)))) + (a0 148 (x3.toNat)))).toNat) (l := 0) (u := 99) rfl
              refine eq_iteI (fun hc7 => ?_) (fun hc7 => ?_)
              ·
                exact eq_X12_isAtom_178 E d hd a0 b0 hv0
              ·
                exact eq_X12_isAtom_174 E d hd a0 b0 hv0
            ·
              refine eq_iteI (fun hc7 => ?_) (fun hc7 => ?_)
              ·
                refine eq_grd (by omega) ?_
                have h221_ := iv_get hv0 (k := 146) (j := 0) (l := 0) (u := 1999) rfl
                have h222_ := jxw_im ((a0 146 0) - (a0 151 (x3.toNat)))
                have h223_ := jxw_rg ((a0 146 0) - (a0 151 (x3.toNat)))
                have h224_ := jx_tm x1 1024
                have h225_ := jx_tmr x1 1024 (by decide)
                have h226_ : jxw (Int.tmod x1 1024) = Int.tmod x1 1024 := jxw_id (by omega) (by omega)
                refine eq_iteI (fun hc8 => ?_) (fun hc8 => ?_)
                ·
                  exact eq_X12_isAtom_200 E d hd a0 b0 hv0
                ·
                  exact eq_X12_isAtom_196 E d hd a0 b0 hv0
              ·
                exact absurd (by omega : False) id
theorem f_X12_isAtom_eq (a0 b0 : Nat → Nat → Int) (x1 x2 x3 : Int) : f_X12_isAtom a0 b0 x1 x2 x3 = (if jxw ((jxw ((jxw (Int.tdiv x1 1024)) - 1)) - 3) < 0 ∨ 5 < jxw ((jxw ((jxw (Int.tdiv x1 1024)) - 1)) - 3) then 1 else (if jxw ((jxw ((jxw (Int.tdiv x1 1024)) - 1)) - 3) = 0 then (if a0 148 (x3.toNat) = jxw (Int.tmod x1 1024) then (f_X12_isAtom_at67 a0 b0) else (f_X12_isAtom_at71 a0 b0)) else (if jxw ((jxw ((jxw (Int.tdiv x1 1024)) - 1)) - 3) = 1 then (if jxand (jxshr (a0 149 (x3.toNat)) (jxw (Int.tmod x1 1024))) 1 = 1 then (f_X12_isAtom_at88 a0 b0) else (f_X12_isAtom_at92 a0 b0)) else (if jxw ((jxw ((jxw (Int.tdiv x1 1024)) - 1)) - 3) = 2 then (if jxand (a0 149 (x2.toNat)) (a0 149 (x3.toNat)) = 0 then (f_X12_isAtom_at114 a0 b0) else (f_X12_isAtom_at110 a0 b0)) else (if jxw ((jxw ((jxw (Int.tdiv x1 1024)) - 1)) - 3) = 3 then (if a0 147 ((jxw ((jxw (16 * (a0 148 (x2.toNat)))) + (a0 148 (x3.toNat)))).toNat) < jxw (Int.tmod x1 1024) then (f_X12_isAtom_at146 a0 b0) else (f_X12_isAtom_at142 a0 b0)) else (if jxw ((jxw ((jxw (Int.tdiv x1 1024)) - 1)) - 3) = 4 then (if jxw (Int.tmod x1 1024) < a0 147 ((jxw ((jxw (16 * (a0 148 (x2.toNat)))) + (a0 148 (x3.toNat)))).toNat) then (f_X12_isAtom_at178 a0 b0) else (f_X12_isAtom_at174 a0 b0)) else (if jxw ((jxw ((jxw (Int.tdiv x1 1024)) - 1)) - 3) = 5 then (if jxw ((a0 146 0) - (a0 151 (x3.toNat))) < jxw (Int.tmod x1 1024) then (f_X12_isAtom_at200 a0 b0) else (f_X12_isAtom_at196 a0 b0)) else 0))))))) := rfl
theorem f_X12_isAtom_bool (a0 b0 : Nat → Nat → Int) (x1 x2 x3 : Int) : f_X12_isAtom a0 b0 x1 x2 x3 = 0 ∨ f_X12_isAtom a0 b0 x1 x2 x3 = 1 := by
  unfold f_X12_isAtom
  refine bool_ite ?_ ?_
  ·
    exact Or.inr rfl
  ·
    refine bool_ite ?_ ?_
    ·
      refine bool_ite ?_ ?_
      ·
        exact f_X12_isAtom_at67_bool _ _
      ·
        exact f_X12_isAtom_at71_bool _ _
    ·
      refine bool_ite ?_ ?_
      ·
        refine bool_ite ?_ ?_
        ·
          exact f_X12_isAtom_at88_bool _ _
        ·
          exact f_X12_isAtom_at92_bool _ _
      ·
        refine bool_ite ?_ ?_
        ·
          refine bool_ite ?_ ?_
          ·
            exact f_X12_isAtom_at114_bool _ _
          ·
            exact f_X12_isAtom_at110_bool _ _
        ·
          refine bool_ite ?_ ?_
          ·
            refine bool_ite ?_ ?_
            ·
              exact f_X12_isAtom_at146_bool _ _
            ·
              exact f_X12_isAtom_at142_bool _ _
          ·
            refine bool_ite ?_ ?_
            ·
              refine bool_ite ?_ ?_
              ·
                exact f_X12_isAtom_at178_bool _ _
              ·
                exact f_X12_isAtom_at174_bool _ _
            ·
              refine bool_ite ?_ ?_
              ·
                refine bool_ite ?_ ?_
                ·
                  exact f_X12_isAtom_at200_bool _ _
                ·
                  exact f_X12_isAtom_at196_bool _ _
              ·
                exact Or.inl rfl
def f_X12_isLand (a0 b0 : Nat → Nat → Int) (x0 : Int) : Int := (f_X12_in a0 b0 x0 0 15)
theorem eq_X12_isLand (E : jxE) (d : Nat) (hd : Nat.ble 2 d = true) (x0 : Int) (a0 b0 : Nat → Nat → Int) : jxC E d 206 [.inl x0] (jxSH, a0, b0) = some ([.inl (f_X12_isLand a0 b0 x0)], (jxSH, a0, b0)) := by
  obtain ⟨d, rfl⟩ := jd_succ hd
  refine (bq_X12_isLand E d x0 a0 b0).trans ?_
  unfold f_X12_isLand
  refine eq_bI (eq_X12_in E d (jd_le hd rfl) x0 0 15 a0 b0) ?_
  have h227_ := f_X12_in_eq a0 b0 x0 0 15
  refine eq_grd (by omega) ?_
  rfl
theorem f_X12_isLand_eq (a0 b0 : Nat → Nat → Int) (x0 : Int) : f_X12_isLand a0 b0 x0 = (f_X12_in a0 b0 x0 0 15) := rfl
theorem f_X12_isLand_bool (a0 b0 : Nat → Nat → Int) (x0 : Int) : f_X12_isLand a0 b0 x0 = 0 ∨ f_X12_isLand a0 b0 x0 = 1 := by
  unfold f_X12_isLand
  exact f_X12_in_bool _ _ _ _ _
def f_X12_goesTo_at33 (a0 b0 : Nat → Nat → Int) : Int := 0
theorem eq_X12_goesTo_33 (E : jxE) (d : Nat) (hd : Nat.ble 1 (d + 1) = true) (a0 b0 : Nat → Nat → Int) (hv0 : iv a0) : jxX E d 264 33 [none, none, none] [] (jxSH, a0, b0) = some ([.inl (f_X12_goesTo_at33 a0 b0)], (jxSH, a0, b0)) := by
  refine (bq_X12_goesTo_33 E d a0 b0).trans ?_
  unfold f_X12_goesTo_at33
  rfl
theorem f_X12_goesTo_at33_bool (a0 b0 : Nat → Nat → Int) : f_X12_goesTo_at33 a0 b0 = 0 ∨ f_X12_goesTo_at33 a0 b0 = 1 := by
  unfold f_X12_goesTo_at33
  exact Or.inl rfl
def f_X12_goesTo_at29 (a0 b0 : Nat → Nat → Int) : Int := 1
theorem eq_X12_goesTo_29 (E : jxE) (d : Nat) (hd : Nat.ble 1 (d + 1) = true) (a0 b0 : Nat → Nat → Int) (hv0 : iv a0) : jxX E d 264 29 [none, none, none] [] (jxSH, a0, b0) = some ([.inl (f_X12_goesTo_at29 a0 b0)], (jxSH, a0, b0)) := by
  refine (bq_X12_goesTo_29 E d a0 b0).trans ?_
  unfold f_X12_goesTo_at29
  rfl
theorem f_X12_goesTo_at29_bool (a0 b0 : Nat → Nat → Int) : f_X12_goesTo_at29 a0 b0 = 0 ∨ f_X12_goesTo_at29 a0 b0 = 1 := by
  unfold f_X12_goesTo_at29
  exact Or.inr rfl
def f_X12_goesTo (a0 b0 : Nat → Nat → Int) (x1 x2 : Int) : Int := (if jxand (jxshr (a0 180 ((a0 183 (x2.toNat)).toNat)) (a0 179 ((a0 183 (x1.toNat)).toNat))) 1 = 1 then (f_X12_goesTo_at29 a0 b0) else (f_X12_goesTo_at33 a0 b0))
theorem eq_X12_goesTo (E : jxE) (d : Nat) (hd : Nat.ble 1 d = true) (x1 x2 : Int) (a0 b0 : Nat → Nat → Int) (hv0 : iv a0) (hp0 : (0 ≤ x1 ∧ x1 < 12)) (hp1 : (0 ≤ x2 ∧ x2 < 12)) : jxC E d 264 [.inr (.inr (.inl 146)), .inl x1, .inl x2] (jxSH, a0, b0) = some ([.inl (f_X12_goesTo a0 b0 x1 x2)], (jxSH, a0, b0)) := by
  obtain ⟨d, rfl⟩ := jd_succ hd
  refine (bq_X12_goesTo E d x1 x2 a0 b0).trans ?_
  unfold f_X12_goesTo
  refine eq_grd (by omega) ?_
  have h228_ := iv_get hv0 (k := 183) (j := x2.toNat) (l := 0) (u := 19) rfl
  refine eq_grd (by omega) ?_
  refine eq_grd (by omega) ?_
  have h229_ := iv_get hv0 (k := 183) (j := x1.toNat) (l := 0) (u := 19) rfl
  refine eq_grd (by omega) ?_
  have h230_ := iv_get hv0 (k := 179) (j := (a0 183 (x1.toNat)).toNat) (l := 0) (u := 31) rfl
  have h231_ := jxshr_b (a0 180 ((a0 183 (x2.toNat)).toNat)) (a0 179 ((a0 183 (x1.toNat)).toNat))
  have h232_ := jxand_r (jxshr (a0 180 ((a0 183 (x2.toNat)).toNat)) (a0 179 ((a0 183 (x1.toNat)).toNat))) 1 (by decide) (by decide)
  refine eq_iteI (fun hc1 => ?_) (fun hc1 => ?_)
  ·
    exact eq_X12_goesTo_29 E d hd a0 b0 hv0
  ·
    exact eq_X12_goesTo_33 E d hd a0 b0 hv0
theorem f_X12_goesTo_eq (a0 b0 : Nat → Nat → Int) (x1 x2 : Int) : f_X12_goesTo a0 b0 x1 x2 = (if jxand (jxshr (a0 180 ((a0 183 (x2.toNat)).toNat)) (a0 179 ((a0 183 (x1.toNat)).toNat))) 1 = 1 then (f_X12_goesTo_at29 a0 b0) else (f_X12_goesTo_at33 a0 b0)) := rfl
theorem f_X12_goesTo_bool (a0 b0 : Nat → Nat → Int) (x1 x2 : Int) : f_X12_goesTo a0 b0 x1 x2 = 0 ∨ f_X12_goesTo a0 b0 x1 x2 = 1 := by
  unfold f_X12_goesTo
  refine bool_ite ?_ ?_
  ·
    exact f_X12_goesTo_at29_bool _ _
  ·
    exact f_X12_goesTo_at33_bool _ _
def f_X12_isDay (a0 b0 : Nat → Nat → Int) (x0 : Int) : Int := (f_X12_in a0 b0 x0 0 1999)
theorem eq_X12_isDay (E : jxE) (d : Nat) (hd : Nat.ble 2 d = true) (x0 : Int) (a0 b0 : Nat → Nat → Int) : jxC E d 205 [.inl x0] (jxSH, a0, b0) = some ([.inl (f_X12_isDay a0 b0 x0)], (jxSH, a0, b0)) := by
  obtain ⟨d, rfl⟩ := jd_succ hd
  refine (bq_X12_isDay E d x0 a0 b0).trans ?_
  unfold f_X12_isDay
  refine eq_bI (eq_X12_in E d (jd_le hd rfl) x0 0 1999 a0 b0) ?_
  have h233_ := f_X12_in_eq a0 b0 x0 0 1999
  refine eq_grd (by omega) ?_
  rfl
theorem f_X12_isDay_eq (a0 b0 : Nat → Nat → Int) (x0 : Int) : f_X12_isDay a0 b0 x0 = (f_X12_in a0 b0 x0 0 1999) := rfl
theorem f_X12_isDay_bool (a0 b0 : Nat → Nat → Int) (x0 : Int) : f_X12_isDay a0 b0 x0 = 0 ∨ f_X12_isDay a0 b0 x0 = 1 := by
  unfold f_X12_isDay
  exact f_X12_in_bool _ _ _ _ _
def f_X12_mostOf (a0 b0 : Nat → Nat → Int) (x0 : Int) : Int := (if x0 = 0 then 20 else (if x0 = 2 then 20 else (if x0 = 1 then 99 else (if x0 = 3 then 400 else 2))))
theorem eq_X12_mostOf (E : jxE) (d : Nat) (hd : Nat.ble 1 d = true) (x0 : Int) (a0 b0 : Nat → Nat → Int) : jxC E d 231 [.inl x0] (jxSH, a0, b0) = some ([.inl (f_X12_mostOf a0 b0 x0)], (jxSH, a0, b0)) := by
  obtain ⟨d, rfl⟩ := jd_succ hd
  refine (bq_X12_mostOf E d x0 a0 b0).trans ?_
  unfold f_X12_mostOf
  refine eq_iteI (fun hc1 => ?_) (fun hc1 => ?_)
  ·
    rfl
  ·
    refine eq_iteI (fun hc2 => ?_) (fun hc2 => ?_)
    ·
      rfl
    ·
      refine eq_iteI (fun hc3 => ?_) (fun hc3 => ?_)
      ·
        rfl
      ·
        refine eq_iteI (fun hc4 => ?_) (fun hc4 => ?_)
        ·
          rfl
        ·
          rfl
theorem f_X12_mostOf_eq (a0 b0 : Nat → Nat → Int) (x0 : Int) : f_X12_mostOf a0 b0 x0 = (if x0 = 0 then 20 else (if x0 = 2 then 20 else (if x0 = 1 then 99 else (if x0 = 3 then 400 else 2)))) := rfl
def f_X12_offers (a0 b0 : Nat → Nat → Int) (x1 x2 : Int) : Int := (if f_X12_in a0 b0 x1 0 (jxw ((a0 146 49) - 1)) = 0 then (-1) else (if x2 < 0 ∨ 4 < x2 then (-1) else (if x2 = 0 then (a0 178 (x1.toNat)) else (if x2 = 1 then (a0 179 (x1.toNat)) else (if x2 = 2 then (a0 180 (x1.toNat)) else (if x2 = 3 then (a0 181 (x1.toNat)) else (if x2 = 4 then (a0 182 (x1.toNat)) else 0)))))))
theorem eq_X12_offers (E : jxE) (d : Nat) (hd : Nat.ble 2 d = true) (x1 x2 : Int) (a0 b0 : Nat → Nat → Int) (hv0 : iv a0) : jxC E d 280 [.inr (.inr (.inl 146)), .inl x1, .inl x2] (jxSH, a0, b0) = some ([.inl (f_X12_offers a0 b0 x1 x2)], (jxSH, a0, b0)) := by
  obtain ⟨d, rfl⟩ := jd_succ hd
  refine (bq_X12_offers E d x1 x2 a0 b0).trans ?_
  unfold f_X12_offers
  refine eq_bI (eq_X12_in E d (jd_le hd rfl) x1 0 (jxw ((a0 146 49) - 1)) a0 b0) ?_
  have h234_ := iv_get hv0 (k := 146) (j := 49) (l := 0) (u := 20) rfl
  have h235_ : jxw ((a0 146 49) - 1) = (a0 146 49) - 1 := jxw_id (by omega) (by omega)
  have h236_ := f_X12_in_eq a0 b0 x1 0 (jxw ((a0 146 49) - 1))
  refine eq_iteI (fun hc1 => ?_) (fun hc1 => ?_)
  ·
    rfl
  ·
    refine eq_iteI (fun hc2 => ?_) (fun hc2 => ?_)
    ·
      rfl
    ·
      refine eq_iteI (fun hc3 => ?_) (fun hc3 => ?_)
      ·
        refine eq_grd (by omega) ?_
        rfl
      ·
        refine eq_iteI (fun hc4 => ?_) (fun hc4 => ?_)
        ·
          refine eq_grd (by omega) ?_
          rfl
        ·
          refine eq_iteI (fun hc5 => ?_) (fun hc5 => ?_)
          ·
            refine eq_grd (by omega) ?_
            rfl
          ·
            refine eq_iteI (fun hc6 => ?_) (fun hc6 => ?_)
            ·
              refine eq_grd (by omega) ?_
              rfl
            ·
              refine eq_iteI (fun hc7 => ?_) (fun hc7 => ?_)
              ·
                refine eq_grd (by omega) ?_
                rfl
              ·
                exact absurd (by omega : False) id
theorem f_X12_offers_eq (a0 b0 : Nat → Nat → Int) (x1 x2 : Int) : f_X12_offers a0 b0 x1 x2 = (if f_X12_in a0 b0 x1 0 (jxw ((a0 146 49) - 1)) = 0 then (-1) else (if x2 < 0 ∨ 4 < x2 then (-1) else (if x2 = 0 then (a0 178 (x1.toNat)) else (if x2 = 1 then (a0 179 (x1.toNat)) else (if x2 = 2 then (a0 180 (x1.toNat)) else (if x2 = 3 then (a0 181 (x1.toNat)) else (if x2 = 4 then (a0 182 (x1.toNat)) else 0))))))) := rfl
def f_X12_paid (a0 b0 : Nat → Nat → Int) (x1 : Int) : Int := (if a0 146 75 = 0 then (-1) else (if f_X12_in a0 b0 x1 0 7 = 0 then (-1) else (a0 198 (x1.toNat))))
theorem eq_X12_paid (E : jxE) (d : Nat) (hd : Nat.ble 2 d = true) (x1 : Int) (a0 b0 : Nat → Nat → Int) : jxC E d 288 [.inr (.inr (.inl 146)), .inl x1] (jxSH, a0, b0) = some ([.inl (f_X12_paid a0 b0 x1)], (jxSH, a0, b0)) := by
  obtain ⟨d, rfl⟩ := jd_succ hd
  refine (bq_X12_paid E d x1 a0 b0).trans ?_
  unfold f_X12_paid
  refine eq_iteI (fun hc1 => ?_) (fun hc1 => ?_)
  ·
    rfl
  ·
    refine eq_bI (eq_X12_in E d (jd_le hd rfl) x1 0 7 a0 b0) ?_
    have h237_ := f_X12_in_eq a0 b0 x1 0 7
    refine eq_iteI (fun hc2 => ?_) (fun hc2 => ?_)
    ·
      rfl
    ·
      refine eq_grd (by omega) ?_
      rfl
theorem f_X12_paid_eq (a0 b0 : Nat → Nat → Int) (x1 : Int) : f_X12_paid a0 b0 x1 = (if a0 146 75 = 0 then (-1) else (if f_X12_in a0 b0 x1 0 7 = 0 then (-1) else (a0 198 (x1.toNat)))) := rfl
def f_X12_ring_at43 (a0 b0 : Nat → Nat → Int) : Int := (-1)
theorem eq_X12_ring_43 (E : jxE) (d : Nat) (hd : Nat.ble 2 (d + 1) = true) (a0 b0 : Nat → Nat → Int) (hv0 : iv a0) : jxX E d 273 43 [none, none, none] [] (jxSH, a0, b0) = some ([.inl (f_X12_ring_at43 a0 b0)], (jxSH, a0, b0)) := by
  refine (bq_X12_ring_43 E d a0 b0).trans ?_
  unfold f_X12_ring_at43
  rfl
def f_X12_ring_at30 (a0 b0 : Nat → Nat → Int) (y1 y2 : Int) : Int := (a0 189 ((jxw ((jxw (5 * y1)) + y2)).toNat))
theorem eq_X12_ring_30 (E : jxE) (d : Nat) (hd : Nat.ble 2 (d + 1) = true) (y1 y2 : Int) (a0 b0 : Nat → Nat → Int) (hv0 : iv a0) (hp0 : (0 ≤ y1 ∧ y1 ≤ 5)) (hp1 : (0 ≤ y2 ∧ y2 ≤ 4)) : jxX E d 273 30 [some (.inr (.inr (.inl 146))), some (.inl y1), some (.inl y2)] [] (jxSH, a0, b0) = some ([.inl (f_X12_ring_at30 a0 b0 y1 y2)], (jxSH, a0, b0)) := by
  refine (bq_X12_ring_30 E d y1 y2 a0 b0).trans ?_
  unfold f_X12_ring_at30
  have h238_ : jxw (5 * y1) = 5 * y1 := jxw_id (by omega) (by omega)
  have h239_ : jxw ((jxw (5 * y1)) + y2) = (jxw (5 * y1)) + y2 := jxw_id (by omega) (by omega)
  refine eq_grd (by omega) ?_
  rfl
def f_X12_ring (a0 b0 : Nat → Nat → Int) (x1 x2 : Int) : Int := (if f_X12_in a0 b0 x1 0 (jxw ((a0 146 64) - 1)) = 0 then (f_X12_ring_at43 a0 b0) else (if f_X12_in a0 b0 x2 0 (jxw ((a0 190 (x1.toNat)) - 1)) = 0 then (f_X12_ring_at43 a0 b0) else (f_X12_ring_at30 a0 b0 x1 x2)))
theorem eq_X12_ring (E : jxE) (d : Nat) (hd : Nat.ble 2 d = true) (x1 x2 : Int) (a0 b0 : Nat → Nat → Int) (hv0 : iv a0) : jxC E d 273 [.inr (.inr (.inl 146)), .inl x1, .inl x2] (jxSH, a0, b0) = some ([.inl (f_X12_ring a0 b0 x1 x2)], (jxSH, a0, b0)) := by
  obtain ⟨d, rfl⟩ := jd_succ hd
  refine (bq_X12_ring E d x1 x2 a0 b0).trans ?_
  unfold f_X12_ring
  refine eq_bI (eq_X12_in E d (jd_le hd rfl) x1 0 (jxw ((a0 146 64) - 1)) a0 b0) ?_
  have h240_ := iv_get hv0 (k := 146) (j := 64) (l := 0) (u := 6) rfl
  have h241_ : jxw ((a0 146 64) - 1) = (a0 146 64) - 1 := jxw_id (by omega) (by omega)
  have h242_ := f_X12_in_eq a0 b0 x1 0 (jxw ((a0 146 64) - 1))
  refine eq_iteI (fun hc1 => ?_) (fun hc1 => ?_)
  ·
    exact eq_X12_ring_43 E d hd a0 b0 hv0
  ·
    refine eq_grd (by omega) ?_
    refine eq_bI (eq_X12_in E d (jd_le hd rfl) x2 0 (jxw ((a0 190 (x1.toNat)) - 1)) a0 b0) ?_
    have h243_ := iv_get hv0 (k := 190) (j := x1.toNat) (l := 0) (u := 5) rfl
    have h244_ : jxw ((a0 190 (x1.toNat)) - 1) = (a0 190 (x1.toNat)) - 1 := jxw_id (by omega) (by omega)
    have h245_ := f_X12_in_eq a0 b0 x2 0 (jxw ((a0 190 (x1.toNat)) - 1))
    refine eq_iteI (fun hc2 => ?_) (fun hc2 => ?_)
    ·
      exact eq_X12_ring_43 E d hd a0 b0 hv0
    ·
      exact eq_X12_ring_30 E d hd x1 x2 a0 b0 hv0 (show (0 ≤ x1 ∧ x1 ≤ 5) from by omega) (show (0 ≤ x2 ∧ x2 ≤ 4) from by omega)
theorem f_X12_ring_eq (a0 b0 : Nat → Nat → Int) (x1 x2 : Int) : f_X12_ring a0 b0 x1 x2 = (if f_X12_in a0 b0 x1 0 (jxw ((a0 146 64) - 1)) = 0 then (f_X12_ring_at43 a0 b0) else (if f_X12_in a0 b0 x2 0 (jxw ((a0 190 (x1.toNat)) - 1)) = 0 then (f_X12_ring_at43 a0 b0) else (f_X12_ring_at30 a0 b0 x1 x2))) := rfl
theorem ff_X12_ring (a0 b0 : Nat → Nat → Int) (x1 x2 : Int) (hv0 : iv a0) : (a0 146 64 = 0 → f_X12_ring a0 b0 x1 x2 = 0 - 1) := (by intro h; have e : jxw ((a0 146 64) - 1) = -1 := (by rw [h]; exact (by decide +kernel : jxw ((0 : Int) - 1) = -1)); have h1 := f_X12_in_eq a0 b0 x1 0 (jxw ((a0 146 64) - 1)); unfold f_X12_ring; rw [if_pos (by omega)]; rfl)
def f_X12_without (a0 b0 : Nat → Nat → Int) (x0 : Int) : Int := (if x0 = 0 then 5 else (if x0 = 1 then 10 else (if x0 = 2 then 3 else (if x0 = 3 then 60 else 2))))
theorem eq_X12_without (E : jxE) (d : Nat) (hd : Nat.ble 1 d = true) (x0 : Int) (a0 b0 : Nat → Nat → Int) : jxC E d 230 [.inl x0] (jxSH, a0, b0) = some ([.inl (f_X12_without a0 b0 x0)], (jxSH, a0, b0)) := by
  obtain ⟨d, rfl⟩ := jd_succ hd
  refine (bq_X12_without E d x0 a0 b0).trans ?_
  unfold f_X12_without
  refine eq_iteI (fun hc1 => ?_) (fun hc1 => ?_)
  ·
    rfl
  ·
    refine eq_iteI (fun hc2 => ?_) (fun hc2 => ?_)
    ·
      rfl
    ·
      refine eq_iteI (fun hc3 => ?_) (fun hc3 => ?_)
      ·
        rfl
      ·
        refine eq_iteI (fun hc4 => ?_) (fun hc4 => ?_)
        ·
          rfl
        ·
          rfl
theorem f_X12_without_eq (a0 b0 : Nat → Nat → Int) (x0 : Int) : f_X12_without a0 b0 x0 = (if x0 = 0 then 5 else (if x0 = 1 then 10 else (if x0 = 2 then 3 else (if x0 = 3 then 60 else 2)))) := rfl
