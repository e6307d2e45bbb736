def jW_X12_makes : List (Nat × Nat) := [(199, 9999)]
abbrev jQ_X12_makes (a0 b0 : Nat → Nat → Int) : List jxV → (Nat → Nat → Int) → (Nat → Nat → Int) → Prop := rV (fun a b => (iv a) ∧ (jfr jW_X12_makes a0 a) ∧ (b0 = b))
theorem cp_X12_makes_39 (E : jxE) (d : Nat) (hd : Nat.ble 1 (d + 1) = true) (a0 b0 : Nat → Nat → Int) (hv0 : iv a0) (hp0 : SV a0) : ∀ n : Nat, (∀ (y1 y2 y3 y4 y5 : Int) (a : Nat → Nat → Int), (((((((y1 + 1) * 75709) + 0) + ((1400 - y2) * 54)) + 0) + ((51 - y4) * 1)) + 0).toNat ≤ n → iv a → jfr jW_X12_makes a0 a → 0 ≤ y1 → y1 ≤ 7 → 0 ≤ y2 → y2 ≤ 1399 → y3 ≤ 1000000 → 0 ≤ y4 → y4 ≤ 50 → jt (jxX E d 286 112 [some (.inr (.inr (.inl 146))), some (.inl y1), some (.inl y2), some (.inl y3), some (.inl y4), some (.inl y5)] [] (jxSH, a, b0)) (jQ_X12_makes a0 b0)) ∧ (∀ (y1 y2 y3 y4 : Int) (a : Nat → Nat → Int), (((((((y1 + 1) * 75709) + 0) + ((1400 - y2) * 54)) + 0) + ((51 - y4) * 1)) + 0).toNat ≤ n → iv a → jfr jW_X12_makes a0 a → 0 ≤ y1 → y1 ≤ 7 → 0 ≤ y2 → y2 ≤ 1399 → y3 ≤ 1000000 → 0 ≤ y4 → y4 ≤ 50 → y4 ≤ a 197 (y1.toNat) → y4 * (a 196 (y1.toNat)) ≤ y2 → 0 ≤ y4 → jt (jxX E d 286 83 [some (.inr (.inr (.inl 146))), some (.inl y1), some (.inl y2), some (.inl y3), some (.inl y4), none] [] (jxSH, a, b0)) (jQ_X12_makes a0 b0)) ∧ (∀ (y1 y2 y3 : Int) (a : Nat → Nat → Int), (((((y1 + 1) * 75709) + 0) + ((1400 - y2) * 54)) + 0).toNat ≤ n → iv a → jfr jW_X12_makes a0 a → 0 ≤ y1 → y1 ≤ 7 → 0 ≤ y2 → y2 ≤ 1399 → y3 ≤ 1000000 → jt (jxX E d 286 131 [some (.inr (.inr (.inl 146))), some (.inl y1), some (.inl y2), some (.inl y3), none, none] [] (jxSH, a, b0)) (jQ_X12_makes a0 b0)) ∧ (∀ (y1 y2 y3 y4 : Int) (a : Nat → Nat → Int), (((((((y1 + 1) * 75709) + 0) + ((1400 - y2) * 54)) + 0) + ((51 - y4) * 1)) + 0).toNat ≤ n → iv a → jfr jW_X12_makes a0 a → 0 ≤ y1 → y1 ≤ 7 → 0 ≤ y2 → y2 ≤ 1399 → y3 ≤ 1000000 → 0 ≤ y4 → y4 ≤ 51 → 0 ≤ y4 → jt (jxX E d 286 59 [some (.inr (.inr (.inl 146))), some (.inl y1), some (.inl y2), some (.inl y3), some (.inl y4), none] [] (jxSH, a, b0)) (jQ_X12_makes a0 b0)) ∧ (∀ (y1 y2 : Int) (a : Nat → Nat → Int), (((((y1 + 1) * 75709) + 0) + ((1400 - y2) * 54)) + 53).toNat ≤ n → iv a → jfr jW_X12_makes a0 a → 0 ≤ y1 → y1 ≤ 7 → 0 ≤ y2 → y2 ≤ 1400 → jt (jxX E d 286 45 [some (.inr (.inr (.inl 146))), some (.inl y1), some (.inl y2), none, none, none] [] (jxSH, a, b0)) (jQ_X12_makes a0 b0)) ∧ (∀ (y1 : Int) (a : Nat → Nat → Int), (((y1 + 1) * 75709) + 75708).toNat ≤ n → iv a → jfr jW_X12_makes a0 a → 0 - 1 ≤ y1 → y1 ≤ 7 → jt (jxX E d 286 39 [some (.inr (.inr (.inl 146))), some (.inl y1), none, none, none, none] [] (jxSH, a, b0)) (jQ_X12_makes a0 b0)) := by
  refine jx_ind fun n ih => ?_
  have ih112 : ∀ (y1 y2 y3 y4 y5 : Int) (a : Nat → Nat → Int), (((((((y1 + 1) * 75709) + 0) + ((1400 - y2) * 54)) + 0) + ((51 - y4) * 1)) + 0).toNat < n → iv a → jfr jW_X12_makes a0 a → 0 ≤ y1 → y1 ≤ 7 → 0 ≤ y2 → y2 ≤ 1399 → y3 ≤ 1000000 → 0 ≤ y4 → y4 ≤ 50 → jt (jxX E d 286 112 [some (.inr (.inr (.inl 146))), some (.inl y1), some (.inl y2), some (.inl y3), some (.inl y4), some (.inl y5)] [] (jxSH, a, b0)) (jQ_X12_makes a0 b0) := fun y1 y2 y3 y4 y5 a hlt i0 i1 i2 i3 i4 i5 i6 i7 i8 => (ih _ hlt).1 y1 y2 y3 y4 y5 a (Nat.le_refl _) i0 i1 i2 i3 i4 i5 i6 i7 i8
  have ih83 : ∀ (y1 y2 y3 y4 : Int) (a : Nat → Nat → Int), (((((((y1 + 1) * 75709) + 0) + ((1400 - y2) * 54)) + 0) + ((51 - y4) * 1)) + 0).toNat < n → iv a → jfr jW_X12_makes a0 a → 0 ≤ y1 → y1 ≤ 7 → 0 ≤ y2 → y2 ≤ 1399 → y3 ≤ 1000000 → 0 ≤ y4 → y4 ≤ 50 → y4 ≤ a 197 (y1.toNat) → y4 * (a 196 (y1.toNat)) ≤ y2 → 0 ≤ y4 → jt (jxX E d 286 83 [some (.inr (.inr (.inl 146))), some (.inl y1), some (.inl y2), some (.inl y3), some (.inl y4), none] [] (jxSH, a, b0)) (jQ_X12_makes a0 b0) := fun y1 y2 y3 y4 a hlt i0 i1 i2 i3 i4 i5 i6 i7 i8 i9 i10 i11 => (ih _ hlt).2.1 y1 y2 y3 y4 a (Nat.le_refl _) i0 i1 i2 i3 i4 i5 i6 i7 i8 i9 i10 i11
  have ih131 : ∀ (y1 y2 y3 : Int) (a : Nat → Nat → Int), (((((y1 + 1) * 75709) + 0) + ((1400 - y2) * 54)) + 0).toNat < n → iv a → jfr jW_X12_makes a0 a → 0 ≤ y1 → y1 ≤ 7 → 0 ≤ y2 → y2 ≤ 1399 → y3 ≤ 1000000 → jt (jxX E d 286 131 [some (.inr (.inr (.inl 146))), some (.inl y1), some (.inl y2), some (.inl y3), none, none] [] (jxSH, a, b0)) (jQ_X12_makes a0 b0) := fun y1 y2 y3 a hlt i0 i1 i2 i3 i4 i5 i6 => (ih _ hlt).2.2.1 y1 y2 y3 a (Nat.le_refl _) i0 i1 i2 i3 i4 i5 i6
  have ih59 : ∀ (y1 y2 y3 y4 : Int) (a : Nat → Nat → Int), (((((((y1 + 1) * 75709) + 0) + ((1400 - y2) * 54)) + 0) + ((51 - y4) * 1)) + 0).toNat < n → iv a → jfr jW_X12_makes a0 a → 0 ≤ y1 → y1 ≤ 7 → 0 ≤ y2 → y2 ≤ 1399 → y3 ≤ 1000000 → 0 ≤ y4 → y4 ≤ 51 → 0 ≤ y4 → jt (jxX E d 286 59 [some (.inr (.inr (.inl 146))), some (.inl y1), some (.inl y2), some (.inl y3), some (.inl y4), none] [] (jxSH, a, b0)) (jQ_X12_makes a0 b0) := fun y1 y2 y3 y4 a hlt i0 i1 i2 i3 i4 i5 i6 i7 i8 i9 => (ih _ hlt).2.2.2.1 y1 y2 y3 y4 a (Nat.le_refl _) i0 i1 i2 i3 i4 i5 i6 i7 i8 i9
  have ih45 : ∀ (y1 y2 : Int) (a : Nat → Nat → Int), (((((y1 + 1) * 75709) + 0) + ((1400 - y2) * 54)) + 53).toNat < n → iv a → jfr jW_X12_makes a0 a → 0 ≤ y1 → y1 ≤ 7 → 0 ≤ y2 → y2 ≤ 1400 → jt (jxX E d 286 45 [some (.inr (.inr (.inl 146))), some (.inl y1), some (.inl y2), none, none, none] [] (jxSH, a, b0)) (jQ_X12_makes a0 b0) := fun y1 y2 a hlt i0 i1 i2 i3 i4 i5 => (ih _ hlt).2.2.2.2.1 y1 y2 a (Nat.le_refl _) i0 i1 i2 i3 i4 i5
  have ih39 : ∀ (y1 : Int) (a : Nat → Nat → Int), (((y1 + 1) * 75709) + 75708).toNat < n → iv a → jfr jW_X12_makes a0 a → 0 - 1 ≤ y1 → y1 ≤ 7 → jt (jxX E d 286 39 [some (.inr (.inr (.inl 146))), some (.inl y1), none, none, none, none] [] (jxSH, a, b0)) (jQ_X12_makes a0 b0) := fun y1 a hlt i0 i1 i2 i3 => (ih _ hlt).2.2.2.2.2 y1 a (Nat.le_refl _) i0 i1 i2 i3
  have hc112 : ∀ (y1 y2 y3 y4 y5 : Int) (a : Nat → Nat → Int), (((((((y1 + 1) * 75709) + 0) + ((1400 - y2) * 54)) + 0) + ((51 - y4) * 1)) + 0).toNat ≤ n → iv a → jfr jW_X12_makes a0 a → 0 ≤ y1 → y1 ≤ 7 → 0 ≤ y2 → y2 ≤ 1399 → y3 ≤ 1000000 → 0 ≤ y4 → y4 ≤ 50 → jt (jxX E d 286 112 [some (.inr (.inr (.inl 146))), some (.inl y1), some (.inl y2), some (.inl y3), some (.inl y4), some (.inl y5)] [] (jxSH, a, b0)) (jQ_X12_makes a0 b0) := by
    intro y1 y2 y3 y4 y5 a hm hv hf hi0 hi1 hi2 hi3 hi4 hi5 hi6
    refine jt_eq (bq_X12_makes_112 E d y1 y2 y3 y4 y5 a b0) ?_
    refine jt_ite (fun c1836_ => ?_) (fun c1836_ => ?_)
    ·
      have h1837_ : jxw (y4 + 1) = y4 + 1 := jxw_id (by omega) (by omega)
      exact ih59 y1 y2 y5 (jxw (y4 + 1)) a (show (((((((y1 + 1) * 75709) + 0) + ((1400 - y2) * 54)) + 0) + ((51 - (jxw (y4 + 1))) * 1)) + 0).toNat < n from by omega) hv hf (show 0 ≤ y1 from by omega) (show y1 ≤ 7 from by omega) (show 0 ≤ y2 from by omega) (show y2 ≤ 1399 from by omega) (show y5 ≤ 1000000 from by omega) (show 0 ≤ jxw (y4 + 1) from by omega) (show jxw (y4 + 1) ≤ 51 from by omega) (show 0 ≤ jxw (y4 + 1) from by omega)
    ·
      have h1838_ : jxw (y4 + 1) = y4 + 1 := jxw_id (by omega) (by omega)
      exact ih59 y1 y2 y3 (jxw (y4 + 1)) a (show (((((((y1 + 1) * 75709) + 0) + ((1400 - y2) * 54)) + 0) + ((51 - (jxw (y4 + 1))) * 1)) + 0).toNat < n from by omega) hv hf (show 0 ≤ y1 from by omega) (show y1 ≤ 7 from by omega) (show 0 ≤ y2 from by omega) (show y2 ≤ 1399 from by omega) (show y3 ≤ 1000000 from by omega) (show 0 ≤ jxw (y4 + 1) from by omega) (show jxw (y4 + 1) ≤ 51 from by omega) (show 0 ≤ jxw (y4 + 1) from by omega)
  have hc83 : ∀ (y1 y2 y3 y4 : Int) (a : Nat → Nat → Int), (((((((y1 + 1) * 75709) + 0) + ((1400 - y2) * 54)) + 0) + ((51 - y4) * 1)) + 0).toNat ≤ n → iv a → jfr jW_X12_makes a0 a → 0 ≤ y1 → y1 ≤ 7 → 0 ≤ y2 → y2 ≤ 1399 → y3 ≤ 1000000 → 0 ≤ y4 → y4 ≤ 50 → y4 ≤ a 197 (y1.toNat) → y4 * (a 196 (y1.toNat)) ≤ y2 → 0 ≤ y4 → jt (jxX E d 286 83 [some (.inr (.inr (.inl 146))), some (.inl y1), some (.inl y2), some (.inl y3), some (.inl y4), none] [] (jxSH, a, b0)) (jQ_X12_makes a0 b0) := by
    intro y1 y2 y3 y4 a hm hv hf hi0 hi1 hi2 hi3 hi4 hi5 hi6 hi7 hi8 hi9
    refine jt_eq (bq_X12_makes_83 E d y1 y2 y3 y4 a b0) ?_
    have h1839_ := iv_get hv (k := 197) (j := y1.toNat) (l := 0) (u := 50) rfl
    have h1840_ : a 197 (y1.toNat) = a0 197 (y1.toNat) := hf 197 (y1.toNat) rfl
    have h1841_ := iv_get hv0 (k := 197) (j := y1.toNat) (l := 0) (u := 50) rfl
    have h1842_ := iv_get hv (k := 196) (j := y1.toNat) (l := (-1)) (u := 500) rfl
    have h1843_ : a 196 (y1.toNat) = a0 196 (y1.toNat) := hf 196 (y1.toNat) rfl
    have h1844_ := iv_get hv0 (k := 196) (j := y1.toNat) (l := (-1)) (u := 500) rfl
    have hsv := SV_fr hp0 hf (fun _ => rfl) (fun _ => rfl) y1.toNat (by omega)
    have i196 := iv_get hv (k := 196) (j := y1.toNat) (l := (-1)) (u := 500) rfl
    have i197 := iv_get hv (k := 197) (j := y1.toNat) (l := 0) (u := 50) rfl
    have hmul : y4 ≤ a 197 (y1.toNat) → 0 ≤ y4 * (a 196 (y1.toNat)) ∧ y4 * (a 196 (y1.toNat)) ≤ 25500 := fun h => mul_bd (by omega) (by omega) (by omega) (by omega)
    refine jt_grd (by omega) ?_
    have h1845_ : jxw (y1 + 1) = y1 + 1 := jxw_id (by omega) (by omega)
    have h1846_ : jxw (1400 * (jxw (y1 + 1))) = 1400 * (jxw (y1 + 1)) := jxw_id (by omega) (by omega)
    have h1847_ : jxw ((jxw (1400 * (jxw (y1 + 1)))) + y2) = (jxw (1400 * (jxw (y1 + 1)))) + y2 := jxw_id (by omega) (by omega)
    have h1848_ : jxw (y4 * (a 196 (y1.toNat))) = y4 * (a 196 (y1.toNat)) := jxw_id (by omega) (by omega)
    have h1849_ : jxw ((jxw ((jxw (1400 * (jxw (y1 + 1)))) + y2)) - (jxw (y4 * (a 196 (y1.toNat))))) = (jxw ((jxw (1400 * (jxw (y1 + 1)))) + y2)) - (jxw (y4 * (a 196 (y1.toNat)))) := jxw_id (by omega) (by omega)
    refine jt_grd (by omega) ?_
    exact hc112 y1 y2 y3 y4 (jxw (y4 + (a 199 ((jxw ((jxw ((jxw (1400 * (jxw (y1 + 1)))) + y2)) - (jxw (y4 * (a 196 (y1.toNat)))))).toNat)))) a (show (((((((y1 + 1) * 75709) + 0) + ((1400 - y2) * 54)) + 0) + ((51 - y4) * 1)) + 0).toNat ≤ n from by omega) hv hf (show 0 ≤ y1 from by omega) (show y1 ≤ 7 from by omega) (show 0 ≤ y2 from by omega) (show y2 ≤ 1399 from by omega) (show y3 ≤ 1000000 from by omega) (show 0 ≤ y4 from by omega) (show y4 ≤ 50 from by omega)
  have hc131 : ∀ (y1 y2 y3 : Int) (a : Nat → Nat → Int), (((((y1 + 1) * 75709) + 0) + ((1400 - y2) * 54)) + 0).toNat ≤ n → iv a → jfr jW_X12_makes a0 a → 0 ≤ y1 → y1 ≤ 7 → 0 ≤ y2 → y2 ≤ 1399 → y3 ≤ 1000000 → jt (jxX E d 286 131 [some (.inr (.inr (.inl 146))), some (.inl y1), some (.inl y2), some (.inl y3), none, none] [] (jxSH, a, b0)) (jQ_X12_makes a0 b0) := by
    intro y1 y2 y3 a hm hv hf hi0 hi1 hi2 hi3 hi4
    refine jt_eq (bq_X12_makes_131 E d y1 y2 y3 a b0) ?_
    have h1850_ : jxw (1400 * y1) = 1400 * y1 := jxw_id (by omega) (by omega)
    have h1851_ : jxw ((jxw (1400 * y1)) + y2) = (jxw (1400 * y1)) + y2 := jxw_id (by omega) (by omega)
    refine jt_grd (by omega) ?_
    have hv1852_ : iv (jxu a 199 ((jxw ((jxw (1400 * y1)) + y2)).toNat) y3) := iv_putf hv rfl
    have hf1853_ : jfr jW_X12_makes a0 (jxu a 199 ((jxw ((jxw (1400 * y1)) + y2)).toNat) y3) := jfr_put hf rfl
    have h1854_ : jxw (y2 + 1) = y2 + 1 := jxw_id (by omega) (by omega)
    exact ih45 y1 (jxw (y2 + 1)) (jxu a 199 ((jxw ((jxw (1400 * y1)) + y2)).toNat) y3) (show (((((y1 + 1) * 75709) + 0) + ((1400 - (jxw (y2 + 1))) * 54)) + 53).toNat < n from by omega) hv1852_ hf1853_ (show 0 ≤ y1 from by omega) (show y1 ≤ 7 from by omega) (show 0 ≤ jxw (y2 + 1) from by omega) (show jxw (y2 + 1) ≤ 1400 from by omega)
  have hc59 : ∀ (y1 y2 y3 y4 : Int) (a : Nat → Nat → Int), (((((((y1 + 1) * 75709) + 0) + ((1400 - y2) * 54)) + 0) + ((51 - y4) * 1)) + 0).toNat ≤ n → iv a → jfr jW_X12_makes a0 a → 0 ≤ y1 → y1 ≤ 7 → 0 ≤ y2 → y2 ≤ 1399 → y3 ≤ 1000000 → 0 ≤ y4 → y4 ≤ 51 → 0 ≤ y4 → jt (jxX E d 286 59 [some (.inr (.inr (.inl 146))), some (.inl y1), some (.inl y2), some (.inl y3), some (.inl y4), none] [] (jxSH, a, b0)) (jQ_X12_makes a0 b0) := by
    intro y1 y2 y3 y4 a hm hv hf hi0 hi1 hi2 hi3 hi4 hi5 hi6 hi7
    refine jt_eq (bq_X12_makes_59 E d y1 y2 y3 y4 a b0) ?_
    have hsv := SV_fr hp0 hf (fun _ => rfl) (fun _ => rfl) y1.toNat (by omega)
    have i196 := iv_get hv (k := 196) (j := y1.toNat) (l := (-1)) (u := 500) rfl
    have i197 := iv_get hv (k := 197) (j := y1.toNat) (l := 0) (u := 50) rfl
    have hmul : y4 ≤ a 197 (y1.toNat) → 0 ≤ y4 * (a 196 (y1.toNat)) ∧ y4 * (a 196 (y1.toNat)) ≤ 25500 := fun h => mul_bd (by omega) (by omega) (by omega) (by omega)
    refine jt_grd (by omega) ?_
    have h1855_ := iv_get hv (k := 197) (j := y1.toNat) (l := 0) (u := 50) rfl
    have h1856_ : a 197 (y1.toNat) = a0 197 (y1.toNat) := hf 197 (y1.toNat) rfl
    have h1857_ := iv_get hv0 (k := 197) (j := y1.toNat) (l := 0) (u := 50) rfl
    refine jt_ite (fun c1858_ => ?_) (fun c1858_ => ?_)
    ·
      exact hc131 y1 y2 y3 a (show (((((y1 + 1) * 75709) + 0) + ((1400 - y2) * 54)) + 0).toNat ≤ n from by omega) hv hf (show 0 ≤ y1 from by omega) (show y1 ≤ 7 from by omega) (show 0 ≤ y2 from by omega) (show y2 ≤ 1399 from by omega) (show y3 ≤ 1000000 from by omega)
    ·
      refine jt_grd (by omega) ?_
      have h1859_ := iv_get hv (k := 196) (j := y1.toNat) (l := (-1)) (u := 500) rfl
      have h1860_ : a 196 (y1.toNat) = a0 196 (y1.toNat) := hf 196 (y1.toNat) rfl
      have h1861_ := iv_get hv0 (k := 196) (j := y1.toNat) (l := (-1)) (u := 500) rfl
      have h1862_ : jxw (y4 * (a 196 (y1.toNat))) = y4 * (a 196 (y1.toNat)) := jxw_id (by omega) (by omega)
      refine jt_ite (fun c1863_ => ?_) (fun c1863_ => ?_)
      ·
        exact hc131 y1 y2 y3 a (show (((((y1 + 1) * 75709) + 0) + ((1400 - y2) * 54)) + 0).toNat ≤ n from by omega) hv hf (show 0 ≤ y1 from by omega) (show y1 ≤ 7 from by omega) (show 0 ≤ y2 from by omega) (show y2 ≤ 1399 from by omega) (show y3 ≤ 1000000 from by omega)
      ·
        exact hc83 y1 y2 y3 y4 a (show (((((((y1 + 1) * 75709) + 0) + ((1400 - y2) * 54)) + 0) + ((51 - y4) * 1)) + 0).toNat ≤ n from by omega) hv hf (show 0 ≤ y1 from by omega) (show y1 ≤ 7 from by omega) (show 0 ≤ y2 from by omega) (show y2 ≤ 1399 from by omega) (show y3 ≤ 1000000 from by omega) (show 0 ≤ y4 from by omega) (show y4 ≤ 50 from by omega) (show y4 ≤ a 197 (y1.toNat) from by omega) (show y4 * (a 196 (y1.toNat)) ≤ y2 from by omega) (show 0 ≤ y4 from by omega)
  have hc45 : ∀ (y1 y2 : Int) (a : Nat → Nat → Int), (((((y1 + 1) * 75709) + 0) + ((1400 - y2) * 54)) + 53).toNat ≤ n → iv a → jfr jW_X12_makes a0 a → 0 ≤ y1 → y1 ≤ 7 → 0 ≤ y2 → y2 ≤ 1400 → jt (jxX E d 286 45 [some (.inr (.inr (.inl 146))), some (.inl y1), some (.inl y2), none, none, none] [] (jxSH, a, b0)) (jQ_X12_makes a0 b0) := by
    intro y1 y2 a hm hv hf hi0 hi1 hi2 hi3
    refine jt_eq (bq_X12_makes_45 E d y1 y2 a b0) ?_
    refine jt_ite (fun c1864_ => ?_) (fun c1864_ => ?_)
    ·
      exact hc59 y1 y2 1000000 0 a (show (((((((y1 + 1) * 75709) + 0) + ((1400 - y2) * 54)) + 0) + ((51 - 0) * 1)) + 0).toNat ≤ n from by omega) hv hf (show 0 ≤ y1 from by omega) (show y1 ≤ 7 from by omega) (show 0 ≤ y2 from by omega) (show y2 ≤ 1399 from by omega) (show 1000000 ≤ 1000000 from by omega) (show 0 ≤ 0 from by omega) (show 0 ≤ 51 from by omega) (show 0 ≤ 0 from by omega)
    ·
      have h1865_ : jxw (y1 + (-1)) = y1 + (-1) := jxw_id (by omega) (by omega)
      exact ih39 (jxw (y1 + (-1))) a (show ((((jxw (y1 + (-1))) + 1) * 75709) + 75708).toNat < n from by omega) hv hf (show 0 - 1 ≤ jxw (y1 + (-1)) from by omega) (show jxw (y1 + (-1)) ≤ 7 from by omega)
  have hc39 : ∀ (y1 : Int) (a : Nat → Nat → Int), (((y1 + 1) * 75709) + 75708).toNat ≤ n → iv a → jfr jW_X12_makes a0 a → 0 - 1 ≤ y1 → y1 ≤ 7 → jt (jxX E d 286 39 [some (.inr (.inr (.inl 146))), some (.inl y1), none, none, none, none] [] (jxSH, a, b0)) (jQ_X12_makes a0 b0) := by
    intro y1 a hm hv hf hi0 hi1
    refine jt_eq (bq_X12_makes_39 E d y1 a b0) ?_
    refine jt_ite (fun c1866_ => ?_) (fun c1866_ => ?_)
    ·
      exact jt_rV ⟨hv, hf, rfl⟩
    ·
      exact hc45 y1 0 a (show (((((y1 + 1) * 75709) + 0) + ((1400 - 0) * 54)) + 53).toNat ≤ n from by omega) hv hf (show 0 ≤ y1 from by omega) (show y1 ≤ 7 from by omega) (show 0 ≤ 0 from by omega) (show 0 ≤ 1400 from by omega)
  exact ⟨hc112, hc83, hc131, hc59, hc45, hc39⟩
theorem cp_X12_makes_2 (E : jxE) (d : Nat) (hd : Nat.ble 1 (d + 1) = true) (a0 b0 : Nat → Nat → Int) (hv0 : iv a0) (hp0 : SV a0) : ∀ n : Nat, (∀ (y1 : Int) (a : Nat → Nat → Int), (((1400 - y1) * 2) + 1).toNat ≤ n → iv a → jfr jW_X12_makes a0 a → 1 ≤ y1 → y1 ≤ 1400 → jt (jxX E d 286 33 [some (.inr (.inr (.inl 146))), some (.inl y1), none, none, none, none] [] (jxSH, a, b0)) (jQ_X12_makes a0 b0)) ∧ (∀ (y1 : Int) (a : Nat → Nat → Int), (((1400 - y1) * 2) + 0).toNat ≤ n → iv a → jfr jW_X12_makes a0 a → 0 ≤ y1 → y1 ≤ 1400 → jt (jxX E d 286 2 [some (.inr (.inr (.inl 146))), some (.inl y1), none, none, none, none] [] (jxSH, a, b0)) (jQ_X12_makes a0 b0)) := by
  refine jx_ind fun n ih => ?_
  have ih33 : ∀ (y1 : Int) (a : Nat → Nat → Int), (((1400 - y1) * 2) + 1).toNat < n → iv a → jfr jW_X12_makes a0 a → 1 ≤ y1 → y1 ≤ 1400 → jt (jxX E d 286 33 [some (.inr (.inr (.inl 146))), some (.inl y1), none, none, none, none] [] (jxSH, a, b0)) (jQ_X12_makes a0 b0) := fun y1 a hlt i0 i1 i2 i3 => (ih _ hlt).1 y1 a (Nat.le_refl _) i0 i1 i2 i3
  have ih2 : ∀ (y1 : Int) (a : Nat → Nat → Int), (((1400 - y1) * 2) + 0).toNat < n → iv a → jfr jW_X12_makes a0 a → 0 ≤ y1 → y1 ≤ 1400 → jt (jxX E d 286 2 [some (.inr (.inr (.inl 146))), some (.inl y1), none, none, none, none] [] (jxSH, a, b0)) (jQ_X12_makes a0 b0) := fun y1 a hlt i0 i1 i2 i3 => (ih _ hlt).2 y1 a (Nat.le_refl _) i0 i1 i2 i3
  have hc33 : ∀ (y1 : Int) (a : Nat → Nat → Int), (((1400 - y1) * 2) + 1).toNat ≤ n → iv a → jfr jW_X12_makes a0 a → 1 ≤ y1 → y1 ≤ 1400 → jt (jxX E d 286 33 [some (.inr (.inr (.inl 146))), some (.inl y1), none, none, none, none] [] (jxSH, a, b0)) (jQ_X12_makes a0 b0) := by
    intro y1 a hm hv hf hi0 hi1
    refine jt_eq (bq_X12_makes_33 E d y1 a b0) ?_
    exact ih2 y1 a (show (((1400 - y1) * 2) + 0).toNat < n from by omega) hv hf (show 0 ≤ y1 from by omega) (show y1 ≤ 1400 from by omega)
  have hc2 : ∀ (y1 : Int) (a : Nat → Nat → Int), (((1400 - y1) * 2) + 0).toNat ≤ n → iv a → jfr jW_X12_makes a0 a → 0 ≤ y1 → y1 ≤ 1400 → jt (jxX E d 286 2 [some (.inr (.inr (.inl 146))), some (.inl y1), none, none, none, none] [] (jxSH, a, b0)) (jQ_X12_makes a0 b0) := by
    intro y1 a hm hv hf hi0 hi1
    refine jt_eq (bq_X12_makes_2 E d y1 a b0) ?_
    refine jt_ite (fun c1867_ => ?_) (fun c1867_ => ?_)
    ·
      refine jt_ite (fun c1868_ => ?_) (fun c1868_ => ?_)
      ·
        have h1869_ : jxw (11200 + y1) = 11200 + y1 := jxw_id (by omega) (by omega)
        refine jt_grd (by omega) ?_
        have hv1870_ : iv (jxu a 199 ((jxw (11200 + y1)).toNat) 0) := iv_putf hv rfl
        have hf1871_ : jfr jW_X12_makes a0 (jxu a 199 ((jxw (11200 + y1)).toNat) 0) := jfr_put hf rfl
        have h1872_ : jxw (y1 + 1) = y1 + 1 := jxw_id (by omega) (by omega)
        exact hc33 (jxw (y1 + 1)) (jxu a 199 ((jxw (11200 + y1)).toNat) 0) (show (((1400 - (jxw (y1 + 1))) * 2) + 1).toNat ≤ n from by omega) hv1870_ hf1871_ (show 1 ≤ jxw (y1 + 1) from by omega) (show jxw (y1 + 1) ≤ 1400 from by omega)
      ·
        have h1873_ : jxw (11200 + y1) = 11200 + y1 := jxw_id (by omega) (by omega)
        refine jt_grd (by omega) ?_
        have hv1874_ : iv (jxu a 199 ((jxw (11200 + y1)).toNat) 1000000) := iv_putf hv rfl
        have hf1875_ : jfr jW_X12_makes a0 (jxu a 199 ((jxw (11200 + y1)).toNat) 1000000) := jfr_put hf rfl
        have h1876_ : jxw (y1 + 1) = y1 + 1 := jxw_id (by omega) (by omega)
        exact hc33 (jxw (y1 + 1)) (jxu a 199 ((jxw (11200 + y1)).toNat) 1000000) (show (((1400 - (jxw (y1 + 1))) * 2) + 1).toNat ≤ n from by omega) hv1874_ hf1875_ (show 1 ≤ jxw (y1 + 1) from by omega) (show jxw (y1 + 1) ≤ 1400 from by omega)
    ·
      exact (cp_X12_makes_39 E d hd a0 b0 hv0 hp0 _).2.2.2.2.2 7 a (Nat.le_refl _) hv hf (show 0 - 1 ≤ 7 from by omega) (show 7 ≤ 7 from by omega)
  exact ⟨hc33, hc2⟩
theorem sp_X12_makes (E : jxE) (d : Nat) (hd : Nat.ble 1 d = true) (a0 b0 : Nat → Nat → Int) (hv0 : iv a0) (hp0 : SV a0) : jt (jxC E d 286 [.inr (.inr (.inl 146))] (jxSH, a0, b0)) (jQ_X12_makes a0 b0) := by
  obtain ⟨d, rfl⟩ := jd_succ hd
  refine jt_eq (bq_X12_makes E d a0 b0) ?_
  exact (cp_X12_makes_2 E d hd a0 b0 hv0 hp0 _).2 0 a0 (Nat.le_refl _) hv0 (jfr_rf _ _) (show 0 ≤ 0 from by omega) (show 0 ≤ 1400 from by omega)
def jW_X12_pay : List (Nat × Nat) := [(146, 75), (197, 9999), (198, 9999), (199, 9999)]
abbrev jQ_X12_pay (x1 x2 : Int) (a0 b0 : Nat → Nat → Int) : List jxV → (Nat → Nat → Int) → (Nat → Nat → Int) → Prop := rI (fun r a b => (iv a) ∧ (jfr jW_X12_pay a0 a) ∧ (b0 = b) ∧ (SV a) ∧ ((a0 146 9 = 0 → r = 0 - 1)))
theorem cp_X12_pay_118 (E : jxE) (d : Nat) (hd : Nat.ble 2 (d + 1) = true) (x1 x2 : Int) (a0 b0 : Nat → Nat → Int) (hv0 : iv a0) (hp0 : SV a0) : ∀ n : Nat, (∀ (y4 y5 y6 y7 : Int) (a : Nat → Nat → Int), (((((8 - y6) * 53) + 0) + ((y7 + 0) * 1)) + 0).toNat ≤ n → iv a → jfr jW_X12_pay a0 a → 0 ≤ y4 → y4 ≤ 1399 → 0 ≤ y5 → y5 ≤ 1399 → 0 ≤ y6 → y6 ≤ 7 → 1 ≤ y7 → y7 ≤ 50 → 0 ≤ y5 → y5 ≤ 1399 → 0 ≤ y7 → y7 ≤ a 197 (y6.toNat) → 1 ≤ y7 → (SV a) → 1 ≤ a0 146 9 → jt (jxX E d 287 201 [some (.inr (.inr (.inl 146))), none, none, none, some (.inl y4), some (.inl y5), some (.inl y6), some (.inl y7)] [] (jxSH, a, b0)) (jQ_X12_pay x1 x2 a0 b0)) ∧ (∀ (y4 y5 y6 : Int) (a : Nat → Nat → Int), (((8 - y6) * 53) + 0).toNat ≤ n → iv a → jfr jW_X12_pay a0 a → 0 ≤ y4 → y4 ≤ 1399 → 0 ≤ y5 → y5 ≤ 1399 → 0 ≤ y6 → y6 ≤ 7 → 0 ≤ y5 → y5 ≤ 1399 → (SV a) → 1 ≤ a0 146 9 → jt (jxX E d 287 243 [some (.inr (.inr (.inl 146))), none, none, none, some (.inl y4), some (.inl y5), some (.inl y6), none] [] (jxSH, a, b0)) (jQ_X12_pay x1 x2 a0 b0)) ∧ (∀ (y4 y5 y6 y7 : Int) (a : Nat → Nat → Int), (((8 - y6) * 53) + 0).toNat ≤ n → iv a → jfr jW_X12_pay a0 a → 0 ≤ y4 → y4 ≤ 1399 → 0 ≤ y5 → y5 ≤ 1399 → 0 ≤ y6 → y6 ≤ 7 → 0 ≤ y7 → y7 ≤ 50 → 0 ≤ y5 → y5 ≤ 1399 → 0 ≤ y7 → y7 ≤ a 197 (y6.toNat) → y7 * (a 196 (y6.toNat)) ≤ y5 → (SV a) → 1 ≤ a0 146 9 → jt (jxX E d 287 207 [some (.inr (.inr (.inl 146))), none, none, none, some (.inl y4), some (.inl y5), some (.inl y6), some (.inl y7)] [] (jxSH, a, b0)) (jQ_X12_pay x1 x2 a0 b0)) ∧ (∀ (y4 y5 y6 y7 : Int) (a : Nat → Nat → Int), (((((8 - y6) * 53) + 0) + ((y7 + 0) * 1)) + 0).toNat ≤ n → iv a → jfr jW_X12_pay a0 a → 0 ≤ y4 → y4 ≤ 1399 → 0 ≤ y5 → y5 ≤ 1399 → 0 ≤ y6 → y6 ≤ 7 → 0 ≤ y7 → y7 ≤ 50 → 0 ≤ y5 → y5 ≤ 1399 → 0 ≤ y7 → y7 ≤ a 197 (y6.toNat) → (SV a) → 1 ≤ a0 146 9 → jt (jxX E d 287 134 [some (.inr (.inr (.inl 146))), none, none, none, some (.inl y4), some (.inl y5), some (.inl y6), some (.inl y7)] [] (jxSH, a, b0)) (jQ_X12_pay x1 x2 a0 b0)) ∧ (∀ (y4 y5 y6 : Int) (a : Nat → Nat → Int), (((8 - y6) * 53) + 52).toNat ≤ n → iv a → jfr jW_X12_pay a0 a → 0 ≤ y4 → y4 ≤ 1399 → 0 ≤ y5 → y5 ≤ 1399 → 0 ≤ y6 → y6 ≤ 8 → 0 ≤ y5 → y5 ≤ 1399 → (SV a) → 1 ≤ a0 146 9 → jt (jxX E d 287 118 [some (.inr (.inr (.inl 146))), none, none, none, some (.inl y4), some (.inl y5), some (.inl y6), none] [] (jxSH, a, b0)) (jQ_X12_pay x1 x2 a0 b0)) := by
  refine jx_ind fun n ih => ?_
  have ih201 : ∀ (y4 y5 y6 y7 : Int) (a : Nat → Nat → Int), (((((8 - y6) * 53) + 0) + ((y7 + 0) * 1)) + 0).toNat < n → iv a → jfr jW_X12_pay a0 a → 0 ≤ y4 → y4 ≤ 1399 → 0 ≤ y5 → y5 ≤ 1399 → 0 ≤ y6 → y6 ≤ 7 → 1 ≤ y7 → y7 ≤ 50 → 0 ≤ y5 → y5 ≤ 1399 → 0 ≤ y7 → y7 ≤ a 197 (y6.toNat) → 1 ≤ y7 → (SV a) → 1 ≤ a0 146 9 → jt (jxX E d 287 201 [some (.inr (.inr (.inl 146))), none, none, none, some (.inl y4), some (.inl y5), some (.inl y6), some (.inl y7)] [] (jxSH, a, b0)) (jQ_X12_pay x1 x2 a0 b0) := fun y4 y5 y6 y7 a hlt i0 i1 i2 i3 i4 i5 i6 i7 i8 i9 i10 i11 i12 i13 i14 i15 i16 => (ih _ hlt).1 y4 y5 y6 y7 a (Nat.le_refl _) i0 i1 i2 i3 i4 i5 i6 i7 i8 i9 i10 i11 i12 i13 i14 i15 i16
  have ih243 : ∀ (y4 y5 y6 : Int) (a : Nat → Nat → Int), (((8 - y6) * 53) + 0).toNat < n → iv a → jfr jW_X12_pay a0 a → 0 ≤ y4 → y4 ≤ 1399 → 0 ≤ y5 → y5 ≤ 1399 → 0 ≤ y6 → y6 ≤ 7 → 0 ≤ y5 → y5 ≤ 1399 → (SV a) → 1 ≤ a0 146 9 → jt (jxX E d 287 243 [some (.inr (.inr (.inl 146))), none, none, none, some (.inl y4), some (.inl y5), some (.inl y6), none] [] (jxSH, a, b0)) (jQ_X12_pay x1 x2 a0 b0) := fun y4 y5 y6 a hlt i0 i1 i2 i3 i4 i5 i6 i7 i8 i9 i10 i11 => (ih _ hlt).2.1 y4 y5 y6 a (Nat.le_refl _) i0 i1 i2 i3 i4 i5 i6 i7 i8 i9 i10 i11
  have ih207 : ∀ (y4 y5 y6 y7 : Int) (a : Nat → Nat → Int), (((8 - y6) * 53) + 0).toNat < n → iv a → jfr jW_X12_pay a0 a → 0 ≤ y4 → y4 ≤ 1399 → 0 ≤ y5 → y5 ≤ 1399 → 0 ≤ y6 → y6 ≤ 7 → 0 ≤ y7 → y7 ≤ 50 → 0 ≤ y5 → y5 ≤ 1399 → 0 ≤ y7 → y7 ≤ a 197 (y6.toNat) → y7 * (a 196 (y6.toNat)) ≤ y5 → (SV a) → 1 ≤ a0 146 9 → jt (jxX E d 287 207 [some (.inr (.inr (.inl 146))), none, none, none, some (.inl y4), some (.inl y5), some (.inl y6), some (.inl y7)] [] (jxSH, a, b0)) (jQ_X12_pay x1 x2 a0 b0) := fun y4 y5 y6 y7 a hlt i0 i1 i2 i3 i4 i5 i6 i7 i8 i9 i10 i11 i12 i13 i14 i15 i16 => (ih _ hlt).2.2.1 y4 y5 y6 y7 a (Nat.le_refl _) i0 i1 i2 i3 i4 i5 i6 i7 i8 i9 i10 i11 i12 i13 i14 i15 i16
  have ih134 : ∀ (y4 y5 y6 y7 : Int) (a : Nat → Nat → Int), (((((8 - y6) * 53) + 0) + ((y7 + 0) * 1)) + 0).toNat < n → iv a → jfr jW_X12_pay a0 a → 0 ≤ y4 → y4 ≤ 1399 → 0 ≤ y5 → y5 ≤ 1399 → 0 ≤ y6 → y6 ≤ 7 → 0 ≤ y7 → y7 ≤ 50 → 0 ≤ y5 → y5 ≤ 1399 → 0 ≤ y7 → y7 ≤ a 197 (y6.toNat) → (SV a) → 1 ≤ a0 146 9 → jt (jxX E d 287 134 [some (.inr (.inr (.inl 146))), none, none, none, some (.inl y4), some (.inl y5), some (.inl y6), some (.inl y7)] [] (jxSH, a, b0)) (jQ_X12_pay x1 x2 a0 b0) := fun y4 y5 y6 y7 a hlt i0 i1 i2 i3 i4 i5 i6 i7 i8 i9 i10 i11 i12 i13 i14 i15 => (ih _ hlt).2.2.2.1 y4 y5 y6 y7 a (Nat.le_refl _) i0 i1 i2 i3 i4 i5 i6 i7 i8 i9 i10 i11 i12 i13 i14 i15
  have ih118 : ∀ (y4 y5 y6 : Int) (a : Nat → Nat → Int), (((8 - y6) * 53) + 52).toNat < n → iv a → jfr jW_X12_pay a0 a → 0 ≤ y4 → y4 ≤ 1399 → 0 ≤ y5 → y5 ≤ 1399 → 0 ≤ y6 → y6 ≤ 8 → 0 ≤ y5 → y5 ≤ 1399 → (SV a) → 1 ≤ a0 146 9 → jt (jxX E d 287 118 [some (.inr (.inr (.inl 146))), none, none, none, some (.inl y4), some (.inl y5), some (.inl y6), none] [] (jxSH, a, b0)) (jQ_X12_pay x1 x2 a0 b0) := fun y4 y5 y6 a hlt i0 i1 i2 i3 i4 i5 i6 i7 i8 i9 i10 i11 => (ih _ hlt).2.2.2.2 y4 y5 y6 a (Nat.le_refl _) i0 i1 i2 i3 i4 i5 i6 i7 i8 i9 i10 i11
  have hc201 : ∀ (y4 y5 y6 y7 : Int) (a : Nat → Nat → Int), (((((8 - y6) * 53) + 0) + ((y7 + 0) * 1)) + 0).toNat ≤ n → iv a → jfr jW_X12_pay a0 a → 0 ≤ y4 → y4 ≤ 1399 → 0 ≤ y5 → y5 ≤ 1399 → 0 ≤ y6 → y6 ≤ 7 → 1 ≤ y7 → y7 ≤ 50 → 0 ≤ y5 → y5 ≤ 1399 → 0 ≤ y7 → y7 ≤ a 197 (y6.toNat) → 1 ≤ y7 → (SV a) → 1 ≤ a0 146 9 → jt (jxX E d 287 201 [some (.inr (.inr (.inl 146))), none, none, none, some (.inl y4), some (.inl y5), some (.inl y6), some (.inl y7)] [] (jxSH, a, b0)) (jQ_X12_pay x1 x2 a0 b0) := by
    intro y4 y5 y6 y7 a hm hv hf hi0 hi1 hi2 hi3 hi4 hi5 hi6 hi7 hi8 hi9 hi10 hi11 hi12 hi13 hi14
    refine jt_eq (bq_X12_pay_201 E d y4 y5 y6 y7 a b0) ?_
    have h1877_ := iv_get hv (k := 197) (j := y6.toNat) (l := 0) (u := 50) rfl
    have h1878_ := iv_get hv0 (k := 146) (j := 9) (l := 0) (u := 300) rfl
    have i196 := iv_get hv (k := 196) (j := y6.toNat) (l := (-1)) (u := 500) rfl
    have i197 := iv_get hv (k := 197) (j := y6.toNat) (l := 0) (u := 50) rfl
    have hmul : y7 ≤ a 197 (y6.toNat) → 0 ≤ y7 * (a 196 (y6.toNat)) ∧ y7 * (a 196 (y6.toNat)) ≤ 25500 := fun h => mul_bd (by omega) (by omega) (by omega) (by have := (by assumption : SV a) y6.toNat (by omega); omega)
    have hz : y7 = 0 → y7 * (a 196 (y6.toNat)) = 0 := fun h => by rw [h]; exact Int.zero_mul _
    have h1879_ : jxw (y7 + (-1)) = y7 + (-1) := jxw_id (by omega) (by omega)
    exact ih134 y4 y5 y6 (jxw (y7 + (-1))) a (show (((((8 - y6) * 53) + 0) + (((jxw (y7 + (-1))) + 0) * 1)) + 0).toNat < n from by omega) hv hf (show 0 ≤ y4 from by omega) (show y4 ≤ 1399 from by omega) (show 0 ≤ y5 from by omega) (show y5 ≤ 1399 from by omega) (show 0 ≤ y6 from by omega) (show y6 ≤ 7 from by omega) (show 0 ≤ jxw (y7 + (-1)) from by omega) (show jxw (y7 + (-1)) ≤ 50 from by omega) (show 0 ≤ y5 from by omega) (show y5 ≤ 1399 from by omega) (show 0 ≤ jxw (y7 + (-1)) from by omega) (show jxw (y7 + (-1)) ≤ a 197 (y6.toNat) from by omega) hi13 (show 1 ≤ a0 146 9 from by omega)
  have hc243 : ∀ (y4 y5 y6 : Int) (a : Nat → Nat → Int), (((8 - y6) * 53) + 0).toNat ≤ n → iv a → jfr jW_X12_pay a0 a → 0 ≤ y4 → y4 ≤ 1399 → 0 ≤ y5 → y5 ≤ 1399 → 0 ≤ y6 → y6 ≤ 7 → 0 ≤ y5 → y5 ≤ 1399 → (SV a) → 1 ≤ a0 146 9 → jt (jxX E d 287 243 [some (.inr (.inr (.inl 146))), none, none, none, some (.inl y4), some (.inl y5), some (.inl y6), none] [] (jxSH, a, b0)) (jQ_X12_pay x1 x2 a0 b0) := by
    intro y4 y5 y6 a hm hv hf hi0 hi1 hi2 hi3 hi4 hi5 hi6 hi7 hi8 hi9
    refine jt_eq (bq_X12_pay_243 E d y4 y5 y6 a b0) ?_
    have h1880_ := iv_get hv0 (k := 146) (j := 9) (l := 0) (u := 300) rfl
    have h1881_ : jxw (y6 + 1) = y6 + 1 := jxw_id (by omega) (by omega)
    exact ih118 y4 y5 (jxw (y6 + 1)) a (show (((8 - (jxw (y6 + 1))) * 53) + 52).toNat < n from by omega) hv hf (show 0 ≤ y4 from by omega) (show y4 ≤ 1399 from by omega) (show 0 ≤ y5 from by omega) (show y5 ≤ 1399 from by omega) (show 0 ≤ jxw (y6 + 1) from by omega) (show jxw (y6 + 1) ≤ 8 from by omega) (show 0 ≤ y5 from by omega) (show y5 ≤ 1399 from by omega) hi8 (show 1 ≤ a0 146 9 from by omega)
  have hc207 : ∀ (y4 y5 y6 y7 : Int) (a : Nat → Nat → Int), (((8 - y6) * 53) + 0).toNat ≤ n → iv a → jfr jW_X12_pay a0 a → 0 ≤ y4 → y4 ≤ 1399 → 0 ≤ y5 → y5 ≤ 1399 → 0 ≤ y6 → y6 ≤ 7 → 0 ≤ y7 → y7 ≤ 50 → 0 ≤ y5 → y5 ≤ 1399 → 0 ≤ y7 → y7 ≤ a 197 (y6.toNat) → y7 * (a 196 (y6.toNat)) ≤ y5 → (SV a) → 1 ≤ a0 146 9 → jt (jxX E d 287 207 [some (.inr (.inr (.inl 146))), none, none, none, some (.inl y4), some (.inl y5), some (.inl y6), some (.inl y7)] [] (jxSH, a, b0)) (jQ_X12_pay x1 x2 a0 b0) := by
    intro y4 y5 y6 y7 a hm hv hf hi0 hi1 hi2 hi3 hi4 hi5 hi6 hi7 hi8 hi9 hi10 hi11 hi12 hi13 hi14
    refine jt_eq (bq_X12_pay_207 E d y4 y5 y6 y7 a b0) ?_
    have h1882_ := iv_get hv (k := 197) (j := y6.toNat) (l := 0) (u := 50) rfl
    have h1883_ := iv_get hv (k := 196) (j := y6.toNat) (l := (-1)) (u := 500) rfl
    have h1884_ : a 196 (y6.toNat) = a0 196 (y6.toNat) := hf 196 (y6.toNat) rfl
    have h1885_ := iv_get hv0 (k := 196) (j := y6.toNat) (l := (-1)) (u := 500) rfl
    have h1886_ := iv_get hv0 (k := 146) (j := 9) (l := 0) (u := 300) rfl
    have i196 := iv_get hv (k := 196) (j := y6.toNat) (l := (-1)) (u := 500) rfl
    have i197 := iv_get hv (k := 197) (j := y6.toNat) (l := 0) (u := 50) rfl
    have hmul : y7 ≤ a 197 (y6.toNat) → 0 ≤ y7 * (a 196 (y6.toNat)) ∧ y7 * (a 196 (y6.toNat)) ≤ 25500 := fun h => mul_bd (by omega) (by omega) (by omega) (by have := (by assumption : SV a) y6.toNat (by omega); omega)
    have hz : y7 = 0 → y7 * (a 196 (y6.toNat)) = 0 := fun h => by rw [h]; exact Int.zero_mul _
    refine jt_grd (by omega) ?_
    refine jt_grd (by omega) ?_
    refine jt_grd (by omega) ?_
    refine jt_grd (by omega) ?_
    have hv1887_ : iv (jxu a 198 (y6.toNat) y7) := iv_putf hv rfl
    have h1889_ : jxw ((a 197 (y6.toNat)) - y7) = (a 197 (y6.toNat)) - y7 := jxw_id (by omega) (by omega)
    have hv1888_ : iv (jxu (jxu a 198 (y6.toNat) y7) 197 (y6.toNat) (jxw ((a 197 (y6.toNat)) - y7))) := iv_put hv1887_ (l := 0) (u := 50) rfl (by omega) (by omega)
    have hf1890_ : jfr jW_X12_pay a0 (jxu a 198 (y6.toNat) y7) := jfr_put hf rfl
    have hf1891_ : jfr jW_X12_pay a0 (jxu (jxu a 198 (y6.toNat) y7) 197 (y6.toNat) (jxw ((a 197 (y6.toNat)) - y7))) := jfr_put hf1890_ rfl
    have h1892_ : jxw (y7 * (a 196 (y6.toNat))) = y7 * (a 196 (y6.toNat)) := jxw_id (by omega) (by omega)
    have h1893_ : jxw (y5 - (jxw (y7 * (a 196 (y6.toNat))))) = y5 - (jxw (y7 * (a 196 (y6.toNat)))) := jxw_id (by omega) (by omega)
    have hg1894_ : SV (jxu a 198 (y6.toNat) y7) := (SV_fr hi13 (jfr_1 a 198 (y6.toNat) y7) (fun _ => rfl) (fun _ => rfl))
    have hg1895_ : SV (jxu (jxu a 198 (y6.toNat) y7) 197 (y6.toNat) (jxw ((a 197 (y6.toNat)) - y7))) := (SV_put197 hg1894_ (by first | (left; show jxw ((a 197 (y6.toNat)) - y7) ≤ a 197 (y6.toNat); omega) | (right; show 1 ≤ a 196 (y6.toNat); omega)))
    exact hc243 y4 (jxw (y5 - (jxw (y7 * (a 196 (y6.toNat)))))) y6 (jxu (jxu a 198 (y6.toNat) y7) 197 (y6.toNat) (jxw ((a 197 (y6.toNat)) - y7))) (show (((8 - y6) * 53) + 0).toNat ≤ n from by omega) hv1888_ hf1891_ (show 0 ≤ y4 from by omega) (show y4 ≤ 1399 from by omega) (show 0 ≤ jxw (y5 - (jxw (y7 * (a 196 (y6.toNat))))) from by omega) (show jxw (y5 - (jxw (y7 * (a 196 (y6.toNat))))) ≤ 1399 from by omega) (show 0 ≤ y6 from by omega) (show y6 ≤ 7 from by omega) (show 0 ≤ jxw (y5 - (jxw (y7 * (a 196 (y6.toNat))))) from by omega) (show jxw (y5 - (jxw (y7 * (a 196 (y6.toNat))))) ≤ 1399 from by omega) hg1895_ (show 1 ≤ a0 146 9 from by omega)
  have hc134 : ∀ (y4 y5 y6 y7 : Int) (a : Nat → Nat → Int), (((((8 - y6) * 53) + 0) + ((y7 + 0) * 1)) + 0).toNat ≤ n → iv a → jfr jW_X12_pay a0 a → 0 ≤ y4 → y4 ≤ 1399 → 0 ≤ y5 → y5 ≤ 1399 → 0 ≤ y6 → y6 ≤ 7 → 0 ≤ y7 → y7 ≤ 50 → 0 ≤ y5 → y5 ≤ 1399 → 0 ≤ y7 → y7 ≤ a 197 (y6.toNat) → (SV a) → 1 ≤ a0 146 9 → jt (jxX E d 287 134 [some (.inr (.inr (.inl 146))), none, none, none, some (.inl y4), some (.inl y5), some (.inl y6), some (.inl y7)] [] (jxSH, a, b0)) (jQ_X12_pay x1 x2 a0 b0) := by
    intro y4 y5 y6 y7 a hm hv hf hi0 hi1 hi2 hi3 hi4 hi5 hi6 hi7 hi8 hi9 hi10 hi11 hi12 hi13
    refine jt_eq (bq_X12_pay_134 E d y4 y5 y6 y7 a b0) ?_
    have h1896_ := iv_get hv (k := 197) (j := y6.toNat) (l := 0) (u := 50) rfl
    have h1897_ := iv_get hv0 (k := 146) (j := 9) (l := 0) (u := 300) rfl
    have i196 := iv_get hv (k := 196) (j := y6.toNat) (l := (-1)) (u := 500) rfl
    have i197 := iv_get hv (k := 197) (j := y6.toNat) (l := 0) (u := 50) rfl
    have hmul : y7 ≤ a 197 (y6.toNat) → 0 ≤ y7 * (a 196 (y6.toNat)) ∧ y7 * (a 196 (y6.toNat)) ≤ 25500 := fun h => mul_bd (by omega) (by omega) (by omega) (by have := (by assumption : SV a) y6.toNat (by omega); omega)
    have hz : y7 = 0 → y7 * (a 196 (y6.toNat)) = 0 := fun h => by rw [h]; exact Int.zero_mul _
    refine jt_ite (fun c1898_ => ?_) (fun c1898_ => ?_)
    ·
      refine jt_grd (by omega) ?_
      have h1899_ := iv_get hv (k := 196) (j := y6.toNat) (l := (-1)) (u := 500) rfl
      have h1900_ : a 196 (y6.toNat) = a0 196 (y6.toNat) := hf 196 (y6.toNat) rfl
      have h1901_ := iv_get hv0 (k := 196) (j := y6.toNat) (l := (-1)) (u := 500) rfl
      have h1902_ : jxw (y7 * (a 196 (y6.toNat))) = y7 * (a 196 (y6.toNat)) := jxw_id (by omega) (by omega)
      refine jt_ite (fun c1903_ => ?_) (fun c1903_ => ?_)
      ·
        exact hc201 y4 y5 y6 y7 a (show (((((8 - y6) * 53) + 0) + ((y7 + 0) * 1)) + 0).toNat ≤ n from by omega) hv hf (show 0 ≤ y4 from by omega) (show y4 ≤ 1399 from by omega) (show 0 ≤ y5 from by omega) (show y5 ≤ 1399 from by omega) (show 0 ≤ y6 from by omega) (show y6 ≤ 7 from by omega) (show 1 ≤ y7 from by omega) (show y7 ≤ 50 from by omega) (show 0 ≤ y5 from by omega) (show y5 ≤ 1399 from by omega) (show 0 ≤ y7 from by omega) (show y7 ≤ a 197 (y6.toNat) from by omega) (show 1 ≤ y7 from by omega) hi12 (show 1 ≤ a0 146 9 from by omega)
      ·
        refine jt_grd (by omega) ?_
        have h1904_ : jxw (y6 + 1) = y6 + 1 := jxw_id (by omega) (by omega)
        have h1905_ : jxw (1400 * (jxw (y6 + 1))) = 1400 * (jxw (y6 + 1)) := jxw_id (by omega) (by omega)
        have h1906_ : jxw ((jxw (1400 * (jxw (y6 + 1)))) + y5) = (jxw (1400 * (jxw (y6 + 1)))) + y5 := jxw_id (by omega) (by omega)
        have h1907_ : jxw ((jxw ((jxw (1400 * (jxw (y6 + 1)))) + y5)) - (jxw (y7 * (a 196 (y6.toNat))))) = (jxw ((jxw (1400 * (jxw (y6 + 1)))) + y5)) - (jxw (y7 * (a 196 (y6.toNat)))) := jxw_id (by omega) (by omega)
        refine jt_grd (by omega) ?_
        have h1908_ : jxw (1400 * y6) = 1400 * y6 := jxw_id (by omega) (by omega)
        have h1909_ : jxw ((jxw (1400 * y6)) + y5) = (jxw (1400 * y6)) + y5 := jxw_id (by omega) (by omega)
        refine jt_grd (by omega) ?_
        have h1910_ := jxw_im (y7 + (a 199 ((jxw ((jxw ((jxw (1400 * (jxw (y6 + 1)))) + y5)) - (jxw (y7 * (a 196 (y6.toNat)))))).toNat)))
        have h1911_ := jxw_rg (y7 + (a 199 ((jxw ((jxw ((jxw (1400 * (jxw (y6 + 1)))) + y5)) - (jxw (y7 * (a 196 (y6.toNat)))))).toNat)))
        refine jt_ite (fun c1912_ => ?_) (fun c1912_ => ?_)
        ·
          exact hc207 y4 y5 y6 y7 a (show (((8 - y6) * 53) + 0).toNat ≤ n from by omega) hv hf (show 0 ≤ y4 from by omega) (show y4 ≤ 1399 from by omega) (show 0 ≤ y5 from by omega) (show y5 ≤ 1399 from by omega) (show 0 ≤ y6 from by omega) (show y6 ≤ 7 from by omega) (show 0 ≤ y7 from by omega) (show y7 ≤ 50 from by omega) (show 0 ≤ y5 from by omega) (show y5 ≤ 1399 from by omega) (show 0 ≤ y7 from by omega) (show y7 ≤ a 197 (y6.toNat) from by omega) (show y7 * (a 196 (y6.toNat)) ≤ y5 from by omega) hi12 (show 1 ≤ a0 146 9 from by omega)
        ·
          exact hc201 y4 y5 y6 y7 a (show (((((8 - y6) * 53) + 0) + ((y7 + 0) * 1)) + 0).toNat ≤ n from by omega) hv hf (show 0 ≤ y4 from by omega) (show y4 ≤ 1399 from by omega) (show 0 ≤ y5 from by omega) (show y5 ≤ 1399 from by omega) (show 0 ≤ y6 from by omega) (show y6 ≤ 7 from by omega) (show 1 ≤ y7 from by omega) (show y7 ≤ 50 from by omega) (show 0 ≤ y5 from by omega) (show y5 ≤ 1399 from by omega) (show 0 ≤ y7 from by omega) (show y7 ≤ a 197 (y6.toNat) from by omega) (show 1 ≤ y7 from by omega) hi12 (show 1 ≤ a0 146 9 from by omega)
    ·
      have h1913_ := iv_get hv (k := 196) (j := y6.toNat) (l := (-1)) (u := 500) rfl
      have h1914_ : a 196 (y6.toNat) = a0 196 (y6.toNat) := hf 196 (y6.toNat) rfl
      have h1915_ := iv_get hv0 (k := 196) (j := y6.toNat) (l := (-1)) (u := 500) rfl
      exact hc207 y4 y5 y6 y7 a (show (((8 - y6) * 53) + 0).toNat ≤ n from by omega) hv hf (show 0 ≤ y4 from by omega) (show y4 ≤ 1399 from by omega) (show 0 ≤ y5 from by omega) (show y5 ≤ 1399 from by omega) (show 0 ≤ y6 from by omega) (show y6 ≤ 7 from by omega) (show 0 ≤ y7 from by omega) (show y7 ≤ 50 from by omega) (show 0 ≤ y5 from by omega) (show y5 ≤ 1399 from by omega) (show 0 ≤ y7 from by omega) (show y7 ≤ a 197 (y6.toNat) from by omega) (show y7 * (a 196 (y6.toNat)) ≤ y5 from by omega) hi12 (show 1 ≤ a0 146 9 from by omega)
  have hc118 : ∀ (y4 y5 y6 : Int) (a : Nat → Nat → Int), (((8 - y6) * 53) + 52).toNat ≤ n → iv a → jfr jW_X12_pay a0 a → 0 ≤ y4 → y4 ≤ 1399 → 0 ≤ y5 → y5 ≤ 1399 → 0 ≤ y6 → y6 ≤ 8 → 0 ≤ y5 → y5 ≤ 1399 → (SV a) → 1 ≤ a0 146 9 → jt (jxX E d 287 118 [some (.inr (.inr (.inl 146))), none, none, none, some (.inl y4), some (.inl y5), some (.inl y6), none] [] (jxSH, a, b0)) (jQ_X12_pay x1 x2 a0 b0) := by
    intro y4 y5 y6 a hm hv hf hi0 hi1 hi2 hi3 hi4 hi5 hi6 hi7 hi8 hi9
    refine jt_eq (bq_X12_pay_118 E d y4 y5 y6 a b0) ?_
    have h1916_ := iv_get hv0 (k := 146) (j := 9) (l := 0) (u := 300) rfl
    refine jt_ite (fun c1917_ => ?_) (fun c1917_ => ?_)
    ·
      refine jt_grd (by omega) ?_
      have h1918_ := iv_get hv (k := 197) (j := y6.toNat) (l := 0) (u := 50) rfl
      exact hc134 y4 y5 y6 (a 197 (y6.toNat)) a (show (((((8 - y6) * 53) + 0) + (((a 197 (y6.toNat)) + 0) * 1)) + 0).toNat ≤ n from by omega) hv hf (show 0 ≤ y4 from by omega) (show y4 ≤ 1399 from by omega) (show 0 ≤ y5 from by omega) (show y5 ≤ 1399 from by omega) (show 0 ≤ y6 from by omega) (show y6 ≤ 7 from by omega) (show 0 ≤ a 197 (y6.toNat) from by omega) (show a 197 (y6.toNat) ≤ 50 from by omega) (show 0 ≤ y5 from by omega) (show y5 ≤ 1399 from by omega) (show 0 ≤ a 197 (y6.toNat) from by omega) (show a 197 (y6.toNat) ≤ a 197 (y6.toNat) from by omega) hi8 (show 1 ≤ a0 146 9 from by omega)
    ·
      have hv1919_ : iv (jxu a 146 75 1) := iv_putf hv rfl
      have hf1920_ : jfr jW_X12_pay a0 (jxu a 146 75 1) := jfr_put hf rfl
      have hg1921_ : SV (jxu a 146 75 1) := (SV_fr hi8 (jfr_1s a 146 75 1) (fun _ => rfl) (fun _ => rfl))
      exact jt_rI ⟨hv1919_, hf1920_, rfl, hg1921_, (show (a0 146 9 = 0 → y4 = 0 - 1) from by omega)⟩
  exact ⟨hc201, hc243, hc207, hc134, hc118⟩
theorem cp_X12_pay_100 (E : jxE) (d : Nat) (hd : Nat.ble 2 (d + 1) = true) (x1 x2 : Int) (a0 b0 : Nat → Nat → Int) (hv0 : iv a0) (hp0 : SV a0) : ∀ (y4 : Int) (a : Nat → Nat → Int), iv a → jfr jW_X12_pay a0 a → 0 ≤ y4 → y4 ≤ 1400 → (SV a) → 1 ≤ a0 146 9 → jt (jxX E d 287 100 [some (.inr (.inr (.inl 146))), none, none, none, some (.inl y4), none, none, none] [] (jxSH, a, b0)) (jQ_X12_pay x1 x2 a0 b0) := by
  intro y4 a hv hf hi0 hi1 hi2 hi3
  refine jt_eq (bq_X12_pay_100 E d y4 a b0) ?_
  have h1922_ := iv_get hv0 (k := 146) (j := 9) (l := 0) (u := 300) rfl
  refine jt_ite (fun c1923_ => ?_) (fun c1923_ => ?_)
  ·
    exact jt_rI ⟨hv, hf, rfl, hi2, (show (a0 146 9 = 0 → (-3) = 0 - 1) from by omega)⟩
  ·
    exact (cp_X12_pay_118 E d hd x1 x2 a0 b0 hv0 hp0 _).2.2.2.2 y4 y4 0 a (Nat.le_refl _) hv hf (show 0 ≤ y4 from by omega) (show y4 ≤ 1399 from by omega) (show 0 ≤ y4 from by omega) (show y4 ≤ 1399 from by omega) (show 0 ≤ 0 from by omega) (show 0 ≤ 8 from by omega) (show 0 ≤ y4 from by omega) (show y4 ≤ 1399 from by omega) hi2 (show 1 ≤ a0 146 9 from by omega)
theorem cp_X12_pay_73 (E : jxE) (d : Nat) (hd : Nat.ble 2 (d + 1) = true) (x1 x2 : Int) (a0 b0 : Nat → Nat → Int) (hv0 : iv a0) (hp0 : SV a0) : ∀ n : Nat, (∀ (y4 : Int) (a : Nat → Nat → Int), (((1400 - y4) * 1) + 0).toNat ≤ n → iv a → jfr jW_X12_pay a0 a → 0 ≤ y4 → y4 ≤ 1400 → (SV a) → 1 ≤ a0 146 9 → jt (jxX E d 287 73 [some (.inr (.inr (.inl 146))), none, none, none, some (.inl y4), none, none, none] [] (jxSH, a, b0)) (jQ_X12_pay x1 x2 a0 b0)) := by
  refine jx_ind fun n ih => ?_
  have ih73 : ∀ (y4 : Int) (a : Nat → Nat → Int), (((1400 - y4) * 1) + 0).toNat < n → iv a → jfr jW_X12_pay a0 a → 0 ≤ y4 → y4 ≤ 1400 → (SV a) → 1 ≤ a0 146 9 → jt (jxX E d 287 73 [some (.inr (.inr (.inl 146))), none, none, none, some (.inl y4), none, none, none] [] (jxSH, a, b0)) (jQ_X12_pay x1 x2 a0 b0) := fun y4 a hlt i0 i1 i2 i3 i4 i5 => (ih _ hlt) y4 a (Nat.le_refl _) i0 i1 i2 i3 i4 i5
  have hc73 : ∀ (y4 : Int) (a : Nat → Nat → Int), (((1400 - y4) * 1) + 0).toNat ≤ n → iv a → jfr jW_X12_pay a0 a → 0 ≤ y4 → y4 ≤ 1400 → (SV a) → 1 ≤ a0 146 9 → jt (jxX E d 287 73 [some (.inr (.inr (.inl 146))), none, none, none, some (.inl y4), none, none, none] [] (jxSH, a, b0)) (jQ_X12_pay x1 x2 a0 b0) := by
    intro y4 a hm hv hf hi0 hi1 hi2 hi3
    refine jt_eq (bq_X12_pay_73 E d y4 a b0) ?_
    have h1924_ := iv_get hv0 (k := 146) (j := 9) (l := 0) (u := 300) rfl
    refine jt_ite (fun c1925_ => ?_) (fun c1925_ => ?_)
    ·
      refine jt_grd (by omega) ?_
      refine jt_ite (fun c1926_ => ?_) (fun c1926_ => ?_)
      ·
        exact cp_X12_pay_100 E d hd x1 x2 a0 b0 hv0 hp0 y4 a hv hf (show 0 ≤ y4 from by omega) (show y4 ≤ 1400 from by omega) hi2 (show 1 ≤ a0 146 9 from by omega)
      ·
        have h1927_ : jxw (y4 + 1) = y4 + 1 := jxw_id (by omega) (by omega)
        exact ih73 (jxw (y4 + 1)) a (show (((1400 - (jxw (y4 + 1))) * 1) + 0).toNat < n from by omega) hv hf (show 0 ≤ jxw (y4 + 1) from by omega) (show jxw (y4 + 1) ≤ 1400 from by omega) hi2 (show 1 ≤ a0 146 9 from by omega)
    ·
      exact cp_X12_pay_100 E d hd x1 x2 a0 b0 hv0 hp0 y4 a hv hf (show 0 ≤ y4 from by omega) (show y4 ≤ 1400 from by omega) hi2 (show 1 ≤ a0 146 9 from by omega)
  exact hc73
theorem cp_X12_pay_59 (E : jxE) (d : Nat) (hd : Nat.ble 2 (d + 1) = true) (x1 x2 : Int) (a0 b0 : Nat → Nat → Int) (hv0 : iv a0) (hp0 : SV a0) : ∀ (y3 : Int) (a : Nat → Nat → Int), iv a → jfr jW_X12_pay a0 a → 0 - 2 ≤ y3 → y3 ≤ 900 → (SV a) → 1 ≤ a0 146 9 → jt (jxX E d 287 59 [some (.inr (.inr (.inl 146))), none, none, some (.inl y3), none, none, none, none] [] (jxSH, a, b0)) (jQ_X12_pay x1 x2 a0 b0) := by
  intro y3 a hv hf hi0 hi1 hi2 hi3
  refine jt_eq (bq_X12_pay_59 E d y3 a b0) ?_
  have h1928_ := iv_get hv0 (k := 146) (j := 9) (l := 0) (u := 300) rfl
  refine jt_ite (fun c1929_ => ?_) (fun c1929_ => ?_)
  ·
    exact jt_rI ⟨hv, hf, rfl, hi2, (show (a0 146 9 = 0 → (-2) = 0 - 1) from by omega)⟩
  ·
    refine jt_bV (sp_X12_makes E d (jd_le hd rfl) a b0 hv hi2) (fun a1930_ b1930_ h1930_ => ?_)
    obtain ⟨hv1930_, hf1930_, rfl⟩ := h1930_
    have hf1931_ : jfr jW_X12_pay a0 a1930_ := jfr_tr hf hf1930_ rfl
    exact (cp_X12_pay_73 E d hd x1 x2 a0 b0 hv0 hp0 _) y3 a1930_ (Nat.le_refl _) hv1930_ hf1931_ (show 0 ≤ y3 from by omega) (show y3 ≤ 1400 from by omega) (SV_fr hi2 hf1930_ (fun _ => rfl) (fun _ => rfl)) (show 1 ≤ a0 146 9 from by omega)
theorem sp_X12_pay (E : jxE) (d : Nat) (hd : Nat.ble 2 d = true) (x1 x2 : Int) (a0 b0 : Nat → Nat → Int) (hv0 : iv a0) (hp0 : SV a0) : jt (jxC E d 287 [.inr (.inr (.inl 146)), .inl x1, .inl x2] (jxSH, a0, b0)) (jQ_X12_pay x1 x2 a0 b0) := by
  obtain ⟨d, rfl⟩ := jd_succ hd
  refine jt_eq (bq_X12_pay E d x1 x2 a0 b0) ?_
  refine jt_eI (eq_X12_in E d (jd_le hd rfl) x1 0 (jxw ((a0 146 9) - 1)) a0 b0) ?_
  have h1932_ := iv_get hv0 (k := 146) (j := 9) (l := 0) (u := 300) rfl
  have h1933_ : jxw ((a0 146 9) - 1) = (a0 146 9) - 1 := jxw_id (by omega) (by omega)
  have h1934_ := f_X12_in_eq a0 b0 x1 0 (jxw ((a0 146 9) - 1))
  refine jt_ite (fun c1935_ => ?_) (fun c1935_ => ?_)
  ·
    exact jt_rI ⟨hv0, (jfr_rf _ _), rfl, hp0, (show (a0 146 9 = 0 → (-1) = 0 - 1) from by omega)⟩
  ·
    refine jt_eI (eq_X12_in E d (jd_le hd rfl) x2 1 500 a0 b0) ?_
    have h1936_ := f_X12_in_eq a0 b0 x2 1 500
    refine jt_ite (fun c1937_ => ?_) (fun c1937_ => ?_)
    ·
      exact jt_rI ⟨hv0, (jfr_rf _ _), rfl, hp0, (show (a0 146 9 = 0 → (-1) = 0 - 1) from by omega)⟩
    ·
      refine jt_grd (by omega) ?_
      have h1938_ := iv_get hv0 (k := 154) (j := x1.toNat) (l := 0) (u := 39) rfl
      refine jt_grd (by omega) ?_
      refine jt_grd (by omega) ?_
      have h1939_ := iv_get hv0 (k := 155) (j := x1.toNat) (l := 0) (u := 39) rfl
      refine jt_grd (by omega) ?_
      have h1940_ := iv_get hv0 (k := 148) (j := (a0 154 (x1.toNat)).toNat) (l := 0) (u := 15) rfl
      have h1941_ := iv_get hv0 (k := 148) (j := (a0 155 (x1.toNat)).toNat) (l := 0) (u := 15) rfl
      refine jt_bI (sp_X12_priceOf E d (jd_le hd rfl) (a0 148 ((a0 154 (x1.toNat)).toNat)) (a0 148 ((a0 155 (x1.toNat)).toNat)) x2 (a0 146 0) a0 b0 hv0 (show (0 ≤ a0 148 ((a0 154 (x1.toNat)).toNat) ∧ a0 148 ((a0 154 (x1.toNat)).toNat) ≤ 15) from by omega) (show (0 ≤ a0 148 ((a0 155 (x1.toNat)).toNat) ∧ a0 148 ((a0 155 (x1.toNat)).toNat) ≤ 15) from by omega)) (fun r1942_ a1942_ b1942_ h1942_ => ?_)
      obtain ⟨rfl, rfl, hq1942_0, hq1942_1, hq1942_2, hq1942_3⟩ := h1942_
      have h1943_ := iv_get hv0 (k := 146) (j := 68) (l := 0) (u := 10) rfl
      exact cp_X12_pay_59 E d hd x1 x2 a0 b0 hv0 hp0 r1942_ a0 hv0 (jfr_rf _ _) (show 0 - 2 ≤ r1942_ from by omega) (show r1942_ ≤ 900 from by omega) hp0 (show 1 ≤ a0 146 9 from by omega)
