def jWk1 : List (Nat × Nat) := [(97, 9999)]
def jW_X5_keepRing : List (Nat × Nat) := [(90, 12), (97, 9999), (104, 9999)]
abbrev jQ_X5_keepRing (x1 : Int) (a0 b0 : Nat → Nat → Int) : List jxV → (Nat → Nat → Int) → (Nat → Nat → Int) → Prop := rI (fun r a b => (iv a) ∧ (jfr jW_X5_keepRing a0 a) ∧ (b0 = b) ∧ (0 ≤ r) ∧ (r ≤ 4095) ∧ (∀ R : List Nat, (R.length : Int) = x1 → PTH (a0 96) R → (∀ x, x ∈ R → x < 12) → r = ((PM R : Nat) : Int)) ∧ (a0 90 12 ≤ 5 → a 90 12 = a0 90 12 + 1 ∧ UP (a0 104) (a 104) (a0 90 12).toNat x1 ∧ (∀ i : Nat, (i : Int) < x1 → a 97 ((a0 90 12).toNat * 5 + i) = a0 91 (a0 96 i).toNat) ∧ ∀ j : Nat, j < (a0 90 12).toNat * 5 → a 97 j = a0 97 j))
theorem cp_X5_keepRing_88 (E : jxE) (d : Nat) (hd : Nat.ble 1 (d + 1) = true) (x1 : Int) (a0 b0 : Nat → Nat → Int) (hv0 : iv a0) (hp0 : 1 ≤ x1) (hp1 : x1 ≤ 5) : ∀ (y2 : Int) (a : Nat → Nat → Int), iv a → jfr jW_X5_keepRing a0 a → 0 ≤ y2 → y2 ≤ 4095 → 1 ≤ a 90 12 → (∀ R : List Nat, (R.length : Int) = x1 → PTH (a0 96) R → (∀ x, x ∈ R → x < 12) → y2 = ((PM R : Nat) : Int)) → (a0 90 12 ≤ 5 → a 90 12 = a0 90 12 + 1 ∧ UP (a0 104) (a 104) (a0 90 12).toNat x1 ∧ (∀ i : Nat, (i : Int) < x1 → a 97 ((a0 90 12).toNat * 5 + i) = a0 91 (a0 96 i).toNat) ∧ ∀ j : Nat, j < (a0 90 12).toNat * 5 → a 97 j = a0 97 j) → jt (jxX E d 96 88 [none, none, some (.inl y2), none] [] (jxSH, a, b0)) (jQ_X5_keepRing x1 a0 b0) := by
  intro y2 a hv hf hi0 hi1 hi2 hset hrow
  refine jt_eq (bq_X5_keepRing_88 E d y2 a b0) ?_
  have h1164_ := iv_get hv (k := 90) (j := 12) (l := 0) (u := 6) rfl
  exact jt_rI ⟨hv, hf, rfl, (show 0 ≤ y2 from by omega), (show y2 ≤ 4095 from by omega), hset, hrow⟩
theorem cp_X5_keepRing_62 (E : jxE) (d : Nat) (hd : Nat.ble 1 (d + 1) = true) (x1 : Int) (a0 b0 : Nat → Nat → Int) (hv0 : iv a0) (hp0 : 1 ≤ x1) (hp1 : x1 ≤ 5) : ∀ (y1 y2 : Int) (a : Nat → Nat → Int), iv a → jfr jW_X5_keepRing a0 a → 1 ≤ y1 → y1 ≤ 5 → 0 ≤ y2 → y2 ≤ 4095 → (y1 = x1) → (jfr jWk1 a0 a) → (∀ R : List Nat, (R.length : Int) = x1 → PTH (a0 96) R → (∀ x, x ∈ R → x < 12) → y2 = ((PM R : Nat) : Int)) → (a0 90 12 ≤ 5 → (∀ i : Nat, (i : Int) < x1 → a 97 ((a0 90 12).toNat * 5 + i) = a0 91 (a0 96 i).toNat) ∧ ∀ j : Nat, j < (a0 90 12).toNat * 5 → a 97 j = a0 97 j) → jt (jxX E d 96 62 [some (.inr (.inr (.inl 90))), some (.inl y1), some (.inl y2), none] [] (jxSH, a, b0)) (jQ_X5_keepRing x1 a0 b0) := by
  intro y1 y2 a hv hf hi0 hi1 hi2 hi3 hy1 hfe hset hrow
  refine jt_eq (bq_X5_keepRing_62 E d y1 y2 a b0) ?_
  have h1165_ := iv_get hv (k := 90) (j := 12) (l := 0) (u := 6) rfl
  refine jt_ite (fun c1166_ => ?_) (fun c1166_ => ?_)
  ·
    refine jt_grd (by omega) ?_
    have h1168_ : jxw ((a 90 12) + 1) = (a 90 12) + 1 := jxw_id (by omega) (by omega)
    have hv1167_ : iv (jxu a 90 12 (jxw ((a 90 12) + 1))) := iv_put hv (l := 0) (u := 6) rfl (by omega) (by omega)
    have hv1169_ : iv (jxu (jxu a 90 12 (jxw ((a 90 12) + 1))) 104 ((a 90 12).toNat) y1) := iv_put hv1167_ (l := 0) (u := 5) rfl (by omega) (by omega)
    have hf1170_ : jfr jW_X5_keepRing a0 (jxu a 90 12 (jxw ((a 90 12) + 1))) := jfr_put hf rfl
    have hf1171_ : jfr jW_X5_keepRing a0 (jxu (jxu a 90 12 (jxw ((a 90 12) + 1))) 104 ((a 90 12).toNat) y1) := jfr_put hf1170_ rfl
    exact cp_X5_keepRing_88 E d hd x1 a0 b0 hv0 hp0 hp1 y2 (jxu (jxu a 90 12 (jxw ((a 90 12) + 1))) 104 ((a 90 12).toNat) y1) hv1169_ hf1171_ (show 0 ≤ y2 from by omega) (show y2 ≤ 4095 from by omega) (show 1 ≤ jxw ((a 90 12) + 1) from by omega) hset (fun h => by have e12 := hfe 90 12 rfl; refine ⟨by rw [jxu_nk (show ¬ 90 = 104 by decide), jxu_at]; omega, by rw [hy1, show (a0 90 12).toNat = (a 90 12).toNat from by omega]; exact UP_put (fun j => (jxu_nk (show ¬ 104 = 90 by decide)).trans (hfe 104 j rfl)), fun i hi => ?_, fun j hj => ?_⟩ <;> (rw [jxu_nk (show ¬ 97 = 104 by decide), jxu_nk (show ¬ 97 = 90 by decide)]) <;> first | exact (hrow h).1 i hi | exact (hrow h).2 j hj)
  ·
    exact cp_X5_keepRing_88 E d hd x1 a0 b0 hv0 hp0 hp1 y2 a hv hf (show 0 ≤ y2 from by omega) (show y2 ≤ 4095 from by omega) (show 1 ≤ a 90 12 from by omega) hset (fun h => absurd h (by have e := hfe 90 12 rfl; omega))
theorem cp_X5_keepRing_4 (E : jxE) (d : Nat) (hd : Nat.ble 1 (d + 1) = true) (x1 : Int) (a0 b0 : Nat → Nat → Int) (hv0 : iv a0) (hp0 : 1 ≤ x1) (hp1 : x1 ≤ 5) : ∀ n : Nat, (∀ (y1 y2 y3 : Int) (a : Nat → Nat → Int), (((5 - y3) * 1) + 0).toNat ≤ n → iv a → jfr jW_X5_keepRing a0 a → 1 ≤ y1 → y1 ≤ 5 → 0 ≤ y2 → y2 ≤ 4095 → 0 ≤ y3 → y3 ≤ 4 → (y1 = x1) → (jfr jWk1 a0 a) → 0 ≤ y3 → y3 < y1 → y3 ≤ 4 → (∀ R : List Nat, (R.length : Int) = x1 → PTH (a0 96) R → (∀ x, x ∈ R → x < 12) → y2 = ((PM (R.take (y3.toNat + 1)) : Nat) : Int)) → (a0 90 12 ≤ 5 → (∀ i : Nat, (i : Int) < y3 + 1 → a 97 ((a0 90 12).toNat * 5 + i) = a0 91 (a0 96 i).toNat) ∧ ∀ j : Nat, j < (a0 90 12).toNat * 5 → a 97 j = a0 97 j) → jt (jxX E d 96 56 [some (.inr (.inr (.inl 90))), some (.inl y1), some (.inl y2), some (.inl y3)] [] (jxSH, a, b0)) (jQ_X5_keepRing x1 a0 b0)) ∧ (∀ (y1 y2 y3 : Int) (a : Nat → Nat → Int), (((5 - y3) * 1) + 0).toNat ≤ n → iv a → jfr jW_X5_keepRing a0 a → 1 ≤ y1 → y1 ≤ 5 → 0 ≤ y2 → y2 ≤ 4095 → 0 ≤ y3 → y3 ≤ 4 → (y1 = x1) → (jfr jWk1 a0 a) → 0 ≤ y3 → y3 < y1 → y3 ≤ 4 → (∀ R : List Nat, (R.length : Int) = x1 → PTH (a0 96) R → (∀ x, x ∈ R → x < 12) → y2 = ((PM (R.take (y3.toNat + 1)) : Nat) : Int)) → (a0 90 12 ≤ 5 → (∀ i : Nat, (i : Int) < y3 → a 97 ((a0 90 12).toNat * 5 + i) = a0 91 (a0 96 i).toNat) ∧ ∀ j : Nat, j < (a0 90 12).toNat * 5 → a 97 j = a0 97 j) → jt (jxX E d 96 25 [some (.inr (.inr (.inl 90))), some (.inl y1), some (.inl y2), some (.inl y3)] [] (jxSH, a, b0)) (jQ_X5_keepRing x1 a0 b0)) ∧ (∀ (y1 y2 y3 : Int) (a : Nat → Nat → Int), (((5 - y3) * 1) + 0).toNat ≤ n → iv a → jfr jW_X5_keepRing a0 a → 1 ≤ y1 → y1 ≤ 5 → 0 ≤ y2 → y2 ≤ 4095 → 0 ≤ y3 → y3 ≤ 5 → (y1 = x1) → (jfr jWk1 a0 a) → 0 ≤ y3 → y3 ≤ y1 → (∀ R : List Nat, (R.length : Int) = x1 → PTH (a0 96) R → (∀ x, x ∈ R → x < 12) → y2 = ((PM (R.take y3.toNat) : Nat) : Int)) → (a0 90 12 ≤ 5 → (∀ i : Nat, (i : Int) < y3 → a 97 ((a0 90 12).toNat * 5 + i) = a0 91 (a0 96 i).toNat) ∧ ∀ j : Nat, j < (a0 90 12).toNat * 5 → a 97 j = a0 97 j) → jt (jxX E d 96 4 [some (.inr (.inr (.inl 90))), some (.inl y1), some (.inl y2), some (.inl y3)] [] (jxSH, a, b0)) (jQ_X5_keepRing x1 a0 b0)) := by
  refine jx_ind fun n ih => ?_
  have ih56 : ∀ (y1 y2 y3 : Int) (a : Nat → Nat → Int), (((5 - y3) * 1) + 0).toNat < n → iv a → jfr jW_X5_keepRing a0 a → 1 ≤ y1 → y1 ≤ 5 → 0 ≤ y2 → y2 ≤ 4095 → 0 ≤ y3 → y3 ≤ 4 → (y1 = x1) → (jfr jWk1 a0 a) → 0 ≤ y3 → y3 < y1 → y3 ≤ 4 → (∀ R : List Nat, (R.length : Int) = x1 → PTH (a0 96) R → (∀ x, x ∈ R → x < 12) → y2 = ((PM (R.take (y3.toNat + 1)) : Nat) : Int)) → (a0 90 12 ≤ 5 → (∀ i : Nat, (i : Int) < y3 + 1 → a 97 ((a0 90 12).toNat * 5 + i) = a0 91 (a0 96 i).toNat) ∧ ∀ j : Nat, j < (a0 90 12).toNat * 5 → a 97 j = a0 97 j) → jt (jxX E d 96 56 [some (.inr (.inr (.inl 90))), some (.inl y1), some (.inl y2), some (.inl y3)] [] (jxSH, a, b0)) (jQ_X5_keepRing x1 a0 b0) := fun y1 y2 y3 a hlt i0 i1 i2 i3 i4 i5 i6 i7 i8 i9 i10 i11 i12 i13 i14 => (ih _ hlt).1 y1 y2 y3 a (Nat.le_refl _) i0 i1 i2 i3 i4 i5 i6 i7 i8 i9 i10 i11 i12 i13 i14
  have ih25 : ∀ (y1 y2 y3 : Int) (a : Nat → Nat → Int), (((5 - y3) * 1) + 0).toNat < n → iv a → jfr jW_X5_keepRing a0 a → 1 ≤ y1 → y1 ≤ 5 → 0 ≤ y2 → y2 ≤ 4095 → 0 ≤ y3 → y3 ≤ 4 → (y1 = x1) → (jfr jWk1 a0 a) → 0 ≤ y3 → y3 < y1 → y3 ≤ 4 → (∀ R : List Nat, (R.length : Int) = x1 → PTH (a0 96) R → (∀ x, x ∈ R → x < 12) → y2 = ((PM (R.take (y3.toNat + 1)) : Nat) : Int)) → (a0 90 12 ≤ 5 → (∀ i : Nat, (i : Int) < y3 → a 97 ((a0 90 12).toNat * 5 + i) = a0 91 (a0 96 i).toNat) ∧ ∀ j : Nat, j < (a0 90 12).toNat * 5 → a 97 j = a0 97 j) → jt (jxX E d 96 25 [some (.inr (.inr (.inl 90))), some (.inl y1), some (.inl y2), some (.inl y3)] [] (jxSH, a, b0)) (jQ_X5_keepRing x1 a0 b0) := fun y1 y2 y3 a hlt i0 i1 i2 i3 i4 i5 i6 i7 i8 i9 i10 i11 i12 i13 i14 => (ih _ hlt).2.1 y1 y2 y3 a (Nat.le_refl _) i0 i1 i2 i3 i4 i5 i6 i7 i8 i9 i10 i11 i12 i13 i14
  have ih4 : ∀ (y1 y2 y3 : Int) (a : Nat → Nat → Int), (((5 - y3) * 1) + 0).toNat < n → iv a → jfr jW_X5_keepRing a0 a → 1 ≤ y1 → y1 ≤ 5 → 0 ≤ y2 → y2 ≤ 4095 → 0 ≤ y3 → y3 ≤ 5 → (y1 = x1) → (jfr jWk1 a0 a) → 0 ≤ y3 → y3 ≤ y1 → (∀ R : List Nat, (R.length : Int) = x1 → PTH (a0 96) R → (∀ x, x ∈ R → x < 12) → y2 = ((PM (R.take y3.toNat) : Nat) : Int)) → (a0 90 12 ≤ 5 → (∀ i : Nat, (i : Int) < y3 → a 97 ((a0 90 12).toNat * 5 + i) = a0 91 (a0 96 i).toNat) ∧ ∀ j : Nat, j < (a0 90 12).toNat * 5 → a 97 j = a0 97 j) → jt (jxX E d 96 4 [some (.inr (.inr (.inl 90))), some (.inl y1), some (.inl y2), some (.inl y3)] [] (jxSH, a, b0)) (jQ_X5_keepRing x1 a0 b0) := fun y1 y2 y3 a hlt i0 i1 i2 i3 i4 i5 i6 i7 i8 i9 i10 i11 i12 i13 => (ih _ hlt).2.2 y1 y2 y3 a (Nat.le_refl _) i0 i1 i2 i3 i4 i5 i6 i7 i8 i9 i10 i11 i12 i13
  have hc56 : ∀ (y1 y2 y3 : Int) (a : Nat → Nat → Int), (((5 - y3) * 1) + 0).toNat ≤ n → iv a → jfr jW_X5_keepRing a0 a → 1 ≤ y1 → y1 ≤ 5 → 0 ≤ y2 → y2 ≤ 4095 → 0 ≤ y3 → y3 ≤ 4 → (y1 = x1) → (jfr jWk1 a0 a) → 0 ≤ y3 → y3 < y1 → y3 ≤ 4 → (∀ R : List Nat, (R.length : Int) = x1 → PTH (a0 96) R → (∀ x, x ∈ R → x < 12) → y2 = ((PM (R.take (y3.toNat + 1)) : Nat) : Int)) → (a0 90 12 ≤ 5 → (∀ i : Nat, (i : Int) < y3 + 1 → a 97 ((a0 90 12).toNat * 5 + i) = a0 91 (a0 96 i).toNat) ∧ ∀ j : Nat, j < (a0 90 12).toNat * 5 → a 97 j = a0 97 j) → jt (jxX E d 96 56 [some (.inr (.inr (.inl 90))), some (.inl y1), some (.inl y2), some (.inl y3)] [] (jxSH, a, b0)) (jQ_X5_keepRing x1 a0 b0) := by
    intro y1 y2 y3 a hm hv hf hi0 hi1 hi2 hi3 hi4 hi5 hy1 hfe hi8 hi9 hi10 hset hrow
    refine jt_eq (bq_X5_keepRing_56 E d y1 y2 y3 a b0) ?_
    have h1172_ : jxw (y3 + 1) = y3 + 1 := jxw_id (by omega) (by omega)
    exact ih4 y1 y2 (jxw (y3 + 1)) a (show (((5 - (jxw (y3 + 1))) * 1) + 0).toNat < n from by omega) hv hf (show 1 ≤ y1 from by omega) (show y1 ≤ 5 from by omega) (show 0 ≤ y2 from by omega) (show y2 ≤ 4095 from by omega) (show 0 ≤ jxw (y3 + 1) from by omega) (show jxw (y3 + 1) ≤ 5 from by omega) (by first | rfl | assumption) hfe (show 0 ≤ jxw (y3 + 1) from by omega) (show jxw (y3 + 1) ≤ y1 from by omega) (by rw [show (jxw (y3 + 1)).toNat = y3.toNat + 1 from by omega]; exact hset) (fun h => ⟨fun i hi => (hrow h).1 i (by omega), (hrow h).2⟩)
  have hc25 : ∀ (y1 y2 y3 : Int) (a : Nat → Nat → Int), (((5 - y3) * 1) + 0).toNat ≤ n → iv a → jfr jW_X5_keepRing a0 a → 1 ≤ y1 → y1 ≤ 5 → 0 ≤ y2 → y2 ≤ 4095 → 0 ≤ y3 → y3 ≤ 4 → (y1 = x1) → (jfr jWk1 a0 a) → 0 ≤ y3 → y3 < y1 → y3 ≤ 4 → (∀ R : List Nat, (R.length : Int) = x1 → PTH (a0 96) R → (∀ x, x ∈ R → x < 12) → y2 = ((PM (R.take (y3.toNat + 1)) : Nat) : Int)) → (a0 90 12 ≤ 5 → (∀ i : Nat, (i : Int) < y3 → a 97 ((a0 90 12).toNat * 5 + i) = a0 91 (a0 96 i).toNat) ∧ ∀ j : Nat, j < (a0 90 12).toNat * 5 → a 97 j = a0 97 j) → jt (jxX E d 96 25 [some (.inr (.inr (.inl 90))), some (.inl y1), some (.inl y2), some (.inl y3)] [] (jxSH, a, b0)) (jQ_X5_keepRing x1 a0 b0) := by
    intro y1 y2 y3 a hm hv hf hi0 hi1 hi2 hi3 hi4 hi5 hy1 hfe hi8 hi9 hi10 hset hrow
    refine jt_eq (bq_X5_keepRing_25 E d y1 y2 y3 a b0) ?_
    have h1173_ := iv_get hv (k := 90) (j := 12) (l := 0) (u := 6) rfl
    refine jt_ite (fun c1174_ => ?_) (fun c1174_ => ?_)
    ·
      refine jt_grd (by omega) ?_
      refine jt_grd (by omega) ?_
      have h1175_ := iv_get hv (k := 96) (j := y3.toNat) (l := 0) (u := 11) rfl
      have h1176_ : a 96 (y3.toNat) = a0 96 (y3.toNat) := hf 96 (y3.toNat) rfl
      have h1177_ := iv_get hv0 (k := 96) (j := y3.toNat) (l := 0) (u := 11) rfl
      refine jt_grd (by omega) ?_
      refine jt_grd (by omega) ?_
      refine jt_grd (by omega) ?_
      have hv1178_ : iv (jxu a 97 (((a 90 12).toNat) * 5 + (y3.toNat)) (a 91 ((a 96 (y3.toNat)).toNat))) := iv_putf hv rfl
      have hf1179_ : jfr jW_X5_keepRing a0 (jxu a 97 (((a 90 12).toNat) * 5 + (y3.toNat)) (a 91 ((a 96 (y3.toNat)).toNat))) := jfr_put hf rfl
      have hf1180_ : jfr jWk1 a0 (jxu a 97 (((a 90 12).toNat) * 5 + (y3.toNat)) (a 91 ((a 96 (y3.toNat)).toNat))) := jfr_put hfe rfl
      exact hc56 y1 y2 y3 (jxu a 97 (((a 90 12).toNat) * 5 + (y3.toNat)) (a 91 ((a 96 (y3.toNat)).toNat))) (show (((5 - y3) * 1) + 0).toNat ≤ n from by omega) hv1178_ hf1179_ (show 1 ≤ y1 from by omega) (show y1 ≤ 5 from by omega) (show 0 ≤ y2 from by omega) (show y2 ≤ 4095 from by omega) (show 0 ≤ y3 from by omega) (show y3 ≤ 4 from by omega) (by first | rfl | assumption) hf1180_ (show 0 ≤ y3 from by omega) (show y3 < y1 from by omega) (show y3 ≤ 4 from by omega) hset (fun h => by have e12 := hfe 90 12 rfl; refine ⟨fun i hi => ?_, fun j hj => ?_⟩ <;> first | (by_cases e : i = y3.toNat <;> first | (rw [e, show (a0 90 12).toNat * 5 + y3.toNat = (a 90 12).toNat * 5 + y3.toNat from by omega, jxu_at, hfe 91 _ rfl, hfe 96 _ rfl]) | (rw [jxu_nj (by omega)]; exact (hrow h).1 i (by omega))) | (rw [jxu_nj (by omega)]; exact (hrow h).2 j hj))
    ·
      exact hc56 y1 y2 y3 a (show (((5 - y3) * 1) + 0).toNat ≤ n from by omega) hv hf (show 1 ≤ y1 from by omega) (show y1 ≤ 5 from by omega) (show 0 ≤ y2 from by omega) (show y2 ≤ 4095 from by omega) (show 0 ≤ y3 from by omega) (show y3 ≤ 4 from by omega) (by first | rfl | assumption) hfe (show 0 ≤ y3 from by omega) (show y3 < y1 from by omega) (show y3 ≤ 4 from by omega) hset (fun h => absurd h (by have e := hfe 90 12 rfl; omega))
  have hc4 : ∀ (y1 y2 y3 : Int) (a : Nat → Nat → Int), (((5 - y3) * 1) + 0).toNat ≤ n → iv a → jfr jW_X5_keepRing a0 a → 1 ≤ y1 → y1 ≤ 5 → 0 ≤ y2 → y2 ≤ 4095 → 0 ≤ y3 → y3 ≤ 5 → (y1 = x1) → (jfr jWk1 a0 a) → 0 ≤ y3 → y3 ≤ y1 → (∀ R : List Nat, (R.length : Int) = x1 → PTH (a0 96) R → (∀ x, x ∈ R → x < 12) → y2 = ((PM (R.take y3.toNat) : Nat) : Int)) → (a0 90 12 ≤ 5 → (∀ i : Nat, (i : Int) < y3 → a 97 ((a0 90 12).toNat * 5 + i) = a0 91 (a0 96 i).toNat) ∧ ∀ j : Nat, j < (a0 90 12).toNat * 5 → a 97 j = a0 97 j) → jt (jxX E d 96 4 [some (.inr (.inr (.inl 90))), some (.inl y1), some (.inl y2), some (.inl y3)] [] (jxSH, a, b0)) (jQ_X5_keepRing x1 a0 b0) := by
    intro y1 y2 y3 a hm hv hf hi0 hi1 hi2 hi3 hi4 hi5 hy1 hfe hi8 hi9 hset hrow
    refine jt_eq (bq_X5_keepRing_4 E d y1 y2 y3 a b0) ?_
    have e96 : a 96 y3.toNat = a0 96 y3.toNat := hfe 96 _ rfl
    refine jt_ite (fun c1181_ => ?_) (fun c1181_ => ?_)
    ·
      refine jt_ite (fun c1182_ => ?_) (fun c1182_ => ?_)
      ·
        refine jt_grd (by omega) ?_
        have h1183_ := iv_get hv (k := 96) (j := y3.toNat) (l := 0) (u := 11) rfl
        have h1184_ : a 96 (y3.toNat) = a0 96 (y3.toNat) := hf 96 (y3.toNat) rfl
        have h1185_ := iv_get hv0 (k := 96) (j := y3.toNat) (l := 0) (u := 11) rfl
        have h1186_ := jxshl1_b (a 96 (y3.toNat))
        have h1187_ := jxor_b y2 (jxshl 1 (a 96 (y3.toNat)))
        exact hc25 y1 (jxor y2 (jxshl 1 (a 96 (y3.toNat)))) y3 a (show (((5 - y3) * 1) + 0).toNat ≤ n from by omega) hv hf (show 1 ≤ y1 from by omega) (show y1 ≤ 5 from by omega) (show 0 ≤ jxor y2 (jxshl 1 (a 96 (y3.toNat))) from by omega) (show jxor y2 (jxshl 1 (a 96 (y3.toNat))) ≤ 4095 from by omega) (show 0 ≤ y3 from by omega) (show y3 ≤ 4 from by omega) (by first | rfl | assumption) hfe (show 0 ≤ y3 from by omega) (show y3 < y1 from by omega) (show y3 ≤ 4 from by omega) (fun R h1 h2 h3 => by have l : y3.toNat < R.length := (by omega); have q := hset R h1 h2 h3; have p := h2 y3.toNat l; have hlt : R.getD y3.toNat 0 < 12 := h3 _ (by rw [List.getD_eq_getElem?_getD, List.getElem?_eq_getElem l]; exact List.getElem_mem l); have hpm : PM (R.take y3.toNat) < 2 ^ 12 := PM_lt (fun x hx => h3 x (List.mem_of_mem_take hx)); have hp2 : 2 ^ R.getD y3.toNat 0 ≤ 2048 := Nat.pow_le_pow_right (n := 2) (by decide) (show R.getD y3.toNat 0 ≤ 11 by omega); rw [take_s l, PM_app, e96, p, q, jxshl1_n _ (by omega), jxor_nat _ _ (by omega) (by omega)]) hrow
      ·
        exact cp_X5_keepRing_62 E d hd x1 a0 b0 hv0 hp0 hp1 y1 y2 a hv hf (show 1 ≤ y1 from by omega) (show y1 ≤ 5 from by omega) (show 0 ≤ y2 from by omega) (show y2 ≤ 4095 from by omega) (by first | rfl | assumption) hfe (fun R h1 h2 h3 => by have q := hset R h1 h2 h3; rw [List.take_of_length_le (by omega)] at q; exact q) (fun h => ⟨fun i hi => (hrow h).1 i (by omega), (hrow h).2⟩)
    ·
      exact cp_X5_keepRing_62 E d hd x1 a0 b0 hv0 hp0 hp1 y1 y2 a hv hf (show 1 ≤ y1 from by omega) (show y1 ≤ 5 from by omega) (show 0 ≤ y2 from by omega) (show y2 ≤ 4095 from by omega) (by first | rfl | assumption) hfe (fun R h1 h2 h3 => by have q := hset R h1 h2 h3; rw [List.take_of_length_le (by omega)] at q; exact q) (fun h => ⟨fun i hi => (hrow h).1 i (by omega), (hrow h).2⟩)
  exact ⟨hc56, hc25, hc4⟩
theorem sp_X5_keepRing (E : jxE) (d : Nat) (hd : Nat.ble 1 d = true) (x1 : Int) (a0 b0 : Nat → Nat → Int) (hv0 : iv a0) (hp0 : 1 ≤ x1) (hp1 : x1 ≤ 5) : jt (jxC E d 96 [.inr (.inr (.inl 90)), .inl x1] (jxSH, a0, b0)) (jQ_X5_keepRing x1 a0 b0) := by
  obtain ⟨d, rfl⟩ := jd_succ hd
  refine jt_eq (bq_X5_keepRing E d x1 a0 b0) ?_
  exact (cp_X5_keepRing_4 E d hd x1 a0 b0 hv0 hp0 hp1 _).2.2 x1 0 0 a0 (Nat.le_refl _) hv0 (jfr_rf _ _) (show 1 ≤ x1 from by omega) (show x1 ≤ 5 from by omega) (show 0 ≤ 0 from by omega) (show 0 ≤ 4095 from by omega) (show 0 ≤ 0 from by omega) (show 0 ≤ 5 from by omega) (by first | rfl | assumption) (jfr_rf _ _) (show 0 ≤ 0 from by omega) (show 0 ≤ x1 from by omega) (fun R h1 h2 h3 => rfl) (fun _ => ⟨fun i h => absurd h (by omega), fun _ _ => rfl⟩)
def jWtf : List (Nat × Nat) := [(90, 12), (96, 9999), (97, 9999), (104, 9999)]
def jW_X5_takeFirstRings : List (Nat × Nat) := [(90, 12), (96, 9999), (97, 9999), (104, 9999)]
abbrev jQ_X5_takeFirstRings (a0 b0 : Nat → Nat → Int) : List jxV → (Nat → Nat → Int) → (Nat → Nat → Int) → Prop := rV (fun a b => (iv a) ∧ (jfr jW_X5_takeFirstRings a0 a) ∧ (b0 = b) ∧ ((a0 90 3 = 0 → a 90 12 = 0)) ∧ (∀ (n : Nat) (g k : Nat → Nat → Bool), TFH a0 n g k → FND a (a0 91) (CFN n g k 16 (a0 95) n (a0 90 8).toNat)))
theorem cp_X5_takeFirstRings_12 (E : jxE) (d : Nat) (hd : Nat.ble 21 (d + 1) = true) (a0 b0 : Nat → Nat → Int) (hv0 : iv a0) : ∀ n : Nat, (∀ (y1 y2 : Int) (a : Nat → Nat → Int), (((12 - y2) * 1) + 0).toNat ≤ n → iv a → jfr jW_X5_takeFirstRings a0 a → 0 ≤ y1 → y1 ≤ 4095 → 0 ≤ y2 → y2 ≤ 11 → 1 ≤ a 90 3 → 1 ≤ a0 90 3 → 0 ≤ y2 → (jfr jWtf a0 a) → y2 < a 90 3 → (∀ (n : Nat) (g k : Nat → Nat → Bool), TFH a0 n g k → TFI a0 a n g k y1 (y2.toNat + 1)) → jt (jxX E d 94 71 [some (.inr (.inr (.inl 90))), some (.inl y1), some (.inl y2), none] [] (jxSH, a, b0)) (jQ_X5_takeFirstRings a0 b0)) ∧ (∀ (y1 y2 : Int) (a : Nat → Nat → Int), (((12 - y2) * 1) + 0).toNat ≤ n → iv a → jfr jW_X5_takeFirstRings a0 a → 0 ≤ y1 → y1 ≤ 4095 → 0 ≤ y2 → y2 ≤ 11 → 1 ≤ a 90 3 → 1 ≤ a0 90 3 → 0 ≤ y2 → (jfr jWtf a0 a) → y2 < a 90 3 → (∀ (n : Nat) (g k : Nat → Nat → Bool), TFH a0 n g k → TFI a0 a n g k y1 y2.toNat) → (a 96 0 = y2) → (∀ (n : Nat) (g k : Nat → Nat → Bool), TFH a0 n g k → y1.toNat.testBit y2.toNat = true) → jt (jxX E d 94 36 [some (.inr (.inr (.inl 90))), some (.inl y1), some (.inl y2), none] [] (jxSH, a, b0)) (jQ_X5_takeFirstRings a0 b0)) ∧ (∀ (y1 y2 : Int) (a : Nat → Nat → Int), (((12 - y2) * 1) + 0).toNat ≤ n → iv a → jfr jW_X5_takeFirstRings a0 a → 0 ≤ y1 → y1 ≤ 4095 → 0 ≤ y2 → y2 ≤ 12 → (a0 90 3 = 0 → a 90 12 = 0) → 0 ≤ y2 → (jfr jWtf a0 a) → y2 ≤ a 90 3 → (∀ (n : Nat) (g k : Nat → Nat → Bool), TFH a0 n g k → TFI a0 a n g k y1 y2.toNat) → jt (jxX E d 94 12 [some (.inr (.inr (.inl 90))), some (.inl y1), some (.inl y2), none] [] (jxSH, a, b0)) (jQ_X5_takeFirstRings a0 b0)) := by
  refine jx_ind fun n ih => ?_
  have ih71 : ∀ (y1 y2 : Int) (a : Nat → Nat → Int), (((12 - y2) * 1) + 0).toNat < n → iv a → jfr jW_X5_takeFirstRings a0 a → 0 ≤ y1 → y1 ≤ 4095 → 0 ≤ y2 → y2 ≤ 11 → 1 ≤ a 90 3 → 1 ≤ a0 90 3 → 0 ≤ y2 → (jfr jWtf a0 a) → y2 < a 90 3 → (∀ (n : Nat) (g k : Nat → Nat → Bool), TFH a0 n g k → TFI a0 a n g k y1 (y2.toNat + 1)) → jt (jxX E d 94 71 [some (.inr (.inr (.inl 90))), some (.inl y1), some (.inl y2), none] [] (jxSH, a, b0)) (jQ_X5_takeFirstRings a0 b0) := fun y1 y2 a hlt i0 i1 i2 i3 i4 i5 i6 i7 i8 i9 i10 i11 => (ih _ hlt).1 y1 y2 a (Nat.le_refl _) i0 i1 i2 i3 i4 i5 i6 i7 i8 i9 i10 i11
  have ih36 : ∀ (y1 y2 : Int) (a : Nat → Nat → Int), (((12 - y2) * 1) + 0).toNat < n → iv a → jfr jW_X5_takeFirstRings a0 a → 0 ≤ y1 → y1 ≤ 4095 → 0 ≤ y2 → y2 ≤ 11 → 1 ≤ a 90 3 → 1 ≤ a0 90 3 → 0 ≤ y2 → (jfr jWtf a0 a) → y2 < a 90 3 → (∀ (n : Nat) (g k : Nat → Nat → Bool), TFH a0 n g k → TFI a0 a n g k y1 y2.toNat) → (a 96 0 = y2) → (∀ (n : Nat) (g k : Nat → Nat → Bool), TFH a0 n g k → y1.toNat.testBit y2.toNat = true) → jt (jxX E d 94 36 [some (.inr (.inr (.inl 90))), some (.inl y1), some (.inl y2), none] [] (jxSH, a, b0)) (jQ_X5_takeFirstRings a0 b0) := fun y1 y2 a hlt i0 i1 i2 i3 i4 i5 i6 i7 i8 i9 i10 i11 i12 i13 => (ih _ hlt).2.1 y1 y2 a (Nat.le_refl _) i0 i1 i2 i3 i4 i5 i6 i7 i8 i9 i10 i11 i12 i13
  have ih12 : ∀ (y1 y2 : Int) (a : Nat → Nat → Int), (((12 - y2) * 1) + 0).toNat < n → iv a → jfr jW_X5_takeFirstRings a0 a → 0 ≤ y1 → y1 ≤ 4095 → 0 ≤ y2 → y2 ≤ 12 → (a0 90 3 = 0 → a 90 12 = 0) → 0 ≤ y2 → (jfr jWtf a0 a) → y2 ≤ a 90 3 → (∀ (n : Nat) (g k : Nat → Nat → Bool), TFH a0 n g k → TFI a0 a n g k y1 y2.toNat) → jt (jxX E d 94 12 [some (.inr (.inr (.inl 90))), some (.inl y1), some (.inl y2), none] [] (jxSH, a, b0)) (jQ_X5_takeFirstRings a0 b0) := fun y1 y2 a hlt i0 i1 i2 i3 i4 i5 i6 i7 i8 i9 i10 => (ih _ hlt).2.2 y1 y2 a (Nat.le_refl _) i0 i1 i2 i3 i4 i5 i6 i7 i8 i9 i10
  have hc71 : ∀ (y1 y2 : Int) (a : Nat → Nat → Int), (((12 - y2) * 1) + 0).toNat ≤ n → iv a → jfr jW_X5_takeFirstRings a0 a → 0 ≤ y1 → y1 ≤ 4095 → 0 ≤ y2 → y2 ≤ 11 → 1 ≤ a 90 3 → 1 ≤ a0 90 3 → 0 ≤ y2 → (jfr jWtf a0 a) → y2 < a 90 3 → (∀ (n : Nat) (g k : Nat → Nat → Bool), TFH a0 n g k → TFI a0 a n g k y1 (y2.toNat + 1)) → jt (jxX E d 94 71 [some (.inr (.inr (.inl 90))), some (.inl y1), some (.inl y2), none] [] (jxSH, a, b0)) (jQ_X5_takeFirstRings a0 b0) := by
    intro y1 y2 a hm hv hf hi0 hi1 hi2 hi3 hi4 hi5 hi6 hfe hi8 hm
    refine jt_eq (bq_X5_takeFirstRings_71 E d y1 y2 a b0) ?_
    have h1188_ := iv_get hv (k := 90) (j := 3) (l := 0) (u := 12) rfl
    have h1189_ : a 90 3 = a0 90 3 := hf 90 3 rfl
    have h1190_ := iv_get hv0 (k := 90) (j := 3) (l := 0) (u := 12) rfl
    have h1191_ : jxw (y2 + 1) = y2 + 1 := jxw_id (by omega) (by omega)
    have h1192_ := iv_get hv (k := 90) (j := 12) (l := 0) (u := 6) rfl
    exact ih12 y1 (jxw (y2 + 1)) a (show (((12 - (jxw (y2 + 1))) * 1) + 0).toNat < n from by omega) hv hf (show 0 ≤ y1 from by omega) (show y1 ≤ 4095 from by omega) (show 0 ≤ jxw (y2 + 1) from by omega) (show jxw (y2 + 1) ≤ 12 from by omega) (show (a0 90 3 = 0 → a 90 12 = 0) from by omega) (show 0 ≤ jxw (y2 + 1) from by omega) hfe (show jxw (y2 + 1) ≤ a 90 3 from by omega) (by rw [show (jxw (y2 + 1)).toNat = y2.toNat + 1 from by omega]; exact hm)
  have hc36 : ∀ (y1 y2 : Int) (a : Nat → Nat → Int), (((12 - y2) * 1) + 0).toNat ≤ n → iv a → jfr jW_X5_takeFirstRings a0 a → 0 ≤ y1 → y1 ≤ 4095 → 0 ≤ y2 → y2 ≤ 11 → 1 ≤ a 90 3 → 1 ≤ a0 90 3 → 0 ≤ y2 → (jfr jWtf a0 a) → y2 < a 90 3 → (∀ (n : Nat) (g k : Nat → Nat → Bool), TFH a0 n g k → TFI a0 a n g k y1 y2.toNat) → (a 96 0 = y2) → (∀ (n : Nat) (g k : Nat → Nat → Bool), TFH a0 n g k → y1.toNat.testBit y2.toNat = true) → jt (jxX E d 94 36 [some (.inr (.inr (.inl 90))), some (.inl y1), some (.inl y2), none] [] (jxSH, a, b0)) (jQ_X5_takeFirstRings a0 b0) := by
    intro y1 y2 a hm hv hf hi0 hi1 hi2 hi3 hi4 hi5 hi6 hfe hi8 hm h96 hbit
    refine jt_eq (bq_X5_takeFirstRings_36 E d y1 y2 a b0) ?_
    have h1193_ := iv_get hv (k := 90) (j := 3) (l := 0) (u := 12) rfl
    have h1194_ : a 90 3 = a0 90 3 := hf 90 3 rfl
    have h1195_ := iv_get hv0 (k := 90) (j := 3) (l := 0) (u := 12) rfl
    refine jt_grd (by omega) ?_
    have h1196_ := jxshl1_b y2
    refine jt_bI (sp_X5_firstRing E d (jd_le hd rfl) y2 (jxshl 1 y2) (a 93 (y2.toNat)) 1 y1 a b0 hv (show 0 ≤ y2 from by omega) (show y2 ≤ 11 from by omega) (show 0 ≤ jxshl 1 y2 from by omega) (show jxshl 1 y2 ≤ 4095 from by omega) (show 1 ≤ 1 from by omega) (show 1 ≤ 5 from by omega) (show 0 ≤ y1 from by omega) (show y1 ≤ 4095 from by omega)) (fun r1197_ a1197_ b1197_ h1197_ => ?_)
    obtain ⟨hv1197_, hf1197_, rfl, hq1197_0, hq1197_1, hq1197_2⟩ := h1197_
    refine jt_ite (fun c1198_ => ?_) (fun c1198_ => ?_)
    ·
      have hf1199_ : jfr jW_X5_takeFirstRings a0 a1197_ := jfr_tr hf hf1197_ rfl
      have h1200_ := jxxor_b y1 (jxshl 1 y2)
      have h1201_ := iv_get hv1197_ (k := 90) (j := 3) (l := 0) (u := 12) rfl
      have h1202_ : a1197_ 90 3 = a 90 3 := hf1197_ 90 3 rfl
      have hf1203_ : jfr jWtf a0 a1197_ := jfr_tr hfe hf1197_ rfl
      exact hc71 (jxxor y1 (jxshl 1 y2)) y2 a1197_ (show (((12 - y2) * 1) + 0).toNat ≤ n from by omega) hv1197_ hf1199_ (show 0 ≤ jxxor y1 (jxshl 1 y2) from by omega) (show jxxor y1 (jxshl 1 y2) ≤ 4095 from by omega) (show 0 ≤ y2 from by omega) (show y2 ≤ 11 from by omega) (show 1 ≤ a1197_ 90 3 from by omega) (show 1 ≤ a0 90 3 from by omega) (show 0 ≤ y2 from by omega) hf1203_ (show y2 < a1197_ 90 3 from by omega) (fun n g k hT => by have hn := hT.1.1; have h12 := hT.1.2.1; have t12 := two12 h12; have e90 := hfe 90 3 rfl; have hti := hm n g k hT; have hti2 := hti; obtain ⟨L_, h1_, h2_, h3_, h4_, h5_, h6_⟩ := hti2; have l3_ := SUB_le h3_; have hu_ := hT.2.1; have hG := GRF_fr hT.1 (hfe 90 3 rfl) (fun j => hfe 92 j rfl) (fun j => hfe 93 j rfl); have e95 : a 95 = a0 95 := funext fun j => hfe 95 j rfl; have hb := hbit n g k hT; have qf := hq1197_2 n g k [y2.toNat] ⟨hG, by rw [h96]; exact MPR_one hG (by omega) (by omega), fun i hi => by have e : i = 0 := Nat.lt_one_iff.1 hi; rw [e, h96]; show y2 = ((y2.toNat : Nat) : Int); omega, by show SUB (2 ^ y2.toNat ||| 0) _; rw [Nat.or_zero]; exact bit_SUB hb, ⟨h4_, by omega⟩, fun t ht => by rw [e95]; have q := D16_le (hT.2.2 t (SUB_tr ht h3_)) (popn_le t 12); have := popn_le t 12; omega⟩; unfold FRO at qf; rw [e95] at qf; rcases qf with ⟨q1, q2, q3⟩ | ⟨R, q1, q2, q3⟩ <;> first | (have z := TFI_none (a1 := a1197_) hT hti (by omega) hb q1 (hf1197_ 90 12 rfl) (fun j => hf1197_ 104 j rfl) (fun j => hf1197_ 97 j rfl); rw [show ((y2.toNat : Nat) : Int) = y2 from by omega] at z; exact z) | (exfalso; have := find_len q1; omega))
    ·
      refine jt_bI (sp_X5_keepRing E d (jd_le hd rfl) r1197_ a1197_ b0 hv1197_ (show 1 ≤ r1197_ from by omega) (show r1197_ ≤ 5 from by omega)) (fun r1204_ a1204_ b1204_ h1204_ => ?_)
      obtain ⟨hv1204_, hf1204_, rfl, hq1204_0, hq1204_1, hq1204_2, hq1204_3⟩ := h1204_
      have hf1205_ : jfr jW_X5_takeFirstRings a0 a1197_ := jfr_tr hf hf1197_ rfl
      have hf1206_ : jfr jW_X5_takeFirstRings a0 a1204_ := jfr_tr hf1205_ hf1204_ rfl
      have h1207_ := jxxor_b y1 r1204_
      have h1208_ := iv_get hv1204_ (k := 90) (j := 3) (l := 0) (u := 12) rfl
      have h1209_ : a1204_ 90 3 = a1197_ 90 3 := hf1204_ 90 3 rfl
      have h1210_ := iv_get hv1197_ (k := 90) (j := 3) (l := 0) (u := 12) rfl
      have h1211_ : a1197_ 90 3 = a 90 3 := hf1197_ 90 3 rfl
      have hf1212_ : jfr jWtf a0 a1197_ := jfr_tr hfe hf1197_ rfl
      have hf1213_ : jfr jWtf a0 a1204_ := jfr_tr hf1212_ hf1204_ rfl
      exact hc71 (jxxor y1 r1204_) y2 a1204_ (show (((12 - y2) * 1) + 0).toNat ≤ n from by omega) hv1204_ hf1206_ (show 0 ≤ jxxor y1 r1204_ from by omega) (show jxxor y1 r1204_ ≤ 4095 from by omega) (show 0 ≤ y2 from by omega) (show y2 ≤ 11 from by omega) (show 1 ≤ a1204_ 90 3 from by omega) (show 1 ≤ a0 90 3 from by omega) (show 0 ≤ y2 from by omega) hf1213_ (show y2 < a1204_ 90 3 from by omega) (fun n g k hT => by have hn := hT.1.1; have h12 := hT.1.2.1; have t12 := two12 h12; have e90 := hfe 90 3 rfl; have hti := hm n g k hT; have hti2 := hti; obtain ⟨L_, h1_, h2_, h3_, h4_, h5_, h6_⟩ := hti2; have l3_ := SUB_le h3_; have hu_ := hT.2.1; have hG := GRF_fr hT.1 (hfe 90 3 rfl) (fun j => hfe 92 j rfl) (fun j => hfe 93 j rfl); have e95 : a 95 = a0 95 := funext fun j => hfe 95 j rfl; have hb := hbit n g k hT; have qf := hq1197_2 n g k [y2.toNat] ⟨hG, by rw [h96]; exact MPR_one hG (by omega) (by omega), fun i hi => by have e : i = 0 := Nat.lt_one_iff.1 hi; rw [e, h96]; show y2 = ((y2.toNat : Nat) : Int); omega, by show SUB (2 ^ y2.toNat ||| 0) _; rw [Nat.or_zero]; exact bit_SUB hb, ⟨h4_, by omega⟩, fun t ht => by rw [e95]; have q := D16_le (hT.2.2 t (SUB_tr ht h3_)) (popn_le t 12); have := popn_le t 12; omega⟩; unfold FRO at qf; rw [e95] at qf; rcases qf with ⟨q1, q2, q3⟩ | ⟨R, q1, q2, q3⟩ <;> first | exact absurd q2 (by assumption) | (obtain ⟨m1, m2, m3, m4⟩ := TFI_room hT hti (by omega) q1; have e12 := hf1197_ 90 12 rfl; obtain ⟨w1, w2, w3, w4⟩ := hq1204_3 (by omega); rw [e12] at w1 w2 w3 w4; refine TFI_some (a1 := a1204_) hT hti (by omega) hb q1 (hq1204_2 R q2.symm q3 m2) w1 ?_ (fun i hi => ?_) (fun j hj => (w4 j hj).trans (hf1197_ 97 j rfl)) <;> first | (rw [← q2]; exact UP_cl w2 (fun j => hf1197_ 104 j rfl)) | (rw [w3 i (by omega), q3 i hi, Int.toNat_natCast, hf1197_ 91 _ rfl]; exact hfe 91 _ rfl)))
  have hc12 : ∀ (y1 y2 : Int) (a : Nat → Nat → Int), (((12 - y2) * 1) + 0).toNat ≤ n → iv a → jfr jW_X5_takeFirstRings a0 a → 0 ≤ y1 → y1 ≤ 4095 → 0 ≤ y2 → y2 ≤ 12 → (a0 90 3 = 0 → a 90 12 = 0) → 0 ≤ y2 → (jfr jWtf a0 a) → y2 ≤ a 90 3 → (∀ (n : Nat) (g k : Nat → Nat → Bool), TFH a0 n g k → TFI a0 a n g k y1 y2.toNat) → jt (jxX E d 94 12 [some (.inr (.inr (.inl 90))), some (.inl y1), some (.inl y2), none] [] (jxSH, a, b0)) (jQ_X5_takeFirstRings a0 b0) := by
    intro y1 y2 a hm hv hf hi0 hi1 hi2 hi3 hi4 hi5 hfe hi7 hm
    refine jt_eq (bq_X5_takeFirstRings_12 E d y1 y2 a b0) ?_
    have h1214_ := iv_get hv0 (k := 90) (j := 3) (l := 0) (u := 12) rfl
    have h1215_ := iv_get hv (k := 90) (j := 12) (l := 0) (u := 6) rfl
    have h1216_ := iv_get hv (k := 90) (j := 3) (l := 0) (u := 12) rfl
    have h1217_ : a 90 3 = a0 90 3 := hf 90 3 rfl
    refine jt_ite (fun c1218_ => ?_) (fun c1218_ => ?_)
    ·
      have h1219_ := jxshr_b y1 y2
      have h1220_ := jxand_r (jxshr y1 y2) 1 (by decide) (by decide)
      refine jt_ite (fun c1221_ => ?_) (fun c1221_ => ?_)
      ·
        have hv1222_ : iv (jxu a 96 0 y2) := iv_put hv (l := 0) (u := 11) rfl (by omega) (by omega)
        have hf1223_ : jfr jW_X5_takeFirstRings a0 (jxu a 96 0 y2) := jfr_put hf rfl
        have hf1224_ : jfr jWtf a0 (jxu a 96 0 y2) := jfr_put hfe rfl
        exact hc36 y1 y2 (jxu a 96 0 y2) (show (((12 - y2) * 1) + 0).toNat ≤ n from by omega) hv1222_ hf1223_ (show 0 ≤ y1 from by omega) (show y1 ≤ 4095 from by omega) (show 0 ≤ y2 from by omega) (show y2 ≤ 11 from by omega) (show 1 ≤ a 90 3 from by omega) (show 1 ≤ a0 90 3 from by omega) (show 0 ≤ y2 from by omega) hf1224_ (show y2 < a 90 3 from by omega) (fun n g k hT => by obtain ⟨L, q1, q2⟩ := hm n g k hT; exact ⟨L, FND_fr q1 (jxu_nk (by decide)) (fun j => jxu_nk (by decide)) (fun j => jxu_nk (by decide)), q2⟩) (jxu_at _ _ _ _) (fun n g k hT => by have hn := hT.1.1; have h12 := hT.1.2.1; have t12 := two12 h12; have e90 := hfe 90 3 rfl; have hti := hm n g k hT; have hti2 := hti; obtain ⟨L_, h1_, h2_, h3_, h4_, h5_, h6_⟩ := hti2; have l3_ := SUB_le h3_; have hu_ := hT.2.1; have bt := bit_at (x := y1) (j := y2.toNat) h4_ (by omega) (by omega); rw [show ((y2.toNat : Nat) : Int) = y2 from by omega] at bt; cases z : y1.toNat.testBit y2.toNat <;> first | rfl | (rw [z] at bt; exact absurd bt (by rw [if_neg (by decide)]; omega)))
      ·
        exact hc71 y1 y2 a (show (((12 - y2) * 1) + 0).toNat ≤ n from by omega) hv hf (show 0 ≤ y1 from by omega) (show y1 ≤ 4095 from by omega) (show 0 ≤ y2 from by omega) (show y2 ≤ 11 from by omega) (show 1 ≤ a 90 3 from by omega) (show 1 ≤ a0 90 3 from by omega) (show 0 ≤ y2 from by omega) hfe (show y2 < a 90 3 from by omega) (fun n g k hT => by have hn := hT.1.1; have h12 := hT.1.2.1; have t12 := two12 h12; have e90 := hfe 90 3 rfl; have hti := hm n g k hT; have hti2 := hti; obtain ⟨L_, h1_, h2_, h3_, h4_, h5_, h6_⟩ := hti2; have l3_ := SUB_le h3_; have hu_ := hT.2.1; have bt := bit_at (x := y1) (j := y2.toNat) h4_ (by omega) (by omega); rw [show ((y2.toNat : Nat) : Int) = y2 from by omega] at bt; exact TFI_no hti (by omega) (by cases z : y1.toNat.testBit y2.toNat <;> first | rfl | (rw [z] at bt; exact absurd bt (by rw [if_pos rfl]; omega))))
    ·
      exact jt_rV ⟨hv, hf, rfl, (show (a0 90 3 = 0 → a 90 12 = 0) from by omega), (fun n g k hT => by have hn := hT.1.1; have e90 := hfe 90 3 rfl; obtain ⟨L, q1, q2, _⟩ := hm n g k hT; rw [show n - y2.toNat = 0 from by omega] at q2; rw [← q2, show CFN n g k 16 (a0 95) 0 y1.toNat = [] from rfl, List.append_nil]; exact q1)⟩
  exact ⟨hc71, hc36, hc12⟩
theorem sp_X5_takeFirstRings (E : jxE) (d : Nat) (hd : Nat.ble 21 d = true) (a0 b0 : Nat → Nat → Int) (hv0 : iv a0) : jt (jxC E d 94 [.inr (.inr (.inl 90))] (jxSH, a0, b0)) (jQ_X5_takeFirstRings a0 b0) := by
  obtain ⟨d, rfl⟩ := jd_succ hd
  refine jt_eq (bq_X5_takeFirstRings E d a0 b0) ?_
  have hv1225_ : iv (jxu a0 90 12 0) := iv_put hv0 (l := 0) (u := 6) rfl (by omega) (by omega)
  have hf1226_ : jfr jW_X5_takeFirstRings a0 (jxu a0 90 12 0) := jfr_put (jfr_rf _ _) rfl
  have h1227_ := iv_get hv0 (k := 90) (j := 8) (l := 0) (u := 4095) rfl
  have h1228_ := iv_get hv0 (k := 90) (j := 3) (l := 0) (u := 12) rfl
  have hf1229_ : jfr jWtf a0 (jxu a0 90 12 0) := jfr_put (jfr_rf _ _) rfl
  exact (cp_X5_takeFirstRings_12 E d hd a0 b0 hv0 _).2.2 (a0 90 8) 0 (jxu a0 90 12 0) (Nat.le_refl _) hv1225_ hf1226_ (show 0 ≤ a0 90 8 from by omega) (show a0 90 8 ≤ 4095 from by omega) (show 0 ≤ 0 from by omega) (show 0 ≤ 12 from by omega) (show (a0 90 3 = 0 → 0 = 0) from by omega) (show 0 ≤ 0 from by omega) hf1229_ (show 0 ≤ a0 90 3 from by omega) (fun n g k hT => ⟨[], FND_0 (jxu_at _ _ _ _), by rw [show n - (0 : Int).toNat = n from Nat.sub_zero n]; rfl, SUB_rf _, (iv_get hv0 (k := 90) (j := 8) (l := 0) (u := 4095) rfl).1, fun r hr => absurd hr List.not_mem_nil, by have := popn_le (a0 90 8).toNat 12; show 2 * 0 + _ ≤ 12; omega⟩)
def jW_X5_find : List (Nat × Nat) := [(90, 3), (90, 8), (90, 12), (91, 9999), (92, 9999), (93, 9999), (95, 9999), (96, 9999), (97, 9999), (104, 9999)]
abbrev jQ_X5_find (a0 b0 : Nat → Nat → Int) : List jxV → (Nat → Nat → Int) → (Nat → Nat → Int) → Prop := rI (fun r a b => (iv a) ∧ (jfr jW_X5_find a0 a) ∧ ((a0 83 6 = 0 → r = 0)) ∧ (RGC a0 b0 a r))
theorem sp_X5_find (E : jxE) (d : Nat) (hd : Nat.ble 25 d = true) (a0 b0 : Nat → Nat → Int) (hv0 : iv a0) : jt (jxC E d 82 [.inr (.inr (.inl 90))] (jxSH, a0, b0)) (jQ_X5_find a0 b0) := by
  obtain ⟨d, rfl⟩ := jd_succ hd
  refine jt_eq (bq_X5_find E d a0 b0) ?_
  refine jt_bV (sp_X5_seatOpenOffers E d (jd_le hd rfl) a0 b0 hv0) (fun a1230_ b1230_ h1230_ => ?_)
  obtain ⟨hv1230_, hf1230_, rfl, hq1230_0, hq1230_1⟩ := h1230_
  have h1231_ := iv_get hv0 (k := 83) (j := 6) (l := 0) (u := 20) rfl
  have h1232_ := iv_get hv1230_ (k := 90) (j := 3) (l := 0) (u := 12) rfl
  have hse_ := hq1230_1
  have hfs_ := hf1230_
  have ha1_ : a1230_ 90 3 = ((a1230_ 90 3).toNat : Int) := by have z := iv_get hv1230_ (k := 90) (j := 3) (l := 0) (u := 12) rfl; omega
  have h12_ : (a1230_ 90 3).toNat ≤ 12 := by have z := iv_get hv1230_ (k := 90) (j := 3) (l := 0) (u := 12) rfl; omega
  refine jt_bV (sp_X5_linkSeats E d (jd_le hd rfl) a1230_ b0 hv1230_) (fun a1233_ b1233_ h1233_ => ?_)
  obtain ⟨hv1233_, hf1233_, rfl, hq1233_0⟩ := h1233_
  have hG_ : GRF a1233_ (a1230_ 90 3).toNat (gS a1230_ b0 (a1230_ 91)) (kS a1230_ b0 (a1230_ 91)) := GRF_of ((hf1233_ 90 3 rfl).trans ha1_) h12_ hq1233_0
  have hgk_ := gS_fr (b := b0) (b1 := b0) (hfs_ 4 6 rfl) (hfs_ 83 6 rfl) (funext fun j => hfs_ 7 j rfl) (funext fun j => hfs_ 84 j rfl) (funext fun j => hfs_ 85 j rfl) (funext fun j => hfs_ 86 j rfl) (a1230_ 91)
  rw [hgk_.1, hgk_.2] at hG_
  have h91_ : a1233_ 91 = a1230_ 91 := funext fun j => hf1233_ 91 j rfl
  generalize hst_ : a1230_ 91 = st_ at hse_ hG_ h91_
  generalize hnn_ : (a1230_ 90 3).toNat = nn_ at hse_ hG_ h12_
  refine jt_bV (sp_X5_markRingSets E d (jd_le hd rfl) a1233_ b0 hv1233_) (fun a1234_ b1234_ h1234_ => ?_)
  obtain ⟨hv1234_, hf1234_, hq1234_0⟩ := h1234_
  have hmk_ := hq1234_0 _ _ _ hG_
  have huse_ := MKA_use hmk_ hG_.2.2.1
  have hG3_ := GRF_fr hG_ (hf1234_ 90 3 rfl) (fun j => hf1234_ 92 j rfl) (fun j => hf1234_ 93 j rfl)
  have h91b_ : a1234_ 91 = st_ := (show a1234_ 91 = a1233_ 91 from funext fun j => hf1234_ 91 j rfl).trans h91_
  refine jt_bV (sp_X5_weighSets E d (jd_le hd rfl) a1234_ b1234_ hv1234_) (fun a1235_ b1235_ h1235_ => ?_)
  obtain ⟨hv1235_, hf1235_, rfl, hq1235_0⟩ := h1235_
  have hws_ := hq1235_0 _ _ _ hmk_ hG_.2.2.1 h12_ huse_.2
  have hG4_ := GRF_fr hG3_ (hf1235_ 90 3 rfl) (fun j => hf1235_ 92 j rfl) (fun j => hf1235_ 93 j rfl)
  have h91c_ : a1235_ 91 = st_ := (show a1235_ 91 = a1234_ 91 from funext fun j => hf1235_ 91 j rfl).trans h91b_
  have h908_ : a1235_ 90 8 = a1234_ 90 8 := hf1235_ 90 8 rfl
  have hTF_ : TFH a1235_ _ _ _ := ⟨hG4_, by rw [h908_]; exact huse_.2, fun t ht => hws_.2 t (by rw [← h908_]; exact ht)⟩
  refine jt_bV (sp_X5_takeFirstRings E d (jd_le hd rfl) a1235_ b1234_ hv1235_) (fun a1236_ b1236_ h1236_ => ?_)
  obtain ⟨hv1236_, hf1236_, rfl, hq1236_0, hq1236_1⟩ := h1236_
  have h1237_ := iv_get hv1235_ (k := 90) (j := 3) (l := 0) (u := 12) rfl
  have h1238_ : a1235_ 90 3 = a1234_ 90 3 := hf1235_ 90 3 rfl
  have h1239_ := iv_get hv1234_ (k := 90) (j := 3) (l := 0) (u := 12) rfl
  have h1240_ : a1234_ 90 3 = a1233_ 90 3 := hf1234_ 90 3 rfl
  have h1241_ := iv_get hv1233_ (k := 90) (j := 3) (l := 0) (u := 12) rfl
  have h1242_ : a1233_ 90 3 = a1230_ 90 3 := hf1233_ 90 3 rfl
  have h1243_ := iv_get hv1236_ (k := 90) (j := 12) (l := 0) (u := 6) rfl
  have hfd_ := hq1236_1 _ _ _ hTF_
  rw [h91c_, h908_] at hfd_
  have hf1244_ : jfr jW_X5_find a0 a1230_ := jfr_tr (jfr_rf _ _) hf1230_ rfl
  have hf1245_ : jfr jW_X5_find a0 a1233_ := jfr_tr hf1244_ hf1233_ rfl
  have hf1246_ : jfr jW_X5_find a0 a1234_ := jfr_tr hf1245_ hf1234_ rfl
  have hf1247_ : jfr jW_X5_find a0 a1235_ := jfr_tr hf1246_ hf1235_ rfl
  have hf1248_ : jfr jW_X5_find a0 a1236_ := jfr_tr hf1247_ hf1236_ rfl
  exact jt_rI ⟨hv1236_, hf1248_, (show (a0 83 6 = 0 → a1236_ 90 12 = 0) from by omega), ⟨nn_, st_, _, _, hse_, h12_, hws_.1, huse_.1, huse_.2, hfd_, rfl⟩⟩
def jW_X11_rings : List (Nat × Nat) := [(90, 3), (90, 8), (90, 12), (91, 9999), (92, 9999), (93, 9999), (95, 9999), (96, 9999), (97, 9999), (104, 9999)]
abbrev jQ_X11_rings (a0 b0 : Nat → Nat → Int) : List jxV → (Nat → Nat → Int) → (Nat → Nat → Int) → Prop := rI (fun r a b => (iv a) ∧ (jfr jW_X11_rings a0 a) ∧ ((a0 83 6 = 0 → r = 0)) ∧ (RGC a0 b0 a r))
theorem sp_X11_rings (E : jxE) (d : Nat) (hd : Nat.ble 26 d = true) (a0 b0 : Nat → Nat → Int) (hv0 : iv a0) : jt (jxC E d 186 [.inr (.inr (.inl 0))] (jxSH, a0, b0)) (jQ_X11_rings a0 b0) := by
  obtain ⟨d, rfl⟩ := jd_succ hd
  refine jt_eq (bq_X11_rings E d a0 b0) ?_
  refine jt_bI (sp_X5_find E d (jd_le hd rfl) a0 b0 hv0) (fun r1249_ a1249_ b1249_ h1249_ => ?_)
  obtain ⟨hv1249_, hf1249_, hq1249_0, hq1249_1⟩ := h1249_
  have h1250_ := iv_get hv0 (k := 83) (j := 6) (l := 0) (u := 20) rfl
  have hf1251_ : jfr jW_X11_rings a0 a1249_ := jfr_tr (jfr_rf _ _) hf1249_ rfl
  exact jt_rI ⟨hv1249_, hf1251_, (show (a0 83 6 = 0 → r1249_ = 0) from by omega), hq1249_1⟩
