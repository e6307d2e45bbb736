def jWo_X4_takeAway : List (Nat × Nat) := [(87, 9999), (88, 9999)]
abbrev jR_X4_takeAway (x1 : Int) (a0 b0 : Nat → Nat → Int) : List jxV → (Nat → Nat → Int) → (Nat → Nat → Int) → Prop := rV (fun a b => (iv a) ∧ (jfr jW_X4_takeAway a0 a) ∧ (b0 = b) ∧ (0 ≤ x1 → x1 < a0 83 6 → a 87 = rup (a0 87) x1.toNat 2 ∧ a 88 = rup (a0 88) x1.toNat (-1) ∧ a 89 = rup (a0 89) x1.toNat (-1)))
theorem cr_X4_takeAway_22 (E : jxE) (d : Nat) (hd : Nat.ble 2 (d + 1) = true) (x1 : Int) (a0 b0 : Nat → Nat → Int) (hv0 : iv a0) : ∀ (y1 : Int) (a : Nat → Nat → Int), iv a → jfr jW_X4_takeAway a0 a → 0 ≤ y1 → y1 ≤ 19 → (y1 = x1) → (0 ≤ x1 ∧ x1 < a 83 6) → (jfr jWo_X4_takeAway a0 a) → (a 87 = rup (a0 87) x1.toNat 2 ∧ a 88 = rup (a0 88) x1.toNat (-1)) → jt (jxX E d 69 22 [some (.inr (.inr (.inl 83))), some (.inl y1)] [] (jxSH, a, b0)) (jR_X4_takeAway x1 a0 b0) := by
  intro y1 a hv hf hi0 hi1 hy1 hi3 hfe hr2
  refine jt_eq (bq_X4_takeAway_22 E d y1 a b0) ?_
  have h1_ := iv_get hv (k := 83) (j := 6) (l := 0) (u := 20) rfl
  have h2_ : a 83 6 = a0 83 6 := hf 83 6 rfl
  have h3_ := iv_get hv0 (k := 83) (j := 6) (l := 0) (u := 20) rfl
  refine jt_grd (by omega) ?_
  have hv4_ : iv (jxu a 89 (y1.toNat) (-1)) := iv_putf hv rfl
  have hf5_ : jfr jW_X4_takeAway a0 (jxu a 89 (y1.toNat) (-1)) := jfr_put hf rfl
  exact jt_rV ⟨hv4_, hf5_, rfl, (fun _ _ => ⟨by rw [jxu_off (show ¬ 87 = 89 by decide)]; exact hr2.1, by rw [jxu_off (show ¬ 88 = 89 by decide)]; exact hr2.2, by rw [jxu_rup, hy1, show a 89 = a0 89 from funext fun j => hfe 89 j rfl]⟩)⟩
theorem sq_X4_takeAway (E : jxE) (d : Nat) (hd : Nat.ble 2 d = true) (x1 : Int) (a0 b0 : Nat → Nat → Int) (hv0 : iv a0) : jt (jxC E d 69 [.inr (.inr (.inl 83)), .inl x1] (jxSH, a0, b0)) (jR_X4_takeAway x1 a0 b0) := by
  obtain ⟨d, rfl⟩ := jd_succ hd
  refine jt_eq (bq_X4_takeAway E d x1 a0 b0) ?_
  refine jt_eI (eq_X4_has E d (jd_le hd rfl) x1 a0 b0) ?_
  have h6_ := f_X4_has_eq a0 b0 x1
  have h7_ := iv_get hv0 (k := 83) (j := 6) (l := 0) (u := 20) rfl
  refine jt_ite (fun c8_ => ?_) (fun c8_ => ?_)
  ·
    exact jt_rV ⟨hv0, (jfr_rf _ _), rfl, (fun h1 h2 => absurd (by omega : False) id)⟩
  ·
    refine jt_grd (by omega) ?_
    refine jt_grd (by omega) ?_
    have hv9_ : iv (jxu a0 87 (x1.toNat) 2) := iv_putf hv0 rfl
    have hv10_ : iv (jxu (jxu a0 87 (x1.toNat) 2) 88 (x1.toNat) (-1)) := iv_putf hv9_ rfl
    have hf11_ : jfr jW_X4_takeAway a0 (jxu a0 87 (x1.toNat) 2) := jfr_put (jfr_rf _ _) rfl
    have hf12_ : jfr jW_X4_takeAway a0 (jxu (jxu a0 87 (x1.toNat) 2) 88 (x1.toNat) (-1)) := jfr_put hf11_ rfl
    have hf13_ : jfr jWo_X4_takeAway a0 (jxu a0 87 (x1.toNat) 2) := jfr_put (jfr_rf _ _) rfl
    have hf14_ : jfr jWo_X4_takeAway a0 (jxu (jxu a0 87 (x1.toNat) 2) 88 (x1.toNat) (-1)) := jfr_put hf13_ rfl
    exact cr_X4_takeAway_22 E d hd x1 a0 b0 hv0 x1 (jxu (jxu a0 87 (x1.toNat) 2) 88 (x1.toNat) (-1)) hv10_ hf12_ (show 0 ≤ x1 from by omega) (show x1 ≤ 19 from by omega) (by first | rfl | assumption) (show (0 ≤ x1 ∧ x1 < a0 83 6) from by omega) hf14_ ⟨by rw [jxu_off (show ¬ 87 = 88 by decide)]; exact jxu_rup _ _ _ _, by rw [jxu_rup, jxu_off (show ¬ 88 = 87 by decide)]⟩
abbrev jR_X3_addCredit (x1 : Int) (a0 b0 : Nat → Nat → Int) : List jxV → (Nat → Nat → Int) → (Nat → Nat → Int) → Prop := rV (fun a b => (iv a) ∧ (jfr jW_X3_addCredit a0 a) ∧ (b0 = b) ∧ (0 ≤ x1 → x1 < a0 4 6 → x1 < 40 → a 9 = rup (a0 9) x1.toNat (jxw (a0 9 x1.toNat + 1))))
theorem sq_X3_addCredit (E : jxE) (d : Nat) (hd : Nat.ble 2 d = true) (x1 : Int) (a0 b0 : Nat → Nat → Int) (hv0 : iv a0) : jt (jxC E d 56 [.inr (.inr (.inl 4)), .inl x1] (jxSH, a0, b0)) (jR_X3_addCredit x1 a0 b0) := by
  obtain ⟨d, rfl⟩ := jd_succ hd
  refine jt_eq (bq_X3_addCredit E d x1 a0 b0) ?_
  refine jt_eI (eq_X3_has E d (jd_le hd rfl) x1 a0 b0) ?_
  have h15_ := f_X3_has_eq a0 b0 x1
  have h16_ := iv_get hv0 (k := 4) (j := 6) (l := 0) (u := 40) rfl
  refine jt_ite (fun c17_ => ?_) (fun c17_ => ?_)
  ·
    exact jt_rV ⟨hv0, (jfr_rf _ _), rfl, (fun h1 h2 h3 => absurd (by omega : False) id)⟩
  ·
    refine jt_grd (by omega) ?_
    refine jt_grd (by omega) ?_
    have hv18_ : iv (jxu a0 9 (x1.toNat) (jxw ((a0 9 (x1.toNat)) + 1))) := iv_putf hv0 rfl
    have hf19_ : jfr jW_X3_addCredit a0 (jxu a0 9 (x1.toNat) (jxw ((a0 9 (x1.toNat)) + 1))) := jfr_put (jfr_rf _ _) rfl
    exact jt_rV ⟨hv18_, hf19_, rfl, (fun _ _ _ => jxu_rup _ _ _ _)⟩
abbrev jR_X4_addRing (a0 b0 : Nat → Nat → Int) : List jxV → (Nat → Nat → Int) → (Nat → Nat → Int) → Prop := rI (fun r a b => (iv a) ∧ (jfr jW_X4_addRing a0 a) ∧ (b0 = b) ∧ (r = a0 83 7) ∧ (a 83 7 = jxw (a0 83 7 + 1)))
theorem sq_X4_addRing (E : jxE) (d : Nat) (hd : Nat.ble 1 d = true) (a0 b0 : Nat → Nat → Int) (hv0 : iv a0) : jt (jxC E d 67 [.inr (.inr (.inl 83))] (jxSH, a0, b0)) (jR_X4_addRing a0 b0) := by
  obtain ⟨d, rfl⟩ := jd_succ hd
  refine jt_eq (bq_X4_addRing E d a0 b0) ?_
  have hv20_ : iv (jxu a0 83 7 (jxw ((a0 83 7) + 1))) := iv_putf hv0 rfl
  have hf21_ : jfr jW_X4_addRing a0 (jxu a0 83 7 (jxw ((a0 83 7) + 1))) := jfr_put (jfr_rf _ _) rfl
  exact jt_rI ⟨hv20_, hf21_, rfl, rfl, (jxu_at _ _ _ _)⟩
def jWo_X4_joinRing : List (Nat × Nat) := [(87, 9999), (88, 9999)]
abbrev jR_X4_joinRing (x1 x2 x3 : Int) (a0 b0 : Nat → Nat → Int) : List jxV → (Nat → Nat → Int) → (Nat → Nat → Int) → Prop := rV (fun a b => (iv a) ∧ (jfr jW_X4_joinRing a0 a) ∧ (b0 = b) ∧ (0 ≤ x1 → x1 < a0 83 6 → a 87 = rup (a0 87) x1.toNat 1 ∧ a 88 = rup (a0 88) x1.toNat x2 ∧ a 89 = rup (a0 89) x1.toNat x3))
theorem cr_X4_joinRing_22 (E : jxE) (d : Nat) (hd : Nat.ble 2 (d + 1) = true) (x1 x2 x3 : Int) (a0 b0 : Nat → Nat → Int) (hv0 : iv a0) : ∀ (y1 y3 : Int) (a : Nat → Nat → Int), iv a → jfr jW_X4_joinRing a0 a → 0 ≤ y1 → y1 ≤ 19 → (y1 = x1) → (0 ≤ x1 ∧ x1 < a 83 6) → (jfr jWo_X4_joinRing a0 a) → (a 87 = rup (a0 87) x1.toNat 1 ∧ a 88 = rup (a0 88) x1.toNat x2) → (y3 = x3) → jt (jxX E d 68 22 [some (.inr (.inr (.inl 83))), some (.inl y1), none, some (.inl y3)] [] (jxSH, a, b0)) (jR_X4_joinRing x1 x2 x3 a0 b0) := by
  intro y1 y3 a hv hf hi0 hi1 hy1 hi3 hfe hr2 hy3
  refine jt_eq (bq_X4_joinRing_22 E d y1 y3 a b0) ?_
  have h22_ := iv_get hv (k := 83) (j := 6) (l := 0) (u := 20) rfl
  have h23_ : a 83 6 = a0 83 6 := hf 83 6 rfl
  have h24_ := iv_get hv0 (k := 83) (j := 6) (l := 0) (u := 20) rfl
  refine jt_grd (by omega) ?_
  have hv25_ : iv (jxu a 89 (y1.toNat) y3) := iv_putf hv rfl
  have hf26_ : jfr jW_X4_joinRing a0 (jxu a 89 (y1.toNat) y3) := jfr_put hf rfl
  exact jt_rV ⟨hv25_, hf26_, rfl, (fun _ _ => ⟨by rw [jxu_off (show ¬ 87 = 89 by decide)]; exact hr2.1, by rw [jxu_off (show ¬ 88 = 89 by decide)]; exact hr2.2, by rw [jxu_rup, hy1, hy3, show a 89 = a0 89 from funext fun j => hfe 89 j rfl]⟩)⟩
theorem sq_X4_joinRing (E : jxE) (d : Nat) (hd : Nat.ble 2 d = true) (x1 x2 x3 : Int) (a0 b0 : Nat → Nat → Int) (hv0 : iv a0) : jt (jxC E d 68 [.inr (.inr (.inl 83)), .inl x1, .inl x2, .inl x3] (jxSH, a0, b0)) (jR_X4_joinRing x1 x2 x3 a0 b0) := by
  obtain ⟨d, rfl⟩ := jd_succ hd
  refine jt_eq (bq_X4_joinRing E d x1 x2 x3 a0 b0) ?_
  refine jt_eI (eq_X4_has E d (jd_le hd rfl) x1 a0 b0) ?_
  have h27_ := f_X4_has_eq a0 b0 x1
  have h28_ := iv_get hv0 (k := 83) (j := 6) (l := 0) (u := 20) rfl
  refine jt_ite (fun c29_ => ?_) (fun c29_ => ?_)
  ·
    exact jt_rV ⟨hv0, (jfr_rf _ _), rfl, (fun h1 h2 => absurd (by omega : False) id)⟩
  ·
    refine jt_grd (by omega) ?_
    refine jt_grd (by omega) ?_
    have hv30_ : iv (jxu a0 87 (x1.toNat) 1) := iv_putf hv0 rfl
    have hv31_ : iv (jxu (jxu a0 87 (x1.toNat) 1) 88 (x1.toNat) x2) := iv_putf hv30_ rfl
    have hf32_ : jfr jW_X4_joinRing a0 (jxu a0 87 (x1.toNat) 1) := jfr_put (jfr_rf _ _) rfl
    have hf33_ : jfr jW_X4_joinRing a0 (jxu (jxu a0 87 (x1.toNat) 1) 88 (x1.toNat) x2) := jfr_put hf32_ rfl
    have hf34_ : jfr jWo_X4_joinRing a0 (jxu a0 87 (x1.toNat) 1) := jfr_put (jfr_rf _ _) rfl
    have hf35_ : jfr jWo_X4_joinRing a0 (jxu (jxu a0 87 (x1.toNat) 1) 88 (x1.toNat) x2) := jfr_put hf34_ rfl
    exact cr_X4_joinRing_22 E d hd x1 x2 x3 a0 b0 hv0 x1 x3 (jxu (jxu a0 87 (x1.toNat) 1) 88 (x1.toNat) x2) hv31_ hf33_ (show 0 ≤ x1 from by omega) (show x1 ≤ 19 from by omega) (by first | rfl | assumption) (show (0 ≤ x1 ∧ x1 < a0 83 6) from by omega) hf35_ ⟨by rw [jxu_off (show ¬ 87 = 88 by decide)]; exact jxu_rup _ _ _ _, by rw [jxu_rup, jxu_off (show ¬ 88 = 87 by decide)]⟩ (by first | rfl | assumption)
abbrev jR_X4_offerInRing (x1 x2 : Int) (a0 b0 : Nat → Nat → Int) : List jxV → (Nat → Nat → Int) → (Nat → Nat → Int) → Prop := rI (fun r a b => (a0 = a) ∧ (b0 = b) ∧ ((a0 83 6 = 0 → r = 0 - 1)) ∧ (r = FOF (a0 87) (a0 88) (a0 84) x1 x2 (a0 83 6).toNat))
theorem cr_X4_offerInRing_2 (E : jxE) (d : Nat) (hd : Nat.ble 3 (d + 1) = true) (x1 x2 : Int) (a0 b0 : Nat → Nat → Int) (hv0 : iv a0) : ∀ n : Nat, (∀ (y1 y2 y3 : Int), (((20 - y3) * 1) + 0).toNat ≤ n → 0 ≤ y3 → y3 ≤ 19 → y1 = x1 → y2 = x2 → 0 ≤ y3 → y3 < a0 83 6 → (FOF (a0 87) (a0 88) (a0 84) x1 x2 (y3.toNat + 1) = -1) → jt (jxX E d 72 40 [some (.inr (.inr (.inl 83))), some (.inl y1), some (.inl y2), some (.inl y3)] [] (jxSH, a0, b0)) (jR_X4_offerInRing x1 x2 a0 b0)) ∧ (∀ (y1 y2 y3 : Int), (((20 - y3) * 1) + 0).toNat ≤ n → 0 ≤ y3 → y3 ≤ 19 → 1 ≤ a0 83 6 → y1 = x1 → y2 = x2 → 0 ≤ y3 → y3 < a0 83 6 → (FOF (a0 87) (a0 88) (a0 84) x1 x2 y3.toNat = -1) → (a0 87 y3.toNat = 1 ∧ a0 88 y3.toNat = x1) → jt (jxX E d 72 28 [some (.inr (.inr (.inl 83))), some (.inl y1), some (.inl y2), some (.inl y3)] [] (jxSH, a0, b0)) (jR_X4_offerInRing x1 x2 a0 b0)) ∧ (∀ (y1 y2 y3 : Int), (((20 - y3) * 1) + 0).toNat ≤ n → 0 ≤ y3 → y3 ≤ 20 → y1 = x1 → y2 = x2 → 0 ≤ y3 → y3 ≤ a0 83 6 → (FOF (a0 87) (a0 88) (a0 84) x1 x2 y3.toNat = -1) → jt (jxX E d 72 2 [some (.inr (.inr (.inl 83))), some (.inl y1), some (.inl y2), some (.inl y3)] [] (jxSH, a0, b0)) (jR_X4_offerInRing x1 x2 a0 b0)) := by
  refine jx_ind fun n ih => ?_
  have ih40 : ∀ (y1 y2 y3 : Int), (((20 - y3) * 1) + 0).toNat < n → 0 ≤ y3 → y3 ≤ 19 → y1 = x1 → y2 = x2 → 0 ≤ y3 → y3 < a0 83 6 → (FOF (a0 87) (a0 88) (a0 84) x1 x2 (y3.toNat + 1) = -1) → jt (jxX E d 72 40 [some (.inr (.inr (.inl 83))), some (.inl y1), some (.inl y2), some (.inl y3)] [] (jxSH, a0, b0)) (jR_X4_offerInRing x1 x2 a0 b0) := fun y1 y2 y3 hlt i0 i1 i2 i3 i4 i5 i6 => (ih _ hlt).1 y1 y2 y3 (Nat.le_refl _) i0 i1 i2 i3 i4 i5 i6
  have ih28 : ∀ (y1 y2 y3 : Int), (((20 - y3) * 1) + 0).toNat < n → 0 ≤ y3 → y3 ≤ 19 → 1 ≤ a0 83 6 → y1 = x1 → y2 = x2 → 0 ≤ y3 → y3 < a0 83 6 → (FOF (a0 87) (a0 88) (a0 84) x1 x2 y3.toNat = -1) → (a0 87 y3.toNat = 1 ∧ a0 88 y3.toNat = x1) → jt (jxX E d 72 28 [some (.inr (.inr (.inl 83))), some (.inl y1), some (.inl y2), some (.inl y3)] [] (jxSH, a0, b0)) (jR_X4_offerInRing x1 x2 a0 b0) := fun y1 y2 y3 hlt i0 i1 i2 i3 i4 i5 i6 i7 i8 => (ih _ hlt).2.1 y1 y2 y3 (Nat.le_refl _) i0 i1 i2 i3 i4 i5 i6 i7 i8
  have ih2 : ∀ (y1 y2 y3 : Int), (((20 - y3) * 1) + 0).toNat < n → 0 ≤ y3 → y3 ≤ 20 → y1 = x1 → y2 = x2 → 0 ≤ y3 → y3 ≤ a0 83 6 → (FOF (a0 87) (a0 88) (a0 84) x1 x2 y3.toNat = -1) → jt (jxX E d 72 2 [some (.inr (.inr (.inl 83))), some (.inl y1), some (.inl y2), some (.inl y3)] [] (jxSH, a0, b0)) (jR_X4_offerInRing x1 x2 a0 b0) := fun y1 y2 y3 hlt i0 i1 i2 i3 i4 i5 i6 => (ih _ hlt).2.2 y1 y2 y3 (Nat.le_refl _) i0 i1 i2 i3 i4 i5 i6
  have hc40 : ∀ (y1 y2 y3 : Int), (((20 - y3) * 1) + 0).toNat ≤ n → 0 ≤ y3 → y3 ≤ 19 → y1 = x1 → y2 = x2 → 0 ≤ y3 → y3 < a0 83 6 → (FOF (a0 87) (a0 88) (a0 84) x1 x2 (y3.toNat + 1) = -1) → jt (jxX E d 72 40 [some (.inr (.inr (.inl 83))), some (.inl y1), some (.inl y2), some (.inl y3)] [] (jxSH, a0, b0)) (jR_X4_offerInRing x1 x2 a0 b0) := by
    intro y1 y2 y3 hm hi0 hi1 hi2 hi3 hi4 hi5 hfo
    refine jt_eq (bq_X4_offerInRing_40 E d y1 y2 y3 a0 b0) ?_
    have h36_ := iv_get hv0 (k := 83) (j := 6) (l := 0) (u := 20) rfl
    have h37_ : jxw (y3 + 1) = y3 + 1 := jxw_id (by omega) (by omega)
    exact ih2 y1 y2 (jxw (y3 + 1)) (show (((20 - (jxw (y3 + 1))) * 1) + 0).toNat < n from by omega) (show 0 ≤ jxw (y3 + 1) from by omega) (show jxw (y3 + 1) ≤ 20 from by omega) (show y1 = x1 from by omega) (show y2 = x2 from by omega) (show 0 ≤ jxw (y3 + 1) from by omega) (show jxw (y3 + 1) ≤ a0 83 6 from by omega) (by first | rfl | (rw [show (jxw (y3 + 1)).toNat = y3.toNat + 1 from by omega]; exact hfo))
  have hc28 : ∀ (y1 y2 y3 : Int), (((20 - y3) * 1) + 0).toNat ≤ n → 0 ≤ y3 → y3 ≤ 19 → 1 ≤ a0 83 6 → y1 = x1 → y2 = x2 → 0 ≤ y3 → y3 < a0 83 6 → (FOF (a0 87) (a0 88) (a0 84) x1 x2 y3.toNat = -1) → (a0 87 y3.toNat = 1 ∧ a0 88 y3.toNat = x1) → jt (jxX E d 72 28 [some (.inr (.inr (.inl 83))), some (.inl y1), some (.inl y2), some (.inl y3)] [] (jxSH, a0, b0)) (jR_X4_offerInRing x1 x2 a0 b0) := by
    intro y1 y2 y3 hm hi0 hi1 hi2 hi3 hi4 hi5 hi6 hfo hm2
    refine jt_eq (bq_X4_offerInRing_28 E d y1 y2 y3 a0 b0) ?_
    have h38_ := iv_get hv0 (k := 83) (j := 6) (l := 0) (u := 20) rfl
    refine jt_grd (by omega) ?_
    refine jt_ite (fun c39_ => ?_) (fun c39_ => ?_)
    ·
      exact jt_rI ⟨rfl, rfl, (show (a0 83 6 = 0 → y3 = 0 - 1) from by omega), (by rw [FOF_at hfo ⟨hm2.1, hm2.2, by omega⟩ (show y3.toNat < (a0 83 6).toNat by omega)]; omega)⟩
    ·
      exact hc40 y1 y2 y3 (show (((20 - y3) * 1) + 0).toNat ≤ n from by omega) (show 0 ≤ y3 from by omega) (show y3 ≤ 19 from by omega) (show y1 = x1 from by omega) (show y2 = x2 from by omega) (show 0 ≤ y3 from by omega) (show y3 < a0 83 6 from by omega) (FOF_no hfo (fun z => by have z1 := z.1; have z2 := z.2.1; have z3 := z.2.2; omega))
  have hc2 : ∀ (y1 y2 y3 : Int), (((20 - y3) * 1) + 0).toNat ≤ n → 0 ≤ y3 → y3 ≤ 20 → y1 = x1 → y2 = x2 → 0 ≤ y3 → y3 ≤ a0 83 6 → (FOF (a0 87) (a0 88) (a0 84) x1 x2 y3.toNat = -1) → jt (jxX E d 72 2 [some (.inr (.inr (.inl 83))), some (.inl y1), some (.inl y2), some (.inl y3)] [] (jxSH, a0, b0)) (jR_X4_offerInRing x1 x2 a0 b0) := by
    intro y1 y2 y3 hm hi0 hi1 hi2 hi3 hi4 hi5 hfo
    refine jt_eq (bq_X4_offerInRing_2 E d y1 y2 y3 a0 b0) ?_
    have h40_ := iv_get hv0 (k := 83) (j := 6) (l := 0) (u := 20) rfl
    refine jt_ite (fun c41_ => ?_) (fun c41_ => ?_)
    ·
      refine jt_eI (eq_X4_isInRing E d (jd_le hd rfl) y3 a0 b0) ?_
      have h42_ := f_X4_isInRing_eq a0 b0 y3
      have h43_ := f_X4_has_eq a0 b0 y3
      refine jt_ite (fun c44_ => ?_) (fun c44_ => ?_)
      ·
        exact hc40 y1 y2 y3 (show (((20 - y3) * 1) + 0).toNat ≤ n from by omega) (show 0 ≤ y3 from by omega) (show y3 ≤ 19 from by omega) (show y1 = x1 from by omega) (show y2 = x2 from by omega) (show 0 ≤ y3 from by omega) (show y3 < a0 83 6 from by omega) (FOF_no hfo (fun z => by have z1 := z.1; have z2 := z.2.1; have z3 := z.2.2; omega))
      ·
        refine jt_grd (by omega) ?_
        refine jt_ite (fun c45_ => ?_) (fun c45_ => ?_)
        ·
          exact hc28 y1 y2 y3 (show (((20 - y3) * 1) + 0).toNat ≤ n from by omega) (show 0 ≤ y3 from by omega) (show y3 ≤ 19 from by omega) (show 1 ≤ a0 83 6 from by omega) (show y1 = x1 from by omega) (show y2 = x2 from by omega) (show 0 ≤ y3 from by omega) (show y3 < a0 83 6 from by omega) hfo ⟨by omega, by omega⟩
        ·
          exact hc40 y1 y2 y3 (show (((20 - y3) * 1) + 0).toNat ≤ n from by omega) (show 0 ≤ y3 from by omega) (show y3 ≤ 19 from by omega) (show y1 = x1 from by omega) (show y2 = x2 from by omega) (show 0 ≤ y3 from by omega) (show y3 < a0 83 6 from by omega) (FOF_no hfo (fun z => by have z1 := z.1; have z2 := z.2.1; have z3 := z.2.2; omega))
    ·
      exact jt_rI ⟨rfl, rfl, (show (a0 83 6 = 0 → (-1) = 0 - 1) from by omega), (by rw [show (a0 83 6).toNat = y3.toNat from by omega, hfo])⟩
  exact ⟨hc40, hc28, hc2⟩
theorem sq_X4_offerInRing (E : jxE) (d : Nat) (hd : Nat.ble 3 d = true) (x1 x2 : Int) (a0 b0 : Nat → Nat → Int) (hv0 : iv a0) : jt (jxC E d 72 [.inr (.inr (.inl 83)), .inl x1, .inl x2] (jxSH, a0, b0)) (jR_X4_offerInRing x1 x2 a0 b0) := by
  obtain ⟨d, rfl⟩ := jd_succ hd
  refine jt_eq (bq_X4_offerInRing E d x1 x2 a0 b0) ?_
  have h46_ := iv_get hv0 (k := 83) (j := 6) (l := 0) (u := 20) rfl
  exact (cr_X4_offerInRing_2 E d hd x1 x2 a0 b0 hv0 _).2.2 x1 x2 0 (Nat.le_refl _) (show 0 ≤ 0 from by omega) (show 0 ≤ 20 from by omega) (show x1 = x1 from by omega) (show x2 = x2 from by omega) (show 0 ≤ 0 from by omega) (show 0 ≤ a0 83 6 from by omega) (by first | rfl | (rw [show (jxw (y3 + 1)).toNat = y3.toNat + 1 from by omega]; exact hfo))
def jW_X11_cancelCardsTo : List (Nat × Nat) := [(9, 9999), (64, 9999)]
abbrev jQ_X11_cancelCardsTo (x1 : Int) (a0 b0 : Nat → Nat → Int) : List jxV → (Nat → Nat → Int) → (Nat → Nat → Int) → Prop := rI (fun r a b => (iv a) ∧ (jfr jW_X11_cancelCardsTo a0 a) ∧ (b0 = b) ∧ (CIC a) ∧ ((cvC a, a 9, r) = cnc (a0 0 0) x1 (a0 58 8).toNat (cvC a0, a0 9, 0)) ∧ ((0 ≤ r ∧ r ≤ 300)))
theorem cp_X11_cancelCardsTo_4 (E : jxE) (d : Nat) (hd : Nat.ble 4 (d + 1) = true) (x1 : Int) (a0 b0 : Nat → Nat → Int) (hv0 : iv a0) (hp0 : CIC a0) : ∀ n : Nat, (∀ (y1 y2 y3 : Int) (a : Nat → Nat → Int), (((300 - y3) * 1) + 0).toNat ≤ n → iv a → jfr jW_X11_cancelCardsTo a0 a → 0 ≤ y3 → y3 ≤ 299 → y1 = x1 → 0 ≤ y3 → 0 ≤ y2 → (CIC a) → y3 < a 58 8 → y2 ≤ y3 + 1 → ((cvC a, a 9, y2) = cnc (a0 0 0) x1 (y3.toNat + 1) (cvC a0, a0 9, 0)) → jt (jxX E d 158 72 [some (.inr (.inr (.inl 0))), some (.inl y1), some (.inl y2), some (.inl y3)] [] (jxSH, a, b0)) (jQ_X11_cancelCardsTo x1 a0 b0)) ∧ (∀ (y1 y2 y3 : Int) (a : Nat → Nat → Int), (((300 - y3) * 1) + 0).toNat ≤ n → iv a → jfr jW_X11_cancelCardsTo a0 a → 0 ≤ y3 → y3 ≤ 299 → y1 = x1 → 0 ≤ y3 → 0 ≤ y2 → y2 ≤ y3 → (CIC a) → y3 < a 58 8 → ((cvC a, a 9, y2) = cnc (a0 0 0) x1 y3.toNat (cvC a0, a0 9, 0)) → (a 60 y3.toNat = x1 ∧ vSt (cvC a) (a0 0 0) y3.toNat = 0) → jt (jxX E d 158 42 [some (.inr (.inr (.inl 0))), some (.inl y1), some (.inl y2), some (.inl y3)] [] (jxSH, a, b0)) (jQ_X11_cancelCardsTo x1 a0 b0)) ∧ (∀ (y1 y2 y3 : Int) (a : Nat → Nat → Int), (((300 - y3) * 1) + 0).toNat ≤ n → iv a → jfr jW_X11_cancelCardsTo a0 a → 0 ≤ y3 → y3 ≤ 300 → y1 = x1 → 0 ≤ y3 → 0 ≤ y2 → y2 ≤ y3 → (CIC a) → y3 ≤ a 58 8 → ((cvC a, a 9, y2) = cnc (a0 0 0) x1 y3.toNat (cvC a0, a0 9, 0)) → jt (jxX E d 158 4 [some (.inr (.inr (.inl 0))), some (.inl y1), some (.inl y2), some (.inl y3)] [] (jxSH, a, b0)) (jQ_X11_cancelCardsTo x1 a0 b0)) := by
  refine jx_ind fun n ih => ?_
  have ih72 : ∀ (y1 y2 y3 : Int) (a : Nat → Nat → Int), (((300 - y3) * 1) + 0).toNat < n → iv a → jfr jW_X11_cancelCardsTo a0 a → 0 ≤ y3 → y3 ≤ 299 → y1 = x1 → 0 ≤ y3 → 0 ≤ y2 → (CIC a) → y3 < a 58 8 → y2 ≤ y3 + 1 → ((cvC a, a 9, y2) = cnc (a0 0 0) x1 (y3.toNat + 1) (cvC a0, a0 9, 0)) → jt (jxX E d 158 72 [some (.inr (.inr (.inl 0))), some (.inl y1), some (.inl y2), some (.inl y3)] [] (jxSH, a, b0)) (jQ_X11_cancelCardsTo x1 a0 b0) := fun y1 y2 y3 a hlt i0 i1 i2 i3 i4 i5 i6 i7 i8 i9 i10 => (ih _ hlt).1 y1 y2 y3 a (Nat.le_refl _) i0 i1 i2 i3 i4 i5 i6 i7 i8 i9 i10
  have ih42 : ∀ (y1 y2 y3 : Int) (a : Nat → Nat → Int), (((300 - y3) * 1) + 0).toNat < n → iv a → jfr jW_X11_cancelCardsTo a0 a → 0 ≤ y3 → y3 ≤ 299 → y1 = x1 → 0 ≤ y3 → 0 ≤ y2 → y2 ≤ y3 → (CIC a) → y3 < a 58 8 → ((cvC a, a 9, y2) = cnc (a0 0 0) x1 y3.toNat (cvC a0, a0 9, 0)) → (a 60 y3.toNat = x1 ∧ vSt (cvC a) (a0 0 0) y3.toNat = 0) → jt (jxX E d 158 42 [some (.inr (.inr (.inl 0))), some (.inl y1), some (.inl y2), some (.inl y3)] [] (jxSH, a, b0)) (jQ_X11_cancelCardsTo x1 a0 b0) := fun y1 y2 y3 a hlt i0 i1 i2 i3 i4 i5 i6 i7 i8 i9 i10 i11 => (ih _ hlt).2.1 y1 y2 y3 a (Nat.le_refl _) i0 i1 i2 i3 i4 i5 i6 i7 i8 i9 i10 i11
  have ih4 : ∀ (y1 y2 y3 : Int) (a : Nat → Nat → Int), (((300 - y3) * 1) + 0).toNat < n → iv a → jfr jW_X11_cancelCardsTo a0 a → 0 ≤ y3 → y3 ≤ 300 → y1 = x1 → 0 ≤ y3 → 0 ≤ y2 → y2 ≤ y3 → (CIC a) → y3 ≤ a 58 8 → ((cvC a, a 9, y2) = cnc (a0 0 0) x1 y3.toNat (cvC a0, a0 9, 0)) → jt (jxX E d 158 4 [some (.inr (.inr (.inl 0))), some (.inl y1), some (.inl y2), some (.inl y3)] [] (jxSH, a, b0)) (jQ_X11_cancelCardsTo x1 a0 b0) := fun y1 y2 y3 a hlt i0 i1 i2 i3 i4 i5 i6 i7 i8 i9 i10 => (ih _ hlt).2.2 y1 y2 y3 a (Nat.le_refl _) i0 i1 i2 i3 i4 i5 i6 i7 i8 i9 i10
  have hc72 : ∀ (y1 y2 y3 : Int) (a : Nat → Nat → Int), (((300 - y3) * 1) + 0).toNat ≤ n → iv a → jfr jW_X11_cancelCardsTo a0 a → 0 ≤ y3 → y3 ≤ 299 → y1 = x1 → 0 ≤ y3 → 0 ≤ y2 → (CIC a) → y3 < a 58 8 → y2 ≤ y3 + 1 → ((cvC a, a 9, y2) = cnc (a0 0 0) x1 (y3.toNat + 1) (cvC a0, a0 9, 0)) → jt (jxX E d 158 72 [some (.inr (.inr (.inl 0))), some (.inl y1), some (.inl y2), some (.inl y3)] [] (jxSH, a, b0)) (jQ_X11_cancelCardsTo x1 a0 b0) := by
    intro y1 y2 y3 a hm hv hf hi0 hi1 hi2 hi3 hi4 hci hi6 hi7 hs
    refine jt_eq (bq_X11_cancelCardsTo_72 E d y1 y2 y3 a b0) ?_
    have h47_ := iv_get hv (k := 58) (j := 8) (l := 0) (u := 300) rfl
    have h48_ : a 58 8 = a0 58 8 := hf 58 8 rfl
    have h49_ := iv_get hv0 (k := 58) (j := 8) (l := 0) (u := 300) rfl
    have h50_ : jxw (y3 + 1) = y3 + 1 := jxw_id (by omega) (by omega)
    exact ih4 y1 y2 (jxw (y3 + 1)) a (show (((300 - (jxw (y3 + 1))) * 1) + 0).toNat < n from by omega) hv hf (show 0 ≤ jxw (y3 + 1) from by omega) (show jxw (y3 + 1) ≤ 300 from by omega) (show y1 = x1 from by omega) (show 0 ≤ jxw (y3 + 1) from by omega) (show 0 ≤ y2 from by omega) (show y2 ≤ jxw (y3 + 1) from by omega) hci (show jxw (y3 + 1) ≤ a 58 8 from by omega) (by rw [show (jxw (y3 + 1)).toNat = y3.toNat + 1 from by omega]; exact hs)
  have hc42 : ∀ (y1 y2 y3 : Int) (a : Nat → Nat → Int), (((300 - y3) * 1) + 0).toNat ≤ n → iv a → jfr jW_X11_cancelCardsTo a0 a → 0 ≤ y3 → y3 ≤ 299 → y1 = x1 → 0 ≤ y3 → 0 ≤ y2 → y2 ≤ y3 → (CIC a) → y3 < a 58 8 → ((cvC a, a 9, y2) = cnc (a0 0 0) x1 y3.toNat (cvC a0, a0 9, 0)) → (a 60 y3.toNat = x1 ∧ vSt (cvC a) (a0 0 0) y3.toNat = 0) → jt (jxX E d 158 42 [some (.inr (.inr (.inl 0))), some (.inl y1), some (.inl y2), some (.inl y3)] [] (jxSH, a, b0)) (jQ_X11_cancelCardsTo x1 a0 b0) := by
    intro y1 y2 y3 a hm hv hf hi0 hi1 hi2 hi3 hi4 hi5 hci hi7 hs h42
    refine jt_eq (bq_X11_cancelCardsTo_42 E d y1 y2 y3 a b0) ?_
    have h51_ := iv_get hv (k := 58) (j := 8) (l := 0) (u := 300) rfl
    have h52_ : a 58 8 = a0 58 8 := hf 58 8 rfl
    have h53_ := iv_get hv0 (k := 58) (j := 8) (l := 0) (u := 300) rfl
    have e00 := hf 0 0 rfl
    have i588 := iv_get hv (k := 58) (j := 8) (l := 0) (u := 300) rfl
    have i000 := iv_get hv (k := 0) (j := 0) (l := 0) (u := 1999) rfl
    have hcc := CI_c hci (c := y3.toNat) (show ((y3.toNat : Nat) : Int) < a 58 8 by omega)
    have hfr : f_X0_fromOf a b0 y3 = a 59 y3.toNat := fromOf_at (by omega) (by omega) i588.2
    refine jt_bV (sp_X0_cancel E d (jd_le hd rfl) y3 (a 0 0) a b0 hv) (fun a54_ b54_ h54_ => ?_)
    obtain ⟨hv54_, hf54_, rfl, hq54_0⟩ := h54_
    have hcv_ := hq54_0 (by omega) (by omega) (by omega)
    have hcic_ : CIC a54_ := CIC_off hci hcv_ (hf54_ 4 6 rfl) (hf54_ 0 0 rfl) i000.1 ⟨by omega, by omega⟩ (by rw [e00]; exact h42.2)
    have hfr2_ : f_X0_fromOf a54_ b0 y3 = a 59 y3.toNat := by rw [fromOf_at (by omega) (by have e := hf54_ 58 8 rfl; omega) (by have e := hf54_ 58 8 rfl; omega)]; exact hf54_ 59 _ rfl
    have hc46_ := hf54_ 4 6 rfl
    have hcx_ : a54_ 9 = a 9 := funext fun j => hf54_ 9 j rfl
    refine jt_eI (eq_X0_fromOf E d (jd_le hd rfl) y3 a54_ b0) ?_
    refine jt_bV (sq_X3_addCredit E d (jd_le hd rfl) (f_X0_fromOf a54_ b0 y3) a54_ b0 hv54_) (fun a55_ b55_ h55_ => ?_)
    obtain ⟨hv55_, hf55_, rfl, hq55_0⟩ := h55_
    have hcr2_ : a55_ 9 = rup (a 9) (a 59 y3.toNat).toNat (jxw (a 9 (a 59 y3.toNat).toNat + 1)) := by have q := hq55_0 (by rw [hfr2_]; exact hcc.1.1) (by rw [hfr2_, hc46_]; exact hcc.1.2) (by rw [hfr2_]; have z1 : a 59 y3.toNat < a 4 6 := hcc.1.2; have h46 := (iv_get hv (k := 4) (j := 6) (l := 0) (u := 40) rfl).2; omega); rw [hfr2_, hcx_] at q; exact q
    have hcv2_ : cvC a55_ = vOff (cvC a) y3 (a 0 0) := (cvC_fr hf55_ rfl).trans hcv_
    have hf56_ : jfr jW_X11_cancelCardsTo a0 a54_ := jfr_tr hf hf54_ rfl
    have hf57_ : jfr jW_X11_cancelCardsTo a0 a55_ := jfr_tr hf56_ hf55_ rfl
    have h58_ := jxw_im (y2 + 1)
    have h59_ := jxw_rg (y2 + 1)
    have h60_ := iv_get hv55_ (k := 58) (j := 8) (l := 0) (u := 300) rfl
    have h61_ : a55_ 58 8 = a54_ 58 8 := hf55_ 58 8 rfl
    have h62_ := iv_get hv54_ (k := 58) (j := 8) (l := 0) (u := 300) rfl
    have h63_ : a54_ 58 8 = a 58 8 := hf54_ 58 8 rfl
    exact hc72 y1 (jxw (y2 + 1)) y3 a55_ (show (((300 - y3) * 1) + 0).toNat ≤ n from by omega) hv55_ hf57_ (show 0 ≤ y3 from by omega) (show y3 ≤ 299 from by omega) (show y1 = x1 from by omega) (show 0 ≤ y3 from by omega) (show 0 ≤ jxw (y2 + 1) from by omega) (CIC_fr hcic_ hf55_ rfl rfl rfl rfl (fun _ => rfl) (fun _ => rfl) (fun _ => rfl) (fun _ => rfl) (fun _ => rfl) (fun _ => rfl) (fun _ => rfl) (fun _ => rfl) (fun _ => rfl) (fun _ => rfl)) (show y3 < a55_ 58 8 from by omega) (show jxw (y2 + 1) ≤ y3 + 1 from by omega) (by show _ = c1s (a0 0 0) x1 y3.toNat (cnc (a0 0 0) x1 y3.toNat (cvC a0, a0 9, 0)); rw [← hs]; show _ = (if vTo (cvC a) y3.toNat = x1 ∧ vSt (cvC a) (a0 0 0) y3.toNat = 0 then (vOff (cvC a) (y3.toNat : Int) (a0 0 0), rup (a 9) (a 59 y3.toNat).toNat (jxw (a 9 (a 59 y3.toNat).toNat + 1)), y2 + 1) else _); rw [if_pos ⟨h42.1, h42.2⟩, hcv2_, hcr2_, Int.toNat_of_nonneg (show 0 ≤ y3 by omega), ← e00, show jxw (y2 + 1) = y2 + 1 from by omega])
  have hc4 : ∀ (y1 y2 y3 : Int) (a : Nat → Nat → Int), (((300 - y3) * 1) + 0).toNat ≤ n → iv a → jfr jW_X11_cancelCardsTo a0 a → 0 ≤ y3 → y3 ≤ 300 → y1 = x1 → 0 ≤ y3 → 0 ≤ y2 → y2 ≤ y3 → (CIC a) → y3 ≤ a 58 8 → ((cvC a, a 9, y2) = cnc (a0 0 0) x1 y3.toNat (cvC a0, a0 9, 0)) → jt (jxX E d 158 4 [some (.inr (.inr (.inl 0))), some (.inl y1), some (.inl y2), some (.inl y3)] [] (jxSH, a, b0)) (jQ_X11_cancelCardsTo x1 a0 b0) := by
    intro y1 y2 y3 a hm hv hf hi0 hi1 hi2 hi3 hi4 hi5 hci hi7 hs
    refine jt_eq (bq_X11_cancelCardsTo_4 E d y1 y2 y3 a b0) ?_
    have h64_ := iv_get hv (k := 58) (j := 8) (l := 0) (u := 300) rfl
    have h65_ : a 58 8 = a0 58 8 := hf 58 8 rfl
    have h66_ := iv_get hv0 (k := 58) (j := 8) (l := 0) (u := 300) rfl
    have e00 := hf 0 0 rfl
    have i588 := iv_get hv (k := 58) (j := 8) (l := 0) (u := 300) rfl
    have i000 := iv_get hv (k := 0) (j := 0) (l := 0) (u := 1999) rfl
    have hst : 0 ≤ y3 → y3 < a 58 8 → f_X0_stateNow a b0 y3 (a 0 0) = vSt (cvC a) (a 0 0) y3.toNat := fun h1 h2 => stNow_eqI hci rfl h1 h2
    have hto : 0 ≤ y3 → y3 < a 58 8 → f_X0_toOf a b0 y3 = a 60 y3.toNat := fun h1 h2 => toOf_at h1 h2 i588.2
    refine jt_eI (eq_X0_size E d (jd_le hd rfl) a b0) ?_
    have h67_ := f_X0_size_eq a b0
    refine jt_ite (fun c68_ => ?_) (fun c68_ => ?_)
    ·
      refine jt_eI (eq_X0_toOf E d (jd_le hd rfl) y3 a b0) ?_
      have h69_ := f_X0_toOf_eq a b0 y3
      have h70_ := f_X11_entry_r60_eq a b0 (a 58 8) y3
      have h71_ : a 60 (y3.toNat) = a0 60 (y3.toNat) := hf 60 (y3.toNat) rfl
      refine jt_ite (fun c72_ => ?_) (fun c72_ => ?_)
      ·
        refine jt_eI (eq_X0_stateNow E d (jd_le hd rfl) y3 (a 0 0) a b0) ?_
        have h73_ := iv_get hv (k := 0) (j := 0) (l := 0) (u := 1999) rfl
        have h74_ : a 0 0 = a0 0 0 := hf 0 0 rfl
        have h75_ := iv_get hv0 (k := 0) (j := 0) (l := 0) (u := 1999) rfl
        have h76_ := f_X0_stateNow_eq a b0 y3 (a 0 0)
        have h77_ := f_X0_arrivedOnOf_eq a b0 y3
        have h78_ := iv_get hv (k := 58) (j := 12) (l := 0) (u := 600) rfl
        have h79_ : a 58 12 = a0 58 12 := hf 58 12 rfl
        have h80_ := iv_get hv0 (k := 58) (j := 12) (l := 0) (u := 600) rfl
        have h81_ := f_X11_entry_r65_eq a b0 (a 58 8) y3
        have h82_ : a 65 (y3.toNat) = a0 65 (y3.toNat) := hf 65 (y3.toNat) rfl
        have h83_ := f_X11_entry_r67_eq a b0 (a 58 12) (f_X11_entry_r65 a b0 (a 58 8) y3)
        have h84_ : a 67 ((f_X11_entry_r65 a b0 (a 58 8) y3).toNat) = a0 67 ((f_X11_entry_r65 a b0 (a 58 8) y3).toNat) := hf 67 ((f_X11_entry_r65 a b0 (a 58 8) y3).toNat) rfl
        refine jt_ite (fun c85_ => ?_) (fun c85_ => ?_)
        ·
          exact hc42 y1 y2 y3 a (show (((300 - y3) * 1) + 0).toNat ≤ n from by omega) hv hf (show 0 ≤ y3 from by omega) (show y3 ≤ 299 from by omega) (show y1 = x1 from by omega) (show 0 ≤ y3 from by omega) (show 0 ≤ y2 from by omega) (show y2 ≤ y3 from by omega) hci (show y3 < a 58 8 from by omega) hs (by have q1 := hst (by omega) (by omega); have q2 := hto (by omega) (by omega); rw [e00] at q1; exact ⟨by omega, by rw [e00] at *; omega⟩)
        ·
          exact hc72 y1 y2 y3 a (show (((300 - y3) * 1) + 0).toNat ≤ n from by omega) hv hf (show 0 ≤ y3 from by omega) (show y3 ≤ 299 from by omega) (show y1 = x1 from by omega) (show 0 ≤ y3 from by omega) (show 0 ≤ y2 from by omega) hci (show y3 < a 58 8 from by omega) (show y2 ≤ y3 + 1 from by omega) (by show _ = c1s (a0 0 0) x1 y3.toNat (cnc (a0 0 0) x1 y3.toNat (cvC a0, a0 9, 0)); rw [← hs]; show _ = (if vTo (cvC a) y3.toNat = x1 ∧ vSt (cvC a) (a0 0 0) y3.toNat = 0 then _ else _); rw [if_neg (fun z => by have z1 : a 60 y3.toNat = x1 := z.1; have z2 := z.2; rw [← e00] at z2; have q1 := hst (by omega) (by omega); have q2 := hto (by omega) (by omega); omega)])
      ·
        exact hc72 y1 y2 y3 a (show (((300 - y3) * 1) + 0).toNat ≤ n from by omega) hv hf (show 0 ≤ y3 from by omega) (show y3 ≤ 299 from by omega) (show y1 = x1 from by omega) (show 0 ≤ y3 from by omega) (show 0 ≤ y2 from by omega) hci (show y3 < a 58 8 from by omega) (show y2 ≤ y3 + 1 from by omega) (by show _ = c1s (a0 0 0) x1 y3.toNat (cnc (a0 0 0) x1 y3.toNat (cvC a0, a0 9, 0)); rw [← hs]; show _ = (if vTo (cvC a) y3.toNat = x1 ∧ vSt (cvC a) (a0 0 0) y3.toNat = 0 then _ else _); rw [if_neg (fun z => by have z1 : a 60 y3.toNat = x1 := z.1; have z2 := z.2; rw [← e00] at z2; have q1 := hst (by omega) (by omega); have q2 := hto (by omega) (by omega); omega)])
    ·
      exact jt_rI ⟨hv, hf, rfl, hci, (by rw [show (a0 58 8).toNat = y3.toNat from by omega]; exact hs), (show (0 ≤ y2 ∧ y2 ≤ 300) from by omega)⟩
  exact ⟨hc72, hc42, hc4⟩
theorem sp_X11_cancelCardsTo (E : jxE) (d : Nat) (hd : Nat.ble 4 d = true) (x1 : Int) (a0 b0 : Nat → Nat → Int) (hv0 : iv a0) (hp0 : CIC a0) : jt (jxC E d 158 [.inr (.inr (.inl 0)), .inl x1] (jxSH, a0, b0)) (jQ_X11_cancelCardsTo x1 a0 b0) := by
  obtain ⟨d, rfl⟩ := jd_succ hd
  refine jt_eq (bq_X11_cancelCardsTo E d x1 a0 b0) ?_
  have h86_ := iv_get hv0 (k := 58) (j := 8) (l := 0) (u := 300) rfl
  exact (cp_X11_cancelCardsTo_4 E d hd x1 a0 b0 hv0 hp0 _).2.2 x1 0 0 a0 (Nat.le_refl _) hv0 (jfr_rf _ _) (show 0 ≤ 0 from by omega) (show 0 ≤ 300 from by omega) (show x1 = x1 from by omega) (show 0 ≤ 0 from by omega) (show 0 ≤ 0 from by omega) (show 0 ≤ 0 from by omega) hp0 (show 0 ≤ a0 58 8 from by omega) rfl
def jWwe : List (Nat × Nat) := []
def jWw3 : List (Nat × Nat) := [(87, 9999), (88, 9999), (89, 9999)]
def jWw4 : List (Nat × Nat) := [(87, 9999), (88, 9999), (89, 9999), (64, 9999)]
def jW_X11_withdraw : List (Nat × Nat) := [(9, 9999), (64, 9999), (87, 9999), (88, 9999), (89, 9999)]
abbrev jQ_X11_withdraw (x1 : Int) (a0 b0 : Nat → Nat → Int) : List jxV → (Nat → Nat → Int) → (Nat → Nat → Int) → Prop := rI (fun r a b => (iv a) ∧ (jfr jW_X11_withdraw a0 a) ∧ (b0 = b) ∧ (CIC a) ∧ ((cvC a, a 9, r) = wdr (a0 0 0) (a0 10) (if a0 87 x1.toNat = 1 then a0 89 x1.toNat else -1) (cvC a0, a0 9, 0)) ∧ (a 87 = rup (a0 87) x1.toNat 2 ∧ a 88 = rup (a0 88) x1.toNat (-1) ∧ a 89 = rup (a0 89) x1.toNat (-1)) ∧ ((0 ≤ r ∧ r ≤ 1)))
theorem cp_X11_withdraw_58 (E : jxE) (d : Nat) (hd : Nat.ble 4 (d + 1) = true) (x1 : Int) (a0 b0 : Nat → Nat → Int) (hv0 : iv a0) (hp0 : CIC a0) (hp1 : (0 ≤ x1 ∧ x1 < a0 83 6)) : ∀ (a : Nat → Nat → Int), iv a → jfr jW_X11_withdraw a0 a → (CIC a) → (a 87 = rup (a0 87) x1.toNat 2 ∧ a 88 = rup (a0 88) x1.toNat (-1) ∧ a 89 = rup (a0 89) x1.toNat (-1)) → ((cvC a, a 9, 0) = wdr (a0 0 0) (a0 10) (if a0 87 x1.toNat = 1 then a0 89 x1.toNat else -1) (cvC a0, a0 9, 0)) → jt (jxX E d 159 58 [none, none, none] [] (jxSH, a, b0)) (jQ_X11_withdraw x1 a0 b0) := by
  intro a hv hf hci h3 hw
  refine jt_eq (bq_X11_withdraw_58 E d a b0) ?_
  exact jt_rI ⟨hv, hf, rfl, hci, hw, h3, (show (0 ≤ 0 ∧ 0 ≤ 1) from by omega)⟩
theorem cp_X11_withdraw_105 (E : jxE) (d : Nat) (hd : Nat.ble 4 (d + 1) = true) (x1 : Int) (a0 b0 : Nat → Nat → Int) (hv0 : iv a0) (hp0 : CIC a0) (hp1 : (0 ≤ x1 ∧ x1 < a0 83 6)) : ∀ (a : Nat → Nat → Int), iv a → jfr jW_X11_withdraw a0 a → (CIC a) → (a 87 = rup (a0 87) x1.toNat 2 ∧ a 88 = rup (a0 88) x1.toNat (-1) ∧ a 89 = rup (a0 89) x1.toNat (-1)) → ((cvC a, a 9, 1) = wdr (a0 0 0) (a0 10) (if a0 87 x1.toNat = 1 then a0 89 x1.toNat else -1) (cvC a0, a0 9, 0)) → jt (jxX E d 159 105 [none, none, none] [] (jxSH, a, b0)) (jQ_X11_withdraw x1 a0 b0) := by
  intro a hv hf hci h3 hw
  refine jt_eq (bq_X11_withdraw_105 E d a b0) ?_
  exact jt_rI ⟨hv, hf, rfl, hci, hw, h3, (show (0 ≤ 1 ∧ 1 ≤ 1) from by omega)⟩
theorem cp_X11_withdraw_90 (E : jxE) (d : Nat) (hd : Nat.ble 4 (d + 1) = true) (x1 : Int) (a0 b0 : Nat → Nat → Int) (hv0 : iv a0) (hp0 : CIC a0) (hp1 : (0 ≤ x1 ∧ x1 < a0 83 6)) : ∀ (y2 : Int) (a : Nat → Nat → Int), iv a → jfr jW_X11_withdraw a0 a → 0 ≤ y2 → y2 ≤ 299 → (CIC a) → (a 87 = rup (a0 87) x1.toNat 2 ∧ a 88 = rup (a0 88) x1.toNat (-1) ∧ a 89 = rup (a0 89) x1.toNat (-1)) → (y2 = (if a0 87 x1.toNat = 1 then a0 89 x1.toNat else -1) ∧ 0 ≤ y2 ∧ y2 < a0 58 8 ∧ vSt (cvC a0) (a0 0 0) y2.toNat = 0) → (cvC a = vOff (cvC a0) y2 (a0 0 0) ∧ a 9 = a0 9 ∧ ¬ a0 10 (a0 60 y2.toNat).toNat = 0 ∧ a 60 y2.toNat = a0 60 y2.toNat) → jt (jxX E d 159 90 [some (.inr (.inr (.inl 0))), none, some (.inl y2)] [] (jxSH, a, b0)) (jQ_X11_withdraw x1 a0 b0) := by
  intro y2 a hv hf hi0 hi1 hci h3 hy2 h90
  refine jt_eq (bq_X11_withdraw_90 E d y2 a b0) ?_
  have i588 := iv_get hv (k := 58) (j := 8) (l := 0) (u := 300) rfl
  have e8 : a 58 8 = a0 58 8 := hf 58 8 rfl
  have e46 : a 4 6 = a0 4 6 := hf 4 6 rfl
  have hto : f_X0_toOf a b0 y2 = a 60 y2.toNat := toOf_at (by omega) (by omega) i588.2
  have hcc := CI_c hci (c := y2.toNat) (show ((y2.toNat : Nat) : Int) < a 58 8 by omega)
  refine jt_eI (eq_X0_toOf E d (jd_le hd rfl) y2 a b0) ?_
  refine jt_bV (sq_X3_addCredit E d (jd_le hd rfl) (f_X0_toOf a b0 y2) a b0 hv) (fun a87_ b87_ h87_ => ?_)
  obtain ⟨hv87_, hf87_, rfl, hq87_0⟩ := h87_
  have hf88_ : jfr jW_X11_withdraw a0 a87_ := jfr_tr hf hf87_ rfl
  exact cp_X11_withdraw_105 E d hd x1 a0 b0 hv0 hp0 hp1 a87_ hv87_ hf88_ (CIC_fr hci hf87_ rfl rfl rfl rfl (fun _ => rfl) (fun _ => rfl) (fun _ => rfl) (fun _ => rfl) (fun _ => rfl) (fun _ => rfl) (fun _ => rfl) (fun _ => rfl) (fun _ => rfl) (fun _ => rfl)) ⟨by rw [← h3.1]; exact funext fun j => hf87_ 87 j rfl, by rw [← h3.2.1]; exact funext fun j => hf87_ 88 j rfl, by rw [← h3.2.2]; exact funext fun j => hf87_ 89 j rfl⟩ (by have hto2 : f_X0_toOf a b0 y2 = a0 60 y2.toNat := hto.trans h90.2.2.2; have et : vTo (cvC a) y2.toNat = a0 60 y2.toNat := h90.2.2.2; have h46_ := (iv_get hv (k := 4) (j := 6) (l := 0) (u := 40) rfl).2; have q := hq87_0 (by rw [hto2, ← et]; exact hcc.2.1.1) (by rw [hto2, ← et]; exact hcc.2.1.2) (by rw [hto2, ← et]; omega); rw [hto2, h90.2.1] at q; rw [show cvC a87_ = cvC a from cvC_fr hf87_ rfl, h90.1, q, wdr_yes]; rw [← hy2.1]; exact (by rw [if_neg (show ¬ a0 10 (vTo (cvC a0) y2.toNat).toNat = 0 from h90.2.2.1)]; rfl); rw [← hy2.1]; exact ⟨hy2.2.1, hy2.2.2.1, hy2.2.2.2⟩)
theorem cp_X11_withdraw_60 (E : jxE) (d : Nat) (hd : Nat.ble 4 (d + 1) = true) (x1 : Int) (a0 b0 : Nat → Nat → Int) (hv0 : iv a0) (hp0 : CIC a0) (hp1 : (0 ≤ x1 ∧ x1 < a0 83 6)) : ∀ (y2 : Int) (a : Nat → Nat → Int), iv a → jfr jW_X11_withdraw a0 a → 0 ≤ y2 → y2 ≤ 299 → (CIC a) → (a 87 = rup (a0 87) x1.toNat 2 ∧ a 88 = rup (a0 88) x1.toNat (-1) ∧ a 89 = rup (a0 89) x1.toNat (-1)) → (y2 = (if a0 87 x1.toNat = 1 then a0 89 x1.toNat else -1) ∧ 0 ≤ y2 ∧ y2 < a0 58 8 ∧ vSt (cvC a0) (a0 0 0) y2.toNat = 0) → (cvC a = cvC a0 ∧ a 9 = a0 9 ∧ a 10 = a0 10 ∧ a 0 0 = a0 0 0) → jt (jxX E d 159 60 [some (.inr (.inr (.inl 0))), none, some (.inl y2)] [] (jxSH, a, b0)) (jQ_X11_withdraw x1 a0 b0) := by
  intro y2 a hv hf hi0 hi1 hci h3 hy2 hsame
  refine jt_eq (bq_X11_withdraw_60 E d y2 a b0) ?_
  have i588 := iv_get hv (k := 58) (j := 8) (l := 0) (u := 300) rfl
  have i000 := iv_get hv (k := 0) (j := 0) (l := 0) (u := 1999) rfl
  have e8 : a 58 8 = a0 58 8 := hf 58 8 rfl
  refine jt_bV (sp_X0_cancel E d (jd_le hd rfl) y2 (a 0 0) a b0 hv) (fun a89_ b89_ h89_ => ?_)
  obtain ⟨hv89_, hf89_, rfl, hq89_0⟩ := h89_
  have hcv1_ : cvC a89_ = vOff (cvC a0) y2 (a0 0 0) := by have q := hq89_0 (by omega) (by omega) (by omega); rw [hsame.1, hsame.2.2.2] at q; exact q
  have hcic_ : CIC a89_ := CIC_off hci (by rw [hcv1_, hsame.1, hsame.2.2.2]) (hf89_ 4 6 rfl) (hf89_ 0 0 rfl) i000.1 ⟨by omega, by omega⟩ (by rw [hsame.1, hsame.2.2.2]; exact hy2.2.2.2)
  have hto_ : f_X0_toOf a89_ b0 y2 = a0 60 y2.toNat := by rw [toOf_at (by omega) (by have e := hf89_ 58 8 rfl; omega) (by have e := hf89_ 58 8 rfl; omega), hf89_ 60 _ rfl]; exact hf 60 _ rfl
  have e9c_ : a89_ 9 = a0 9 := by rw [show a89_ 9 = a 9 from funext fun j => hf89_ 9 j rfl, hsame.2.1]
  have e10c_ : a89_ 10 = a0 10 := by rw [show a89_ 10 = a 10 from funext fun j => hf89_ 10 j rfl, hsame.2.2.1]
  have hcc_ := CI_c hci (c := y2.toNat) (show ((y2.toNat : Nat) : Int) < a 58 8 by omega)
  have et60_ : vTo (cvC a) y2.toNat = a0 60 y2.toNat := hf 60 _ rfl
  have h46_ := (iv_get hv (k := 4) (j := 6) (l := 0) (u := 40) rfl).2
  have hth_ : f_X3_isThere a89_ b0 (f_X0_toOf a89_ b0 y2) = if a0 10 (a0 60 y2.toNat).toNat = 0 then 0 else 1 := by rw [hto_]; unfold f_X3_isThere f_X3_has; rw [e10c_, hf89_ 4 6 rfl, if_neg (show ¬ a0 60 y2.toNat < 0 by omega), if_pos (show a0 60 y2.toNat < a 4 6 by omega), if_pos (show a0 60 y2.toNat < 40 by omega), if_neg (by decide)]
  refine jt_eI (eq_X0_toOf E d (jd_le hd rfl) y2 a89_ b0) ?_
  refine jt_eI (eq_X3_isThere E d (jd_le hd rfl) (f_X0_toOf a89_ b0 y2) a89_ b0) ?_
  have h90_ := f_X0_toOf_eq a89_ b0 y2
  have h91_ := iv_get hv89_ (k := 58) (j := 8) (l := 0) (u := 300) rfl
  have h92_ : a89_ 58 8 = a 58 8 := hf89_ 58 8 rfl
  have h93_ := iv_get hv (k := 58) (j := 8) (l := 0) (u := 300) rfl
  have h94_ : a 58 8 = a0 58 8 := hf 58 8 rfl
  have h95_ := iv_get hv0 (k := 58) (j := 8) (l := 0) (u := 300) rfl
  have h96_ := f_X11_entry_r60_eq a89_ b0 (a89_ 58 8) y2
  have h97_ : a89_ 60 (y2.toNat) = a 60 (y2.toNat) := hf89_ 60 (y2.toNat) rfl
  have h98_ : a 60 (y2.toNat) = a0 60 (y2.toNat) := hf 60 (y2.toNat) rfl
  have h99_ := f_X3_isThere_eq a89_ b0 (f_X0_toOf a89_ b0 y2)
  have h100_ := f_X3_has_eq a89_ b0 (f_X0_toOf a89_ b0 y2)
  have h101_ := iv_get hv89_ (k := 4) (j := 6) (l := 0) (u := 40) rfl
  have h102_ : a89_ 4 6 = a 4 6 := hf89_ 4 6 rfl
  have h103_ := iv_get hv (k := 4) (j := 6) (l := 0) (u := 40) rfl
  have h104_ : a 4 6 = a0 4 6 := hf 4 6 rfl
  have h105_ := iv_get hv0 (k := 4) (j := 6) (l := 0) (u := 40) rfl
  have h106_ : a89_ 10 ((f_X0_toOf a89_ b0 y2).toNat) = a 10 ((f_X0_toOf a89_ b0 y2).toNat) := hf89_ 10 ((f_X0_toOf a89_ b0 y2).toNat) rfl
  have h107_ : a 10 ((f_X0_toOf a89_ b0 y2).toNat) = a0 10 ((f_X0_toOf a89_ b0 y2).toNat) := hf 10 ((f_X0_toOf a89_ b0 y2).toNat) rfl
  refine jt_ite (fun c108_ => ?_) (fun c108_ => ?_)
  ·
    have hf109_ : jfr jW_X11_withdraw a0 a89_ := jfr_tr hf hf89_ rfl
    exact cp_X11_withdraw_105 E d hd x1 a0 b0 hv0 hp0 hp1 a89_ hv89_ hf109_ hcic_ ⟨by rw [← h3.1]; exact funext fun j => hf89_ 87 j rfl, by rw [← h3.2.1]; exact funext fun j => hf89_ 88 j rfl, by rw [← h3.2.2]; exact funext fun j => hf89_ 89 j rfl⟩ (by rw [hcv1_, e9c_, wdr_yes]; rw [← hy2.1]; exact (by rw [if_pos (show a0 10 (vTo (cvC a0) y2.toNat).toNat = 0 from by by_cases z : a0 10 (a0 60 y2.toNat).toNat = 0 <;> first | exact z | (rw [if_neg z] at hth_; omega))]; rfl); rw [← hy2.1]; exact ⟨hy2.2.1, hy2.2.2.1, hy2.2.2.2⟩)
  ·
    have hf110_ : jfr jW_X11_withdraw a0 a89_ := jfr_tr hf hf89_ rfl
    exact cp_X11_withdraw_90 E d hd x1 a0 b0 hv0 hp0 hp1 y2 a89_ hv89_ hf110_ (show 0 ≤ y2 from by omega) (show y2 ≤ 299 from by omega) hcic_ ⟨by rw [← h3.1]; exact funext fun j => hf89_ 87 j rfl, by rw [← h3.2.1]; exact funext fun j => hf89_ 88 j rfl, by rw [← h3.2.2]; exact funext fun j => hf89_ 89 j rfl⟩ hy2 ⟨hcv1_, e9c_, fun z => by rw [if_pos z] at hth_; omega, (hf89_ 60 _ rfl).trans (hf 60 _ rfl)⟩
theorem cp_X11_withdraw_23 (E : jxE) (d : Nat) (hd : Nat.ble 4 (d + 1) = true) (x1 : Int) (a0 b0 : Nat → Nat → Int) (hv0 : iv a0) (hp0 : CIC a0) (hp1 : (0 ≤ x1 ∧ x1 < a0 83 6)) : ∀ (y1 s0 : Int) (a : Nat → Nat → Int), iv a → jfr jW_X11_withdraw a0 a → 0 ≤ y1 → (jfr jWwe a0 a) → (y1 = x1) → (s0 = (if a0 87 x1.toNat = 1 then a0 89 x1.toNat else -1)) → jt (jxX E d 159 23 [some (.inr (.inr (.inl 0))), some (.inl y1), none] [.inl s0] (jxSH, a, b0)) (jQ_X11_withdraw x1 a0 b0) := by
  intro y1 s0 a hv hf hi0 hfe hy1 hs0
  refine jt_eq (bq_X11_withdraw_23 E d y1 s0 a b0) ?_
  have ea := jfr_nil hfe
  have i588 := iv_get hv0 (k := 58) (j := 8) (l := 0) (u := 300) rfl
  refine jt_bV (sq_X4_takeAway E d (jd_le hd rfl) y1 a b0 hv) (fun a111_ b111_ h111_ => ?_)
  obtain ⟨hv111_, hf111_, rfl, hq111_0⟩ := h111_
  have h3_ := hq111_0 (by rw [hy1]; omega) (by rw [hy1, ea]; omega)
  rw [hy1, ea] at h3_
  have hcv_ : cvC a111_ = cvC a0 := (cvC_fr hf111_ rfl).trans (by rw [ea])
  have hci_ : CIC a111_ := by have q := hp0; unfold CIC at q ⊢; rw [hcv_, hf111_ 4 6 rfl, hf111_ 0 0 rfl, ea]; exact q
  have e00_ : a111_ 0 0 = a0 0 0 := by rw [hf111_ 0 0 rfl, ea]
  have e58_ : a111_ 58 8 = a0 58 8 := by rw [hf111_ 58 8 rfl, ea]
  have e9_ : a111_ 9 = a0 9 := by rw [show a111_ 9 = a 9 from funext fun j => hf111_ 9 j rfl, ea]
  have hst_ : 0 ≤ s0 → s0 < a111_ 58 8 → f_X0_stateNow a111_ b0 s0 (a111_ 0 0) = vSt (cvC a0) (a0 0 0) s0.toNat := fun h1 h2 => by rw [stNow_eqI hci_ rfl h1 h2, hcv_, e00_]
  refine jt_eI (eq_X0_has E d (jd_le hd rfl) s0 a111_ b0) ?_
  have h112_ := f_X0_has_eq a111_ b0 s0
  have h113_ := iv_get hv111_ (k := 58) (j := 8) (l := 0) (u := 300) rfl
  have h114_ : a111_ 58 8 = a 58 8 := hf111_ 58 8 rfl
  have h115_ := iv_get hv (k := 58) (j := 8) (l := 0) (u := 300) rfl
  have h116_ : a 58 8 = a0 58 8 := hf 58 8 rfl
  have h117_ := iv_get hv0 (k := 58) (j := 8) (l := 0) (u := 300) rfl
  refine jt_ite (fun c118_ => ?_) (fun c118_ => ?_)
  ·
    have hf119_ : jfr jW_X11_withdraw a0 a111_ := jfr_tr hf hf111_ rfl
    exact cp_X11_withdraw_58 E d hd x1 a0 b0 hv0 hp0 hp1 a111_ hv111_ hf119_ hci_ h3_ (by rw [hcv_, e9_, wdr_no]; rw [← hs0]; exact fun z => by have z1 := z.1; have z2 : s0 < a0 58 8 := z.2.1; have z3 : vSt (cvC a0) (a0 0 0) s0.toNat = 0 := z.2.2; have q := hst_ z1 (by omega); omega)
  ·
    refine jt_eI (eq_X0_stateNow E d (jd_le hd rfl) s0 (a111_ 0 0) a111_ b0) ?_
    have h120_ := iv_get hv111_ (k := 0) (j := 0) (l := 0) (u := 1999) rfl
    have h121_ : a111_ 0 0 = a 0 0 := hf111_ 0 0 rfl
    have h122_ := iv_get hv (k := 0) (j := 0) (l := 0) (u := 1999) rfl
    have h123_ : a 0 0 = a0 0 0 := hf 0 0 rfl
    have h124_ := iv_get hv0 (k := 0) (j := 0) (l := 0) (u := 1999) rfl
    have h125_ := f_X0_stateNow_eq a111_ b0 s0 (a111_ 0 0)
    have h126_ := f_X0_arrivedOnOf_eq a111_ b0 s0
    have h127_ := iv_get hv111_ (k := 58) (j := 12) (l := 0) (u := 600) rfl
    have h128_ : a111_ 58 12 = a 58 12 := hf111_ 58 12 rfl
    have h129_ := iv_get hv (k := 58) (j := 12) (l := 0) (u := 600) rfl
    have h130_ : a 58 12 = a0 58 12 := hf 58 12 rfl
    have h131_ := iv_get hv0 (k := 58) (j := 12) (l := 0) (u := 600) rfl
    have h132_ := f_X11_entry_r65_eq a111_ b0 (a111_ 58 8) s0
    have h133_ : a111_ 65 (s0.toNat) = a 65 (s0.toNat) := hf111_ 65 (s0.toNat) rfl
    have h134_ : a 65 (s0.toNat) = a0 65 (s0.toNat) := hf 65 (s0.toNat) rfl
    have h135_ := f_X11_entry_r67_eq a111_ b0 (a111_ 58 12) (f_X11_entry_r65 a111_ b0 (a111_ 58 8) s0)
    have h136_ : a111_ 67 ((f_X11_entry_r65 a111_ b0 (a111_ 58 8) s0).toNat) = a 67 ((f_X11_entry_r65 a111_ b0 (a111_ 58 8) s0).toNat) := hf111_ 67 ((f_X11_entry_r65 a111_ b0 (a111_ 58 8) s0).toNat) rfl
    have h137_ : a 67 ((f_X11_entry_r65 a111_ b0 (a111_ 58 8) s0).toNat) = a0 67 ((f_X11_entry_r65 a111_ b0 (a111_ 58 8) s0).toNat) := hf 67 ((f_X11_entry_r65 a111_ b0 (a111_ 58 8) s0).toNat) rfl
    refine jt_ite (fun c138_ => ?_) (fun c138_ => ?_)
    ·
      have hf139_ : jfr jW_X11_withdraw a0 a111_ := jfr_tr hf hf111_ rfl
      exact cp_X11_withdraw_60 E d hd x1 a0 b0 hv0 hp0 hp1 s0 a111_ hv111_ hf139_ (show 0 ≤ s0 from by omega) (show s0 ≤ 299 from by omega) hci_ h3_ (by have q := hst_ (by omega) (by omega); exact ⟨hs0, by omega, by omega, by omega⟩) ⟨hcv_, e9_, by rw [show a111_ 10 = a 10 from funext fun j => hf111_ 10 j rfl, ea], e00_⟩
    ·
      have hf140_ : jfr jW_X11_withdraw a0 a111_ := jfr_tr hf hf111_ rfl
      exact cp_X11_withdraw_58 E d hd x1 a0 b0 hv0 hp0 hp1 a111_ hv111_ hf140_ hci_ h3_ (by rw [hcv_, e9_, wdr_no]; rw [← hs0]; exact fun z => by have z1 := z.1; have z2 : s0 < a0 58 8 := z.2.1; have z3 : vSt (cvC a0) (a0 0 0) s0.toNat = 0 := z.2.2; have q := hst_ z1 (by omega); omega)
theorem sp_X11_withdraw (E : jxE) (d : Nat) (hd : Nat.ble 4 d = true) (x1 : Int) (a0 b0 : Nat → Nat → Int) (hv0 : iv a0) (hp0 : CIC a0) (hp1 : (0 ≤ x1 ∧ x1 < a0 83 6)) : jt (jxC E d 159 [.inr (.inr (.inl 0)), .inl x1] (jxSH, a0, b0)) (jQ_X11_withdraw x1 a0 b0) := by
  obtain ⟨d, rfl⟩ := jd_succ hd
  refine jt_eq (bq_X11_withdraw E d x1 a0 b0) ?_
  have h141_ := iv_get hv0 (k := 83) (j := 6) (l := 0) (u := 20) rfl
  have h836 := iv_get hv0 (k := 83) (j := 6) (l := 0) (u := 20) rfl
  refine jt_eI (eq_X4_isInRing E d (jd_le hd rfl) x1 a0 b0) ?_
  have h142_ := f_X4_isInRing_eq a0 b0 x1
  have h143_ := f_X4_has_eq a0 b0 x1
  refine jt_ite (fun c144_ => ?_) (fun c144_ => ?_)
  ·
    exact cp_X11_withdraw_23 E d hd x1 a0 b0 hv0 hp0 hp1 x1 (-1) a0 hv0 (jfr_rf _ _) (show 0 ≤ x1 from by omega) (jfr_rf _ _) (by first | rfl | assumption) (by first | (rw [if_pos (by omega)]; omega) | rw [if_neg (by omega)])
  ·
    refine jt_eI (eq_X4_cardOf E d (jd_le hd rfl) x1 a0 b0) ?_
    have h145_ := f_X4_cardOf_eq a0 b0 x1
    have h146_ := f_X11_entry_r89_eq a0 b0 (a0 83 6) x1
    exact cp_X11_withdraw_23 E d hd x1 a0 b0 hv0 hp0 hp1 x1 (f_X4_cardOf a0 b0 x1) a0 hv0 (jfr_rf _ _) (show 0 ≤ x1 from by omega) (jfr_rf _ _) (by first | rfl | assumption) (by first | (rw [if_pos (by omega)]; omega) | rw [if_neg (by omega)])
def jW_X11_drop : List (Nat × Nat) := [(9, 9999), (64, 9999), (87, 9999), (88, 9999), (89, 9999)]
abbrev jQ_X11_drop (x1 x2 : Int) (a0 b0 : Nat → Nat → Int) : List jxV → (Nat → Nat → Int) → (Nat → Nat → Int) → Prop := rI (fun r a b => (iv a) ∧ (jfr jW_X11_drop a0 a) ∧ (b0 = b) ∧ ((a0 83 6 = 0 → r = 0 - 1)) ∧ (CIC a) ∧ (FOF (a0 87) (a0 88) (a0 84) x1 x2 (a0 83 6).toNat = -1 → r = -1 ∧ cvC a = cvC a0 ∧ a 9 = a0 9 ∧ a 87 = a0 87 ∧ a 88 = a0 88 ∧ a 89 = a0 89) ∧ (¬ FOF (a0 87) (a0 88) (a0 84) x1 x2 (a0 83 6).toNat = -1 → (cvC a, a 9, r) = wdr (a0 0 0) (a0 10) (a0 89 (FOF (a0 87) (a0 88) (a0 84) x1 x2 (a0 83 6).toNat).toNat) (cvC a0, a0 9, 0) ∧ a 87 = rup (a0 87) (FOF (a0 87) (a0 88) (a0 84) x1 x2 (a0 83 6).toNat).toNat 2 ∧ a 88 = rup (a0 88) (FOF (a0 87) (a0 88) (a0 84) x1 x2 (a0 83 6).toNat).toNat (-1) ∧ a 89 = rup (a0 89) (FOF (a0 87) (a0 88) (a0 84) x1 x2 (a0 83 6).toNat).toNat (-1)))
theorem sp_X11_drop (E : jxE) (d : Nat) (hd : Nat.ble 5 d = true) (x1 x2 : Int) (a0 b0 : Nat → Nat → Int) (hv0 : iv a0) (hp0 : CIC a0) : jt (jxC E d 189 [.inr (.inr (.inl 0)), .inl x1, .inl x2] (jxSH, a0, b0)) (jQ_X11_drop x1 x2 a0 b0) := by
  obtain ⟨d, rfl⟩ := jd_succ hd
  refine jt_eq (bq_X11_drop E d x1 x2 a0 b0) ?_
  refine jt_bI (sq_X4_offerInRing E d (jd_le hd rfl) x1 x2 a0 b0 hv0) (fun r147_ a147_ b147_ h147_ => ?_)
  obtain ⟨rfl, rfl, hq147_0, hq147_1⟩ := h147_
  have h148_ := iv_get hv0 (k := 83) (j := 6) (l := 0) (u := 20) rfl
  have hfr_ := FOF_rg (a0 87) (a0 88) (a0 84) x1 x2 (a0 83 6).toNat
  rw [← hq147_1] at hfr_
  have i836 := iv_get hv0 (k := 83) (j := 6) (l := 0) (u := 20) rfl
  refine jt_ite (fun c149_ => ?_) (fun c149_ => ?_)
  ·
    exact jt_rI ⟨hv0, (jfr_rf _ _), rfl, (show (a0 83 6 = 0 → (-1) = 0 - 1) from by omega), hp0, (fun _ => ⟨rfl, rfl, rfl, rfl, rfl, rfl⟩), (fun h => absurd (by rw [← hq147_1]; assumption) h)⟩
  ·
    refine jt_bI (sp_X11_withdraw E d (jd_le hd rfl) r147_ a0 b0 hv0 hp0 (show (0 ≤ r147_ ∧ r147_ < a0 83 6) from by omega)) (fun r150_ a150_ b150_ h150_ => ?_)
    obtain ⟨hv150_, hf150_, rfl, hq150_0, hq150_1, hq150_2, hq150_3⟩ := h150_
    have hf151_ : jfr jW_X11_drop a0 a150_ := jfr_tr (jfr_rf _ _) hf150_ rfl
    exact jt_rI ⟨hv150_, hf151_, rfl, (show (a0 83 6 = 0 → r150_ = 0 - 1) from by omega), hq150_0, (fun h => absurd h (by rw [← hq147_1]; assumption)), (fun _ => by rw [← hq147_1]; have q := hq150_1; rw [if_pos (by have z := hfr_.resolve_left (by omega); exact z.2.2.1)] at q; exact ⟨q, hq150_2⟩)⟩
def jW_X11_leave : List (Nat × Nat) := [(9, 9999), (10, 9999), (64, 9999), (87, 9999), (88, 9999), (89, 9999)]
abbrev jQ_X11_leave (x1 : Int) (a0 b0 : Nat → Nat → Int) : List jxV → (Nat → Nat → Int) → (Nat → Nat → Int) → Prop := rI (fun r a b => (iv a) ∧ (jfr jW_X11_leave a0 a) ∧ (b0 = b) ∧ ((a0 4 6 = 0 → r = 0 - 1)) ∧ (0 ≤ x1 ∧ x1 < a0 4 6 ∧ ¬ a0 10 x1.toNat = 0 → UP (a0 10) (a 10) x1.toNat 0) ∧ (x1 < 0 ∨ a0 4 6 ≤ x1 ∨ a0 10 x1.toNat = 0 → ∀ j, a 10 j = a0 10 j) ∧ (CIC a) ∧ ((0 ≤ x1 ∧ x1 < a0 4 6 ∧ ¬ a0 10 x1.toNat = 0) → ((cvC a, a 9, r), a 87) = lvo (a0 0 0) x1 (rup (a0 10) x1.toNat 0) (a0 84) (a0 89) (a0 83 6).toNat (cnc (a0 0 0) x1 (a0 58 8).toNat (cvC a0, a0 9, 0), a0 87) ∧ a 10 = rup (a0 10) x1.toNat 0 ∧ ∀ k : Nat, a 87 k = 1 → a 88 k = a0 88 k ∧ a 89 k = a0 89 k ∧ a0 87 k = 1) ∧ (¬ (0 ≤ x1 ∧ x1 < a0 4 6 ∧ ¬ a0 10 x1.toNat = 0) → r = -1 ∧ cvC a = cvC a0 ∧ a 9 = a0 9 ∧ a 87 = a0 87 ∧ a 88 = a0 88 ∧ a 89 = a0 89 ∧ a 10 = a0 10))
theorem cp_X11_leave_29 (E : jxE) (d : Nat) (hd : Nat.ble 5 (d + 1) = true) (x1 : Int) (a0 b0 : Nat → Nat → Int) (hv0 : iv a0) (hp0 : CIC a0) : ∀ n : Nat, (∀ (y1 y2 y3 : Int) (a : Nat → Nat → Int), (((20 - y3) * 1) + 0).toNat ≤ n → iv a → jfr jW_X11_leave a0 a → 0 ≤ y1 → y1 ≤ 39 → 0 ≤ y3 → y3 ≤ 19 → (UP (a0 10) (a 10) x1.toNat 0) → (y1 = x1) → 0 ≤ y3 → 0 ≤ y2 → (CIC a) → y3 < a 83 6 → y2 ≤ 301 + y3 → (a 10 = rup (a0 10) x1.toNat 0) → (((cvC a, a 9, y2), a 87) = lvo (a0 0 0) x1 (rup (a0 10) x1.toNat 0) (a0 84) (a0 89) (y3.toNat + 1) (cnc (a0 0 0) x1 (a0 58 8).toNat (cvC a0, a0 9, 0), a0 87)) → (∀ k : Nat, y3 + 1 ≤ (k : Int) → a 87 k = a0 87 k ∧ a 89 k = a0 89 k) → (∀ k : Nat, a 87 k = 1 → a 88 k = a0 88 k ∧ a 89 k = a0 89 k ∧ a0 87 k = 1) → 1 ≤ a0 4 6 → ((0 ≤ x1 ∧ x1 < a0 4 6) ∧ ¬ a0 10 (x1.toNat) = 0) → jt (jxX E d 157 60 [some (.inr (.inr (.inl 0))), some (.inl y1), some (.inl y2), some (.inl y3)] [] (jxSH, a, b0)) (jQ_X11_leave x1 a0 b0)) ∧ (∀ (y1 y2 y3 : Int) (a : Nat → Nat → Int), (((20 - y3) * 1) + 0).toNat ≤ n → iv a → jfr jW_X11_leave a0 a → 0 ≤ y1 → y1 ≤ 39 → 0 ≤ y3 → y3 ≤ 20 → (UP (a0 10) (a 10) x1.toNat 0) → (y1 = x1) → 0 ≤ y3 → 0 ≤ y2 → (CIC a) → y3 ≤ a 83 6 → y2 ≤ 300 + y3 → (a 10 = rup (a0 10) x1.toNat 0) → (((cvC a, a 9, y2), a 87) = lvo (a0 0 0) x1 (rup (a0 10) x1.toNat 0) (a0 84) (a0 89) y3.toNat (cnc (a0 0 0) x1 (a0 58 8).toNat (cvC a0, a0 9, 0), a0 87)) → (∀ k : Nat, y3 ≤ (k : Int) → a 87 k = a0 87 k ∧ a 89 k = a0 89 k) → (∀ k : Nat, a 87 k = 1 → a 88 k = a0 88 k ∧ a 89 k = a0 89 k ∧ a0 87 k = 1) → 1 ≤ a0 4 6 → ((0 ≤ x1 ∧ x1 < a0 4 6) ∧ ¬ a0 10 (x1.toNat) = 0) → jt (jxX E d 157 29 [some (.inr (.inr (.inl 0))), some (.inl y1), some (.inl y2), some (.inl y3)] [] (jxSH, a, b0)) (jQ_X11_leave x1 a0 b0)) := by
  refine jx_ind fun n ih => ?_
  have ih60 : ∀ (y1 y2 y3 : Int) (a : Nat → Nat → Int), (((20 - y3) * 1) + 0).toNat < n → iv a → jfr jW_X11_leave a0 a → 0 ≤ y1 → y1 ≤ 39 → 0 ≤ y3 → y3 ≤ 19 → (UP (a0 10) (a 10) x1.toNat 0) → (y1 = x1) → 0 ≤ y3 → 0 ≤ y2 → (CIC a) → y3 < a 83 6 → y2 ≤ 301 + y3 → (a 10 = rup (a0 10) x1.toNat 0) → (((cvC a, a 9, y2), a 87) = lvo (a0 0 0) x1 (rup (a0 10) x1.toNat 0) (a0 84) (a0 89) (y3.toNat + 1) (cnc (a0 0 0) x1 (a0 58 8).toNat (cvC a0, a0 9, 0), a0 87)) → (∀ k : Nat, y3 + 1 ≤ (k : Int) → a 87 k = a0 87 k ∧ a 89 k = a0 89 k) → (∀ k : Nat, a 87 k = 1 → a 88 k = a0 88 k ∧ a 89 k = a0 89 k ∧ a0 87 k = 1) → 1 ≤ a0 4 6 → ((0 ≤ x1 ∧ x1 < a0 4 6) ∧ ¬ a0 10 (x1.toNat) = 0) → jt (jxX E d 157 60 [some (.inr (.inr (.inl 0))), some (.inl y1), some (.inl y2), some (.inl y3)] [] (jxSH, a, b0)) (jQ_X11_leave x1 a0 b0) := fun y1 y2 y3 a hlt i0 i1 i2 i3 i4 i5 i6 i7 i8 i9 i10 i11 i12 i13 i14 i15 i16 i17 i18 => (ih _ hlt).1 y1 y2 y3 a (Nat.le_refl _) i0 i1 i2 i3 i4 i5 i6 i7 i8 i9 i10 i11 i12 i13 i14 i15 i16 i17 i18
  have ih29 : ∀ (y1 y2 y3 : Int) (a : Nat → Nat → Int), (((20 - y3) * 1) + 0).toNat < n → iv a → jfr jW_X11_leave a0 a → 0 ≤ y1 → y1 ≤ 39 → 0 ≤ y3 → y3 ≤ 20 → (UP (a0 10) (a 10) x1.toNat 0) → (y1 = x1) → 0 ≤ y3 → 0 ≤ y2 → (CIC a) → y3 ≤ a 83 6 → y2 ≤ 300 + y3 → (a 10 = rup (a0 10) x1.toNat 0) → (((cvC a, a 9, y2), a 87) = lvo (a0 0 0) x1 (rup (a0 10) x1.toNat 0) (a0 84) (a0 89) y3.toNat (cnc (a0 0 0) x1 (a0 58 8).toNat (cvC a0, a0 9, 0), a0 87)) → (∀ k : Nat, y3 ≤ (k : Int) → a 87 k = a0 87 k ∧ a 89 k = a0 89 k) → (∀ k : Nat, a 87 k = 1 → a 88 k = a0 88 k ∧ a 89 k = a0 89 k ∧ a0 87 k = 1) → 1 ≤ a0 4 6 → ((0 ≤ x1 ∧ x1 < a0 4 6) ∧ ¬ a0 10 (x1.toNat) = 0) → jt (jxX E d 157 29 [some (.inr (.inr (.inl 0))), some (.inl y1), some (.inl y2), some (.inl y3)] [] (jxSH, a, b0)) (jQ_X11_leave x1 a0 b0) := fun y1 y2 y3 a hlt i0 i1 i2 i3 i4 i5 i6 i7 i8 i9 i10 i11 i12 i13 i14 i15 i16 i17 i18 => (ih _ hlt).2 y1 y2 y3 a (Nat.le_refl _) i0 i1 i2 i3 i4 i5 i6 i7 i8 i9 i10 i11 i12 i13 i14 i15 i16 i17 i18
  have hc60 : ∀ (y1 y2 y3 : Int) (a : Nat → Nat → Int), (((20 - y3) * 1) + 0).toNat ≤ n → iv a → jfr jW_X11_leave a0 a → 0 ≤ y1 → y1 ≤ 39 → 0 ≤ y3 → y3 ≤ 19 → (UP (a0 10) (a 10) x1.toNat 0) → (y1 = x1) → 0 ≤ y3 → 0 ≤ y2 → (CIC a) → y3 < a 83 6 → y2 ≤ 301 + y3 → (a 10 = rup (a0 10) x1.toNat 0) → (((cvC a, a 9, y2), a 87) = lvo (a0 0 0) x1 (rup (a0 10) x1.toNat 0) (a0 84) (a0 89) (y3.toNat + 1) (cnc (a0 0 0) x1 (a0 58 8).toNat (cvC a0, a0 9, 0), a0 87)) → (∀ k : Nat, y3 + 1 ≤ (k : Int) → a 87 k = a0 87 k ∧ a 89 k = a0 89 k) → (∀ k : Nat, a 87 k = 1 → a 88 k = a0 88 k ∧ a 89 k = a0 89 k ∧ a0 87 k = 1) → 1 ≤ a0 4 6 → ((0 ≤ x1 ∧ x1 < a0 4 6) ∧ ¬ a0 10 (x1.toNat) = 0) → jt (jxX E d 157 60 [some (.inr (.inr (.inl 0))), some (.inl y1), some (.inl y2), some (.inl y3)] [] (jxSH, a, b0)) (jQ_X11_leave x1 a0 b0) := by
    intro y1 y2 y3 a hm hv hf hi0 hi1 hi2 hi3 hu10 hy1 hi6 hi7 hci hi9 hi10 h10 hl hk hk1 hi15 hi16
    refine jt_eq (bq_X11_leave_60 E d y1 y2 y3 a b0) ?_
    have h152_ := iv_get hv (k := 83) (j := 6) (l := 0) (u := 20) rfl
    have h153_ : a 83 6 = a0 83 6 := hf 83 6 rfl
    have h154_ := iv_get hv0 (k := 83) (j := 6) (l := 0) (u := 20) rfl
    have h155_ := iv_get hv0 (k := 4) (j := 6) (l := 0) (u := 40) rfl
    have h156_ : jxw (y3 + 1) = y3 + 1 := jxw_id (by omega) (by omega)
    exact ih29 y1 y2 (jxw (y3 + 1)) a (show (((20 - (jxw (y3 + 1))) * 1) + 0).toNat < n from by omega) hv hf (show 0 ≤ y1 from by omega) (show y1 ≤ 39 from by omega) (show 0 ≤ jxw (y3 + 1) from by omega) (show jxw (y3 + 1) ≤ 20 from by omega) (UP_cr hu10 (fun j => rfl)) (by first | rfl | assumption) (show 0 ≤ jxw (y3 + 1) from by omega) (show 0 ≤ y2 from by omega) hci (show jxw (y3 + 1) ≤ a 83 6 from by omega) (show y2 ≤ 300 + (jxw (y3 + 1)) from by omega) h10 (by rw [show (jxw (y3 + 1)).toNat = y3.toNat + 1 from by omega]; exact hl) (fun k hk2 => hk k (by omega)) hk1 (show 1 ≤ a0 4 6 from by omega) (show ((0 ≤ x1 ∧ x1 < a0 4 6) ∧ ¬ a0 10 (x1.toNat) = 0) from by omega)
  have hc29 : ∀ (y1 y2 y3 : Int) (a : Nat → Nat → Int), (((20 - y3) * 1) + 0).toNat ≤ n → iv a → jfr jW_X11_leave a0 a → 0 ≤ y1 → y1 ≤ 39 → 0 ≤ y3 → y3 ≤ 20 → (UP (a0 10) (a 10) x1.toNat 0) → (y1 = x1) → 0 ≤ y3 → 0 ≤ y2 → (CIC a) → y3 ≤ a 83 6 → y2 ≤ 300 + y3 → (a 10 = rup (a0 10) x1.toNat 0) → (((cvC a, a 9, y2), a 87) = lvo (a0 0 0) x1 (rup (a0 10) x1.toNat 0) (a0 84) (a0 89) y3.toNat (cnc (a0 0 0) x1 (a0 58 8).toNat (cvC a0, a0 9, 0), a0 87)) → (∀ k : Nat, y3 ≤ (k : Int) → a 87 k = a0 87 k ∧ a 89 k = a0 89 k) → (∀ k : Nat, a 87 k = 1 → a 88 k = a0 88 k ∧ a 89 k = a0 89 k ∧ a0 87 k = 1) → 1 ≤ a0 4 6 → ((0 ≤ x1 ∧ x1 < a0 4 6) ∧ ¬ a0 10 (x1.toNat) = 0) → jt (jxX E d 157 29 [some (.inr (.inr (.inl 0))), some (.inl y1), some (.inl y2), some (.inl y3)] [] (jxSH, a, b0)) (jQ_X11_leave x1 a0 b0) := by
    intro y1 y2 y3 a hm hv hf hi0 hi1 hi2 hi3 hu10 hy1 hi6 hi7 hci hi9 hi10 h10 hl hk hk1 hi15 hi16
    refine jt_eq (bq_X11_leave_29 E d y1 y2 y3 a b0) ?_
    have h157_ := iv_get hv (k := 83) (j := 6) (l := 0) (u := 20) rfl
    have h158_ : a 83 6 = a0 83 6 := hf 83 6 rfl
    have h159_ := iv_get hv0 (k := 83) (j := 6) (l := 0) (u := 20) rfl
    have h160_ := iv_get hv0 (k := 4) (j := 6) (l := 0) (u := 40) rfl
    have i836 := iv_get hv (k := 83) (j := 6) (l := 0) (u := 20) rfl
    have hmo : y3 < a 83 6 → f_X4_memberOf a b0 y3 = a0 84 y3.toNat := fun h => by rw [memOf_at (by omega) h i836.2]; exact hf 84 _ rfl
    have e00 := hf 0 0 rfl
    refine jt_eI (eq_X4_size E d (jd_le hd rfl) a b0) ?_
    have h161_ := f_X4_size_eq a b0
    refine jt_ite (fun c162_ => ?_) (fun c162_ => ?_)
    ·
      refine jt_eI (eq_X4_memberOf E d (jd_le hd rfl) y3 a b0) ?_
      have h163_ := f_X4_memberOf_eq a b0 y3
      have h164_ := f_X11_entry_r84_eq a b0 (a 83 6) y3
      have h165_ : a 84 (y3.toNat) = a0 84 (y3.toNat) := hf 84 (y3.toNat) rfl
      refine jt_ite (fun c166_ => ?_) (fun c166_ => ?_)
      ·
        refine jt_bI (sp_X11_withdraw E d (jd_le hd rfl) y3 a b0 hv hci (show (0 ≤ y3 ∧ y3 < a 83 6) from by omega)) (fun r167_ a167_ b167_ h167_ => ?_)
        obtain ⟨hv167_, hf167_, rfl, hq167_0, hq167_1, hq167_2, hq167_3⟩ := h167_
        have hf168_ : jfr jW_X11_leave a0 a167_ := jfr_tr hf hf167_ rfl
        have h169_ := jxw_im (y2 + r167_)
        have h170_ := jxw_rg (y2 + r167_)
        have h171_ := iv_get hv167_ (k := 83) (j := 6) (l := 0) (u := 20) rfl
        have h172_ : a167_ 83 6 = a 83 6 := hf167_ 83 6 rfl
        exact hc60 y1 (jxw (y2 + r167_)) y3 a167_ (show (((20 - y3) * 1) + 0).toNat ≤ n from by omega) hv167_ hf168_ (show 0 ≤ y1 from by omega) (show y1 ≤ 39 from by omega) (show 0 ≤ y3 from by omega) (show y3 ≤ 19 from by omega) (UP_cr hu10 (fun j => (hf167_ 10 j rfl))) (by first | rfl | assumption) (show 0 ≤ y3 from by omega) (show 0 ≤ jxw (y2 + r167_) from by omega) hq167_0 (show y3 < a167_ 83 6 from by omega) (show jxw (y2 + r167_) ≤ 301 + y3 from by omega) ((show a167_ 10 = a 10 from funext fun j => hf167_ 10 j rfl).trans h10) (by have q := hq167_1; have q2 := hq167_2; have hk0 := hk y3.toNat (by omega); rw [hk0.2, e00, h10] at q; obtain ⟨w1, w2, w3⟩ := LV_step (y := y2) q; rw [lvo_yes hl (by rw [← hmo (by omega)]; omega), show jxw (y2 + r167_) = y2 + r167_ from jxw_id (by omega) (by omega), w1, q2.1]) (fun k hk2 => by have q2 := hq167_2; rw [q2.1, q2.2.2, rup_ne (by omega), rup_ne (by omega)]; exact hk k (by omega)) (fun k h => by have q2 := hq167_2; rw [q2.1] at h; have ne : ¬ k = y3.toNat := (fun z => by rw [z, rup_at] at h; exact absurd h (by decide)); rw [rup_ne ne] at h; rw [q2.2.1, q2.2.2, rup_ne ne, rup_ne ne]; exact hk1 k h) (show 1 ≤ a0 4 6 from by omega) (show ((0 ≤ x1 ∧ x1 < a0 4 6) ∧ ¬ a0 10 (x1.toNat) = 0) from by omega)
      ·
        exact hc60 y1 y2 y3 a (show (((20 - y3) * 1) + 0).toNat ≤ n from by omega) hv hf (show 0 ≤ y1 from by omega) (show y1 ≤ 39 from by omega) (show 0 ≤ y3 from by omega) (show y3 ≤ 19 from by omega) (UP_cr hu10 (fun j => rfl)) (by first | rfl | assumption) (show 0 ≤ y3 from by omega) (show 0 ≤ y2 from by omega) hci (show y3 < a 83 6 from by omega) (show y2 ≤ 301 + y3 from by omega) h10 (by rw [lvo_no hl (by rw [← hmo (by omega)]; omega)]) (fun k hk2 => hk k (by omega)) hk1 (show 1 ≤ a0 4 6 from by omega) (show ((0 ≤ x1 ∧ x1 < a0 4 6) ∧ ¬ a0 10 (x1.toNat) = 0) from by omega)
    ·
      exact jt_rI ⟨hv, hf, rfl, (show (a0 4 6 = 0 → y2 = 0 - 1) from by omega), (fun _ => (UP_cr hu10 (fun j => rfl))), (fun h => absurd h (by omega)), hci, (fun _ => ⟨by rw [show (a0 83 6).toNat = y3.toNat from by omega]; exact hl, h10, hk1⟩), (fun h => absurd (by omega) h)⟩
  exact ⟨hc60, hc29⟩
theorem sp_X11_leave (E : jxE) (d : Nat) (hd : Nat.ble 5 d = true) (x1 : Int) (a0 b0 : Nat → Nat → Int) (hv0 : iv a0) (hp0 : CIC a0) : jt (jxC E d 157 [.inr (.inr (.inl 0)), .inl x1] (jxSH, a0, b0)) (jQ_X11_leave x1 a0 b0) := by
  obtain ⟨d, rfl⟩ := jd_succ hd
  refine jt_eq (bq_X11_leave E d x1 a0 b0) ?_
  refine jt_eI (eq_X3_isThere E d (jd_le hd rfl) x1 a0 b0) ?_
  have h173_ := f_X3_isThere_eq a0 b0 x1
  have h174_ := f_X3_has_eq a0 b0 x1
  have h175_ := iv_get hv0 (k := 4) (j := 6) (l := 0) (u := 40) rfl
  refine jt_ite (fun c176_ => ?_) (fun c176_ => ?_)
  ·
    exact jt_rI ⟨hv0, (jfr_rf _ _), rfl, (show (a0 4 6 = 0 → (-1) = 0 - 1) from by omega), (fun h => absurd h (by omega)), (fun _ j => rfl), hp0, (fun h => absurd h (by omega)), (fun _ => ⟨rfl, rfl, rfl, rfl, rfl, rfl, rfl⟩)⟩
  ·
    refine jt_bV (sp_X3_goAway E d (jd_le hd rfl) x1 a0 b0 hv0) (fun a177_ b177_ h177_ => ?_)
    obtain ⟨hv177_, hf177_, rfl, hq177_0⟩ := h177_
    refine jt_bI (sp_X11_cancelCardsTo E d (jd_le hd rfl) x1 a177_ b0 hv177_ (CIC_fr hp0 hf177_ rfl rfl rfl rfl (fun _ => rfl) (fun _ => rfl) (fun _ => rfl) (fun _ => rfl) (fun _ => rfl) (fun _ => rfl) (fun _ => rfl) (fun _ => rfl) (fun _ => rfl) (fun _ => rfl))) (fun r178_ a178_ b178_ h178_ => ?_)
    obtain ⟨hv178_, hf178_, rfl, hq178_0, hq178_1, hq178_2⟩ := h178_
    have hf179_ : jfr jW_X11_leave a0 a177_ := jfr_tr (jfr_rf _ _) hf177_ rfl
    have hf180_ : jfr jW_X11_leave a0 a178_ := jfr_tr hf179_ hf178_ rfl
    have h181_ := iv_get hv178_ (k := 83) (j := 6) (l := 0) (u := 20) rfl
    have h182_ : a178_ 83 6 = a177_ 83 6 := hf178_ 83 6 rfl
    have h183_ := iv_get hv177_ (k := 83) (j := 6) (l := 0) (u := 20) rfl
    have h184_ : a177_ 83 6 = a0 83 6 := hf177_ 83 6 rfl
    have h185_ := iv_get hv0 (k := 83) (j := 6) (l := 0) (u := 20) rfl
    exact (cp_X11_leave_29 E d hd x1 a0 b0 hv0 hp0 _).2 x1 r178_ 0 a178_ (Nat.le_refl _) hv178_ hf180_ (show 0 ≤ x1 from by omega) (show x1 ≤ 39 from by omega) (show 0 ≤ 0 from by omega) (show 0 ≤ 20 from by omega) (UP_cr (hq177_0 (by omega)) (fun j => (hf178_ 10 j rfl))) (by first | rfl | assumption) (show 0 ≤ 0 from by omega) (show 0 ≤ r178_ from by omega) hq178_0 (show 0 ≤ a178_ 83 6 from by omega) (show r178_ ≤ 300 + 0 from by omega) ((show a178_ 10 = a177_ 10 from funext fun j => hf178_ 10 j rfl).trans (UP_rup (hq177_0 (by omega)))) (by have q := hq178_1; rw [show cvC a177_ = cvC a0 from cvC_fr hf177_ rfl, show a177_ 9 = a0 9 from funext fun j => hf177_ 9 j rfl, hf177_ 0 0 rfl, hf177_ 58 8 rfl] at q; show ((cvC a178_, a178_ 9, r178_), a178_ 87) = (_, a0 87); rw [q, show a178_ 87 = a0 87 from funext fun j => (hf178_ 87 j rfl).trans (hf177_ 87 j rfl)]) (fun k _ => ⟨(hf178_ 87 k rfl).trans (hf177_ 87 k rfl), (hf178_ 89 k rfl).trans (hf177_ 89 k rfl)⟩) (fun k h => ⟨(hf178_ 88 k rfl).trans (hf177_ 88 k rfl), (hf178_ 89 k rfl).trans (hf177_ 89 k rfl), by rw [← h]; exact ((hf178_ 87 k rfl).trans (hf177_ 87 k rfl)).symm⟩) (show 1 ≤ a0 4 6 from by omega) (show ((0 ≤ x1 ∧ x1 < a0 4 6) ∧ ¬ a0 10 (x1.toNat) = 0) from by omega)
