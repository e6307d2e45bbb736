def jWo_X4_takeAway : List (Nat × Nat) := [(87, 9999), (88, 9999)]
abbrev jR_X4_takeAway (x1 : Int) (a0 b0 : Nat → Nat → Int) : List jxV → (Nat → Nat → Int) → (Nat → Nat → Int) → Prop := rV (fun a b => (iv a) ∧ (jfr jW_X4_takeAway a0 a) ∧ (b0 = b) ∧ (0 ≤ x1 → x1 < a0 83 6 → a 87 = rup (a0 87) x1.toNat 2 ∧ a 88 = rup (a0 88) x1.toNat (-1) ∧ a 89 = rup (a0 89) x1.toNat (-1)))
theorem cr_X4_takeAway_22 (E : jxE) (d : Nat) (hd : Nat.ble 2 (d + 1) = true) (x1 : Int) (a0 b0 : Nat → Nat → Int) (hv0 : iv a0) : ∀ (y1 : Int) (a : Nat → Nat → Int), iv a → jfr jW_X4_takeAway a0 a → 0 ≤ y1 → y1 ≤ 19 → (y1 = x1) → (0 ≤ x1 ∧ x1 < a 83 6) → (jfr jWo_X4_takeAway a0 a) → (a 87 = rup (a0 87) x1.toNat 2 ∧ a 88 = rup (a0 88) x1.toNat (-1)) → jt (jxX E d 69 22 [some (.inr (.inr (.inl 83))), some (.inl y1)] [] (jxSH, a, b0)) (jR_X4_takeAway x1 a0 b0) := by
  intro y1 a hv hf hi0 hi1 hy1 hi3 hfe hr2
  refine jt_eq (bq_X4_takeAway_22 E d y1 a b0) ?_
  have h406_ := iv_get hv (k := 83) (j := 6) (l := 0) (u := 20) rfl
  have h407_ : a 83 6 = a0 83 6 := hf 83 6 rfl
  have h408_ := iv_get hv0 (k := 83) (j := 6) (l := 0) (u := 20) rfl
  refine jt_grd (by omega) ?_
  have hv409_ : iv (jxu a 89 (y1.toNat) (-1)) := iv_putf hv rfl
  have hf410_ : jfr jW_X4_takeAway a0 (jxu a 89 (y1.toNat) (-1)) := jfr_put hf rfl
  exact jt_rV ⟨hv409_, hf410_, rfl, (fun _ _ => ⟨by rw [jxu_off (show ¬ 87 = 89 by decide)]; exact hr2.1, by rw [jxu_off (show ¬ 88 = 89 by decide)]; exact hr2.2, by rw [jxu_rup, hy1, show a 89 = a0 89 from funext fun j => hfe 89 j rfl]⟩)⟩
theorem sq_X4_takeAway (E : jxE) (d : Nat) (hd : Nat.ble 2 d = true) (x1 : Int) (a0 b0 : Nat → Nat → Int) (hv0 : iv a0) : jt (jxC E d 69 [.inr (.inr (.inl 83)), .inl x1] (jxSH, a0, b0)) (jR_X4_takeAway x1 a0 b0) := by
  obtain ⟨d, rfl⟩ := jd_succ hd
  refine jt_eq (bq_X4_takeAway E d x1 a0 b0) ?_
  refine jt_eI (eq_X4_has E d (jd_le hd rfl) x1 a0 b0) ?_
  have h411_ := f_X4_has_eq a0 b0 x1
  have h412_ := iv_get hv0 (k := 83) (j := 6) (l := 0) (u := 20) rfl
  refine jt_ite (fun c413_ => ?_) (fun c413_ => ?_)
  ·
    exact jt_rV ⟨hv0, (jfr_rf _ _), rfl, (fun h1 h2 => absurd (by omega : False) id)⟩
  ·
    refine jt_grd (by omega) ?_
    refine jt_grd (by omega) ?_
    have hv414_ : iv (jxu a0 87 (x1.toNat) 2) := iv_putf hv0 rfl
    have hv415_ : iv (jxu (jxu a0 87 (x1.toNat) 2) 88 (x1.toNat) (-1)) := iv_putf hv414_ rfl
    have hf416_ : jfr jW_X4_takeAway a0 (jxu a0 87 (x1.toNat) 2) := jfr_put (jfr_rf _ _) rfl
    have hf417_ : jfr jW_X4_takeAway a0 (jxu (jxu a0 87 (x1.toNat) 2) 88 (x1.toNat) (-1)) := jfr_put hf416_ rfl
    have hf418_ : jfr jWo_X4_takeAway a0 (jxu a0 87 (x1.toNat) 2) := jfr_put (jfr_rf _ _) rfl
    have hf419_ : jfr jWo_X4_takeAway a0 (jxu (jxu a0 87 (x1.toNat) 2) 88 (x1.toNat) (-1)) := jfr_put hf418_ rfl
    exact cr_X4_takeAway_22 E d hd x1 a0 b0 hv0 x1 (jxu (jxu a0 87 (x1.toNat) 2) 88 (x1.toNat) (-1)) hv415_ hf417_ (show 0 ≤ x1 from by omega) (show x1 ≤ 19 from by omega) (by first | rfl | assumption) (show (0 ≤ x1 ∧ x1 < a0 83 6) from by omega) hf419_ ⟨by rw [jxu_off (show ¬ 87 = 88 by decide)]; exact jxu_rup _ _ _ _, by rw [jxu_rup, jxu_off (show ¬ 88 = 87 by decide)]⟩
abbrev jR_X3_addCredit (x1 : Int) (a0 b0 : Nat → Nat → Int) : List jxV → (Nat → Nat → Int) → (Nat → Nat → Int) → Prop := rV (fun a b => (iv a) ∧ (jfr jW_X3_addCredit a0 a) ∧ (b0 = b) ∧ (0 ≤ x1 → x1 < a0 4 6 → x1 < 40 → a 9 = rup (a0 9) x1.toNat (jxw (a0 9 x1.toNat + 1))))
theorem sq_X3_addCredit (E : jxE) (d : Nat) (hd : Nat.ble 2 d = true) (x1 : Int) (a0 b0 : Nat → Nat → Int) (hv0 : iv a0) : jt (jxC E d 56 [.inr (.inr (.inl 4)), .inl x1] (jxSH, a0, b0)) (jR_X3_addCredit x1 a0 b0) := by
  obtain ⟨d, rfl⟩ := jd_succ hd
  refine jt_eq (bq_X3_addCredit E d x1 a0 b0) ?_
  refine jt_eI (eq_X3_has E d (jd_le hd rfl) x1 a0 b0) ?_
  have h420_ := f_X3_has_eq a0 b0 x1
  have h421_ := iv_get hv0 (k := 4) (j := 6) (l := 0) (u := 40) rfl
  refine jt_ite (fun c422_ => ?_) (fun c422_ => ?_)
  ·
    exact jt_rV ⟨hv0, (jfr_rf _ _), rfl, (fun h1 h2 h3 => absurd (by omega : False) id)⟩
  ·
    refine jt_grd (by omega) ?_
    refine jt_grd (by omega) ?_
    have hv423_ : iv (jxu a0 9 (x1.toNat) (jxw ((a0 9 (x1.toNat)) + 1))) := iv_putf hv0 rfl
    have hf424_ : jfr jW_X3_addCredit a0 (jxu a0 9 (x1.toNat) (jxw ((a0 9 (x1.toNat)) + 1))) := jfr_put (jfr_rf _ _) rfl
    exact jt_rV ⟨hv423_, hf424_, rfl, (fun _ _ _ => jxu_rup _ _ _ _)⟩
abbrev jR_X4_addRing (a0 b0 : Nat → Nat → Int) : List jxV → (Nat → Nat → Int) → (Nat → Nat → Int) → Prop := rI (fun r a b => (iv a) ∧ (jfr jW_X4_addRing a0 a) ∧ (b0 = b) ∧ (r = a0 83 7) ∧ (a 83 7 = jxw (a0 83 7 + 1)))
theorem sq_X4_addRing (E : jxE) (d : Nat) (hd : Nat.ble 1 d = true) (a0 b0 : Nat → Nat → Int) (hv0 : iv a0) : jt (jxC E d 67 [.inr (.inr (.inl 83))] (jxSH, a0, b0)) (jR_X4_addRing a0 b0) := by
  obtain ⟨d, rfl⟩ := jd_succ hd
  refine jt_eq (bq_X4_addRing E d a0 b0) ?_
  have hv425_ : iv (jxu a0 83 7 (jxw ((a0 83 7) + 1))) := iv_putf hv0 rfl
  have hf426_ : jfr jW_X4_addRing a0 (jxu a0 83 7 (jxw ((a0 83 7) + 1))) := jfr_put (jfr_rf _ _) rfl
  exact jt_rI ⟨hv425_, hf426_, rfl, rfl, (jxu_at _ _ _ _)⟩
def jWo_X4_joinRing : List (Nat × Nat) := [(87, 9999), (88, 9999)]
abbrev jR_X4_joinRing (x1 x2 x3 : Int) (a0 b0 : Nat → Nat → Int) : List jxV → (Nat → Nat → Int) → (Nat → Nat → Int) → Prop := rV (fun a b => (iv a) ∧ (jfr jW_X4_joinRing a0 a) ∧ (b0 = b) ∧ (0 ≤ x1 → x1 < a0 83 6 → a 87 = rup (a0 87) x1.toNat 1 ∧ a 88 = rup (a0 88) x1.toNat x2 ∧ a 89 = rup (a0 89) x1.toNat x3))
theorem cr_X4_joinRing_22 (E : jxE) (d : Nat) (hd : Nat.ble 2 (d + 1) = true) (x1 x2 x3 : Int) (a0 b0 : Nat → Nat → Int) (hv0 : iv a0) : ∀ (y1 y3 : Int) (a : Nat → Nat → Int), iv a → jfr jW_X4_joinRing a0 a → 0 ≤ y1 → y1 ≤ 19 → (y1 = x1) → (0 ≤ x1 ∧ x1 < a 83 6) → (jfr jWo_X4_joinRing a0 a) → (a 87 = rup (a0 87) x1.toNat 1 ∧ a 88 = rup (a0 88) x1.toNat x2) → (y3 = x3) → jt (jxX E d 68 22 [some (.inr (.inr (.inl 83))), some (.inl y1), none, some (.inl y3)] [] (jxSH, a, b0)) (jR_X4_joinRing x1 x2 x3 a0 b0) := by
  intro y1 y3 a hv hf hi0 hi1 hy1 hi3 hfe hr2 hy3
  refine jt_eq (bq_X4_joinRing_22 E d y1 y3 a b0) ?_
  have h427_ := iv_get hv (k := 83) (j := 6) (l := 0) (u := 20) rfl
  have h428_ : a 83 6 = a0 83 6 := hf 83 6 rfl
  have h429_ := iv_get hv0 (k := 83) (j := 6) (l := 0) (u := 20) rfl
  refine jt_grd (by omega) ?_
  have hv430_ : iv (jxu a 89 (y1.toNat) y3) := iv_putf hv rfl
  have hf431_ : jfr jW_X4_joinRing a0 (jxu a 89 (y1.toNat) y3) := jfr_put hf rfl
  exact jt_rV ⟨hv430_, hf431_, rfl, (fun _ _ => ⟨by rw [jxu_off (show ¬ 87 = 89 by decide)]; exact hr2.1, by rw [jxu_off (show ¬ 88 = 89 by decide)]; exact hr2.2, by rw [jxu_rup, hy1, hy3, show a 89 = a0 89 from funext fun j => hfe 89 j rfl]⟩)⟩
theorem sq_X4_joinRing (E : jxE) (d : Nat) (hd : Nat.ble 2 d = true) (x1 x2 x3 : Int) (a0 b0 : Nat → Nat → Int) (hv0 : iv a0) : jt (jxC E d 68 [.inr (.inr (.inl 83)), .inl x1, .inl x2, .inl x3] (jxSH, a0, b0)) (jR_X4_joinRing x1 x2 x3 a0 b0) := by
  obtain ⟨d, rfl⟩ := jd_succ hd
  refine jt_eq (bq_X4_joinRing E d x1 x2 x3 a0 b0) ?_
  refine jt_eI (eq_X4_has E d (jd_le hd rfl) x1 a0 b0) ?_
  have h432_ := f_X4_has_eq a0 b0 x1
  have h433_ := iv_get hv0 (k := 83) (j := 6) (l := 0) (u := 20) rfl
  refine jt_ite (fun c434_ => ?_) (fun c434_ => ?_)
  ·
    exact jt_rV ⟨hv0, (jfr_rf _ _), rfl, (fun h1 h2 => absurd (by omega : False) id)⟩
  ·
    refine jt_grd (by omega) ?_
    refine jt_grd (by omega) ?_
    have hv435_ : iv (jxu a0 87 (x1.toNat) 1) := iv_putf hv0 rfl
    have hv436_ : iv (jxu (jxu a0 87 (x1.toNat) 1) 88 (x1.toNat) x2) := iv_putf hv435_ rfl
    have hf437_ : jfr jW_X4_joinRing a0 (jxu a0 87 (x1.toNat) 1) := jfr_put (jfr_rf _ _) rfl
    have hf438_ : jfr jW_X4_joinRing a0 (jxu (jxu a0 87 (x1.toNat) 1) 88 (x1.toNat) x2) := jfr_put hf437_ rfl
    have hf439_ : jfr jWo_X4_joinRing a0 (jxu a0 87 (x1.toNat) 1) := jfr_put (jfr_rf _ _) rfl
    have hf440_ : jfr jWo_X4_joinRing a0 (jxu (jxu a0 87 (x1.toNat) 1) 88 (x1.toNat) x2) := jfr_put hf439_ rfl
    exact cr_X4_joinRing_22 E d hd x1 x2 x3 a0 b0 hv0 x1 x3 (jxu (jxu a0 87 (x1.toNat) 1) 88 (x1.toNat) x2) hv436_ hf438_ (show 0 ≤ x1 from by omega) (show x1 ≤ 19 from by omega) (by first | rfl | assumption) (show (0 ≤ x1 ∧ x1 < a0 83 6) from by omega) hf440_ ⟨by rw [jxu_off (show ¬ 87 = 88 by decide)]; exact jxu_rup _ _ _ _, by rw [jxu_rup, jxu_off (show ¬ 88 = 87 by decide)]⟩ (by first | rfl | assumption)
abbrev jR_X4_offerInRing (x1 x2 : Int) (a0 b0 : Nat → Nat → Int) : List jxV → (Nat → Nat → Int) → (Nat → Nat → Int) → Prop := rI (fun r a b => (a0 = a) ∧ (b0 = b) ∧ ((a0 83 6 = 0 → r = 0 - 1)) ∧ (r = FOF (a0 87) (a0 88) (a0 84) x1 x2 (a0 83 6).toNat))
theorem cr_X4_offerInRing_2 (E : jxE) (d : Nat) (hd : Nat.ble 3 (d + 1) = true) (x1 x2 : Int) (a0 b0 : Nat → Nat → Int) (hv0 : iv a0) : ∀ n : Nat, (∀ (y1 y2 y3 : Int), (((20 - y3) * 1) + 0).toNat ≤ n → 0 ≤ y3 → y3 ≤ 19 → y1 = x1 → y2 = x2 → 0 ≤ y3 → y3 < a0 83 6 → (FOF (a0 87) (a0 88) (a0 84) x1 x2 (y3.toNat + 1) = -1) → jt (jxX E d 72 40 [some (.inr (.inr (.inl 83))), some (.inl y1), some (.inl y2), some (.inl y3)] [] (jxSH, a0, b0)) (jR_X4_offerInRing x1 x2 a0 b0)) ∧ (∀ (y1 y2 y3 : Int), (((20 - y3) * 1) + 0).toNat ≤ n → 0 ≤ y3 → y3 ≤ 19 → 1 ≤ a0 83 6 → y1 = x1 → y2 = x2 → 0 ≤ y3 → y3 < a0 83 6 → (FOF (a0 87) (a0 88) (a0 84) x1 x2 y3.toNat = -1) → (a0 87 y3.toNat = 1 ∧ a0 88 y3.toNat = x1) → jt (jxX E d 72 28 [some (.inr (.inr (.inl 83))), some (.inl y1), some (.inl y2), some (.inl y3)] [] (jxSH, a0, b0)) (jR_X4_offerInRing x1 x2 a0 b0)) ∧ (∀ (y1 y2 y3 : Int), (((20 - y3) * 1) + 0).toNat ≤ n → 0 ≤ y3 → y3 ≤ 20 → y1 = x1 → y2 = x2 → 0 ≤ y3 → y3 ≤ a0 83 6 → (FOF (a0 87) (a0 88) (a0 84) x1 x2 y3.toNat = -1) → jt (jxX E d 72 2 [some (.inr (.inr (.inl 83))), some (.inl y1), some (.inl y2), some (.inl y3)] [] (jxSH, a0, b0)) (jR_X4_offerInRing x1 x2 a0 b0)) := by
  refine jx_ind fun n ih => ?_
  have ih40 : ∀ (y1 y2 y3 : Int), (((20 - y3) * 1) + 0).toNat < n → 0 ≤ y3 → y3 ≤ 19 → y1 = x1 → y2 = x2 → 0 ≤ y3 → y3 < a0 83 6 → (FOF (a0 87) (a0 88) (a0 84) x1 x2 (y3.toNat + 1) = -1) → jt (jxX E d 72 40 [some (.inr (.inr (.inl 83))), some (.inl y1), some (.inl y2), some (.inl y3)] [] (jxSH, a0, b0)) (jR_X4_offerInRing x1 x2 a0 b0) := fun y1 y2 y3 hlt i0 i1 i2 i3 i4 i5 i6 => (ih _ hlt).1 y1 y2 y3 (Nat.le_refl _) i0 i1 i2 i3 i4 i5 i6
  have ih28 : ∀ (y1 y2 y3 : Int), (((20 - y3) * 1) + 0).toNat < n → 0 ≤ y3 → y3 ≤ 19 → 1 ≤ a0 83 6 → y1 = x1 → y2 = x2 → 0 ≤ y3 → y3 < a0 83 6 → (FOF (a0 87) (a0 88) (a0 84) x1 x2 y3.toNat = -1) → (a0 87 y3.toNat = 1 ∧ a0 88 y3.toNat = x1) → jt (jxX E d 72 28 [some (.inr (.inr (.inl 83))), some (.inl y1), some (.inl y2), some (.inl y3)] [] (jxSH, a0, b0)) (jR_X4_offerInRing x1 x2 a0 b0) := fun y1 y2 y3 hlt i0 i1 i2 i3 i4 i5 i6 i7 i8 => (ih _ hlt).2.1 y1 y2 y3 (Nat.le_refl _) i0 i1 i2 i3 i4 i5 i6 i7 i8
  have ih2 : ∀ (y1 y2 y3 : Int), (((20 - y3) * 1) + 0).toNat < n → 0 ≤ y3 → y3 ≤ 20 → y1 = x1 → y2 = x2 → 0 ≤ y3 → y3 ≤ a0 83 6 → (FOF (a0 87) (a0 88) (a0 84) x1 x2 y3.toNat = -1) → jt (jxX E d 72 2 [some (.inr (.inr (.inl 83))), some (.inl y1), some (.inl y2), some (.inl y3)] [] (jxSH, a0, b0)) (jR_X4_offerInRing x1 x2 a0 b0) := fun y1 y2 y3 hlt i0 i1 i2 i3 i4 i5 i6 => (ih _ hlt).2.2 y1 y2 y3 (Nat.le_refl _) i0 i1 i2 i3 i4 i5 i6
  have hc40 : ∀ (y1 y2 y3 : Int), (((20 - y3) * 1) + 0).toNat ≤ n → 0 ≤ y3 → y3 ≤ 19 → y1 = x1 → y2 = x2 → 0 ≤ y3 → y3 < a0 83 6 → (FOF (a0 87) (a0 88) (a0 84) x1 x2 (y3.toNat + 1) = -1) → jt (jxX E d 72 40 [some (.inr (.inr (.inl 83))), some (.inl y1), some (.inl y2), some (.inl y3)] [] (jxSH, a0, b0)) (jR_X4_offerInRing x1 x2 a0 b0) := by
    intro y1 y2 y3 hm hi0 hi1 hi2 hi3 hi4 hi5 hfo
    refine jt_eq (bq_X4_offerInRing_40 E d y1 y2 y3 a0 b0) ?_
    have h441_ := iv_get hv0 (k := 83) (j := 6) (l := 0) (u := 20) rfl
    have h442_ : jxw (y3 + 1) = y3 + 1 := jxw_id (by omega) (by omega)
    exact ih2 y1 y2 (jxw (y3 + 1)) (show (((20 - (jxw (y3 + 1))) * 1) + 0).toNat < n from by omega) (show 0 ≤ jxw (y3 + 1) from by omega) (show jxw (y3 + 1) ≤ 20 from by omega) (show y1 = x1 from by omega) (show y2 = x2 from by omega) (show 0 ≤ jxw (y3 + 1) from by omega) (show jxw (y3 + 1) ≤ a0 83 6 from by omega) (by first | rfl | (rw [show (jxw (y3 + 1)).toNat = y3.toNat + 1 from by omega]; exact hfo))
  have hc28 : ∀ (y1 y2 y3 : Int), (((20 - y3) * 1) + 0).toNat ≤ n → 0 ≤ y3 → y3 ≤ 19 → 1 ≤ a0 83 6 → y1 = x1 → y2 = x2 → 0 ≤ y3 → y3 < a0 83 6 → (FOF (a0 87) (a0 88) (a0 84) x1 x2 y3.toNat = -1) → (a0 87 y3.toNat = 1 ∧ a0 88 y3.toNat = x1) → jt (jxX E d 72 28 [some (.inr (.inr (.inl 83))), some (.inl y1), some (.inl y2), some (.inl y3)] [] (jxSH, a0, b0)) (jR_X4_offerInRing x1 x2 a0 b0) := by
    intro y1 y2 y3 hm hi0 hi1 hi2 hi3 hi4 hi5 hi6 hfo hm2
    refine jt_eq (bq_X4_offerInRing_28 E d y1 y2 y3 a0 b0) ?_
    have h443_ := iv_get hv0 (k := 83) (j := 6) (l := 0) (u := 20) rfl
    refine jt_grd (by omega) ?_
    refine jt_ite (fun c444_ => ?_) (fun c444_ => ?_)
    ·
      exact jt_rI ⟨rfl, rfl, (show (a0 83 6 = 0 → y3 = 0 - 1) from by omega), (by rw [FOF_at hfo ⟨hm2.1, hm2.2, by omega⟩ (show y3.toNat < (a0 83 6).toNat by omega)]; omega)⟩
    ·
      exact hc40 y1 y2 y3 (show (((20 - y3) * 1) + 0).toNat ≤ n from by omega) (show 0 ≤ y3 from by omega) (show y3 ≤ 19 from by omega) (show y1 = x1 from by omega) (show y2 = x2 from by omega) (show 0 ≤ y3 from by omega) (show y3 < a0 83 6 from by omega) (FOF_no hfo (fun z => by have z1 := z.1; have z2 := z.2.1; have z3 := z.2.2; omega))
  have hc2 : ∀ (y1 y2 y3 : Int), (((20 - y3) * 1) + 0).toNat ≤ n → 0 ≤ y3 → y3 ≤ 20 → y1 = x1 → y2 = x2 → 0 ≤ y3 → y3 ≤ a0 83 6 → (FOF (a0 87) (a0 88) (a0 84) x1 x2 y3.toNat = -1) → jt (jxX E d 72 2 [some (.inr (.inr (.inl 83))), some (.inl y1), some (.inl y2), some (.inl y3)] [] (jxSH, a0, b0)) (jR_X4_offerInRing x1 x2 a0 b0) := by
    intro y1 y2 y3 hm hi0 hi1 hi2 hi3 hi4 hi5 hfo
    refine jt_eq (bq_X4_offerInRing_2 E d y1 y2 y3 a0 b0) ?_
    have h445_ := iv_get hv0 (k := 83) (j := 6) (l := 0) (u := 20) rfl
    refine jt_ite (fun c446_ => ?_) (fun c446_ => ?_)
    ·
      refine jt_eI (eq_X4_isInRing E d (jd_le hd rfl) y3 a0 b0) ?_
      have h447_ := f_X4_isInRing_eq a0 b0 y3
      have h448_ := f_X4_has_eq a0 b0 y3
      refine jt_ite (fun c449_ => ?_) (fun c449_ => ?_)
      ·
        exact hc40 y1 y2 y3 (show (((20 - y3) * 1) + 0).toNat ≤ n from by omega) (show 0 ≤ y3 from by omega) (show y3 ≤ 19 from by omega) (show y1 = x1 from by omega) (show y2 = x2 from by omega) (show 0 ≤ y3 from by omega) (show y3 < a0 83 6 from by omega) (FOF_no hfo (fun z => by have z1 := z.1; have z2 := z.2.1; have z3 := z.2.2; omega))
      ·
        refine jt_grd (by omega) ?_
        refine jt_ite (fun c450_ => ?_) (fun c450_ => ?_)
        ·
          exact hc28 y1 y2 y3 (show (((20 - y3) * 1) + 0).toNat ≤ n from by omega) (show 0 ≤ y3 from by omega) (show y3 ≤ 19 from by omega) (show 1 ≤ a0 83 6 from by omega) (show y1 = x1 from by omega) (show y2 = x2 from by omega) (show 0 ≤ y3 from by omega) (show y3 < a0 83 6 from by omega) hfo ⟨by omega, by omega⟩
        ·
          exact hc40 y1 y2 y3 (show (((20 - y3) * 1) + 0).toNat ≤ n from by omega) (show 0 ≤ y3 from by omega) (show y3 ≤ 19 from by omega) (show y1 = x1 from by omega) (show y2 = x2 from by omega) (show 0 ≤ y3 from by omega) (show y3 < a0 83 6 from by omega) (FOF_no hfo (fun z => by have z1 := z.1; have z2 := z.2.1; have z3 := z.2.2; omega))
    ·
      exact jt_rI ⟨rfl, rfl, (show (a0 83 6 = 0 → (-1) = 0 - 1) from by omega), (by rw [show (a0 83 6).toNat = y3.toNat from by omega, hfo])⟩
  exact ⟨hc40, hc28, hc2⟩
theorem sq_X4_offerInRing (E : jxE) (d : Nat) (hd : Nat.ble 3 d = true) (x1 x2 : Int) (a0 b0 : Nat → Nat → Int) (hv0 : iv a0) : jt (jxC E d 72 [.inr (.inr (.inl 83)), .inl x1, .inl x2] (jxSH, a0, b0)) (jR_X4_offerInRing x1 x2 a0 b0) := by
  obtain ⟨d, rfl⟩ := jd_succ hd
  refine jt_eq (bq_X4_offerInRing E d x1 x2 a0 b0) ?_
  have h451_ := iv_get hv0 (k := 83) (j := 6) (l := 0) (u := 20) rfl
  exact (cr_X4_offerInRing_2 E d hd x1 x2 a0 b0 hv0 _).2.2 x1 x2 0 (Nat.le_refl _) (show 0 ≤ 0 from by omega) (show 0 ≤ 20 from by omega) (show x1 = x1 from by omega) (show x2 = x2 from by omega) (show 0 ≤ 0 from by omega) (show 0 ≤ a0 83 6 from by omega) (by first | rfl | (rw [show (jxw (y3 + 1)).toNat = y3.toNat + 1 from by omega]; exact hfo))
def jW_X11_cancelCardsTo : List (Nat × Nat) := [(9, 9999), (64, 9999)]
abbrev jQ_X11_cancelCardsTo (x1 : Int) (a0 b0 : Nat → Nat → Int) : List jxV → (Nat → Nat → Int) → (Nat → Nat → Int) → Prop := rI (fun r a b => (iv a) ∧ (jfr jW_X11_cancelCardsTo a0 a) ∧ (b0 = b) ∧ (CIC a) ∧ ((cvC a, a 9, r) = cnc (a0 0 0) x1 (a0 58 8).toNat (cvC a0, a0 9, 0)) ∧ ((0 ≤ r ∧ r ≤ 300)))
theorem cp_X11_cancelCardsTo_4 (E : jxE) (d : Nat) (hd : Nat.ble 4 (d + 1) = true) (x1 : Int) (a0 b0 : Nat → Nat → Int) (hv0 : iv a0) (hp0 : CIC a0) : ∀ n : Nat, (∀ (y1 y2 y3 : Int) (a : Nat → Nat → Int), (((300 - y3) * 1) + 0).toNat ≤ n → iv a → jfr jW_X11_cancelCardsTo a0 a → 0 ≤ y3 → y3 ≤ 299 → y1 = x1 → 0 ≤ y3 → 0 ≤ y2 → (CIC a) → y3 < a 58 8 → y2 ≤ y3 + 1 → ((cvC a, a 9, y2) = cnc (a0 0 0) x1 (y3.toNat + 1) (cvC a0, a0 9, 0)) → jt (jxX E d 158 72 [some (.inr (.inr (.inl 0))), some (.inl y1), some (.inl y2), some (.inl y3)] [] (jxSH, a, b0)) (jQ_X11_cancelCardsTo x1 a0 b0)) ∧ (∀ (y1 y2 y3 : Int) (a : Nat → Nat → Int), (((300 - y3) * 1) + 0).toNat ≤ n → iv a → jfr jW_X11_cancelCardsTo a0 a → 0 ≤ y3 → y3 ≤ 299 → y1 = x1 → 0 ≤ y3 → 0 ≤ y2 → y2 ≤ y3 → (CIC a) → y3 < a 58 8 → ((cvC a, a 9, y2) = cnc (a0 0 0) x1 y3.toNat (cvC a0, a0 9, 0)) → (a 60 y3.toNat = x1 ∧ vSt (cvC a) (a0 0 0) y3.toNat = 0) → jt (jxX E d 158 42 [some (.inr (.inr (.inl 0))), some (.inl y1), some (.inl y2), some (.inl y3)] [] (jxSH, a, b0)) (jQ_X11_cancelCardsTo x1 a0 b0)) ∧ (∀ (y1 y2 y3 : Int) (a : Nat → Nat → Int), (((300 - y3) * 1) + 0).toNat ≤ n → iv a → jfr jW_X11_cancelCardsTo a0 a → 0 ≤ y3 → y3 ≤ 300 → y1 = x1 → 0 ≤ y3 → 0 ≤ y2 → y2 ≤ y3 → (CIC a) → y3 ≤ a 58 8 → ((cvC a, a 9, y2) = cnc (a0 0 0) x1 y3.toNat (cvC a0, a0 9, 0)) → jt (jxX E d 158 4 [some (.inr (.inr (.inl 0))), some (.inl y1), some (.inl y2), some (.inl y3)] [] (jxSH, a, b0)) (jQ_X11_cancelCardsTo x1 a0 b0)) := by
  refine jx_ind fun n ih => ?_
  have ih72 : ∀ (y1 y2 y3 : Int) (a : Nat → Nat → Int), (((300 - y3) * 1) + 0).toNat < n → iv a → jfr jW_X11_cancelCardsTo a0 a → 0 ≤ y3 → y3 ≤ 299 → y1 = x1 → 0 ≤ y3 → 0 ≤ y2 → (CIC a) → y3 < a 58 8 → y2 ≤ y3 + 1 → ((cvC a, a 9, y2) = cnc (a0 0 0) x1 (y3.toNat + 1) (cvC a0, a0 9, 0)) → jt (jxX E d 158 72 [some (.inr (.inr (.inl 0))), some (.inl y1), some (.inl y2), some (.inl y3)] [] (jxSH, a, b0)) (jQ_X11_cancelCardsTo x1 a0 b0) := fun y1 y2 y3 a hlt i0 i1 i2 i3 i4 i5 i6 i7 i8 i9 i10 => (ih _ hlt).1 y1 y2 y3 a (Nat.le_refl _) i0 i1 i2 i3 i4 i5 i6 i7 i8 i9 i10
  have ih42 : ∀ (y1 y2 y3 : Int) (a : Nat → Nat → Int), (((300 - y3) * 1) + 0).toNat < n → iv a → jfr jW_X11_cancelCardsTo a0 a → 0 ≤ y3 → y3 ≤ 299 → y1 = x1 → 0 ≤ y3 → 0 ≤ y2 → y2 ≤ y3 → (CIC a) → y3 < a 58 8 → ((cvC a, a 9, y2) = cnc (a0 0 0) x1 y3.toNat (cvC a0, a0 9, 0)) → (a 60 y3.toNat = x1 ∧ vSt (cvC a) (a0 0 0) y3.toNat = 0) → jt (jxX E d 158 42 [some (.inr (.inr (.inl 0))), some (.inl y1), some (.inl y2), some (.inl y3)] [] (jxSH, a, b0)) (jQ_X11_cancelCardsTo x1 a0 b0) := fun y1 y2 y3 a hlt i0 i1 i2 i3 i4 i5 i6 i7 i8 i9 i10 i11 => (ih _ hlt).2.1 y1 y2 y3 a (Nat.le_refl _) i0 i1 i2 i3 i4 i5 i6 i7 i8 i9 i10 i11
  have ih4 : ∀ (y1 y2 y3 : Int) (a : Nat → Nat → Int), (((300 - y3) * 1) + 0).toNat < n → iv a → jfr jW_X11_cancelCardsTo a0 a → 0 ≤ y3 → y3 ≤ 300 → y1 = x1 → 0 ≤ y3 → 0 ≤ y2 → y2 ≤ y3 → (CIC a) → y3 ≤ a 58 8 → ((cvC a, a 9, y2) = cnc (a0 0 0) x1 y3.toNat (cvC a0, a0 9, 0)) → jt (jxX E d 158 4 [some (.inr (.inr (.inl 0))), some (.inl y1), some (.inl y2), some (.inl y3)] [] (jxSH, a, b0)) (jQ_X11_cancelCardsTo x1 a0 b0) := fun y1 y2 y3 a hlt i0 i1 i2 i3 i4 i5 i6 i7 i8 i9 i10 => (ih _ hlt).2.2 y1 y2 y3 a (Nat.le_refl _) i0 i1 i2 i3 i4 i5 i6 i7 i8 i9 i10
  have hc72 : ∀ (y1 y2 y3 : Int) (a : Nat → Nat → Int), (((300 - y3) * 1) + 0).toNat ≤ n → iv a → jfr jW_X11_cancelCardsTo a0 a → 0 ≤ y3 → y3 ≤ 299 → y1 = x1 → 0 ≤ y3 → 0 ≤ y2 → (CIC a) → y3 < a 58 8 → y2 ≤ y3 + 1 → ((cvC a, a 9, y2) = cnc (a0 0 0) x1 (y3.toNat + 1) (cvC a0, a0 9, 0)) → jt (jxX E d 158 72 [some (.inr (.inr (.inl 0))), some (.inl y1), some (.inl y2), some (.inl y3)] [] (jxSH, a, b0)) (jQ_X11_cancelCardsTo x1 a0 b0) := by
    intro y1 y2 y3 a hm hv hf hi0 hi1 hi2 hi3 hi4 hci hi6 hi7 hs
    refine jt_eq (bq_X11_cancelCardsTo_72 E d y1 y2 y3 a b0) ?_
    have h452_ := iv_get hv (k := 58) (j := 8) (l := 0) (u := 300) rfl
    have h453_ : a 58 8 = a0 58 8 := hf 58 8 rfl
    have h454_ := iv_get hv0 (k := 58) (j := 8) (l := 0) (u := 300) rfl
    have h455_ : jxw (y3 + 1) = y3 + 1 := jxw_id (by omega) (by omega)
    exact ih4 y1 y2 (jxw (y3 + 1)) a (show (((300 - (jxw (y3 + 1))) * 1) + 0).toNat < n from by omega) hv hf (show 0 ≤ jxw (y3 + 1) from by omega) (show jxw (y3 + 1) ≤ 300 from by omega) (show y1 = x1 from by omega) (show 0 ≤ jxw (y3 + 1) from by omega) (show 0 ≤ y2 from by omega) (show y2 ≤ jxw (y3 + 1) from by omega) hci (show jxw (y3 + 1) ≤ a 58 8 from by omega) (by rw [show (jxw (y3 + 1)).toNat = y3.toNat + 1 from by omega]; exact hs)
  have hc42 : ∀ (y1 y2 y3 : Int) (a : Nat → Nat → Int), (((300 - y3) * 1) + 0).toNat ≤ n → iv a → jfr jW_X11_cancelCardsTo a0 a → 0 ≤ y3 → y3 ≤ 299 → y1 = x1 → 0 ≤ y3 → 0 ≤ y2 → y2 ≤ y3 → (CIC a) → y3 < a 58 8 → ((cvC a, a 9, y2) = cnc (a0 0 0) x1 y3.toNat (cvC a0, a0 9, 0)) → (a 60 y3.toNat = x1 ∧ vSt (cvC a) (a0 0 0) y3.toNat = 0) → jt (jxX E d 158 42 [some (.inr (.inr (.inl 0))), some (.inl y1), some (.inl y2), some (.inl y3)] [] (jxSH, a, b0)) (jQ_X11_cancelCardsTo x1 a0 b0) := by
    intro y1 y2 y3 a hm hv hf hi0 hi1 hi2 hi3 hi4 hi5 hci hi7 hs h42
    refine jt_eq (bq_X11_cancelCardsTo_42 E d y1 y2 y3 a b0) ?_
    have h456_ := iv_get hv (k := 58) (j := 8) (l := 0) (u := 300) rfl
    have h457_ : a 58 8 = a0 58 8 := hf 58 8 rfl
    have h458_ := iv_get hv0 (k := 58) (j := 8) (l := 0) (u := 300) rfl
    have e00 := hf 0 0 rfl
    have i588 := iv_get hv (k := 58) (j := 8) (l := 0) (u := 300) rfl
    have i000 := iv_get hv (k := 0) (j := 0) (l := 0) (u := 1999) rfl
    have hcc := CI_c hci (c := y3.toNat) (show ((y3.toNat : Nat) : Int) < a 58 8 by omega)
    have hfr : f_X0_fromOf a b0 y3 = a 59 y3.toNat := fromOf_at (by omega) (by omega) i588.2
    refine jt_bV (sp_X0_cancel E d (jd_le hd rfl) y3 (a 0 0) a b0 hv) (fun a459_ b459_ h459_ => ?_)
    obtain ⟨hv459_, hf459_, rfl, hq459_0⟩ := h459_
    have hcv_ := hq459_0 (by omega) (by omega) (by omega)
    have hcic_ : CIC a459_ := CIC_off hci hcv_ (hf459_ 4 6 rfl) (hf459_ 0 0 rfl) i000.1 ⟨by omega, by omega⟩ (by rw [e00]; exact h42.2)
    have hfr2_ : f_X0_fromOf a459_ b0 y3 = a 59 y3.toNat := by rw [fromOf_at (by omega) (by have e := hf459_ 58 8 rfl; omega) (by have e := hf459_ 58 8 rfl; omega)]; exact hf459_ 59 _ rfl
    have hc46_ := hf459_ 4 6 rfl
    have hcx_ : a459_ 9 = a 9 := funext fun j => hf459_ 9 j rfl
    refine jt_eI (eq_X0_fromOf E d (jd_le hd rfl) y3 a459_ b0) ?_
    refine jt_bV (sq_X3_addCredit E d (jd_le hd rfl) (f_X0_fromOf a459_ b0 y3) a459_ b0 hv459_) (fun a460_ b460_ h460_ => ?_)
    obtain ⟨hv460_, hf460_, rfl, hq460_0⟩ := h460_
    have hcr2_ : a460_ 9 = rup (a 9) (a 59 y3.toNat).toNat (jxw (a 9 (a 59 y3.toNat).toNat + 1)) := by have q := hq460_0 (by rw [hfr2_]; exact hcc.1.1) (by rw [hfr2_, hc46_]; exact hcc.1.2) (by rw [hfr2_]; have z1 : a 59 y3.toNat < a 4 6 := hcc.1.2; have h46 := (iv_get hv (k := 4) (j := 6) (l := 0) (u := 40) rfl).2; omega); rw [hfr2_, hcx_] at q; exact q
    have hcv2_ : cvC a460_ = vOff (cvC a) y3 (a 0 0) := (cvC_fr hf460_ rfl).trans hcv_
    have hf461_ : jfr jW_X11_cancelCardsTo a0 a459_ := jfr_tr hf hf459_ rfl
    have hf462_ : jfr jW_X11_cancelCardsTo a0 a460_ := jfr_tr hf461_ hf460_ rfl
    have h463_ := jxw_im (y2 + 1)
    have h464_ := jxw_rg (y2 + 1)
    have h465_ := iv_get hv460_ (k := 58) (j := 8) (l := 0) (u := 300) rfl
    have h466_ : a460_ 58 8 = a459_ 58 8 := hf460_ 58 8 rfl
    have h467_ := iv_get hv459_ (k := 58) (j := 8) (l := 0) (u := 300) rfl
    have h468_ : a459_ 58 8 = a 58 8 := hf459_ 58 8 rfl
    exact hc72 y1 (jxw (y2 + 1)) y3 a460_ (show (((300 - y3) * 1) + 0).toNat ≤ n from by omega) hv460_ hf462_ (show 0 ≤ y3 from by omega) (show y3 ≤ 299 from by omega) (show y1 = x1 from by omega) (show 0 ≤ y3 from by omega) (show 0 ≤ jxw (y2 + 1) from by omega) (CIC_fr hcic_ hf460_ rfl rfl rfl rfl (fun _ => rfl) (fun _ => rfl) (fun _ => rfl) (fun _ => rfl) (fun _ => rfl) (fun _ => rfl) (fun _ => rfl) (fun _ => rfl) (fun _ => rfl) (fun _ => rfl)) (show y3 < a460_ 58 8 from by omega) (show jxw (y2 + 1) ≤ y3 + 1 from by omega) (by show _ = c1s (a0 0 0) x1 y3.toNat (cnc (a0 0 0) x1 y3.toNat (cvC a0, a0 9, 0)); rw [← hs]; show _ = (if vTo (cvC a) y3.toNat = x1 ∧ vSt (cvC a) (a0 0 0) y3.toNat = 0 then (vOff (cvC a) (y3.toNat : Int) (a0 0 0), rup (a 9) (a 59 y3.toNat).toNat (jxw (a 9 (a 59 y3.toNat).toNat + 1)), y2 + 1) else _); rw [if_pos ⟨h42.1, h42.2⟩, hcv2_, hcr2_, Int.toNat_of_nonneg (show 0 ≤ y3 by omega), ← e00, show jxw (y2 + 1) = y2 + 1 from by omega])
  have hc4 : ∀ (y1 y2 y3 : Int) (a : Nat → Nat → Int), (((300 - y3) * 1) + 0).toNat ≤ n → iv a → jfr jW_X11_cancelCardsTo a0 a → 0 ≤ y3 → y3 ≤ 300 → y1 = x1 → 0 ≤ y3 → 0 ≤ y2 → y2 ≤ y3 → (CIC a) → y3 ≤ a 58 8 → ((cvC a, a 9, y2) = cnc (a0 0 0) x1 y3.toNat (cvC a0, a0 9, 0)) → jt (jxX E d 158 4 [some (.inr (.inr (.inl 0))), some (.inl y1), some (.inl y2), some (.inl y3)] [] (jxSH, a, b0)) (jQ_X11_cancelCardsTo x1 a0 b0) := by
    intro y1 y2 y3 a hm hv hf hi0 hi1 hi2 hi3 hi4 hi5 hci hi7 hs
    refine jt_eq (bq_X11_cancelCardsTo_4 E d y1 y2 y3 a b0) ?_
    have h469_ := iv_get hv (k := 58) (j := 8) (l := 0) (u := 300) rfl
    have h470_ : a 58 8 = a0 58 8 := hf 58 8 rfl
    have h471_ := iv_get hv0 (k := 58) (j := 8) (l := 0) (u := 300) rfl
    have e00 := hf 0 0 rfl
    have i588 := iv_get hv (k := 58) (j := 8) (l := 0) (u := 300) rfl
    have i000 := iv_get hv (k := 0) (j := 0) (l := 0) (u := 1999) rfl
    have hst : 0 ≤ y3 → y3 < a 58 8 → f_X0_stateNow a b0 y3 (a 0 0) = vSt (cvC a) (a 0 0) y3.toNat := fun h1 h2 => stNow_eqI hci rfl h1 h2
    have hto : 0 ≤ y3 → y3 < a 58 8 → f_X0_toOf a b0 y3 = a 60 y3.toNat := fun h1 h2 => toOf_at h1 h2 i588.2
    refine jt_eI (eq_X0_size E d (jd_le hd rfl) a b0) ?_
    have h472_ := f_X0_size_eq a b0
    refine jt_ite (fun c473_ => ?_) (fun c473_ => ?_)
    ·
      refine jt_eI (eq_X0_toOf E d (jd_le hd rfl) y3 a b0) ?_
      have h474_ := f_X0_toOf_eq a b0 y3
      have h475_ := f_X11_entry_r60_eq a b0 (a 58 8) y3
      have h476_ : a 60 (y3.toNat) = a0 60 (y3.toNat) := hf 60 (y3.toNat) rfl
      refine jt_ite (fun c477_ => ?_) (fun c477_ => ?_)
      ·
        refine jt_eI (eq_X0_stateNow E d (jd_le hd rfl) y3 (a 0 0) a b0) ?_
        have h478_ := iv_get hv (k := 0) (j := 0) (l := 0) (u := 1999) rfl
        have h479_ : a 0 0 = a0 0 0 := hf 0 0 rfl
        have h480_ := iv_get hv0 (k := 0) (j := 0) (l := 0) (u := 1999) rfl
        have h481_ := f_X0_stateNow_eq a b0 y3 (a 0 0)
        have h482_ := f_X0_arrivedOnOf_eq a b0 y3
        have h483_ := iv_get hv (k := 58) (j := 12) (l := 0) (u := 600) rfl
        have h484_ : a 58 12 = a0 58 12 := hf 58 12 rfl
        have h485_ := iv_get hv0 (k := 58) (j := 12) (l := 0) (u := 600) rfl
        have h486_ := f_X11_entry_r65_eq a b0 (a 58 8) y3
        have h487_ : a 65 (y3.toNat) = a0 65 (y3.toNat) := hf 65 (y3.toNat) rfl
        have h488_ := f_X11_entry_r67_eq a b0 (a 58 12) (f_X11_entry_r65 a b0 (a 58 8) y3)
        have h489_ : a 67 ((f_X11_entry_r65 a b0 (a 58 8) y3).toNat) = a0 67 ((f_X11_entry_r65 a b0 (a 58 8) y3).toNat) := hf 67 ((f_X11_entry_r65 a b0 (a 58 8) y3).toNat) rfl
        refine jt_ite (fun c490_ => ?_) (fun c490_ => ?_)
        ·
          exact hc42 y1 y2 y3 a (show (((300 - y3) * 1) + 0).toNat ≤ n from by omega) hv hf (show 0 ≤ y3 from by omega) (show y3 ≤ 299 from by omega) (show y1 = x1 from by omega) (show 0 ≤ y3 from by omega) (show 0 ≤ y2 from by omega) (show y2 ≤ y3 from by omega) hci (show y3 < a 58 8 from by omega) hs (by have q1 := hst (by omega) (by omega); have q2 := hto (by omega) (by omega); rw [e00] at q1; exact ⟨by omega, by rw [e00] at *; omega⟩)
        ·
          exact hc72 y1 y2 y3 a (show (((300 - y3) * 1) + 0).toNat ≤ n from by omega) hv hf (show 0 ≤ y3 from by omega) (show y3 ≤ 299 from by omega) (show y1 = x1 from by omega) (show 0 ≤ y3 from by omega) (show 0 ≤ y2 from by omega) hci (show y3 < a 58 8 from by omega) (show y2 ≤ y3 + 1 from by omega) (by show _ = c1s (a0 0 0) x1 y3.toNat (cnc (a0 0 0) x1 y3.toNat (cvC a0, a0 9, 0)); rw [← hs]; show _ = (if vTo (cvC a) y3.toNat = x1 ∧ vSt (cvC a) (a0 0 0) y3.toNat = 0 then _ else _); rw [if_neg (fun z => by have z1 : a 60 y3.toNat = x1 := z.1; have z2 := z.2; rw [← e00] at z2; have q1 := hst (by omega) (by omega); have q2 := hto (by omega) (by omega); omega)])
      ·
        exact hc72 y1 y2 y3 a (show (((300 - y3) * 1) + 0).toNat ≤ n from by omega) hv hf (show 0 ≤ y3 from by omega) (show y3 ≤ 299 from by omega) (show y1 = x1 from by omega) (show 0 ≤ y3 from by omega) (show 0 ≤ y2 from by omega) hci (show y3 < a 58 8 from by omega) (show y2 ≤ y3 + 1 from by omega) (by show _ = c1s (a0 0 0) x1 y3.toNat (cnc (a0 0 0) x1 y3.toNat (cvC a0, a0 9, 0)); rw [← hs]; show _ = (if vTo (cvC a) y3.toNat = x1 ∧ vSt (cvC a) (a0 0 0) y3.toNat = 0 then _ else _); rw [if_neg (fun z => by have z1 : a 60 y3.toNat = x1 := z.1; have z2 := z.2; rw [← e00] at z2; have q1 := hst (by omega) (by omega); have q2 := hto (by omega) (by omega); omega)])
    ·
      exact jt_rI ⟨hv, hf, rfl, hci, (by rw [show (a0 58 8).toNat = y3.toNat from by omega]; exact hs), (show (0 ≤ y2 ∧ y2 ≤ 300) from by omega)⟩
  exact ⟨hc72, hc42, hc4⟩
theorem sp_X11_cancelCardsTo (E : jxE) (d : Nat) (hd : Nat.ble 4 d = true) (x1 : Int) (a0 b0 : Nat → Nat → Int) (hv0 : iv a0) (hp0 : CIC a0) : jt (jxC E d 158 [.inr (.inr (.inl 0)), .inl x1] (jxSH, a0, b0)) (jQ_X11_cancelCardsTo x1 a0 b0) := by
  obtain ⟨d, rfl⟩ := jd_succ hd
  refine jt_eq (bq_X11_cancelCardsTo E d x1 a0 b0) ?_
  have h491_ := iv_get hv0 (k := 58) (j := 8) (l := 0) (u := 300) rfl
  exact (cp_X11_cancelCardsTo_4 E d hd x1 a0 b0 hv0 hp0 _).2.2 x1 0 0 a0 (Nat.le_refl _) hv0 (jfr_rf _ _) (show 0 ≤ 0 from by omega) (show 0 ≤ 300 from by omega) (show x1 = x1 from by omega) (show 0 ≤ 0 from by omega) (show 0 ≤ 0 from by omega) (show 0 ≤ 0 from by omega) hp0 (show 0 ≤ a0 58 8 from by omega) rfl
def jWwe : List (Nat × Nat) := []
def jWw3 : List (Nat × Nat) := [(87, 9999), (88, 9999), (89, 9999)]
def jWw4 : List (Nat × Nat) := [(87, 9999), (88, 9999), (89, 9999), (64, 9999)]
def jW_X11_withdraw : List (Nat × Nat) := [(9, 9999), (64, 9999), (87, 9999), (88, 9999), (89, 9999)]
abbrev jQ_X11_withdraw (x1 : Int) (a0 b0 : Nat → Nat → Int) : List jxV → (Nat → Nat → Int) → (Nat → Nat → Int) → Prop := rI (fun r a b => (iv a) ∧ (jfr jW_X11_withdraw a0 a) ∧ (b0 = b) ∧ (CIC a) ∧ ((cvC a, a 9, r) = wdr (a0 0 0) (a0 10) (if a0 87 x1.toNat = 1 then a0 89 x1.toNat else -1) (cvC a0, a0 9, 0)) ∧ (a 87 = rup (a0 87) x1.toNat 2 ∧ a 88 = rup (a0 88) x1.toNat (-1) ∧ a 89 = rup (a0 89) x1.toNat (-1)) ∧ ((0 ≤ r ∧ r ≤ 1)))
theorem cp_X11_withdraw_58 (E : jxE) (d : Nat) (hd : Nat.ble 4 (d + 1) = true) (x1 : Int) (a0 b0 : Nat → Nat → Int) (hv0 : iv a0) (hp0 : CIC a0) (hp1 : (0 ≤ x1 ∧ x1 < a0 83 6)) : ∀ (a : Nat → Nat → Int), iv a → jfr jW_X11_withdraw a0 a → (CIC a) → (a 87 = rup (a0 87) x1.toNat 2 ∧ a 88 = rup (a0 88) x1.toNat (-1) ∧ a 89 = rup (a0 89) x1.toNat (-1)) → ((cvC a, a 9, 0) = wdr (a0 0 0) (a0 10) (if a0 87 x1.toNat = 1 then a0 89 x1.toNat else -1) (cvC a0, a0 9, 0)) → jt (jxX E d 159 58 [none, none, none] [] (jxSH, a, b0)) (jQ_X11_withdraw x1 a0 b0) := by
  intro a hv hf hci h3 hw
  refine jt_eq (bq_X11_withdraw_58 E d a b0) ?_
  exact jt_rI ⟨hv, hf, rfl, hci, hw, h3, (show (0 ≤ 0 ∧ 0 ≤ 1) from by omega)⟩
theorem cp_X11_withdraw_105 (E : jxE) (d : Nat) (hd : Nat.ble 4 (d + 1) = true) (x1 : Int) (a0 b0 : Nat → Nat → Int) (hv0 : iv a0) (hp0 : CIC a0) (hp1 : (0 ≤ x1 ∧ x1 < a0 83 6)) : ∀ (a : Nat → Nat → Int), iv a → jfr jW_X11_withdraw a0 a → (CIC a) → (a 87 = rup (a0 87) x1.toNat 2 ∧ a 88 = rup (a0 88) x1.toNat (-1) ∧ a 89 = rup (a0 89) x1.toNat (-1)) → ((cvC a, a 9, 1) = wdr (a0 0 0) (a0 10) (if a0 87 x1.toNat = 1 then a0 89 x1.toNat else -1) (cvC a0, a0 9, 0)) → jt (jxX E d 159 105 [none, none, none] [] (jxSH, a, b0)) (jQ_X11_withdraw x1 a0 b0) := by
  intro a hv hf hci h3 hw
  refine jt_eq (bq_X11_withdraw_105 E d a b0) ?_
  exact jt_rI ⟨hv, hf, rfl, hci, hw, h3, (show (0 ≤ 1 ∧ 1 ≤ 1) from by omega)⟩
theorem cp_X11_withdraw_90 (E : jxE) (d : Nat) (hd : Nat.ble 4 (d + 1) = true) (x1 : Int) (a0 b0 : Nat → Nat → Int) (hv0 : iv a0) (hp0 : CIC a0) (hp1 : (0 ≤ x1 ∧ x1 < a0 83 6)) : ∀ (y2 : Int) (a : Nat → Nat → Int), iv a → jfr jW_X11_withdraw a0 a → 0 ≤ y2 → y2 ≤ 299 → (CIC a) → (a 87 = rup (a0 87) x1.toNat 2 ∧ a 88 = rup (a0 88) x1.toNat (-1) ∧ a 89 = rup (a0 89) x1.toNat (-1)) → (y2 = (if a0 87 x1.toNat = 1 then a0 89 x1.toNat else -1) ∧ 0 ≤ y2 ∧ y2 < a0 58 8 ∧ vSt (cvC a0) (a0 0 0) y2.toNat = 0) → (cvC a = vOff (cvC a0) y2 (a0 0 0) ∧ a 9 = a0 9 ∧ ¬ a0 10 (a0 60 y2.toNat).toNat = 0 ∧ a 60 y2.toNat = a0 60 y2.toNat) → jt (jxX E d 159 90 [some (.inr (.inr (.inl 0))), none, some (.inl y2)] [] (jxSH, a, b0)) (jQ_X11_withdraw x1 a0 b0) := by
  intro y2 a hv hf hi0 hi1 hci h3 hy2 h90
  refine jt_eq (bq_X11_withdraw_90 E d y2 a b0) ?_
  have i588 := iv_get hv (k := 58) (j := 8) (l := 0) (u := 300) rfl
  have e8 : a 58 8 = a0 58 8 := hf 58 8 rfl
  have e46 : a 4 6 = a0 4 6 := hf 4 6 rfl
  have hto : f_X0_toOf a b0 y2 = a 60 y2.toNat := toOf_at (by omega) (by omega) i588.2
  have hcc := CI_c hci (c := y2.toNat) (show ((y2.toNat : Nat) : Int) < a 58 8 by omega)
  refine jt_eI (eq_X0_toOf E d (jd_le hd rfl) y2 a b0) ?_
  refine jt_bV (sq_X3_addCredit E d (jd_le hd rfl) (f_X0_toOf a b0 y2) a b0 hv) (fun a492_ b492_ h492_ => ?_)
  obtain ⟨hv492_, hf492_, rfl, hq492_0⟩ := h492_
  have hf493_ : jfr jW_X11_withdraw a0 a492_ := jfr_tr hf hf492_ rfl
  exact cp_X11_withdraw_105 E d hd x1 a0 b0 hv0 hp0 hp1 a492_ hv492_ hf493_ (CIC_fr hci hf492_ rfl rfl rfl rfl (fun _ => rfl) (fun _ => rfl) (fun _ => rfl) (fun _ => rfl) (fun _ => rfl) (fun _ => rfl) (fun _ => rfl) (fun _ => rfl) (fun _ => rfl) (fun _ => rfl)) ⟨by rw [← h3.1]; exact funext fun j => hf492_ 87 j rfl, by rw [← h3.2.1]; exact funext fun j => hf492_ 88 j rfl, by rw [← h3.2.2]; exact funext fun j => hf492_ 89 j rfl⟩ (by have hto2 : f_X0_toOf a b0 y2 = a0 60 y2.toNat := hto.trans h90.2.2.2; have et : vTo (cvC a) y2.toNat = a0 60 y2.toNat := h90.2.2.2; have h46_ := (iv_get hv (k := 4) (j := 6) (l := 0) (u := 40) rfl).2; have q := hq492_0 (by rw [hto2, ← et]; exact hcc.2.1.1) (by rw [hto2, ← et]; exact hcc.2.1.2) (by rw [hto2, ← et]; omega); rw [hto2, h90.2.1] at q; rw [show cvC a492_ = cvC a from cvC_fr hf492_ rfl, h90.1, q, wdr_yes]; rw [← hy2.1]; exact (by rw [if_neg (show ¬ a0 10 (vTo (cvC a0) y2.toNat).toNat = 0 from h90.2.2.1)]; rfl); rw [← hy2.1]; exact ⟨hy2.2.1, hy2.2.2.1, hy2.2.2.2⟩)
theorem cp_X11_withdraw_60 (E : jxE) (d : Nat) (hd : Nat.ble 4 (d + 1) = true) (x1 : Int) (a0 b0 : Nat → Nat → Int) (hv0 : iv a0) (hp0 : CIC a0) (hp1 : (0 ≤ x1 ∧ x1 < a0 83 6)) : ∀ (y2 : Int) (a : Nat → Nat → Int), iv a → jfr jW_X11_withdraw a0 a → 0 ≤ y2 → y2 ≤ 299 → (CIC a) → (a 87 = rup (a0 87) x1.toNat 2 ∧ a 88 = rup (a0 88) x1.toNat (-1) ∧ a 89 = rup (a0 89) x1.toNat (-1)) → (y2 = (if a0 87 x1.toNat = 1 then a0 89 x1.toNat else -1) ∧ 0 ≤ y2 ∧ y2 < a0 58 8 ∧ vSt (cvC a0) (a0 0 0) y2.toNat = 0) → (cvC a = cvC a0 ∧ a 9 = a0 9 ∧ a 10 = a0 10 ∧ a 0 0 = a0 0 0) → jt (jxX E d 159 60 [some (.inr (.inr (.inl 0))), none, some (.inl y2)] [] (jxSH, a, b0)) (jQ_X11_withdraw x1 a0 b0) := by
  intro y2 a hv hf hi0 hi1 hci h3 hy2 hsame
  refine jt_eq (bq_X11_withdraw_60 E d y2 a b0) ?_
  have i588 := iv_get hv (k := 58) (j := 8) (l := 0) (u := 300) rfl
  have i000 := iv_get hv (k := 0) (j := 0) (l := 0) (u := 1999) rfl
  have e8 : a 58 8 = a0 58 8 := hf 58 8 rfl
  refine jt_bV (sp_X0_cancel E d (jd_le hd rfl) y2 (a 0 0) a b0 hv) (fun a494_ b494_ h494_ => ?_)
  obtain ⟨hv494_, hf494_, rfl, hq494_0⟩ := h494_
  have hcv1_ : cvC a494_ = vOff (cvC a0) y2 (a0 0 0) := by have q := hq494_0 (by omega) (by omega) (by omega); rw [hsame.1, hsame.2.2.2] at q; exact q
  have hcic_ : CIC a494_ := CIC_off hci (by rw [hcv1_, hsame.1, hsame.2.2.2]) (hf494_ 4 6 rfl) (hf494_ 0 0 rfl) i000.1 ⟨by omega, by omega⟩ (by rw [hsame.1, hsame.2.2.2]; exact hy2.2.2.2)
  have hto_ : f_X0_toOf a494_ b0 y2 = a0 60 y2.toNat := by rw [toOf_at (by omega) (by have e := hf494_ 58 8 rfl; omega) (by have e := hf494_ 58 8 rfl; omega), hf494_ 60 _ rfl]; exact hf 60 _ rfl
  have e9c_ : a494_ 9 = a0 9 := by rw [show a494_ 9 = a 9 from funext fun j => hf494_ 9 j rfl, hsame.2.1]
  have e10c_ : a494_ 10 = a0 10 := by rw [show a494_ 10 = a 10 from funext fun j => hf494_ 10 j rfl, hsame.2.2.1]
  have hcc_ := CI_c hci (c := y2.toNat) (show ((y2.toNat : Nat) : Int) < a 58 8 by omega)
  have et60_ : vTo (cvC a) y2.toNat = a0 60 y2.toNat := hf 60 _ rfl
  have h46_ := (iv_get hv (k := 4) (j := 6) (l := 0) (u := 40) rfl).2
  have hth_ : f_X3_isThere a494_ b0 (f_X0_toOf a494_ b0 y2) = if a0 10 (a0 60 y2.toNat).toNat = 0 then 0 else 1 := by rw [hto_]; unfold f_X3_isThere f_X3_has; rw [e10c_, hf494_ 4 6 rfl, if_neg (show ¬ a0 60 y2.toNat < 0 by omega), if_pos (show a0 60 y2.toNat < a 4 6 by omega), if_pos (show a0 60 y2.toNat < 40 by omega), if_neg (by decide)]
  refine jt_eI (eq_X0_toOf E d (jd_le hd rfl) y2 a494_ b0) ?_
  refine jt_eI (eq_X3_isThere E d (jd_le hd rfl) (f_X0_toOf a494_ b0 y2) a494_ b0) ?_
  have h495_ := f_X0_toOf_eq a494_ b0 y2
  have h496_ := iv_get hv494_ (k := 58) (j := 8) (l := 0) (u := 300) rfl
  have h497_ : a494_ 58 8 = a 58 8 := hf494_ 58 8 rfl
  have h498_ := iv_get hv (k := 58) (j := 8) (l := 0) (u := 300) rfl
  have h499_ : a 58 8 = a0 58 8 := hf 58 8 rfl
  have h500_ := iv_get hv0 (k := 58) (j := 8) (l := 0) (u := 300) rfl
  have h501_ := f_X11_entry_r60_eq a494_ b0 (a494_ 58 8) y2
  have h502_ : a494_ 60 (y2.toNat) = a 60 (y2.toNat) := hf494_ 60 (y2.toNat) rfl
  have h503_ : a 60 (y2.toNat) = a0 60 (y2.toNat) := hf 60 (y2.toNat) rfl
  have h504_ := f_X3_isThere_eq a494_ b0 (f_X0_toOf a494_ b0 y2)
  have h505_ := f_X3_has_eq a494_ b0 (f_X0_toOf a494_ b0 y2)
  have h506_ := iv_get hv494_ (k := 4) (j := 6) (l := 0) (u := 40) rfl
  have h507_ : a494_ 4 6 = a 4 6 := hf494_ 4 6 rfl
  have h508_ := iv_get hv (k := 4) (j := 6) (l := 0) (u := 40) rfl
  have h509_ : a 4 6 = a0 4 6 := hf 4 6 rfl
  have h510_ := iv_get hv0 (k := 4) (j := 6) (l := 0) (u := 40) rfl
  have h511_ : a494_ 10 ((f_X0_toOf a494_ b0 y2).toNat) = a 10 ((f_X0_toOf a494_ b0 y2).toNat) := hf494_ 10 ((f_X0_toOf a494_ b0 y2).toNat) rfl
  have h512_ : a 10 ((f_X0_toOf a494_ b0 y2).toNat) = a0 10 ((f_X0_toOf a494_ b0 y2).toNat) := hf 10 ((f_X0_toOf a494_ b0 y2).toNat) rfl
  refine jt_ite (fun c513_ => ?_) (fun c513_ => ?_)
  ·
    have hf514_ : jfr jW_X11_withdraw a0 a494_ := jfr_tr hf hf494_ rfl
    exact cp_X11_withdraw_105 E d hd x1 a0 b0 hv0 hp0 hp1 a494_ hv494_ hf514_ hcic_ ⟨by rw [← h3.1]; exact funext fun j => hf494_ 87 j rfl, by rw [← h3.2.1]; exact funext fun j => hf494_ 88 j rfl, by rw [← h3.2.2]; exact funext fun j => hf494_ 89 j rfl⟩ (by rw [hcv1_, e9c_, wdr_yes]; rw [← hy2.1]; exact (by rw [if_pos (show a0 10 (vTo (cvC a0) y2.toNat).toNat = 0 from by by_cases z : a0 10 (a0 60 y2.toNat).toNat = 0 <;> first | exact z | (rw [if_neg z] at hth_; omega))]; rfl); rw [← hy2.1]; exact ⟨hy2.2.1, hy2.2.2.1, hy2.2.2.2⟩)
  ·
    have hf515_ : jfr jW_X11_withdraw a0 a494_ := jfr_tr hf hf494_ rfl
    exact cp_X11_withdraw_90 E d hd x1 a0 b0 hv0 hp0 hp1 y2 a494_ hv494_ hf515_ (show 0 ≤ y2 from by omega) (show y2 ≤ 299 from by omega) hcic_ ⟨by rw [← h3.1]; exact funext fun j => hf494_ 87 j rfl, by rw [← h3.2.1]; exact funext fun j => hf494_ 88 j rfl, by rw [← h3.2.2]; exact funext fun j => hf494_ 89 j rfl⟩ hy2 ⟨hcv1_, e9c_, fun z => by rw [if_pos z] at hth_; omega, (hf494_ 60 _ rfl).trans (hf 60 _ rfl)⟩
theorem cp_X11_withdraw_23 (E : jxE) (d : Nat) (hd : Nat.ble 4 (d + 1) = true) (x1 : Int) (a0 b0 : Nat → Nat → Int) (hv0 : iv a0) (hp0 : CIC a0) (hp1 : (0 ≤ x1 ∧ x1 < a0 83 6)) : ∀ (y1 s0 : Int) (a : Nat → Nat → Int), iv a → jfr jW_X11_withdraw a0 a → 0 ≤ y1 → (jfr jWwe a0 a) → (y1 = x1) → (s0 = (if a0 87 x1.toNat = 1 then a0 89 x1.toNat else -1)) → jt (jxX E d 159 23 [some (.inr (.inr (.inl 0))), some (.inl y1), none] [.inl s0] (jxSH, a, b0)) (jQ_X11_withdraw x1 a0 b0) := by
  intro y1 s0 a hv hf hi0 hfe hy1 hs0
  refine jt_eq (bq_X11_withdraw_23 E d y1 s0 a b0) ?_
  have ea := jfr_nil hfe
  have i588 := iv_get hv0 (k := 58) (j := 8) (l := 0) (u := 300) rfl
  refine jt_bV (sq_X4_takeAway E d (jd_le hd rfl) y1 a b0 hv) (fun a516_ b516_ h516_ => ?_)
  obtain ⟨hv516_, hf516_, rfl, hq516_0⟩ := h516_
  have h3_ := hq516_0 (by rw [hy1]; omega) (by rw [hy1, ea]; omega)
  rw [hy1, ea] at h3_
  have hcv_ : cvC a516_ = cvC a0 := (cvC_fr hf516_ rfl).trans (by rw [ea])
  have hci_ : CIC a516_ := by have q := hp0; unfold CIC at q ⊢; rw [hcv_, hf516_ 4 6 rfl, hf516_ 0 0 rfl, ea]; exact q
  have e00_ : a516_ 0 0 = a0 0 0 := by rw [hf516_ 0 0 rfl, ea]
  have e58_ : a516_ 58 8 = a0 58 8 := by rw [hf516_ 58 8 rfl, ea]
  have e9_ : a516_ 9 = a0 9 := by rw [show a516_ 9 = a 9 from funext fun j => hf516_ 9 j rfl, ea]
  have hst_ : 0 ≤ s0 → s0 < a516_ 58 8 → f_X0_stateNow a516_ b0 s0 (a516_ 0 0) = vSt (cvC a0) (a0 0 0) s0.toNat := fun h1 h2 => by rw [stNow_eqI hci_ rfl h1 h2, hcv_, e00_]
  refine jt_eI (eq_X0_has E d (jd_le hd rfl) s0 a516_ b0) ?_
  have h517_ := f_X0_has_eq a516_ b0 s0
  have h518_ := iv_get hv516_ (k := 58) (j := 8) (l := 0) (u := 300) rfl
  have h519_ : a516_ 58 8 = a 58 8 := hf516_ 58 8 rfl
  have h520_ := iv_get hv (k := 58) (j := 8) (l := 0) (u := 300) rfl
  have h521_ : a 58 8 = a0 58 8 := hf 58 8 rfl
  have h522_ := iv_get hv0 (k := 58) (j := 8) (l := 0) (u := 300) rfl
  refine jt_ite (fun c523_ => ?_) (fun c523_ => ?_)
  ·
    have hf524_ : jfr jW_X11_withdraw a0 a516_ := jfr_tr hf hf516_ rfl
    exact cp_X11_withdraw_58 E d hd x1 a0 b0 hv0 hp0 hp1 a516_ hv516_ hf524_ hci_ h3_ (by rw [hcv_, e9_, wdr_no]; rw [← hs0]; exact fun z => by have z1 := z.1; have z2 : s0 < a0 58 8 := z.2.1; have z3 : vSt (cvC a0) (a0 0 0) s0.toNat = 0 := z.2.2; have q := hst_ z1 (by omega); omega)
  ·
    refine jt_eI (eq_X0_stateNow E d (jd_le hd rfl) s0 (a516_ 0 0) a516_ b0) ?_
    have h525_ := iv_get hv516_ (k := 0) (j := 0) (l := 0) (u := 1999) rfl
    have h526_ : a516_ 0 0 = a 0 0 := hf516_ 0 0 rfl
    have h527_ := iv_get hv (k := 0) (j := 0) (l := 0) (u := 1999) rfl
    have h528_ : a 0 0 = a0 0 0 := hf 0 0 rfl
    have h529_ := iv_get hv0 (k := 0) (j := 0) (l := 0) (u := 1999) rfl
    have h530_ := f_X0_stateNow_eq a516_ b0 s0 (a516_ 0 0)
    have h531_ := f_X0_arrivedOnOf_eq a516_ b0 s0
    have h532_ := iv_get hv516_ (k := 58) (j := 12) (l := 0) (u := 600) rfl
    have h533_ : a516_ 58 12 = a 58 12 := hf516_ 58 12 rfl
    have h534_ := iv_get hv (k := 58) (j := 12) (l := 0) (u := 600) rfl
    have h535_ : a 58 12 = a0 58 12 := hf 58 12 rfl
    have h536_ := iv_get hv0 (k := 58) (j := 12) (l := 0) (u := 600) rfl
    have h537_ := f_X11_entry_r65_eq a516_ b0 (a516_ 58 8) s0
    have h538_ : a516_ 65 (s0.toNat) = a 65 (s0.toNat) := hf516_ 65 (s0.toNat) rfl
    have h539_ : a 65 (s0.toNat) = a0 65 (s0.toNat) := hf 65 (s0.toNat) rfl
    have h540_ := f_X11_entry_r67_eq a516_ b0 (a516_ 58 12) (f_X11_entry_r65 a516_ b0 (a516_ 58 8) s0)
    have h541_ : a516_ 67 ((f_X11_entry_r65 a516_ b0 (a516_ 58 8) s0).toNat) = a 67 ((f_X11_entry_r65 a516_ b0 (a516_ 58 8) s0).toNat) := hf516_ 67 ((f_X11_entry_r65 a516_ b0 (a516_ 58 8) s0).toNat) rfl
    have h542_ : a 67 ((f_X11_entry_r65 a516_ b0 (a516_ 58 8) s0).toNat) = a0 67 ((f_X11_entry_r65 a516_ b0 (a516_ 58 8) s0).toNat) := hf 67 ((f_X11_entry_r65 a516_ b0 (a516_ 58 8) s0).toNat) rfl
    refine jt_ite (fun c543_ => ?_) (fun c543_ => ?_)
    ·
      have hf544_ : jfr jW_X11_withdraw a0 a516_ := jfr_tr hf hf516_ rfl
      exact cp_X11_withdraw_60 E d hd x1 a0 b0 hv0 hp0 hp1 s0 a516_ hv516_ hf544_ (show 0 ≤ s0 from by omega) (show s0 ≤ 299 from by omega) hci_ h3_ (by have q := hst_ (by omega) (by omega); exact ⟨hs0, by omega, by omega, by omega⟩) ⟨hcv_, e9_, by rw [show a516_ 10 = a 10 from funext fun j => hf516_ 10 j rfl, ea], e00_⟩
    ·
      have hf545_ : jfr jW_X11_withdraw a0 a516_ := jfr_tr hf hf516_ rfl
      exact cp_X11_withdraw_58 E d hd x1 a0 b0 hv0 hp0 hp1 a516_ hv516_ hf545_ hci_ h3_ (by rw [hcv_, e9_, wdr_no]; rw [← hs0]; exact fun z => by have z1 := z.1; have z2 : s0 < a0 58 8 := z.2.1; have z3 : vSt (cvC a0) (a0 0 0) s0.toNat = 0 := z.2.2; have q := hst_ z1 (by omega); omega)
theorem sp_X11_withdraw (E : jxE) (d : Nat) (hd : Nat.ble 4 d = true) (x1 : Int) (a0 b0 : Nat → Nat → Int) (hv0 : iv a0) (hp0 : CIC a0) (hp1 : (0 ≤ x1 ∧ x1 < a0 83 6)) : jt (jxC E d 159 [.inr (.inr (.inl 0)), .inl x1] (jxSH, a0, b0)) (jQ_X11_withdraw x1 a0 b0) := by
  obtain ⟨d, rfl⟩ := jd_succ hd
  refine jt_eq (bq_X11_withdraw E d x1 a0 b0) ?_
  have h546_ := iv_get hv0 (k := 83) (j := 6) (l := 0) (u := 20) rfl
  have h836 := iv_get hv0 (k := 83) (j := 6) (l := 0) (u := 20) rfl
  refine jt_eI (eq_X4_isInRing E d (jd_le hd rfl) x1 a0 b0) ?_
  have h547_ := f_X4_isInRing_eq a0 b0 x1
  have h548_ := f_X4_has_eq a0 b0 x1
  refine jt_ite (fun c549_ => ?_) (fun c549_ => ?_)
  ·
    exact cp_X11_withdraw_23 E d hd x1 a0 b0 hv0 hp0 hp1 x1 (-1) a0 hv0 (jfr_rf _ _) (show 0 ≤ x1 from by omega) (jfr_rf _ _) (by first | rfl | assumption) (by first | (rw [if_pos (by omega)]; omega) | rw [if_neg (by omega)])
  ·
    refine jt_eI (eq_X4_cardOf E d (jd_le hd rfl) x1 a0 b0) ?_
    have h550_ := f_X4_cardOf_eq a0 b0 x1
    have h551_ := f_X11_entry_r89_eq a0 b0 (a0 83 6) x1
    exact cp_X11_withdraw_23 E d hd x1 a0 b0 hv0 hp0 hp1 x1 (f_X4_cardOf a0 b0 x1) a0 hv0 (jfr_rf _ _) (show 0 ≤ x1 from by omega) (jfr_rf _ _) (by first | rfl | assumption) (by first | (rw [if_pos (by omega)]; omega) | rw [if_neg (by omega)])
def jW_X11_drop : List (Nat × Nat) := [(9, 9999), (64, 9999), (87, 9999), (88, 9999), (89, 9999)]
abbrev jQ_X11_drop (x1 x2 : Int) (a0 b0 : Nat → Nat → Int) : List jxV → (Nat → Nat → Int) → (Nat → Nat → Int) → Prop := rI (fun r a b => (iv a) ∧ (jfr jW_X11_drop a0 a) ∧ (b0 = b) ∧ ((a0 83 6 = 0 → r = 0 - 1)) ∧ (CIC a) ∧ (FOF (a0 87) (a0 88) (a0 84) x1 x2 (a0 83 6).toNat = -1 → r = -1 ∧ cvC a = cvC a0 ∧ a 9 = a0 9 ∧ a 87 = a0 87 ∧ a 88 = a0 88 ∧ a 89 = a0 89) ∧ (¬ FOF (a0 87) (a0 88) (a0 84) x1 x2 (a0 83 6).toNat = -1 → (cvC a, a 9, r) = wdr (a0 0 0) (a0 10) (a0 89 (FOF (a0 87) (a0 88) (a0 84) x1 x2 (a0 83 6).toNat).toNat) (cvC a0, a0 9, 0) ∧ a 87 = rup (a0 87) (FOF (a0 87) (a0 88) (a0 84) x1 x2 (a0 83 6).toNat).toNat 2 ∧ a 88 = rup (a0 88) (FOF (a0 87) (a0 88) (a0 84) x1 x2 (a0 83 6).toNat).toNat (-1) ∧ a 89 = rup (a0 89) (FOF (a0 87) (a0 88) (a0 84) x1 x2 (a0 83 6).toNat).toNat (-1)))
theorem sp_X11_drop (E : jxE) (d : Nat) (hd : Nat.ble 5 d = true) (x1 x2 : Int) (a0 b0 : Nat → Nat → Int) (hv0 : iv a0) (hp0 : CIC a0) : jt (jxC E d 189 [.inr (.inr (.inl 0)), .inl x1, .inl x2] (jxSH, a0, b0)) (jQ_X11_drop x1 x2 a0 b0) := by
  obtain ⟨d, rfl⟩ := jd_succ hd
  refine jt_eq (bq_X11_drop E d x1 x2 a0 b0) ?_
  refine jt_bI (sq_X4_offerInRing E d (jd_le hd rfl) x1 x2 a0 b0 hv0) (fun r552_ a552_ b552_ h552_ => ?_)
  obtain ⟨rfl, rfl, hq552_0, hq552_1⟩ := h552_
  have h553_ := iv_get hv0 (k := 83) (j := 6) (l := 0) (u := 20) rfl
  have hfr_ := FOF_rg (a0 87) (a0 88) (a0 84) x1 x2 (a0 83 6).toNat
  rw [← hq552_1] at hfr_
  have i836 := iv_get hv0 (k := 83) (j := 6) (l := 0) (u := 20) rfl
  refine jt_ite (fun c554_ => ?_) (fun c554_ => ?_)
  ·
    exact jt_rI ⟨hv0, (jfr_rf _ _), rfl, (show (a0 83 6 = 0 → (-1) = 0 - 1) from by omega), hp0, (fun _ => ⟨rfl, rfl, rfl, rfl, rfl, rfl⟩), (fun h => absurd (by rw [← hq552_1]; assumption) h)⟩
  ·
    refine jt_bI (sp_X11_withdraw E d (jd_le hd rfl) r552_ a0 b0 hv0 hp0 (show (0 ≤ r552_ ∧ r552_ < a0 83 6) from by omega)) (fun r555_ a555_ b555_ h555_ => ?_)
    obtain ⟨hv555_, hf555_, rfl, hq555_0, hq555_1, hq555_2, hq555_3⟩ := h555_
    have hf556_ : jfr jW_X11_drop a0 a555_ := jfr_tr (jfr_rf _ _) hf555_ rfl
    exact jt_rI ⟨hv555_, hf556_, rfl, (show (a0 83 6 = 0 → r555_ = 0 - 1) from by omega), hq555_0, (fun h => absurd h (by rw [← hq552_1]; assumption)), (fun _ => by rw [← hq552_1]; have q := hq555_1; rw [if_pos (by have z := hfr_.resolve_left (by omega); exact z.2.2.1)] at q; exact ⟨q, hq555_2⟩)⟩
def jW_X11_leave : List (Nat × Nat) := [(9, 9999), (10, 9999), (64, 9999), (87, 9999), (88, 9999), (89, 9999)]
abbrev jQ_X11_leave (x1 : Int) (a0 b0 : Nat → Nat → Int) : List jxV → (Nat → Nat → Int) → (Nat → Nat → Int) → Prop := rI (fun r a b => (iv a) ∧ (jfr jW_X11_leave a0 a) ∧ (b0 = b) ∧ ((a0 4 6 = 0 → r = 0 - 1)) ∧ (0 ≤ x1 ∧ x1 < a0 4 6 ∧ ¬ a0 10 x1.toNat = 0 → UP (a0 10) (a 10) x1.toNat 0) ∧ (x1 < 0 ∨ a0 4 6 ≤ x1 ∨ a0 10 x1.toNat = 0 → ∀ j, a 10 j = a0 10 j) ∧ (CIC a) ∧ ((0 ≤ x1 ∧ x1 < a0 4 6 ∧ ¬ a0 10 x1.toNat = 0) → ((cvC a, a 9, r), a 87) = lvo (a0 0 0) x1 (rup (a0 10) x1.toNat 0) (a0 84) (a0 89) (a0 83 6).toNat (cnc (a0 0 0) x1 (a0 58 8).toNat (cvC a0, a0 9, 0), a0 87) ∧ a 10 = rup (a0 10) x1.toNat 0 ∧ ∀ k : Nat, a 87 k = 1 → a 88 k = a0 88 k ∧ a 89 k = a0 89 k ∧ a0 87 k = 1) ∧ (¬ (0 ≤ x1 ∧ x1 < a0 4 6 ∧ ¬ a0 10 x1.toNat = 0) → r = -1 ∧ cvC a = cvC a0 ∧ a 9 = a0 9 ∧ a 87 = a0 87 ∧ a 88 = a0 88 ∧ a 89 = a0 89 ∧ a 10 = a0 10))
theorem cp_X11_leave_29 (E : jxE) (d : Nat) (hd : Nat.ble 5 (d + 1) = true) (x1 : Int) (a0 b0 : Nat → Nat → Int) (hv0 : iv a0) (hp0 : CIC a0) : ∀ n : Nat, (∀ (y1 y2 y3 : Int) (a : Nat → Nat → Int), (((20 - y3) * 1) + 0).toNat ≤ n → iv a → jfr jW_X11_leave a0 a → 0 ≤ y1 → y1 ≤ 39 → 0 ≤ y3 → y3 ≤ 19 → (UP (a0 10) (a 10) x1.toNat 0) → (y1 = x1) → 0 ≤ y3 → 0 ≤ y2 → (CIC a) → y3 < a 83 6 → y2 ≤ 301 + y3 → (a 10 = rup (a0 10) x1.toNat 0) → (((cvC a, a 9, y2), a 87) = lvo (a0 0 0) x1 (rup (a0 10) x1.toNat 0) (a0 84) (a0 89) (y3.toNat + 1) (cnc (a0 0 0) x1 (a0 58 8).toNat (cvC a0, a0 9, 0), a0 87)) → (∀ k : Nat, y3 + 1 ≤ (k : Int) → a 87 k = a0 87 k ∧ a 89 k = a0 89 k) → (∀ k : Nat, a 87 k = 1 → a 88 k = a0 88 k ∧ a 89 k = a0 89 k ∧ a0 87 k = 1) → 1 ≤ a0 4 6 → ((0 ≤ x1 ∧ x1 < a0 4 6) ∧ ¬ a0 10 (x1.toNat) = 0) → jt (jxX E d 157 60 [some (.inr (.inr (.inl 0))), some (.inl y1), some (.inl y2), some (.inl y3)] [] (jxSH, a, b0)) (jQ_X11_leave x1 a0 b0)) ∧ (∀ (y1 y2 y3 : Int) (a : Nat → Nat → Int), (((20 - y3) * 1) + 0).toNat ≤ n → iv a → jfr jW_X11_leave a0 a → 0 ≤ y1 → y1 ≤ 39 → 0 ≤ y3 → y3 ≤ 20 → (UP (a0 10) (a 10) x1.toNat 0) → (y1 = x1) → 0 ≤ y3 → 0 ≤ y2 → (CIC a) → y3 ≤ a 83 6 → y2 ≤ 300 + y3 → (a 10 = rup (a0 10) x1.toNat 0) → (((cvC a, a 9, y2), a 87) = lvo (a0 0 0) x1 (rup (a0 10) x1.toNat 0) (a0 84) (a0 89) y3.toNat (cnc (a0 0 0) x1 (a0 58 8).toNat (cvC a0, a0 9, 0), a0 87)) → (∀ k : Nat, y3 ≤ (k : Int) → a 87 k = a0 87 k ∧ a 89 k = a0 89 k) → (∀ k : Nat, a 87 k = 1 → a 88 k = a0 88 k ∧ a 89 k = a0 89 k ∧ a0 87 k = 1) → 1 ≤ a0 4 6 → ((0 ≤ x1 ∧ x1 < a0 4 6) ∧ ¬ a0 10 (x1.toNat) = 0) → jt (jxX E d 157 29 [some (.inr (.inr (.inl 0))), some (.inl y1), some (.inl y2), some (.inl y3)] [] (jxSH, a, b0)) (jQ_X11_leave x1 a0 b0)) := by
  refine jx_ind fun n ih => ?_
  have ih60 : ∀ (y1 y2 y3 : Int) (a : Nat → Nat → Int), (((20 - y3) * 1) + 0).toNat < n → iv a → jfr jW_X11_leave a0 a → 0 ≤ y1 → y1 ≤ 39 → 0 ≤ y3 → y3 ≤ 19 → (UP (a0 10) (a 10) x1.toNat 0) → (y1 = x1) → 0 ≤ y3 → 0 ≤ y2 → (CIC a) → y3 < a 83 6 → y2 ≤ 301 + y3 → (a 10 = rup (a0 10) x1.toNat 0) → (((cvC a, a 9, y2), a 87) = lvo (a0 0 0) x1 (rup (a0 10) x1.toNat 0) (a0 84) (a0 89) (y3.toNat + 1) (cnc (a0 0 0) x1 (a0 58 8).toNat (cvC a0, a0 9, 0), a0 87)) → (∀ k : Nat, y3 + 1 ≤ (k : Int) → a 87 k = a0 87 k ∧ a 89 k = a0 89 k) → (∀ k : Nat, a 87 k = 1 → a 88 k = a0 88 k ∧ a 89 k = a0 89 k ∧ a0 87 k = 1) → 1 ≤ a0 4 6 → ((0 ≤ x1 ∧ x1 < a0 4 6) ∧ ¬ a0 10 (x1.toNat) = 0) → jt (jxX E d 157 60 [some (.inr (.inr (.inl 0))), some (.inl y1), some (.inl y2), some (.inl y3)] [] (jxSH, a, b0)) (jQ_X11_leave x1 a0 b0) := fun y1 y2 y3 a hlt i0 i1 i2 i3 i4 i5 i6 i7 i8 i9 i10 i11 i12 i13 i14 i15 i16 i17 i18 => (ih _ hlt).1 y1 y2 y3 a (Nat.le_refl _) i0 i1 i2 i3 i4 i5 i6 i7 i8 i9 i10 i11 i12 i13 i14 i15 i16 i17 i18
  have ih29 : ∀ (y1 y2 y3 : Int) (a : Nat → Nat → Int), (((20 - y3) * 1) + 0).toNat < n → iv a → jfr jW_X11_leave a0 a → 0 ≤ y1 → y1 ≤ 39 → 0 ≤ y3 → y3 ≤ 20 → (UP (a0 10) (a 10) x1.toNat 0) → (y1 = x1) → 0 ≤ y3 → 0 ≤ y2 → (CIC a) → y3 ≤ a 83 6 → y2 ≤ 300 + y3 → (a 10 = rup (a0 10) x1.toNat 0) → (((cvC a, a 9, y2), a 87) = lvo (a0 0 0) x1 (rup (a0 10) x1.toNat 0) (a0 84) (a0 89) y3.toNat (cnc (a0 0 0) x1 (a0 58 8).toNat (cvC a0, a0 9, 0), a0 87)) → (∀ k : Nat, y3 ≤ (k : Int) → a 87 k = a0 87 k ∧ a 89 k = a0 89 k) → (∀ k : Nat, a 87 k = 1 → a 88 k = a0 88 k ∧ a 89 k = a0 89 k ∧ a0 87 k = 1) → 1 ≤ a0 4 6 → ((0 ≤ x1 ∧ x1 < a0 4 6) ∧ ¬ a0 10 (x1.toNat) = 0) → jt (jxX E d 157 29 [some (.inr (.inr (.inl 0))), some (.inl y1), some (.inl y2), some (.inl y3)] [] (jxSH, a, b0)) (jQ_X11_leave x1 a0 b0) := fun y1 y2 y3 a hlt i0 i1 i2 i3 i4 i5 i6 i7 i8 i9 i10 i11 i12 i13 i14 i15 i16 i17 i18 => (ih _ hlt).2 y1 y2 y3 a (Nat.le_refl _) i0 i1 i2 i3 i4 i5 i6 i7 i8 i9 i10 i11 i12 i13 i14 i15 i16 i17 i18
  have hc60 : ∀ (y1 y2 y3 : Int) (a : Nat → Nat → Int), (((20 - y3) * 1) + 0).toNat ≤ n → iv a → jfr jW_X11_leave a0 a → 0 ≤ y1 → y1 ≤ 39 → 0 ≤ y3 → y3 ≤ 19 → (UP (a0 10) (a 10) x1.toNat 0) → (y1 = x1) → 0 ≤ y3 → 0 ≤ y2 → (CIC a) → y3 < a 83 6 → y2 ≤ 301 + y3 → (a 10 = rup (a0 10) x1.toNat 0) → (((cvC a, a 9, y2), a 87) = lvo (a0 0 0) x1 (rup (a0 10) x1.toNat 0) (a0 84) (a0 89) (y3.toNat + 1) (cnc (a0 0 0) x1 (a0 58 8).toNat (cvC a0, a0 9, 0), a0 87)) → (∀ k : Nat, y3 + 1 ≤ (k : Int) → a 87 k = a0 87 k ∧ a 89 k = a0 89 k) → (∀ k : Nat, a 87 k = 1 → a 88 k = a0 88 k ∧ a 89 k = a0 89 k ∧ a0 87 k = 1) → 1 ≤ a0 4 6 → ((0 ≤ x1 ∧ x1 < a0 4 6) ∧ ¬ a0 10 (x1.toNat) = 0) → jt (jxX E d 157 60 [some (.inr (.inr (.inl 0))), some (.inl y1), some (.inl y2), some (.inl y3)] [] (jxSH, a, b0)) (jQ_X11_leave x1 a0 b0) := by
    intro y1 y2 y3 a hm hv hf hi0 hi1 hi2 hi3 hu10 hy1 hi6 hi7 hci hi9 hi10 h10 hl hk hk1 hi15 hi16
    refine jt_eq (bq_X11_leave_60 E d y1 y2 y3 a b0) ?_
    have h557_ := iv_get hv (k := 83) (j := 6) (l := 0) (u := 20) rfl
    have h558_ : a 83 6 = a0 83 6 := hf 83 6 rfl
    have h559_ := iv_get hv0 (k := 83) (j := 6) (l := 0) (u := 20) rfl
    have h560_ := iv_get hv0 (k := 4) (j := 6) (l := 0) (u := 40) rfl
    have h561_ : jxw (y3 + 1) = y3 + 1 := jxw_id (by omega) (by omega)
    exact ih29 y1 y2 (jxw (y3 + 1)) a (show (((20 - (jxw (y3 + 1))) * 1) + 0).toNat < n from by omega) hv hf (show 0 ≤ y1 from by omega) (show y1 ≤ 39 from by omega) (show 0 ≤ jxw (y3 + 1) from by omega) (show jxw (y3 + 1) ≤ 20 from by omega) (UP_cr hu10 (fun j => rfl)) (by first | rfl | assumption) (show 0 ≤ jxw (y3 + 1) from by omega) (show 0 ≤ y2 from by omega) hci (show jxw (y3 + 1) ≤ a 83 6 from by omega) (show y2 ≤ 300 + (jxw (y3 + 1)) from by omega) h10 (by rw [show (jxw (y3 + 1)).toNat = y3.toNat + 1 from by omega]; exact hl) (fun k hk2 => hk k (by omega)) hk1 (show 1 ≤ a0 4 6 from by omega) (show ((0 ≤ x1 ∧ x1 < a0 4 6) ∧ ¬ a0 10 (x1.toNat) = 0) from by omega)
  have hc29 : ∀ (y1 y2 y3 : Int) (a : Nat → Nat → Int), (((20 - y3) * 1) + 0).toNat ≤ n → iv a → jfr jW_X11_leave a0 a → 0 ≤ y1 → y1 ≤ 39 → 0 ≤ y3 → y3 ≤ 20 → (UP (a0 10) (a 10) x1.toNat 0) → (y1 = x1) → 0 ≤ y3 → 0 ≤ y2 → (CIC a) → y3 ≤ a 83 6 → y2 ≤ 300 + y3 → (a 10 = rup (a0 10) x1.toNat 0) → (((cvC a, a 9, y2), a 87) = lvo (a0 0 0) x1 (rup (a0 10) x1.toNat 0) (a0 84) (a0 89) y3.toNat (cnc (a0 0 0) x1 (a0 58 8).toNat (cvC a0, a0 9, 0), a0 87)) → (∀ k : Nat, y3 ≤ (k : Int) → a 87 k = a0 87 k ∧ a 89 k = a0 89 k) → (∀ k : Nat, a 87 k = 1 → a 88 k = a0 88 k ∧ a 89 k = a0 89 k ∧ a0 87 k = 1) → 1 ≤ a0 4 6 → ((0 ≤ x1 ∧ x1 < a0 4 6) ∧ ¬ a0 10 (x1.toNat) = 0) → jt (jxX E d 157 29 [some (.inr (.inr (.inl 0))), some (.inl y1), some (.inl y2), some (.inl y3)] [] (jxSH, a, b0)) (jQ_X11_leave x1 a0 b0) := by
    intro y1 y2 y3 a hm hv hf hi0 hi1 hi2 hi3 hu10 hy1 hi6 hi7 hci hi9 hi10 h10 hl hk hk1 hi15 hi16
    refine jt_eq (bq_X11_leave_29 E d y1 y2 y3 a b0) ?_
    have h562_ := iv_get hv (k := 83) (j := 6) (l := 0) (u := 20) rfl
    have h563_ : a 83 6 = a0 83 6 := hf 83 6 rfl
    have h564_ := iv_get hv0 (k := 83) (j := 6) (l := 0) (u := 20) rfl
    have h565_ := iv_get hv0 (k := 4) (j := 6) (l := 0) (u := 40) rfl
    have i836 := iv_get hv (k := 83) (j := 6) (l := 0) (u := 20) rfl
    have hmo : y3 < a 83 6 → f_X4_memberOf a b0 y3 = a0 84 y3.toNat := fun h => by rw [memOf_at (by omega) h i836.2]; exact hf 84 _ rfl
    have e00 := hf 0 0 rfl
    refine jt_eI (eq_X4_size E d (jd_le hd rfl) a b0) ?_
    have h566_ := f_X4_size_eq a b0
    refine jt_ite (fun c567_ => ?_) (fun c567_ => ?_)
    ·
      refine jt_eI (eq_X4_memberOf E d (jd_le hd rfl) y3 a b0) ?_
      have h568_ := f_X4_memberOf_eq a b0 y3
      have h569_ := f_X11_entry_r84_eq a b0 (a 83 6) y3
      have h570_ : a 84 (y3.toNat) = a0 84 (y3.toNat) := hf 84 (y3.toNat) rfl
      refine jt_ite (fun c571_ => ?_) (fun c571_ => ?_)
      ·
        refine jt_bI (sp_X11_withdraw E d (jd_le hd rfl) y3 a b0 hv hci (show (0 ≤ y3 ∧ y3 < a 83 6) from by omega)) (fun r572_ a572_ b572_ h572_ => ?_)
        obtain ⟨hv572_, hf572_, rfl, hq572_0, hq572_1, hq572_2, hq572_3⟩ := h572_
        have hf573_ : jfr jW_X11_leave a0 a572_ := jfr_tr hf hf572_ rfl
        have h574_ := jxw_im (y2 + r572_)
        have h575_ := jxw_rg (y2 + r572_)
        have h576_ := iv_get hv572_ (k := 83) (j := 6) (l := 0) (u := 20) rfl
        have h577_ : a572_ 83 6 = a 83 6 := hf572_ 83 6 rfl
        exact hc60 y1 (jxw (y2 + r572_)) y3 a572_ (show (((20 - y3) * 1) + 0).toNat ≤ n from by omega) hv572_ hf573_ (show 0 ≤ y1 from by omega) (show y1 ≤ 39 from by omega) (show 0 ≤ y3 from by omega) (show y3 ≤ 19 from by omega) (UP_cr hu10 (fun j => (hf572_ 10 j rfl))) (by first | rfl | assumption) (show 0 ≤ y3 from by omega) (show 0 ≤ jxw (y2 + r572_) from by omega) hq572_0 (show y3 < a572_ 83 6 from by omega) (show jxw (y2 + r572_) ≤ 301 + y3 from by omega) ((show a572_ 10 = a 10 from funext fun j => hf572_ 10 j rfl).trans h10) (by have q := hq572_1; have q2 := hq572_2; have hk0 := hk y3.toNat (by omega); rw [hk0.2, e00, h10] at q; obtain ⟨w1, w2, w3⟩ := LV_step (y := y2) q; rw [lvo_yes hl (by rw [← hmo (by omega)]; omega), show jxw (y2 + r572_) = y2 + r572_ from jxw_id (by omega) (by omega), w1, q2.1]) (fun k hk2 => by have q2 := hq572_2; rw [q2.1, q2.2.2, rup_ne (by omega), rup_ne (by omega)]; exact hk k (by omega)) (fun k h => by have q2 := hq572_2; rw [q2.1] at h; have ne : ¬ k = y3.toNat := (fun z => by rw [z, rup_at] at h; exact absurd h (by decide)); rw [rup_ne ne] at h; rw [q2.2.1, q2.2.2, rup_ne ne, rup_ne ne]; exact hk1 k h) (show 1 ≤ a0 4 6 from by omega) (show ((0 ≤ x1 ∧ x1 < a0 4 6) ∧ ¬ a0 10 (x1.toNat) = 0) from by omega)
      ·
        exact hc60 y1 y2 y3 a (show (((20 - y3) * 1) + 0).toNat ≤ n from by omega) hv hf (show 0 ≤ y1 from by omega) (show y1 ≤ 39 from by omega) (show 0 ≤ y3 from by omega) (show y3 ≤ 19 from by omega) (UP_cr hu10 (fun j => rfl)) (by first | rfl | assumption) (show 0 ≤ y3 from by omega) (show 0 ≤ y2 from by omega) hci (show y3 < a 83 6 from by omega) (show y2 ≤ 301 + y3 from by omega) h10 (by rw [lvo_no hl (by rw [← hmo (by omega)]; omega)]) (fun k hk2 => hk k (by omega)) hk1 (show 1 ≤ a0 4 6 from by omega) (show ((0 ≤ x1 ∧ x1 < a0 4 6) ∧ ¬ a0 10 (x1.toNat) = 0) from by omega)
    ·
      exact jt_rI ⟨hv, hf, rfl, (show (a0 4 6 = 0 → y2 = 0 - 1) from by omega), (fun _ => (UP_cr hu10 (fun j => rfl))), (fun h => absurd h (by omega)), hci, (fun _ => ⟨by rw [show (a0 83 6).toNat = y3.toNat from by omega]; exact hl, h10, hk1⟩), (fun h => absurd (by omega) h)⟩
  exact ⟨hc60, hc29⟩
theorem sp_X11_leave (E : jxE) (d : Nat) (hd : Nat.ble 5 d = true) (x1 : Int) (a0 b0 : Nat → Nat → Int) (hv0 : iv a0) (hp0 : CIC a0) : jt (jxC E d 157 [.inr (.inr (.inl 0)), .inl x1] (jxSH, a0, b0)) (jQ_X11_leave x1 a0 b0) := by
  obtain ⟨d, rfl⟩ := jd_succ hd
  refine jt_eq (bq_X11_leave E d x1 a0 b0) ?_
  refine jt_eI (eq_X3_isThere E d (jd_le hd rfl) x1 a0 b0) ?_
  have h578_ := f_X3_isThere_eq a0 b0 x1
  have h579_ := f_X3_has_eq a0 b0 x1
  have h580_ := iv_get hv0 (k := 4) (j := 6) (l := 0) (u := 40) rfl
  refine jt_ite (fun c581_ => ?_) (fun c581_ => ?_)
  ·
    exact jt_rI ⟨hv0, (jfr_rf _ _), rfl, (show (a0 4 6 = 0 → (-1) = 0 - 1) from by omega), (fun h => absurd h (by omega)), (fun _ j => rfl), hp0, (fun h => absurd h (by omega)), (fun _ => ⟨rfl, rfl, rfl, rfl, rfl, rfl, rfl⟩)⟩
  ·
    refine jt_bV (sp_X3_goAway E d (jd_le hd rfl) x1 a0 b0 hv0) (fun a582_ b582_ h582_ => ?_)
    obtain ⟨hv582_, hf582_, rfl, hq582_0⟩ := h582_
    refine jt_bI (sp_X11_cancelCardsTo E d (jd_le hd rfl) x1 a582_ b0 hv582_ (CIC_fr hp0 hf582_ rfl rfl rfl rfl (fun _ => rfl) (fun _ => rfl) (fun _ => rfl) (fun _ => rfl) (fun _ => rfl) (fun _ => rfl) (fun _ => rfl) (fun _ => rfl) (fun _ => rfl) (fun _ => rfl))) (fun r583_ a583_ b583_ h583_ => ?_)
    obtain ⟨hv583_, hf583_, rfl, hq583_0, hq583_1, hq583_2⟩ := h583_
    have hf584_ : jfr jW_X11_leave a0 a582_ := jfr_tr (jfr_rf _ _) hf582_ rfl
    have hf585_ : jfr jW_X11_leave a0 a583_ := jfr_tr hf584_ hf583_ rfl
    have h586_ := iv_get hv583_ (k := 83) (j := 6) (l := 0) (u := 20) rfl
    have h587_ : a583_ 83 6 = a582_ 83 6 := hf583_ 83 6 rfl
    have h588_ := iv_get hv582_ (k := 83) (j := 6) (l := 0) (u := 20) rfl
    have h589_ : a582_ 83 6 = a0 83 6 := hf582_ 83 6 rfl
    have h590_ := iv_get hv0 (k := 83) (j := 6) (l := 0) (u := 20) rfl
    exact (cp_X11_leave_29 E d hd x1 a0 b0 hv0 hp0 _).2 x1 r583_ 0 a583_ (Nat.le_refl _) hv583_ hf585_ (show 0 ≤ x1 from by omega) (show x1 ≤ 39 from by omega) (show 0 ≤ 0 from by omega) (show 0 ≤ 20 from by omega) (UP_cr (hq582_0 (by omega)) (fun j => (hf583_ 10 j rfl))) (by first | rfl | assumption) (show 0 ≤ 0 from by omega) (show 0 ≤ r583_ from by omega) hq583_0 (show 0 ≤ a583_ 83 6 from by omega) (show r583_ ≤ 300 + 0 from by omega) ((show a583_ 10 = a582_ 10 from funext fun j => hf583_ 10 j rfl).trans (UP_rup (hq582_0 (by omega)))) (by have q := hq583_1; rw [show cvC a582_ = cvC a0 from cvC_fr hf582_ rfl, show a582_ 9 = a0 9 from funext fun j => hf582_ 9 j rfl, hf582_ 0 0 rfl, hf582_ 58 8 rfl] at q; show ((cvC a583_, a583_ 9, r583_), a583_ 87) = (_, a0 87); rw [q, show a583_ 87 = a0 87 from funext fun j => (hf583_ 87 j rfl).trans (hf582_ 87 j rfl)]) (fun k _ => ⟨(hf583_ 87 k rfl).trans (hf582_ 87 k rfl), (hf583_ 89 k rfl).trans (hf582_ 89 k rfl)⟩) (fun k h => ⟨(hf583_ 88 k rfl).trans (hf582_ 88 k rfl), (hf583_ 89 k rfl).trans (hf582_ 89 k rfl), by rw [← h]; exact ((hf583_ 87 k rfl).trans (hf582_ 87 k rfl)).symm⟩) (show 1 ≤ a0 4 6 from by omega) (show ((0 ≤ x1 ∧ x1 < a0 4 6) ∧ ¬ a0 10 (x1.toNat) = 0) from by omega)
