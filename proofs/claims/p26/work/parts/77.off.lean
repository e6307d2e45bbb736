abbrev jR_X11_away (x1 : Int) (a0 b0 : Nat → Nat → Int) : List jxV → (Nat → Nat → Int) → (Nat → Nat → Int) → Prop := rI (fun r a b => (iv a) ∧ (jfr jW_X11_away a0 a) ∧ (b0 = b) ∧ ((0 ≤ r ∧ r ≤ 1)) ∧ ((a0 83 6 = 0 → r = 0)) ∧ (AWC a0 a x1 r))
theorem sq_X11_away (E : jxE) (d : Nat) (hd : Nat.ble 3 d = true) (x1 : Int) (a0 b0 : Nat → Nat → Int) (hv0 : iv a0) : jt (jxC E d 185 [.inr (.inr (.inl 0)), .inl x1] (jxSH, a0, b0)) (jR_X11_away x1 a0 b0) := by
  obtain ⟨d, rfl⟩ := jd_succ hd
  refine jt_eq (bq_X11_away E d x1 a0 b0) ?_
  have hawo_ := AWO_c (a := a0) (b := b0) (x := x1) (iv_get hv0 (k := 83) (j := 6) (l := 0) (u := 20) rfl).2
  refine jt_eI (eq_X4_isOpen E d (jd_le hd rfl) x1 a0 b0) ?_
  have h1626_ := f_X4_isOpen_eq a0 b0 x1
  have h1627_ := f_X4_has_eq a0 b0 x1
  have h1628_ := iv_get hv0 (k := 83) (j := 6) (l := 0) (u := 20) rfl
  refine jt_ite (fun c1629_ => ?_) (fun c1629_ => ?_)
  ·
    exact jt_rI ⟨hv0, (jfr_rf _ _), rfl, (show (0 ≤ 0 ∧ 0 ≤ 1) from by omega), (show (a0 83 6 = 0 → 0 = 0) from by omega), (Or.inr ⟨fun z => (hawo_.2 z) (by assumption), rfl, rfl, rfl, rfl⟩)⟩
  ·
    refine jt_bV (sq_X4_takeAway E d (jd_le hd rfl) x1 a0 b0 hv0) (fun a1630_ b1630_ h1630_ => ?_)
    obtain ⟨hv1630_, hf1630_, rfl, hq1630_0⟩ := h1630_
    have hf1631_ : jfr jW_X11_away a0 a1630_ := jfr_tr (jfr_rf _ _) hf1630_ rfl
    exact jt_rI ⟨hv1630_, hf1631_, rfl, (show (0 ≤ 1 ∧ 1 ≤ 1) from by omega), (show (a0 83 6 = 0 → 1 = 0) from by omega), (by have q_ := hawo_.1 (by assumption); exact Or.inl ⟨q_, rfl, hq1630_0 q_.1 q_.2.1⟩)⟩
def jWl76 : List (Nat × Nat) := []
abbrev jR_X11_list (x1 : Int) (a0 b0 : Nat → Nat → Int) : List jxV → (Nat → Nat → Int) → (Nat → Nat → Int) → Prop := rI (fun r a b => (iv a) ∧ (jfr jW_X11_list a0 a) ∧ (b0 = b) ∧ ((a0 4 6 = 0 → r = 0 - 1)) ∧ (LSP (a0 0 9) (a 0 9) (a0 76) (a 76) (a0 4 6) x1 r))
theorem cr_X11_list_67 (E : jxE) (d : Nat) (hd : Nat.ble 2 (d + 1) = true) (x1 : Int) (a0 b0 : Nat → Nat → Int) (hv0 : iv a0) : ∀ (a : Nat → Nat → Int), iv a → jfr jW_X11_list a0 a → 1 ≤ a 0 9 → (LSP (a0 0 9) (a 0 9) (a0 76) (a 76) (a0 4 6) x1 (a 0 9)) → 1 ≤ a0 4 6 → jt (jxX E d 167 67 [some (.inr (.inr (.inl 0))), none, none] [] (jxSH, a, b0)) (jR_X11_list x1 a0 b0) := by
  intro a hv hf hi0 hls hi2
  refine jt_eq (bq_X11_list_67 E d a b0) ?_
  have h1632_ := iv_get hv (k := 0) (j := 9) (l := 0) (u := 8) rfl
  have h1633_ := iv_get hv0 (k := 4) (j := 6) (l := 0) (u := 40) rfl
  exact jt_rI ⟨hv, hf, rfl, (show (a0 4 6 = 0 → a 0 9 = 0 - 1) from by omega), hls⟩
theorem cr_X11_list_24 (E : jxE) (d : Nat) (hd : Nat.ble 2 (d + 1) = true) (x1 : Int) (a0 b0 : Nat → Nat → Int) (hv0 : iv a0) : ∀ n : Nat, (∀ (y1 y2 : Int) (a : Nat → Nat → Int), (((7 - y2) * 1) + 0).toNat ≤ n → iv a → jfr jW_X11_list a0 a → 0 ≤ y1 → y1 ≤ 39 → 0 ≤ y2 → y2 ≤ 7 → a 0 9 ≤ 7 → (jfr jWl76 a0 a) → ((y1 = x1 ∧ 0 ≤ x1) ∧ x1 < a 4 6) → a 0 9 < 8 → 0 ≤ y2 → (∀ i : Nat, (i : Int) < y2 → ¬ a0 76 i = x1) → 1 ≤ a0 4 6 → jt (jxX E d 167 24 [some (.inr (.inr (.inl 0))), some (.inl y1), some (.inl y2)] [] (jxSH, a, b0)) (jR_X11_list x1 a0 b0)) := by
  refine jx_ind fun n ih => ?_
  have ih24 : ∀ (y1 y2 : Int) (a : Nat → Nat → Int), (((7 - y2) * 1) + 0).toNat < n → iv a → jfr jW_X11_list a0 a → 0 ≤ y1 → y1 ≤ 39 → 0 ≤ y2 → y2 ≤ 7 → a 0 9 ≤ 7 → (jfr jWl76 a0 a) → ((y1 = x1 ∧ 0 ≤ x1) ∧ x1 < a 4 6) → a 0 9 < 8 → 0 ≤ y2 → (∀ i : Nat, (i : Int) < y2 → ¬ a0 76 i = x1) → 1 ≤ a0 4 6 → jt (jxX E d 167 24 [some (.inr (.inr (.inl 0))), some (.inl y1), some (.inl y2)] [] (jxSH, a, b0)) (jR_X11_list x1 a0 b0) := fun y1 y2 a hlt i0 i1 i2 i3 i4 i5 i6 i7 i8 i9 i10 i11 i12 => (ih _ hlt) y1 y2 a (Nat.le_refl _) i0 i1 i2 i3 i4 i5 i6 i7 i8 i9 i10 i11 i12
  have hc24 : ∀ (y1 y2 : Int) (a : Nat → Nat → Int), (((7 - y2) * 1) + 0).toNat ≤ n → iv a → jfr jW_X11_list a0 a → 0 ≤ y1 → y1 ≤ 39 → 0 ≤ y2 → y2 ≤ 7 → a 0 9 ≤ 7 → (jfr jWl76 a0 a) → ((y1 = x1 ∧ 0 ≤ x1) ∧ x1 < a 4 6) → a 0 9 < 8 → 0 ≤ y2 → (∀ i : Nat, (i : Int) < y2 → ¬ a0 76 i = x1) → 1 ≤ a0 4 6 → jt (jxX E d 167 24 [some (.inr (.inr (.inl 0))), some (.inl y1), some (.inl y2)] [] (jxSH, a, b0)) (jR_X11_list x1 a0 b0) := by
    intro y1 y2 a hm hv hf hi0 hi1 hi2 hi3 hi4 hfe hi6 hi7 hi8 hli hi10
    refine jt_eq (bq_X11_list_24 E d y1 y2 a b0) ?_
    have h1634_ := iv_get hv (k := 0) (j := 9) (l := 0) (u := 8) rfl
    have h1635_ := iv_get hv (k := 4) (j := 6) (l := 0) (u := 40) rfl
    have h1636_ : a 4 6 = a0 4 6 := hf 4 6 rfl
    have h1637_ := iv_get hv0 (k := 4) (j := 6) (l := 0) (u := 40) rfl
    have inl_ := iv_get hv0 (k := 0) (j := 9) (l := 0) (u := 8) rfl
    have inm_ := iv_get hv0 (k := 4) (j := 6) (l := 0) (u := 40) rfl
    refine jt_ite (fun c1638_ => ?_) (fun c1638_ => ?_)
    ·
      refine jt_grd (by omega) ?_
      refine jt_ite (fun c1639_ => ?_) (fun c1639_ => ?_)
      ·
        exact jt_rI ⟨hv, hf, rfl, (show (a0 4 6 = 0 → (-1) = 0 - 1) from by omega), (Or.inr ⟨fun z => (z.2.2.2 y2.toNat (by have e := hfe 0 9 rfl; omega)) (by rw [← hfe 76 _ rfl, ← show y1 = x1 from by omega]; assumption), rfl, hfe 0 9 rfl, funext fun j => hfe 76 j rfl⟩)⟩
      ·
        have h1640_ : jxw (y2 + 1) = y2 + 1 := jxw_id (by omega) (by omega)
        exact ih24 y1 (jxw (y2 + 1)) a (show (((7 - (jxw (y2 + 1))) * 1) + 0).toNat < n from by omega) hv hf (show 0 ≤ y1 from by omega) (show y1 ≤ 39 from by omega) (show 0 ≤ jxw (y2 + 1) from by omega) (show jxw (y2 + 1) ≤ 7 from by omega) (show a 0 9 ≤ 7 from by omega) hfe (show ((y1 = x1 ∧ 0 ≤ x1) ∧ x1 < a 4 6) from by omega) (show a 0 9 < 8 from by omega) (show 0 ≤ jxw (y2 + 1) from by omega) (fun i h => by by_cases e : i = y2.toNat <;> first | (rw [e, ← hfe 76 _ rfl, ← show y1 = x1 from by omega]; assumption) | exact hli i (by omega)) (show 1 ≤ a0 4 6 from by omega)
    ·
      refine jt_grd (by omega) ?_
      have h1642_ : jxw ((a 0 9) + 1) = (a 0 9) + 1 := jxw_id (by omega) (by omega)
      have hv1641_ : iv (jxu a 0 9 (jxw ((a 0 9) + 1))) := iv_put hv (l := 0) (u := 8) rfl (by omega) (by omega)
      have hv1643_ : iv (jxu (jxu a 0 9 (jxw ((a 0 9) + 1))) 76 ((a 0 9).toNat) y1) := iv_putf hv1641_ rfl
      have hf1644_ : jfr jW_X11_list a0 (jxu a 0 9 (jxw ((a 0 9) + 1))) := jfr_put hf rfl
      have hf1645_ : jfr jW_X11_list a0 (jxu (jxu a 0 9 (jxw ((a 0 9) + 1))) 76 ((a 0 9).toNat) y1) := jfr_put hf1644_ rfl
      exact cr_X11_list_67 E d hd x1 a0 b0 hv0 (jxu (jxu a 0 9 (jxw ((a 0 9) + 1))) 76 ((a 0 9).toNat) y1) hv1643_ hf1645_ (show 1 ≤ jxw ((a 0 9) + 1) from by omega) (by have e9_ := hfe 0 9 rfl; have en_ := hfe 4 6 rfl; exact (Or.inl ⟨⟨by omega, by omega, by omega, fun i h => hli i (by omega)⟩, by rw [jxu_nk (show ¬ 0 = 76 by decide), jxu_at, e9_, jxw_id (by omega) (by omega)], by rw [jxu_nk (show ¬ 0 = 76 by decide), jxu_at, e9_, jxw_id (by omega) (by omega)], by rw [jxu_rup, jxu_off (show ¬ 76 = 0 by decide), e9_, show a 76 = a0 76 from funext fun j => hfe 76 j rfl, show y1 = x1 from by omega]⟩)) (show 1 ≤ a0 4 6 from by omega)
  exact hc24
theorem sq_X11_list (E : jxE) (d : Nat) (hd : Nat.ble 2 d = true) (x1 : Int) (a0 b0 : Nat → Nat → Int) (hv0 : iv a0) : jt (jxC E d 167 [.inr (.inr (.inl 0)), .inl x1] (jxSH, a0, b0)) (jR_X11_list x1 a0 b0) := by
  obtain ⟨d, rfl⟩ := jd_succ hd
  refine jt_eq (bq_X11_list E d x1 a0 b0) ?_
  have inl_ := iv_get hv0 (k := 0) (j := 9) (l := 0) (u := 8) rfl
  have inm_ := iv_get hv0 (k := 4) (j := 6) (l := 0) (u := 40) rfl
  refine jt_eI (eq_X3_has E d (jd_le hd rfl) x1 a0 b0) ?_
  have h1646_ := f_X3_has_eq a0 b0 x1
  have h1647_ := iv_get hv0 (k := 4) (j := 6) (l := 0) (u := 40) rfl
  refine jt_ite (fun c1648_ => ?_) (fun c1648_ => ?_)
  ·
    exact jt_rI ⟨hv0, (jfr_rf _ _), rfl, (show (a0 4 6 = 0 → (-1) = 0 - 1) from by omega), (Or.inr ⟨fun z => by have z1 := z.1; have z2 := z.2.1; have z3 := z.2.2.1; omega, rfl, rfl, rfl⟩)⟩
  ·
    have h1649_ := iv_get hv0 (k := 0) (j := 9) (l := 0) (u := 8) rfl
    refine jt_ite (fun c1650_ => ?_) (fun c1650_ => ?_)
    ·
      exact (cr_X11_list_24 E d hd x1 a0 b0 hv0 _) x1 0 a0 (Nat.le_refl _) hv0 (jfr_rf _ _) (show 0 ≤ x1 from by omega) (show x1 ≤ 39 from by omega) (show 0 ≤ 0 from by omega) (show 0 ≤ 7 from by omega) (show a0 0 9 ≤ 7 from by omega) (jfr_rf _ _) (show ((x1 = x1 ∧ 0 ≤ x1) ∧ x1 < a0 4 6) from by omega) (show a0 0 9 < 8 from by omega) (show 0 ≤ 0 from by omega) (fun i h => absurd h (by omega)) (show 1 ≤ a0 4 6 from by omega)
    ·
      exact jt_rI ⟨hv0, (jfr_rf _ _), rfl, (show (a0 4 6 = 0 → (-1) = 0 - 1) from by omega), (Or.inr ⟨fun z => by have z1 := z.1; have z2 := z.2.1; have z3 := z.2.2.1; omega, rfl, rfl, rfl⟩)⟩
def jWod1 : List (Nat × Nat) := [(84, 9999), (85, 9999)]
def jWod2 : List (Nat × Nat) := [(84, 9999), (85, 9999), (86, 9999), (87, 9999), (88, 9999)]
abbrev jR_X4_add (x1 x2 x3 : Int) (a0 b0 : Nat → Nat → Int) : List jxV → (Nat → Nat → Int) → (Nat → Nat → Int) → Prop := rI (fun r a b => (iv a) ∧ (jfr jW_X4_add a0 a) ∧ (b0 = b) ∧ ((((a0 83 6 < 20 ∧ r = a0 83 6) ∧ a 83 6 = (a0 83 6) + 1) ∨ ((20 ≤ a0 83 6 ∧ r = 0 - 1) ∧ a 83 6 = a0 83 6))) ∧ (0 ≤ r → OFA a0 a x1 x2 x3) ∧ (r < 0 → OFS a0 a))
theorem cr_X4_add_61 (E : jxE) (d : Nat) (hd : Nat.ble 1 (d + 1) = true) (x1 x2 x3 : Int) (a0 b0 : Nat → Nat → Int) (hv0 : iv a0) : ∀ (a : Nat → Nat → Int), iv a → jfr jW_X4_add a0 a → a 83 6 ≤ 19 → a 83 6 = a0 83 6 → a 83 6 ≤ 19 → (jfr jWod2 a0 a) → (a 84 = rup (a0 84) (a0 83 6).toNat x1 ∧ a 85 = rup (a0 85) (a0 83 6).toNat x2 ∧ a 86 = rup (a0 86) (a0 83 6).toNat x3 ∧ a 87 = rup (a0 87) (a0 83 6).toNat 0 ∧ a 88 = rup (a0 88) (a0 83 6).toNat (-1)) → jt (jxX E d 66 61 [some (.inr (.inr (.inl 83))), none, none, none] [] (jxSH, a, b0)) (jR_X4_add x1 x2 x3 a0 b0) := by
  intro a hv hf hi0 hi1 hi2 hfe h48
  refine jt_eq (bq_X4_add_61 E d a b0) ?_
  have h1651_ := iv_get hv (k := 83) (j := 6) (l := 0) (u := 20) rfl
  have h1652_ := iv_get hv0 (k := 83) (j := 6) (l := 0) (u := 20) rfl
  refine jt_grd (by omega) ?_
  have hv1653_ : iv (jxu a 89 ((a 83 6).toNat) (-1)) := iv_putf hv rfl
  have h1655_ : jxw ((a 83 6) + 1) = (a 83 6) + 1 := jxw_id (by omega) (by omega)
  have hv1654_ : iv (jxu (jxu a 89 ((a 83 6).toNat) (-1)) 83 6 (jxw ((a 83 6) + 1))) := iv_put hv1653_ (l := 0) (u := 20) rfl (by omega) (by omega)
  have hf1656_ : jfr jW_X4_add a0 (jxu a 89 ((a 83 6).toNat) (-1)) := jfr_put hf rfl
  have hf1657_ : jfr jW_X4_add a0 (jxu (jxu a 89 ((a 83 6).toNat) (-1)) 83 6 (jxw ((a 83 6) + 1))) := jfr_put hf1656_ rfl
  exact jt_rI ⟨hv1654_, hf1657_, rfl, (show (((a0 83 6 < 20 ∧ a 83 6 = a0 83 6) ∧ jxw ((a 83 6) + 1) = (a0 83 6) + 1) ∨ ((20 ≤ a0 83 6 ∧ a 83 6 = 0 - 1) ∧ jxw ((a 83 6) + 1) = a0 83 6)) from by omega), (fun _ => ⟨by rw [jxu_off (show ¬ 84 = 83 by decide)]; rw [jxu_off (show ¬ 84 = 89 by decide)]; exact h48.1, by rw [jxu_off (show ¬ 85 = 83 by decide)]; rw [jxu_off (show ¬ 85 = 89 by decide)]; exact h48.2.1, by rw [jxu_off (show ¬ 86 = 83 by decide)]; rw [jxu_off (show ¬ 86 = 89 by decide)]; exact h48.2.2.1, by rw [jxu_off (show ¬ 87 = 83 by decide)]; rw [jxu_off (show ¬ 87 = 89 by decide)]; exact h48.2.2.2.1, by rw [jxu_off (show ¬ 88 = 83 by decide)]; rw [jxu_off (show ¬ 88 = 89 by decide)]; exact h48.2.2.2.2, by rw [jxu_off (show ¬ 89 = 83 by decide)]; rw [jxu_rup, hfe 83 6 rfl, show a 89 = a0 89 from funext fun j => hfe 89 j rfl]⟩), (fun h => absurd h (by have := iv_get hv (k := 83) (j := 6) (l := 0) (u := 20) rfl; omega))⟩
theorem cr_X4_add_31 (E : jxE) (d : Nat) (hd : Nat.ble 1 (d + 1) = true) (x1 x2 x3 : Int) (a0 b0 : Nat → Nat → Int) (hv0 : iv a0) : ∀ (y3 : Int) (a : Nat → Nat → Int), iv a → jfr jW_X4_add a0 a → a 83 6 ≤ 19 → a 83 6 = a0 83 6 → a 83 6 ≤ 19 → (jfr jWod1 a0 a) → (y3 = x3) → (a 84 = rup (a0 84) (a0 83 6).toNat x1 ∧ a 85 = rup (a0 85) (a0 83 6).toNat x2) → jt (jxX E d 66 31 [some (.inr (.inr (.inl 83))), none, none, some (.inl y3)] [] (jxSH, a, b0)) (jR_X4_add x1 x2 x3 a0 b0) := by
  intro y3 a hv hf hi0 hi1 hi2 hfe hy3 h45
  refine jt_eq (bq_X4_add_31 E d y3 a b0) ?_
  have h1658_ := iv_get hv (k := 83) (j := 6) (l := 0) (u := 20) rfl
  have h1659_ := iv_get hv0 (k := 83) (j := 6) (l := 0) (u := 20) rfl
  refine jt_grd (by omega) ?_
  refine jt_grd (by omega) ?_
  refine jt_grd (by omega) ?_
  have hv1660_ : iv (jxu a 86 ((a 83 6).toNat) y3) := iv_putf hv rfl
  have hv1661_ : iv (jxu (jxu a 86 ((a 83 6).toNat) y3) 87 ((a 83 6).toNat) 0) := iv_putf hv1660_ rfl
  have hv1662_ : iv (jxu (jxu (jxu a 86 ((a 83 6).toNat) y3) 87 ((a 83 6).toNat) 0) 88 ((a 83 6).toNat) (-1)) := iv_putf hv1661_ rfl
  have hf1663_ : jfr jW_X4_add a0 (jxu a 86 ((a 83 6).toNat) y3) := jfr_put hf rfl
  have hf1664_ : jfr jW_X4_add a0 (jxu (jxu a 86 ((a 83 6).toNat) y3) 87 ((a 83 6).toNat) 0) := jfr_put hf1663_ rfl
  have hf1665_ : jfr jW_X4_add a0 (jxu (jxu (jxu a 86 ((a 83 6).toNat) y3) 87 ((a 83 6).toNat) 0) 88 ((a 83 6).toNat) (-1)) := jfr_put hf1664_ rfl
  have hf1666_ : jfr jWod2 a0 (jxu a 86 ((a 83 6).toNat) y3) := jfr_put (jfr_tr (jfr_rf _ _) hfe rfl) rfl
  have hf1667_ : jfr jWod2 a0 (jxu (jxu a 86 ((a 83 6).toNat) y3) 87 ((a 83 6).toNat) 0) := jfr_put hf1666_ rfl
  have hf1668_ : jfr jWod2 a0 (jxu (jxu (jxu a 86 ((a 83 6).toNat) y3) 87 ((a 83 6).toNat) 0) 88 ((a 83 6).toNat) (-1)) := jfr_put hf1667_ rfl
  exact cr_X4_add_61 E d hd x1 x2 x3 a0 b0 hv0 (jxu (jxu (jxu a 86 ((a 83 6).toNat) y3) 87 ((a 83 6).toNat) 0) 88 ((a 83 6).toNat) (-1)) hv1662_ hf1665_ (show a 83 6 ≤ 19 from by omega) (show a 83 6 = a0 83 6 from by omega) (show a 83 6 ≤ 19 from by omega) hf1668_ (by have e6_ := hfe 83 6 rfl; refine ⟨?_, ?_, ?_, ?_, ?_⟩ <;> first | (rw [jxu_off (show ¬ 84 = 88 by decide)]; rw [jxu_off (show ¬ 84 = 87 by decide)]; rw [jxu_off (show ¬ 84 = 86 by decide)]; exact h45.1) | (rw [jxu_off (show ¬ 85 = 88 by decide)]; rw [jxu_off (show ¬ 85 = 87 by decide)]; rw [jxu_off (show ¬ 85 = 86 by decide)]; exact h45.2) | (rw [jxu_off (show ¬ 86 = 88 by decide)]; rw [jxu_off (show ¬ 86 = 87 by decide)]; rw [jxu_rup, hy3, e6_, show a 86 = a0 86 from funext fun j => hfe 86 j rfl]) | (rw [jxu_off (show ¬ 87 = 88 by decide)]; rw [jxu_rup, jxu_off (show ¬ 87 = 86 by decide), e6_, show a 87 = a0 87 from funext fun j => hfe 87 j rfl]) | (rw [jxu_rup, jxu_off (show ¬ 88 = 87 by decide), jxu_off (show ¬ 88 = 86 by decide), e6_, show a 88 = a0 88 from funext fun j => hfe 88 j rfl]))
theorem sq_X4_add (E : jxE) (d : Nat) (hd : Nat.ble 1 d = true) (x1 x2 x3 : Int) (a0 b0 : Nat → Nat → Int) (hv0 : iv a0) : jt (jxC E d 66 [.inr (.inr (.inl 83)), .inl x1, .inl x2, .inl x3] (jxSH, a0, b0)) (jR_X4_add x1 x2 x3 a0 b0) := by
  obtain ⟨d, rfl⟩ := jd_succ hd
  refine jt_eq (bq_X4_add E d x1 x2 x3 a0 b0) ?_
  have h1669_ := iv_get hv0 (k := 83) (j := 6) (l := 0) (u := 20) rfl
  refine jt_ite (fun c1670_ => ?_) (fun c1670_ => ?_)
  ·
    refine jt_grd (by omega) ?_
    refine jt_grd (by omega) ?_
    have hv1671_ : iv (jxu a0 84 ((a0 83 6).toNat) x1) := iv_putf hv0 rfl
    have hv1672_ : iv (jxu (jxu a0 84 ((a0 83 6).toNat) x1) 85 ((a0 83 6).toNat) x2) := iv_putf hv1671_ rfl
    have hf1673_ : jfr jW_X4_add a0 (jxu a0 84 ((a0 83 6).toNat) x1) := jfr_put (jfr_rf _ _) rfl
    have hf1674_ : jfr jW_X4_add a0 (jxu (jxu a0 84 ((a0 83 6).toNat) x1) 85 ((a0 83 6).toNat) x2) := jfr_put hf1673_ rfl
    have hf1675_ : jfr jWod1 a0 (jxu a0 84 ((a0 83 6).toNat) x1) := jfr_put (jfr_rf _ _) rfl
    have hf1676_ : jfr jWod1 a0 (jxu (jxu a0 84 ((a0 83 6).toNat) x1) 85 ((a0 83 6).toNat) x2) := jfr_put hf1675_ rfl
    exact cr_X4_add_31 E d hd x1 x2 x3 a0 b0 hv0 x3 (jxu (jxu a0 84 ((a0 83 6).toNat) x1) 85 ((a0 83 6).toNat) x2) hv1672_ hf1674_ (show a0 83 6 ≤ 19 from by omega) (show a0 83 6 = a0 83 6 from by omega) (show a0 83 6 ≤ 19 from by omega) hf1676_ rfl ⟨by rw [jxu_off (show ¬ 84 = 85 by decide)]; exact jxu_rup _ _ _ _, by rw [jxu_rup, jxu_off (show ¬ 85 = 84 by decide)]⟩
  ·
    exact jt_rI ⟨hv0, (jfr_rf _ _), rfl, (show (((a0 83 6 < 20 ∧ (-1) = a0 83 6) ∧ a0 83 6 = (a0 83 6) + 1) ∨ ((20 ≤ a0 83 6 ∧ (-1) = 0 - 1) ∧ a0 83 6 = a0 83 6)) from by omega), (fun h => absurd h (by decide)), (fun _ => ⟨rfl, rfl, rfl, rfl, rfl, rfl⟩)⟩
abbrev jR_X11_offer (x1 x2 x3 : Int) (a0 b0 : Nat → Nat → Int) : List jxV → (Nat → Nat → Int) → (Nat → Nat → Int) → Prop := rI (fun r a b => (iv a) ∧ (jfr jW_X11_offer a0 a) ∧ (b0 = b) ∧ ((a0 4 6 = 0 → r = 0 - 1)) ∧ (((((((((0 ≤ x1 ∧ x1 < a0 4 6) ∧ ¬ a0 10 (x1.toNat) = 0) ∧ 0 ≤ x2) ∧ x2 ≤ 31) ∧ a0 83 6 < 20) ∧ r = a0 83 6) ∧ a 83 6 = (a0 83 6) + 1) ∨ (((((((x1 < 0 ∨ a0 4 6 ≤ x1) ∨ a0 10 (x1.toNat) = 0) ∨ x2 < 0) ∨ 31 < x2) ∨ 20 ≤ a0 83 6) ∧ r = 0 - 1) ∧ a 83 6 = a0 83 6))) ∧ (0 ≤ r → OFA a0 a x1 x2 x3) ∧ (r < 0 → OFS a0 a))
theorem sq_X11_offer (E : jxE) (d : Nat) (hd : Nat.ble 3 d = true) (x1 x2 x3 : Int) (a0 b0 : Nat → Nat → Int) (hv0 : iv a0) : jt (jxC E d 184 [.inr (.inr (.inl 0)), .inl x1, .inl x2, .inl x3] (jxSH, a0, b0)) (jR_X11_offer x1 x2 x3 a0 b0) := by
  obtain ⟨d, rfl⟩ := jd_succ hd
  refine jt_eq (bq_X11_offer E d x1 x2 x3 a0 b0) ?_
  refine jt_eI (eq_X3_isThere E d (jd_le hd rfl) x1 a0 b0) ?_
  have h1677_ := f_X3_isThere_eq a0 b0 x1
  have h1678_ := f_X3_has_eq a0 b0 x1
  have h1679_ := iv_get hv0 (k := 4) (j := 6) (l := 0) (u := 40) rfl
  refine jt_ite (fun c1680_ => ?_) (fun c1680_ => ?_)
  ·
    have h1681_ := iv_get hv0 (k := 83) (j := 6) (l := 0) (u := 20) rfl
    exact jt_rI ⟨hv0, (jfr_rf _ _), rfl, (show (a0 4 6 = 0 → (-1) = 0 - 1) from by omega), (show ((((((((0 ≤ x1 ∧ x1 < a0 4 6) ∧ ¬ a0 10 (x1.toNat) = 0) ∧ 0 ≤ x2) ∧ x2 ≤ 31) ∧ a0 83 6 < 20) ∧ (-1) = a0 83 6) ∧ a0 83 6 = (a0 83 6) + 1) ∨ (((((((x1 < 0 ∨ a0 4 6 ≤ x1) ∨ a0 10 (x1.toNat) = 0) ∨ x2 < 0) ∨ 31 < x2) ∨ 20 ≤ a0 83 6) ∧ (-1) = 0 - 1) ∧ a0 83 6 = a0 83 6)) from by omega), (fun h => absurd h (by decide)), (fun _ => ⟨rfl, rfl, rfl, rfl, rfl, rfl⟩)⟩
  ·
    refine jt_eI (eq_X11_within E d (jd_le hd rfl) x2 0 31 a0 b0) ?_
    have h1682_ := f_X11_within_eq a0 b0 x2 0 31
    refine jt_ite (fun c1683_ => ?_) (fun c1683_ => ?_)
    ·
      have h1684_ := iv_get hv0 (k := 83) (j := 6) (l := 0) (u := 20) rfl
      exact jt_rI ⟨hv0, (jfr_rf _ _), rfl, (show (a0 4 6 = 0 → (-1) = 0 - 1) from by omega), (show ((((((((0 ≤ x1 ∧ x1 < a0 4 6) ∧ ¬ a0 10 (x1.toNat) = 0) ∧ 0 ≤ x2) ∧ x2 ≤ 31) ∧ a0 83 6 < 20) ∧ (-1) = a0 83 6) ∧ a0 83 6 = (a0 83 6) + 1) ∨ (((((((x1 < 0 ∨ a0 4 6 ≤ x1) ∨ a0 10 (x1.toNat) = 0) ∨ x2 < 0) ∨ 31 < x2) ∨ 20 ≤ a0 83 6) ∧ (-1) = 0 - 1) ∧ a0 83 6 = a0 83 6)) from by omega), (fun h => absurd h (by decide)), (fun _ => ⟨rfl, rfl, rfl, rfl, rfl, rfl⟩)⟩
    ·
      refine jt_bI (sq_X4_add E d (jd_le hd rfl) x1 x2 x3 a0 b0 hv0) (fun r1685_ a1685_ b1685_ h1685_ => ?_)
      obtain ⟨hv1685_, hf1685_, rfl, hq1685_0, hq1685_1, hq1685_2⟩ := h1685_
      have h1686_ := iv_get hv0 (k := 83) (j := 6) (l := 0) (u := 20) rfl
      have h1687_ := iv_get hv1685_ (k := 83) (j := 6) (l := 0) (u := 20) rfl
      have hf1688_ : jfr jW_X11_offer a0 a1685_ := jfr_tr (jfr_rf _ _) hf1685_ rfl
      exact jt_rI ⟨hv1685_, hf1688_, rfl, (show (a0 4 6 = 0 → r1685_ = 0 - 1) from by omega), (show ((((((((0 ≤ x1 ∧ x1 < a0 4 6) ∧ ¬ a0 10 (x1.toNat) = 0) ∧ 0 ≤ x2) ∧ x2 ≤ 31) ∧ a0 83 6 < 20) ∧ r1685_ = a0 83 6) ∧ a1685_ 83 6 = (a0 83 6) + 1) ∨ (((((((x1 < 0 ∨ a0 4 6 ≤ x1) ∨ a0 10 (x1.toNat) = 0) ∨ x2 < 0) ∨ 31 < x2) ∨ 20 ≤ a0 83 6) ∧ r1685_ = 0 - 1) ∧ a1685_ 83 6 = a0 83 6)) from by omega), hq1685_1, hq1685_2⟩
abbrev jR_X12_away (x1 : Int) (a0 b0 : Nat → Nat → Int) : List jxV → (Nat → Nat → Int) → (Nat → Nat → Int) → Prop := rI (fun r a b => (iv a) ∧ (jfr jW_X12_away a0 a) ∧ (b0 = b) ∧ ((0 ≤ r ∧ r ≤ 1)) ∧ (OC a) ∧ ((a0 146 49 = 0 → r = 0)) ∧ (AWR a0 a x1 r))
theorem cr_X12_away_32 (E : jxE) (d : Nat) (hd : Nat.ble 2 (d + 1) = true) (x1 : Int) (a0 b0 : Nat → Nat → Int) (hv0 : iv a0) (hp0 : OC a0) : ∀ (a : Nat → Nat → Int), iv a → jfr jW_X12_away a0 a → 1 ≤ a0 146 49 → (AWO (a0 146 49) (a0 181) x1 ∧ a 181 = rup (a0 181) x1.toNat 2) → (OC a) → jt (jxX E d 263 32 [none, none] [] (jxSH, a, b0)) (jR_X12_away x1 a0 b0) := by
  intro a hv hf hi0 haw hi2
  refine jt_eq (bq_X12_away_32 E d a b0) ?_
  have h1689_ := iv_get hv0 (k := 146) (j := 49) (l := 0) (u := 20) rfl
  exact jt_rI ⟨hv, hf, rfl, (show (0 ≤ 1 ∧ 1 ≤ 1) from by omega), hi2, (show (a0 146 49 = 0 → 1 = 0) from by omega), (Or.inl ⟨haw.1, rfl, haw.2⟩)⟩
theorem sq_X12_away (E : jxE) (d : Nat) (hd : Nat.ble 2 d = true) (x1 : Int) (a0 b0 : Nat → Nat → Int) (hv0 : iv a0) (hp0 : OC a0) : jt (jxC E d 263 [.inr (.inr (.inl 146)), .inl x1] (jxSH, a0, b0)) (jR_X12_away x1 a0 b0) := by
  obtain ⟨d, rfl⟩ := jd_succ hd
  refine jt_eq (bq_X12_away E d x1 a0 b0) ?_
  have i49_ := iv_get hv0 (k := 146) (j := 49) (l := 0) (u := 20) rfl
  refine jt_eI (eq_X12_in E d (jd_le hd rfl) x1 0 (jxw ((a0 146 49) - 1)) a0 b0) ?_
  have h1690_ := iv_get hv0 (k := 146) (j := 49) (l := 0) (u := 20) rfl
  have h1691_ : jxw ((a0 146 49) - 1) = (a0 146 49) - 1 := jxw_id (by omega) (by omega)
  have h1692_ := f_X12_in_eq a0 b0 x1 0 (jxw ((a0 146 49) - 1))
  refine jt_ite (fun c1693_ => ?_) (fun c1693_ => ?_)
  ·
    exact jt_rI ⟨hv0, (jfr_rf _ _), rfl, (show (0 ≤ 0 ∧ 0 ≤ 1) from by omega), hp0, (show (a0 146 49 = 0 → 0 = 0) from by omega), (Or.inr ⟨fun z => by have z1 := z.1; have z2 := z.2.1; first | omega | exact absurd z.2.2 (by assumption), rfl, rfl⟩)⟩
  ·
    refine jt_grd (by omega) ?_
    have h1694_ := iv_get hv0 (k := 181) (j := x1.toNat) (l := 0) (u := 2) rfl
    refine jt_ite (fun c1695_ => ?_) (fun c1695_ => ?_)
    ·
      refine jt_grd (by omega) ?_
      have hv1696_ : iv (jxu a0 181 (x1.toNat) 2) := iv_put hv0 (l := 0) (u := 2) rfl (by omega) (by omega)
      have hf1697_ : jfr jW_X12_away a0 (jxu a0 181 (x1.toNat) 2) := jfr_put (jfr_rf _ _) rfl
      have hg1698_ : OC (jxu a0 181 (x1.toNat) 2) := (OC_put2 hp0 (by decide) (by omega))
      exact cr_X12_away_32 E d hd x1 a0 b0 hv0 hp0 (jxu a0 181 (x1.toNat) 2) hv1696_ hf1697_ (show 1 ≤ a0 146 49 from by omega) ⟨⟨by omega, by omega, by assumption⟩, jxu_rup _ _ _ _⟩ hg1698_
    ·
      exact jt_rI ⟨hv0, (jfr_rf _ _), rfl, (show (0 ≤ 0 ∧ 0 ≤ 1) from by omega), hp0, (show (a0 146 49 = 0 → 0 = 0) from by omega), (Or.inr ⟨fun z => by have z1 := z.1; have z2 := z.2.1; first | omega | exact absurd z.2.2 (by assumption), rfl, rfl⟩)⟩
def jWl173 : List (Nat × Nat) := []
abbrev jR_X12_list (x1 : Int) (a0 b0 : Nat → Nat → Int) : List jxV → (Nat → Nat → Int) → (Nat → Nat → Int) → Prop := rI (fun r a b => (iv a) ∧ (jfr jW_X12_list a0 a) ∧ (b0 = b) ∧ ((a0 146 2 = 0 → r = 0 - 1)) ∧ (LSP (a0 146 42) (a 146 42) (a0 173) (a 173) (a0 146 2) x1 r))
theorem cr_X12_list_67 (E : jxE) (d : Nat) (hd : Nat.ble 3 (d + 1) = true) (x1 : Int) (a0 b0 : Nat → Nat → Int) (hv0 : iv a0) : ∀ (a : Nat → Nat → Int), iv a → jfr jW_X12_list a0 a → 1 ≤ a 146 42 → (LSP (a0 146 42) (a 146 42) (a0 173) (a 173) (a0 146 2) x1 (a 146 42)) → 1 ≤ a0 146 2 → jt (jxX E d 252 67 [some (.inr (.inr (.inl 146))), none, none] [] (jxSH, a, b0)) (jR_X12_list x1 a0 b0) := by
  intro a hv hf hi0 hls hi2
  refine jt_eq (bq_X12_list_67 E d a b0) ?_
  have h1699_ := iv_get hv (k := 146) (j := 42) (l := 0) (u := 8) rfl
  have h1700_ := iv_get hv0 (k := 146) (j := 2) (l := 0) (u := 40) rfl
  exact jt_rI ⟨hv, hf, rfl, (show (a0 146 2 = 0 → a 146 42 = 0 - 1) from by omega), hls⟩
theorem cr_X12_list_21 (E : jxE) (d : Nat) (hd : Nat.ble 3 (d + 1) = true) (x1 : Int) (a0 b0 : Nat → Nat → Int) (hv0 : iv a0) : ∀ n : Nat, (∀ (y1 y2 : Int) (a : Nat → Nat → Int), (((7 - y2) * 1) + 0).toNat ≤ n → iv a → jfr jW_X12_list a0 a → 0 ≤ y1 → y1 ≤ 39 → 0 ≤ y2 → y2 ≤ 7 → a 146 42 ≤ 7 → (jfr jWl173 a0 a) → ((y1 = x1 ∧ 0 ≤ x1) ∧ x1 < a 146 2) → a 146 42 < 8 → 0 ≤ y2 → (∀ i : Nat, (i : Int) < y2 → ¬ a0 173 i = x1) → 1 ≤ a0 146 2 → jt (jxX E d 252 21 [some (.inr (.inr (.inl 146))), some (.inl y1), some (.inl y2)] [] (jxSH, a, b0)) (jR_X12_list x1 a0 b0)) := by
  refine jx_ind fun n ih => ?_
  have ih21 : ∀ (y1 y2 : Int) (a : Nat → Nat → Int), (((7 - y2) * 1) + 0).toNat < n → iv a → jfr jW_X12_list a0 a → 0 ≤ y1 → y1 ≤ 39 → 0 ≤ y2 → y2 ≤ 7 → a 146 42 ≤ 7 → (jfr jWl173 a0 a) → ((y1 = x1 ∧ 0 ≤ x1) ∧ x1 < a 146 2) → a 146 42 < 8 → 0 ≤ y2 → (∀ i : Nat, (i : Int) < y2 → ¬ a0 173 i = x1) → 1 ≤ a0 146 2 → jt (jxX E d 252 21 [some (.inr (.inr (.inl 146))), some (.inl y1), some (.inl y2)] [] (jxSH, a, b0)) (jR_X12_list x1 a0 b0) := fun y1 y2 a hlt i0 i1 i2 i3 i4 i5 i6 i7 i8 i9 i10 i11 i12 => (ih _ hlt) y1 y2 a (Nat.le_refl _) i0 i1 i2 i3 i4 i5 i6 i7 i8 i9 i10 i11 i12
  have hc21 : ∀ (y1 y2 : Int) (a : Nat → Nat → Int), (((7 - y2) * 1) + 0).toNat ≤ n → iv a → jfr jW_X12_list a0 a → 0 ≤ y1 → y1 ≤ 39 → 0 ≤ y2 → y2 ≤ 7 → a 146 42 ≤ 7 → (jfr jWl173 a0 a) → ((y1 = x1 ∧ 0 ≤ x1) ∧ x1 < a 146 2) → a 146 42 < 8 → 0 ≤ y2 → (∀ i : Nat, (i : Int) < y2 → ¬ a0 173 i = x1) → 1 ≤ a0 146 2 → jt (jxX E d 252 21 [some (.inr (.inr (.inl 146))), some (.inl y1), some (.inl y2)] [] (jxSH, a, b0)) (jR_X12_list x1 a0 b0) := by
    intro y1 y2 a hm hv hf hi0 hi1 hi2 hi3 hi4 hfe hi6 hi7 hi8 hli hi10
    refine jt_eq (bq_X12_list_21 E d y1 y2 a b0) ?_
    have h1701_ := iv_get hv (k := 146) (j := 42) (l := 0) (u := 8) rfl
    have h1702_ := iv_get hv (k := 146) (j := 2) (l := 0) (u := 40) rfl
    have h1703_ : a 146 2 = a0 146 2 := hf 146 2 rfl
    have h1704_ := iv_get hv0 (k := 146) (j := 2) (l := 0) (u := 40) rfl
    have inl_ := iv_get hv0 (k := 146) (j := 42) (l := 0) (u := 8) rfl
    have inm_ := iv_get hv0 (k := 146) (j := 2) (l := 0) (u := 40) rfl
    refine jt_ite (fun c1705_ => ?_) (fun c1705_ => ?_)
    ·
      refine jt_grd (by omega) ?_
      have h1706_ := iv_get hv (k := 173) (j := y2.toNat) (l := 0) (u := 39) rfl
      refine jt_ite (fun c1707_ => ?_) (fun c1707_ => ?_)
      ·
        exact jt_rI ⟨hv, hf, rfl, (show (a0 146 2 = 0 → (-1) = 0 - 1) from by omega), (Or.inr ⟨fun z => (z.2.2.2 y2.toNat (by have e := hfe 146 42 rfl; omega)) (by rw [← hfe 173 _ rfl, ← show y1 = x1 from by omega]; assumption), rfl, hfe 146 42 rfl, funext fun j => hfe 173 j rfl⟩)⟩
      ·
        have h1708_ : jxw (y2 + 1) = y2 + 1 := jxw_id (by omega) (by omega)
        exact ih21 y1 (jxw (y2 + 1)) a (show (((7 - (jxw (y2 + 1))) * 1) + 0).toNat < n from by omega) hv hf (show 0 ≤ y1 from by omega) (show y1 ≤ 39 from by omega) (show 0 ≤ jxw (y2 + 1) from by omega) (show jxw (y2 + 1) ≤ 7 from by omega) (show a 146 42 ≤ 7 from by omega) hfe (show ((y1 = x1 ∧ 0 ≤ x1) ∧ x1 < a 146 2) from by omega) (show a 146 42 < 8 from by omega) (show 0 ≤ jxw (y2 + 1) from by omega) (fun i h => by by_cases e : i = y2.toNat <;> first | (rw [e, ← hfe 173 _ rfl, ← show y1 = x1 from by omega]; assumption) | exact hli i (by omega)) (show 1 ≤ a0 146 2 from by omega)
    ·
      refine jt_grd (by omega) ?_
      have hv1709_ : iv (jxu a 173 ((a 146 42).toNat) y1) := iv_put hv (l := 0) (u := 39) rfl (by omega) (by omega)
      have h1711_ : jxw ((a 146 42) + 1) = (a 146 42) + 1 := jxw_id (by omega) (by omega)
      have hv1710_ : iv (jxu (jxu a 173 ((a 146 42).toNat) y1) 146 42 (jxw ((a 146 42) + 1))) := iv_put hv1709_ (l := 0) (u := 8) rfl (by omega) (by omega)
      have hf1712_ : jfr jW_X12_list a0 (jxu a 173 ((a 146 42).toNat) y1) := jfr_put hf rfl
      have hf1713_ : jfr jW_X12_list a0 (jxu (jxu a 173 ((a 146 42).toNat) y1) 146 42 (jxw ((a 146 42) + 1))) := jfr_put hf1712_ rfl
      exact cr_X12_list_67 E d hd x1 a0 b0 hv0 (jxu (jxu a 173 ((a 146 42).toNat) y1) 146 42 (jxw ((a 146 42) + 1))) hv1710_ hf1713_ (show 1 ≤ jxw ((a 146 42) + 1) from by omega) (by have e9_ := hfe 146 42 rfl; have en_ := hfe 146 2 rfl; exact (Or.inl ⟨⟨by omega, by omega, by omega, fun i h => hli i (by omega)⟩, by rw [jxu_at, e9_, jxw_id (by omega) (by omega)], by rw [jxu_at, e9_, jxw_id (by omega) (by omega)], by rw [jxu_off (show ¬ 173 = 146 by decide), jxu_rup, e9_, show a 173 = a0 173 from funext fun j => hfe 173 j rfl, show y1 = x1 from by omega]⟩)) (show 1 ≤ a0 146 2 from by omega)
  exact hc21
theorem sq_X12_list (E : jxE) (d : Nat) (hd : Nat.ble 3 d = true) (x1 : Int) (a0 b0 : Nat → Nat → Int) (hv0 : iv a0) : jt (jxC E d 252 [.inr (.inr (.inl 146)), .inl x1] (jxSH, a0, b0)) (jR_X12_list x1 a0 b0) := by
  obtain ⟨d, rfl⟩ := jd_succ hd
  refine jt_eq (bq_X12_list E d x1 a0 b0) ?_
  have inl_ := iv_get hv0 (k := 146) (j := 42) (l := 0) (u := 8) rfl
  have inm_ := iv_get hv0 (k := 146) (j := 2) (l := 0) (u := 40) rfl
  refine jt_eI (eq_X12_isMember E d (jd_le hd rfl) x1 a0 b0) ?_
  have h1714_ := f_X12_isMember_eq a0 b0 x1
  have h1715_ := iv_get hv0 (k := 146) (j := 2) (l := 0) (u := 40) rfl
  have h1716_ : jxw ((a0 146 2) - 1) = (a0 146 2) - 1 := jxw_id (by omega) (by omega)
  have h1717_ := f_X12_in_eq a0 b0 x1 0 (jxw ((a0 146 2) - 1))
  refine jt_ite (fun c1718_ => ?_) (fun c1718_ => ?_)
  ·
    exact jt_rI ⟨hv0, (jfr_rf _ _), rfl, (show (a0 146 2 = 0 → (-1) = 0 - 1) from by omega), (Or.inr ⟨fun z => by have z1 := z.1; have z2 := z.2.1; have z3 := z.2.2.1; omega, rfl, rfl, rfl⟩)⟩
  ·
    have h1719_ := iv_get hv0 (k := 146) (j := 42) (l := 0) (u := 8) rfl
    refine jt_ite (fun c1720_ => ?_) (fun c1720_ => ?_)
    ·
      exact jt_rI ⟨hv0, (jfr_rf _ _), rfl, (show (a0 146 2 = 0 → (-1) = 0 - 1) from by omega), (Or.inr ⟨fun z => by have z1 := z.1; have z2 := z.2.1; have z3 := z.2.2.1; omega, rfl, rfl, rfl⟩)⟩
    ·
      exact (cr_X12_list_21 E d hd x1 a0 b0 hv0 _) x1 0 a0 (Nat.le_refl _) hv0 (jfr_rf _ _) (show 0 ≤ x1 from by omega) (show x1 ≤ 39 from by omega) (show 0 ≤ 0 from by omega) (show 0 ≤ 7 from by omega) (show a0 146 42 ≤ 7 from by omega) (jfr_rf _ _) (show ((x1 = x1 ∧ 0 ≤ x1) ∧ x1 < a0 146 2) from by omega) (show a0 146 42 < 8 from by omega) (show 0 ≤ 0 from by omega) (fun i h => absurd h (by omega)) (show 1 ≤ a0 146 2 from by omega)
def jWox0 : List (Nat × Nat) := []
def jWox1 : List (Nat × Nat) := [(178, 9999), (179, 9999), (180, 9999)]
abbrev jR_X12_offer (x1 x2 x3 : Int) (a0 b0 : Nat → Nat → Int) : List jxV → (Nat → Nat → Int) → (Nat → Nat → Int) → Prop := rI (fun r a b => (iv a) ∧ (jfr jW_X12_offer a0 a) ∧ (b0 = b) ∧ (OC a) ∧ (FO a) ∧ (FW a) ∧ ((a0 146 2 = 0 → r = 0 - 1)) ∧ (((((((((0 ≤ x1 ∧ x1 < a0 146 2) ∧ ¬ a0 152 (x1.toNat) = 0) ∧ 0 ≤ x2) ∧ x2 ≤ 31) ∧ a0 146 49 < 20) ∧ r = a0 146 49) ∧ a 146 49 = (a0 146 49) + 1) ∨ (((((((x1 < 0 ∨ a0 146 2 ≤ x1) ∨ a0 152 (x1.toNat) = 0) ∨ x2 < 0) ∨ 31 < x2) ∨ 20 ≤ a0 146 49) ∧ r = 0 - 1) ∧ a 146 49 = a0 146 49))) ∧ (0 ≤ r → OFAr a0 a x1 x2 x3) ∧ (r < 0 → OFSr a0 a))
theorem cr_X12_offer_36 (E : jxE) (d : Nat) (hd : Nat.ble 3 (d + 1) = true) (x1 x2 x3 : Int) (a0 b0 : Nat → Nat → Int) (hv0 : iv a0) (hp0 : OC a0) (hp1 : FO a0) (hp2 : FW a0) : ∀ (a : Nat → Nat → Int), iv a → jfr jW_X12_offer a0 a → (((((x1 < 0 ∨ a0 146 2 ≤ x1) ∨ a0 152 (x1.toNat) = 0) ∨ x2 < 0) ∨ 31 < x2) ∨ 20 ≤ a0 146 49) → a 146 49 = a0 146 49 → (jfr jWox0 a0 a) → (OC a) → (FO a) → (FW a) → jt (jxX E d 262 36 [none, none, none, none] [] (jxSH, a, b0)) (jR_X12_offer x1 x2 x3 a0 b0) := by
  intro a hv hf hi0 hi1 hfe hi3 hi4 hi5
  refine jt_eq (bq_X12_offer_36 E d a b0) ?_
  have h1721_ := iv_get hv0 (k := 146) (j := 2) (l := 0) (u := 40) rfl
  have h1722_ := iv_get hv0 (k := 152) (j := x1.toNat) (l := 0) (u := 1) rfl
  have h1723_ := iv_get hv0 (k := 146) (j := 49) (l := 0) (u := 20) rfl
  have h1724_ := iv_get hv (k := 146) (j := 49) (l := 0) (u := 20) rfl
  exact jt_rI ⟨hv, hf, rfl, hi3, hi4, hi5, (show (a0 146 2 = 0 → (-1) = 0 - 1) from by omega), (show ((((((((0 ≤ x1 ∧ x1 < a0 146 2) ∧ ¬ a0 152 (x1.toNat) = 0) ∧ 0 ≤ x2) ∧ x2 ≤ 31) ∧ a0 146 49 < 20) ∧ (-1) = a0 146 49) ∧ a 146 49 = (a0 146 49) + 1) ∨ (((((((x1 < 0 ∨ a0 146 2 ≤ x1) ∨ a0 152 (x1.toNat) = 0) ∨ x2 < 0) ∨ 31 < x2) ∨ 20 ≤ a0 146 49) ∧ (-1) = 0 - 1) ∧ a 146 49 = a0 146 49)) from by omega), (fun h => absurd h (by decide)), (fun _ => ⟨funext fun j => hfe 178 j rfl, funext fun j => hfe 179 j rfl, funext fun j => hfe 180 j rfl, funext fun j => hfe 181 j rfl, funext fun j => hfe 182 j rfl⟩)⟩
theorem cr_X12_offer_68 (E : jxE) (d : Nat) (hd : Nat.ble 3 (d + 1) = true) (x1 x2 x3 : Int) (a0 b0 : Nat → Nat → Int) (hv0 : iv a0) (hp0 : OC a0) (hp1 : FO a0) (hp2 : FW a0) : ∀ (a : Nat → Nat → Int), iv a → jfr jW_X12_offer a0 a → a 146 49 ≤ 19 → 1 ≤ a0 146 2 → (((((0 ≤ x1 ∧ x1 < a0 146 2) ∧ ¬ a0 152 (x1.toNat) = 0) ∧ 0 ≤ x2) ∧ x2 ≤ 31) ∧ a0 146 49 < 20) → a 146 49 = a0 146 49 → (jfr jWox1 a0 a) → (a 178 = rup (a0 178) (a0 146 49).toNat x1 ∧ a 179 = rup (a0 179) (a0 146 49).toNat x2 ∧ a 180 = rup (a0 180) (a0 146 49).toNat x3) → (OC a) → (FO a) → (FW a) → jt (jxX E d 262 68 [some (.inr (.inr (.inl 146))), none, none, none] [] (jxSH, a, b0)) (jR_X12_offer x1 x2 x3 a0 b0) := by
  intro a hv hf hi0 hi1 hi2 hi3 hfe h78 hi6 hi7 hi8
  refine jt_eq (bq_X12_offer_68 E d a b0) ?_
  have h1725_ := iv_get hv (k := 146) (j := 49) (l := 0) (u := 20) rfl
  have h1726_ := iv_get hv0 (k := 146) (j := 2) (l := 0) (u := 40) rfl
  have h1727_ := iv_get hv0 (k := 152) (j := x1.toNat) (l := 0) (u := 1) rfl
  have h1728_ := iv_get hv0 (k := 146) (j := 49) (l := 0) (u := 20) rfl
  refine jt_grd (by omega) ?_
  have hv1729_ : iv (jxu a 182 ((a 146 49).toNat) (-1)) := iv_putf hv rfl
  have h1731_ : jxw ((a 146 49) + 1) = (a 146 49) + 1 := jxw_id (by omega) (by omega)
  have hv1730_ : iv (jxu (jxu a 182 ((a 146 49).toNat) (-1)) 146 49 (jxw ((a 146 49) + 1))) := iv_put hv1729_ (l := 0) (u := 20) rfl (by omega) (by omega)
  have hf1732_ : jfr jW_X12_offer a0 (jxu a 182 ((a 146 49).toNat) (-1)) := jfr_put hf rfl
  have hf1733_ : jfr jW_X12_offer a0 (jxu (jxu a 182 ((a 146 49).toNat) (-1)) 146 49 (jxw ((a 146 49) + 1))) := jfr_put hf1732_ rfl
  have hg1734_ : OC (jxu a 182 ((a 146 49).toNat) (-1)) := (OC_putx hi6 (by decide) (show a 146 49 ≤ ((((a 146 49).toNat) : Nat) : Int) from by omega))
  have hg1735_ : OC (jxu (jxu a 182 ((a 146 49).toNat) (-1)) 146 49 (jxw ((a 146 49) + 1))) := (OC_put49 hg1734_ (show 0 ≤ a 146 49 from by omega) (show jxw ((a 146 49) + 1) = a 146 49 + 1 from by omega))
  have hg1736_ : FO (jxu a 182 ((a 146 49).toNat) (-1)) := (FO_fr hi7 (jfr_1 a 182 ((a 146 49).toNat) (-1)) rfl rfl (fun _ => rfl))
  have hg1737_ : FO (jxu (jxu a 182 ((a 146 49).toNat) (-1)) 146 49 (jxw ((a 146 49) + 1))) := (FO_put49 hg1736_ (show a 146 49 ≤ jxw ((a 146 49) + 1) from by omega))
  have hg1738_ : FW (jxu a 182 ((a 146 49).toNat) (-1)) := (FW_fr hi8 (jfr_1 a 182 ((a 146 49).toNat) (-1)) rfl (fun _ => rfl))
  have hg1739_ : FW (jxu (jxu a 182 ((a 146 49).toNat) (-1)) 146 49 (jxw ((a 146 49) + 1))) := (FW_put49 hg1738_ (show a 146 49 ≤ jxw ((a 146 49) + 1) from by omega))
  have h1740_ : jxw ((jxw ((a 146 49) + 1)) - 1) = (jxw ((a 146 49) + 1)) - 1 := jxw_id (by omega) (by omega)
  exact jt_rI ⟨hv1730_, hf1733_, rfl, hg1735_, hg1737_, hg1739_, (show (a0 146 2 = 0 → jxw ((jxw ((a 146 49) + 1)) - 1) = 0 - 1) from by omega), (show ((((((((0 ≤ x1 ∧ x1 < a0 146 2) ∧ ¬ a0 152 (x1.toNat) = 0) ∧ 0 ≤ x2) ∧ x2 ≤ 31) ∧ a0 146 49 < 20) ∧ jxw ((jxw ((a 146 49) + 1)) - 1) = a0 146 49) ∧ jxw ((a 146 49) + 1) = (a0 146 49) + 1) ∨ (((((((x1 < 0 ∨ a0 146 2 ≤ x1) ∨ a0 152 (x1.toNat) = 0) ∨ x2 < 0) ∨ 31 < x2) ∨ 20 ≤ a0 146 49) ∧ jxw ((jxw ((a 146 49) + 1)) - 1) = 0 - 1) ∧ jxw ((a 146 49) + 1) = a0 146 49)) from by omega), (fun _ => ⟨by rw [jxu_off (show ¬ 178 = 146 by decide)]; rw [jxu_off (show ¬ 178 = 182 by decide)]; exact h78.1, by rw [jxu_off (show ¬ 179 = 146 by decide)]; rw [jxu_off (show ¬ 179 = 182 by decide)]; exact h78.2.1, by rw [jxu_off (show ¬ 180 = 146 by decide)]; rw [jxu_off (show ¬ 180 = 182 by decide)]; exact h78.2.2, by rw [jxu_off (show ¬ 181 = 146 by decide)]; rw [jxu_off (show ¬ 181 = 182 by decide)]; exact funext fun j => hfe 181 j rfl, by rw [jxu_off (show ¬ 182 = 146 by decide)]; rw [jxu_rup, hfe 146 49 rfl, show a 182 = a0 182 from funext fun j => hfe 182 j rfl]⟩), (fun h => absurd h (by have := iv_get hv (k := 146) (j := 49) (l := 0) (u := 20) rfl; omega))⟩
theorem cr_X12_offer_38 (E : jxE) (d : Nat) (hd : Nat.ble 3 (d + 1) = true) (x1 x2 x3 : Int) (a0 b0 : Nat → Nat → Int) (hv0 : iv a0) (hp0 : OC a0) (hp1 : FO a0) (hp2 : FW a0) : ∀ (y1 y2 y3 : Int) (a : Nat → Nat → Int), iv a → jfr jW_X12_offer a0 a → 0 ≤ y1 → y1 ≤ 39 → 0 ≤ y2 → y2 ≤ 31 → a 146 49 ≤ 19 → 1 ≤ a0 146 2 → (((((0 ≤ x1 ∧ x1 < a0 146 2) ∧ ¬ a0 152 (x1.toNat) = 0) ∧ 0 ≤ x2) ∧ x2 ≤ 31) ∧ a0 146 49 < 20) → a 146 49 = a0 146 49 → (jfr jWox0 a0 a) → (y1 = x1 ∧ y2 = x2 ∧ y3 = x3) → (OC a) → (FO a) → (FW a) → jt (jxX E d 262 38 [some (.inr (.inr (.inl 146))), some (.inl y1), some (.inl y2), some (.inl y3)] [] (jxSH, a, b0)) (jR_X12_offer x1 x2 x3 a0 b0) := by
  intro y1 y2 y3 a hv hf hi0 hi1 hi2 hi3 hi4 hi5 hi6 hi7 hfe hyx hi10 hi11 hi12
  refine jt_eq (bq_X12_offer_38 E d y1 y2 y3 a b0) ?_
  have h1741_ := iv_get hv (k := 146) (j := 49) (l := 0) (u := 20) rfl
  have h1742_ := iv_get hv0 (k := 146) (j := 2) (l := 0) (u := 40) rfl
  have h1743_ := iv_get hv0 (k := 152) (j := x1.toNat) (l := 0) (u := 1) rfl
  have h1744_ := iv_get hv0 (k := 146) (j := 49) (l := 0) (u := 20) rfl
  refine jt_grd (by omega) ?_
  refine jt_grd (by omega) ?_
  refine jt_grd (by omega) ?_
  have hv1745_ : iv (jxu a 178 ((a 146 49).toNat) y1) := iv_put hv (l := 0) (u := 39) rfl (by omega) (by omega)
  have hv1746_ : iv (jxu (jxu a 178 ((a 146 49).toNat) y1) 179 ((a 146 49).toNat) y2) := iv_put hv1745_ (l := 0) (u := 31) rfl (by omega) (by omega)
  have hv1747_ : iv (jxu (jxu (jxu a 178 ((a 146 49).toNat) y1) 179 ((a 146 49).toNat) y2) 180 ((a 146 49).toNat) y3) := iv_putf hv1746_ rfl
  have hf1748_ : jfr jW_X12_offer a0 (jxu a 178 ((a 146 49).toNat) y1) := jfr_put hf rfl
  have hf1749_ : jfr jW_X12_offer a0 (jxu (jxu a 178 ((a 146 49).toNat) y1) 179 ((a 146 49).toNat) y2) := jfr_put hf1748_ rfl
  have hf1750_ : jfr jW_X12_offer a0 (jxu (jxu (jxu a 178 ((a 146 49).toNat) y1) 179 ((a 146 49).toNat) y2) 180 ((a 146 49).toNat) y3) := jfr_put hf1749_ rfl
  have hf1751_ : jfr jWox1 a0 (jxu a 178 ((a 146 49).toNat) y1) := jfr_put (jfr_tr (jfr_rf _ _) hfe rfl) rfl
  have hf1752_ : jfr jWox1 a0 (jxu (jxu a 178 ((a 146 49).toNat) y1) 179 ((a 146 49).toNat) y2) := jfr_put hf1751_ rfl
  have hf1753_ : jfr jWox1 a0 (jxu (jxu (jxu a 178 ((a 146 49).toNat) y1) 179 ((a 146 49).toNat) y2) 180 ((a 146 49).toNat) y3) := jfr_put hf1752_ rfl
  have hg1754_ : OC (jxu a 178 ((a 146 49).toNat) y1) := (OC_putx hi10 (by decide) (show a 146 49 ≤ ((((a 146 49).toNat) : Nat) : Int) from by omega))
  have hg1755_ : OC (jxu (jxu a 178 ((a 146 49).toNat) y1) 179 ((a 146 49).toNat) y2) := (OC_fr hg1754_ (jfr_1 (jxu a 178 ((a 146 49).toNat) y1) 179 ((a 146 49).toNat) y2) rfl rfl (fun _ => rfl) (fun _ => rfl) (fun _ => rfl) (fun _ => rfl) (fun _ => rfl))
  have hg1756_ : OC (jxu (jxu (jxu a 178 ((a 146 49).toNat) y1) 179 ((a 146 49).toNat) y2) 180 ((a 146 49).toNat) y3) := (OC_fr hg1755_ (jfr_1 (jxu (jxu a 178 ((a 146 49).toNat) y1) 179 ((a 146 49).toNat) y2) 180 ((a 146 49).toNat) y3) rfl rfl (fun _ => rfl) (fun _ => rfl) (fun _ => rfl) (fun _ => rfl) (fun _ => rfl))
  have hg1757_ : FO (jxu a 178 ((a 146 49).toNat) y1) := (FO_fr hi11 (jfr_1 a 178 ((a 146 49).toNat) y1) rfl rfl (fun _ => rfl))
  have hg1758_ : FO (jxu (jxu a 178 ((a 146 49).toNat) y1) 179 ((a 146 49).toNat) y2) := (FO_fr hg1757_ (jfr_1 (jxu a 178 ((a 146 49).toNat) y1) 179 ((a 146 49).toNat) y2) rfl rfl (fun _ => rfl))
  have hg1759_ : FO (jxu (jxu (jxu a 178 ((a 146 49).toNat) y1) 179 ((a 146 49).toNat) y2) 180 ((a 146 49).toNat) y3) := (FO_fr hg1758_ (jfr_1 (jxu (jxu a 178 ((a 146 49).toNat) y1) 179 ((a 146 49).toNat) y2) 180 ((a 146 49).toNat) y3) rfl rfl (fun _ => rfl))
  have hg1760_ : FW (jxu a 178 ((a 146 49).toNat) y1) := (FW_fr hi12 (jfr_1 a 178 ((a 146 49).toNat) y1) rfl (fun _ => rfl))
  have hg1761_ : FW (jxu (jxu a 178 ((a 146 49).toNat) y1) 179 ((a 146 49).toNat) y2) := (FW_fr hg1760_ (jfr_1 (jxu a 178 ((a 146 49).toNat) y1) 179 ((a 146 49).toNat) y2) rfl (fun _ => rfl))
  have hg1762_ : FW (jxu (jxu (jxu a 178 ((a 146 49).toNat) y1) 179 ((a 146 49).toNat) y2) 180 ((a 146 49).toNat) y3) := (FW_fr hg1761_ (jfr_1 (jxu (jxu a 178 ((a 146 49).toNat) y1) 179 ((a 146 49).toNat) y2) 180 ((a 146 49).toNat) y3) rfl (fun _ => rfl))
  exact cr_X12_offer_68 E d hd x1 x2 x3 a0 b0 hv0 hp0 hp1 hp2 (jxu (jxu (jxu a 178 ((a 146 49).toNat) y1) 179 ((a 146 49).toNat) y2) 180 ((a 146 49).toNat) y3) hv1747_ hf1750_ (show a 146 49 ≤ 19 from by omega) (show 1 ≤ a0 146 2 from by omega) (show (((((0 ≤ x1 ∧ x1 < a0 146 2) ∧ ¬ a0 152 (x1.toNat) = 0) ∧ 0 ≤ x2) ∧ x2 ≤ 31) ∧ a0 146 49 < 20) from by omega) (show a 146 49 = a0 146 49 from by omega) hf1753_ ⟨by rw [jxu_off (show ¬ 178 = 180 by decide)]; rw [jxu_off (show ¬ 178 = 179 by decide)]; rw [jxu_rup, hyx.1, hfe 146 49 rfl, show a 178 = a0 178 from funext fun j => hfe 178 j rfl], by rw [jxu_off (show ¬ 179 = 180 by decide)]; rw [jxu_rup, jxu_off (show ¬ 179 = 178 by decide), hyx.2.1, hfe 146 49 rfl, show a 179 = a0 179 from funext fun j => hfe 179 j rfl], by rw [jxu_rup, jxu_off (show ¬ 180 = 179 by decide), jxu_off (show ¬ 180 = 178 by decide), hyx.2.2, hfe 146 49 rfl, show a 180 = a0 180 from funext fun j => hfe 180 j rfl]⟩ hg1756_ hg1759_ hg1762_
theorem sq_X12_offer (E : jxE) (d : Nat) (hd : Nat.ble 3 d = true) (x1 x2 x3 : Int) (a0 b0 : Nat → Nat → Int) (hv0 : iv a0) (hp0 : OC a0) (hp1 : FO a0) (hp2 : FW a0) : jt (jxC E d 262 [.inr (.inr (.inl 146)), .inl x1, .inl x2, .inl x3] (jxSH, a0, b0)) (jR_X12_offer x1 x2 x3 a0 b0) := by
  obtain ⟨d, rfl⟩ := jd_succ hd
  refine jt_eq (bq_X12_offer E d x1 x2 x3 a0 b0) ?_
  have h1763_ := iv_get hv0 (k := 146) (j := 49) (l := 0) (u := 20) rfl
  refine jt_ite (fun c1764_ => ?_) (fun c1764_ => ?_)
  ·
    have h1765_ := iv_get hv0 (k := 146) (j := 2) (l := 0) (u := 40) rfl
    have h1766_ := iv_get hv0 (k := 152) (j := x1.toNat) (l := 0) (u := 1) rfl
    exact cr_X12_offer_36 E d hd x1 x2 x3 a0 b0 hv0 hp0 hp1 hp2 a0 hv0 (jfr_rf _ _) (show (((((x1 < 0 ∨ a0 146 2 ≤ x1) ∨ a0 152 (x1.toNat) = 0) ∨ x2 < 0) ∨ 31 < x2) ∨ 20 ≤ a0 146 49) from by omega) (show a0 146 49 = a0 146 49 from by omega) (jfr_rf _ _) hp0 hp1 hp2
  ·
    refine jt_eI (eq_X12_isMember E d (jd_le hd rfl) x1 a0 b0) ?_
    have h1767_ := f_X12_isMember_eq a0 b0 x1
    have h1768_ := iv_get hv0 (k := 146) (j := 2) (l := 0) (u := 40) rfl
    have h1769_ : jxw ((a0 146 2) - 1) = (a0 146 2) - 1 := jxw_id (by omega) (by omega)
    have h1770_ := f_X12_in_eq a0 b0 x1 0 (jxw ((a0 146 2) - 1))
    refine jt_ite (fun c1771_ => ?_) (fun c1771_ => ?_)
    ·
      have h1772_ := iv_get hv0 (k := 152) (j := x1.toNat) (l := 0) (u := 1) rfl
      exact cr_X12_offer_36 E d hd x1 x2 x3 a0 b0 hv0 hp0 hp1 hp2 a0 hv0 (jfr_rf _ _) (show (((((x1 < 0 ∨ a0 146 2 ≤ x1) ∨ a0 152 (x1.toNat) = 0) ∨ x2 < 0) ∨ 31 < x2) ∨ 20 ≤ a0 146 49) from by omega) (show a0 146 49 = a0 146 49 from by omega) (jfr_rf _ _) hp0 hp1 hp2
    ·
      refine jt_grd (by omega) ?_
      have h1773_ := iv_get hv0 (k := 152) (j := x1.toNat) (l := 0) (u := 1) rfl
      refine jt_ite (fun c1774_ => ?_) (fun c1774_ => ?_)
      ·
        exact cr_X12_offer_36 E d hd x1 x2 x3 a0 b0 hv0 hp0 hp1 hp2 a0 hv0 (jfr_rf _ _) (show (((((x1 < 0 ∨ a0 146 2 ≤ x1) ∨ a0 152 (x1.toNat) = 0) ∨ x2 < 0) ∨ 31 < x2) ∨ 20 ≤ a0 146 49) from by omega) (show a0 146 49 = a0 146 49 from by omega) (jfr_rf _ _) hp0 hp1 hp2
      ·
        refine jt_eI (eq_X12_in E d (jd_le hd rfl) x2 0 31 a0 b0) ?_
        have h1775_ := f_X12_in_eq a0 b0 x2 0 31
        refine jt_ite (fun c1776_ => ?_) (fun c1776_ => ?_)
        ·
          exact cr_X12_offer_36 E d hd x1 x2 x3 a0 b0 hv0 hp0 hp1 hp2 a0 hv0 (jfr_rf _ _) (show (((((x1 < 0 ∨ a0 146 2 ≤ x1) ∨ a0 152 (x1.toNat) = 0) ∨ x2 < 0) ∨ 31 < x2) ∨ 20 ≤ a0 146 49) from by omega) (show a0 146 49 = a0 146 49 from by omega) (jfr_rf _ _) hp0 hp1 hp2
        ·
          exact cr_X12_offer_38 E d hd x1 x2 x3 a0 b0 hv0 hp0 hp1 hp2 x1 x2 x3 a0 hv0 (jfr_rf _ _) (show 0 ≤ x1 from by omega) (show x1 ≤ 39 from by omega) (show 0 ≤ x2 from by omega) (show x2 ≤ 31 from by omega) (show a0 146 49 ≤ 19 from by omega) (show 1 ≤ a0 146 2 from by omega) (show (((((0 ≤ x1 ∧ x1 < a0 146 2) ∧ ¬ a0 152 (x1.toNat) = 0) ∧ 0 ≤ x2) ∧ x2 ≤ 31) ∧ a0 146 49 < 20) from by omega) (show a0 146 49 = a0 146 49 from by omega) (jfr_rf _ _) ⟨rfl, rfl, rfl⟩ hp0 hp1 hp2
