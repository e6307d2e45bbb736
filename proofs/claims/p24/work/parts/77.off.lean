abbrev jR_X11_away (x1 : Int) (a0 b0 : Nat → Nat → Int) : List jxV → (Nat → Nat → Int) → (Nat → Nat → Int) → Prop := rI (fun r a b => (iv a) ∧ (jfr jW_X11_away a0 a) ∧ (b0 = b) ∧ ((0 ≤ r ∧ r ≤ 1)) ∧ ((a0 83 6 = 0 → r = 0)) ∧ (AWC a0 a x1 r))
theorem sq_X11_away (E : jxE) (d : Nat) (hd : Nat.ble 3 d = true) (x1 : Int) (a0 b0 : Nat → Nat → Int) (hv0 : iv a0) : jt (jxC E d 185 [.inr (.inr (.inl 0)), .inl x1] (jxSH, a0, b0)) (jR_X11_away x1 a0 b0) := by
  obtain ⟨d, rfl⟩ := jd_succ hd
  refine jt_eq (bq_X11_away E d x1 a0 b0) ?_
  have hawo_ := AWO_c (a := a0) (b := b0) (x := x1) (iv_get hv0 (k := 83) (j := 6) (l := 0) (u := 20) rfl).2
  refine jt_eI (eq_X4_isOpen E d (jd_le hd rfl) x1 a0 b0) ?_
  have h1_ := f_X4_isOpen_eq a0 b0 x1
  have h2_ := f_X4_has_eq a0 b0 x1
  have h3_ := iv_get hv0 (k := 83) (j := 6) (l := 0) (u := 20) rfl
  refine jt_ite (fun c4_ => ?_) (fun c4_ => ?_)
  ·
    exact jt_rI ⟨hv0, (jfr_rf _ _), rfl, (show (0 ≤ 0 ∧ 0 ≤ 1) from by omega), (show (a0 83 6 = 0 → 0 = 0) from by omega), (Or.inr ⟨fun z => (hawo_.2 z) (by assumption), rfl, rfl, rfl, rfl⟩)⟩
  ·
    refine jt_bV (sq_X4_takeAway E d (jd_le hd rfl) x1 a0 b0 hv0) (fun a5_ b5_ h5_ => ?_)
    obtain ⟨hv5_, hf5_, rfl, hq5_0⟩ := h5_
    have hf6_ : jfr jW_X11_away a0 a5_ := jfr_tr (jfr_rf _ _) hf5_ rfl
    exact jt_rI ⟨hv5_, hf6_, rfl, (show (0 ≤ 1 ∧ 1 ≤ 1) from by omega), (show (a0 83 6 = 0 → 1 = 0) from by omega), (by have q_ := hawo_.1 (by assumption); exact Or.inl ⟨q_, rfl, hq5_0 q_.1 q_.2.1⟩)⟩
def jWl76 : List (Nat × Nat) := []
abbrev jR_X11_list (x1 : Int) (a0 b0 : Nat → Nat → Int) : List jxV → (Nat → Nat → Int) → (Nat → Nat → Int) → Prop := rI (fun r a b => (iv a) ∧ (jfr jW_X11_list a0 a) ∧ (b0 = b) ∧ ((a0 4 6 = 0 → r = 0 - 1)) ∧ (LSP (a0 0 9) (a 0 9) (a0 76) (a 76) (a0 4 6) x1 r))
theorem cr_X11_list_67 (E : jxE) (d : Nat) (hd : Nat.ble 2 (d + 1) = true) (x1 : Int) (a0 b0 : Nat → Nat → Int) (hv0 : iv a0) : ∀ (a : Nat → Nat → Int), iv a → jfr jW_X11_list a0 a → 1 ≤ a 0 9 → (LSP (a0 0 9) (a 0 9) (a0 76) (a 76) (a0 4 6) x1 (a 0 9)) → 1 ≤ a0 4 6 → jt (jxX E d 167 67 [some (.inr (.inr (.inl 0))), none, none] [] (jxSH, a, b0)) (jR_X11_list x1 a0 b0) := by
  intro a hv hf hi0 hls hi2
  refine jt_eq (bq_X11_list_67 E d a b0) ?_
  have h7_ := iv_get hv (k := 0) (j := 9) (l := 0) (u := 8) rfl
  have h8_ := iv_get hv0 (k := 4) (j := 6) (l := 0) (u := 40) rfl
  exact jt_rI ⟨hv, hf, rfl, (show (a0 4 6 = 0 → a 0 9 = 0 - 1) from by omega), hls⟩
theorem cr_X11_list_24 (E : jxE) (d : Nat) (hd : Nat.ble 2 (d + 1) = true) (x1 : Int) (a0 b0 : Nat → Nat → Int) (hv0 : iv a0) : ∀ n : Nat, (∀ (y1 y2 : Int) (a : Nat → Nat → Int), (((7 - y2) * 1) + 0).toNat ≤ n → iv a → jfr jW_X11_list a0 a → 0 ≤ y1 → y1 ≤ 39 → 0 ≤ y2 → y2 ≤ 7 → a 0 9 ≤ 7 → (jfr jWl76 a0 a) → ((y1 = x1 ∧ 0 ≤ x1) ∧ x1 < a 4 6) → a 0 9 < 8 → 0 ≤ y2 → (∀ i : Nat, (i : Int) < y2 → ¬ a0 76 i = x1) → 1 ≤ a0 4 6 → jt (jxX E d 167 24 [some (.inr (.inr (.inl 0))), some (.inl y1), some (.inl y2)] [] (jxSH, a, b0)) (jR_X11_list x1 a0 b0)) := by
  refine jx_ind fun n ih => ?_
  have ih24 : ∀ (y1 y2 : Int) (a : Nat → Nat → Int), (((7 - y2) * 1) + 0).toNat < n → iv a → jfr jW_X11_list a0 a → 0 ≤ y1 → y1 ≤ 39 → 0 ≤ y2 → y2 ≤ 7 → a 0 9 ≤ 7 → (jfr jWl76 a0 a) → ((y1 = x1 ∧ 0 ≤ x1) ∧ x1 < a 4 6) → a 0 9 < 8 → 0 ≤ y2 → (∀ i : Nat, (i : Int) < y2 → ¬ a0 76 i = x1) → 1 ≤ a0 4 6 → jt (jxX E d 167 24 [some (.inr (.inr (.inl 0))), some (.inl y1), some (.inl y2)] [] (jxSH, a, b0)) (jR_X11_list x1 a0 b0) := fun y1 y2 a hlt i0 i1 i2 i3 i4 i5 i6 i7 i8 i9 i10 i11 i12 => (ih _ hlt) y1 y2 a (Nat.le_refl _) i0 i1 i2 i3 i4 i5 i6 i7 i8 i9 i10 i11 i12
  have hc24 : ∀ (y1 y2 : Int) (a : Nat → Nat → Int), (((7 - y2) * 1) + 0).toNat ≤ n → iv a → jfr jW_X11_list a0 a → 0 ≤ y1 → y1 ≤ 39 → 0 ≤ y2 → y2 ≤ 7 → a 0 9 ≤ 7 → (jfr jWl76 a0 a) → ((y1 = x1 ∧ 0 ≤ x1) ∧ x1 < a 4 6) → a 0 9 < 8 → 0 ≤ y2 → (∀ i : Nat, (i : Int) < y2 → ¬ a0 76 i = x1) → 1 ≤ a0 4 6 → jt (jxX E d 167 24 [some (.inr (.inr (.inl 0))), some (.inl y1), some (.inl y2)] [] (jxSH, a, b0)) (jR_X11_list x1 a0 b0) := by
    intro y1 y2 a hm hv hf hi0 hi1 hi2 hi3 hi4 hfe hi6 hi7 hi8 hli hi10
    refine jt_eq (bq_X11_list_24 E d y1 y2 a b0) ?_
    have h9_ := iv_get hv (k := 0) (j := 9) (l := 0) (u := 8) rfl
    have h10_ := iv_get hv (k := 4) (j := 6) (l := 0) (u := 40) rfl
    have h11_ : a 4 6 = a0 4 6 := hf 4 6 rfl
    have h12_ := iv_get hv0 (k := 4) (j := 6) (l := 0) (u := 40) rfl
    have inl_ := iv_get hv0 (k := 0) (j := 9) (l := 0) (u := 8) rfl
    have inm_ := iv_get hv0 (k := 4) (j := 6) (l := 0) (u := 40) rfl
    refine jt_ite (fun c13_ => ?_) (fun c13_ => ?_)
    ·
      refine jt_grd (by omega) ?_
      refine jt_ite (fun c14_ => ?_) (fun c14_ => ?_)
      ·
        exact jt_rI ⟨hv, hf, rfl, (show (a0 4 6 = 0 → (-1) = 0 - 1) from by omega), (Or.inr ⟨fun z => (z.2.2.2 y2.toNat (by have e := hfe 0 9 rfl; omega)) (by rw [← hfe 76 _ rfl, ← show y1 = x1 from by omega]; assumption), rfl, hfe 0 9 rfl, funext fun j => hfe 76 j rfl⟩)⟩
      ·
        have h15_ : jxw (y2 + 1) = y2 + 1 := jxw_id (by omega) (by omega)
        exact ih24 y1 (jxw (y2 + 1)) a (show (((7 - (jxw (y2 + 1))) * 1) + 0).toNat < n from by omega) hv hf (show 0 ≤ y1 from by omega) (show y1 ≤ 39 from by omega) (show 0 ≤ jxw (y2 + 1) from by omega) (show jxw (y2 + 1) ≤ 7 from by omega) (show a 0 9 ≤ 7 from by omega) hfe (show ((y1 = x1 ∧ 0 ≤ x1) ∧ x1 < a 4 6) from by omega) (show a 0 9 < 8 from by omega) (show 0 ≤ jxw (y2 + 1) from by omega) (fun i h => by by_cases e : i = y2.toNat <;> first | (rw [e, ← hfe 76 _ rfl, ← show y1 = x1 from by omega]; assumption) | exact hli i (by omega)) (show 1 ≤ a0 4 6 from by omega)
    ·
      refine jt_grd (by omega) ?_
      have h17_ : jxw ((a 0 9) + 1) = (a 0 9) + 1 := jxw_id (by omega) (by omega)
      have hv16_ : iv (jxu a 0 9 (jxw ((a 0 9) + 1))) := iv_put hv (l := 0) (u := 8) rfl (by omega) (by omega)
      have hv18_ : iv (jxu (jxu a 0 9 (jxw ((a 0 9) + 1))) 76 ((a 0 9).toNat) y1) := iv_putf hv16_ rfl
      have hf19_ : jfr jW_X11_list a0 (jxu a 0 9 (jxw ((a 0 9) + 1))) := jfr_put hf rfl
      have hf20_ : jfr jW_X11_list a0 (jxu (jxu a 0 9 (jxw ((a 0 9) + 1))) 76 ((a 0 9).toNat) y1) := jfr_put hf19_ rfl
      exact cr_X11_list_67 E d hd x1 a0 b0 hv0 (jxu (jxu a 0 9 (jxw ((a 0 9) + 1))) 76 ((a 0 9).toNat) y1) hv18_ hf20_ (show 1 ≤ jxw ((a 0 9) + 1) from by omega) (by have e9_ := hfe 0 9 rfl; have en_ := hfe 4 6 rfl; exact (Or.inl ⟨⟨by omega, by omega, by omega, fun i h => hli i (by omega)⟩, by rw [jxu_nk (show ¬ 0 = 76 by decide), jxu_at, e9_, jxw_id (by omega) (by omega)], by rw [jxu_nk (show ¬ 0 = 76 by decide), jxu_at, e9_, jxw_id (by omega) (by omega)], by rw [jxu_rup, jxu_off (show ¬ 76 = 0 by decide), e9_, show a 76 = a0 76 from funext fun j => hfe 76 j rfl, show y1 = x1 from by omega]⟩)) (show 1 ≤ a0 4 6 from by omega)
  exact hc24
theorem sq_X11_list (E : jxE) (d : Nat) (hd : Nat.ble 2 d = true) (x1 : Int) (a0 b0 : Nat → Nat → Int) (hv0 : iv a0) : jt (jxC E d 167 [.inr (.inr (.inl 0)), .inl x1] (jxSH, a0, b0)) (jR_X11_list x1 a0 b0) := by
  obtain ⟨d, rfl⟩ := jd_succ hd
  refine jt_eq (bq_X11_list E d x1 a0 b0) ?_
  have inl_ := iv_get hv0 (k := 0) (j := 9) (l := 0) (u := 8) rfl
  have inm_ := iv_get hv0 (k := 4) (j := 6) (l := 0) (u := 40) rfl
  refine jt_eI (eq_X3_has E d (jd_le hd rfl) x1 a0 b0) ?_
  have h21_ := f_X3_has_eq a0 b0 x1
  have h22_ := iv_get hv0 (k := 4) (j := 6) (l := 0) (u := 40) rfl
  refine jt_ite (fun c23_ => ?_) (fun c23_ => ?_)
  ·
    exact jt_rI ⟨hv0, (jfr_rf _ _), rfl, (show (a0 4 6 = 0 → (-1) = 0 - 1) from by omega), (Or.inr ⟨fun z => by have z1 := z.1; have z2 := z.2.1; have z3 := z.2.2.1; omega, rfl, rfl, rfl⟩)⟩
  ·
    have h24_ := iv_get hv0 (k := 0) (j := 9) (l := 0) (u := 8) rfl
    refine jt_ite (fun c25_ => ?_) (fun c25_ => ?_)
    ·
      exact (cr_X11_list_24 E d hd x1 a0 b0 hv0 _) x1 0 a0 (Nat.le_refl _) hv0 (jfr_rf _ _) (show 0 ≤ x1 from by omega) (show x1 ≤ 39 from by omega) (show 0 ≤ 0 from by omega) (show 0 ≤ 7 from by omega) (show a0 0 9 ≤ 7 from by omega) (jfr_rf _ _) (show ((x1 = x1 ∧ 0 ≤ x1) ∧ x1 < a0 4 6) from by omega) (show a0 0 9 < 8 from by omega) (show 0 ≤ 0 from by omega) (fun i h => absurd h (by omega)) (show 1 ≤ a0 4 6 from by omega)
    ·
      exact jt_rI ⟨hv0, (jfr_rf _ _), rfl, (show (a0 4 6 = 0 → (-1) = 0 - 1) from by omega), (Or.inr ⟨fun z => by have z1 := z.1; have z2 := z.2.1; have z3 := z.2.2.1; omega, rfl, rfl, rfl⟩)⟩
def jWod1 : List (Nat × Nat) := [(84, 9999), (85, 9999)]
def jWod2 : List (Nat × Nat) := [(84, 9999), (85, 9999), (86, 9999), (87, 9999), (88, 9999)]
abbrev jR_X4_add (x1 x2 x3 : Int) (a0 b0 : Nat → Nat → Int) : List jxV → (Nat → Nat → Int) → (Nat → Nat → Int) → Prop := rI (fun r a b => (iv a) ∧ (jfr jW_X4_add a0 a) ∧ (b0 = b) ∧ ((((a0 83 6 < 20 ∧ r = a0 83 6) ∧ a 83 6 = (a0 83 6) + 1) ∨ ((20 ≤ a0 83 6 ∧ r = 0 - 1) ∧ a 83 6 = a0 83 6))) ∧ (0 ≤ r → OFA a0 a x1 x2 x3) ∧ (r < 0 → OFS a0 a))
theorem cr_X4_add_61 (E : jxE) (d : Nat) (hd : Nat.ble 1 (d + 1) = true) (x1 x2 x3 : Int) (a0 b0 : Nat → Nat → Int) (hv0 : iv a0) : ∀ (a : Nat → Nat → Int), iv a → jfr jW_X4_add a0 a → a 83 6 ≤ 19 → a 83 6 = a0 83 6 → a 83 6 ≤ 19 → (jfr jWod2 a0 a) → (a 84 = rup (a0 84) (a0 83 6).toNat x1 ∧ a 85 = rup (a0 85) (a0 83 6).toNat x2 ∧ a 86 = rup (a0 86) (a0 83 6).toNat x3 ∧ a 87 = rup (a0 87) (a0 83 6).toNat 0 ∧ a 88 = rup (a0 88) (a0 83 6).toNat (-1)) → jt (jxX E d 66 61 [some (.inr (.inr (.inl 83))), none, none, none] [] (jxSH, a, b0)) (jR_X4_add x1 x2 x3 a0 b0) := by
  intro a hv hf hi0 hi1 hi2 hfe h48
  refine jt_eq (bq_X4_add_61 E d a b0) ?_
  have h26_ := iv_get hv (k := 83) (j := 6) (l := 0) (u := 20) rfl
  have h27_ := iv_get hv0 (k := 83) (j := 6) (l := 0) (u := 20) rfl
  refine jt_grd (by omega) ?_
  have hv28_ : iv (jxu a 89 ((a 83 6).toNat) (-1)) := iv_putf hv rfl
  have h30_ : jxw ((a 83 6) + 1) = (a 83 6) + 1 := jxw_id (by omega) (by omega)
  have hv29_ : iv (jxu (jxu a 89 ((a 83 6).toNat) (-1)) 83 6 (jxw ((a 83 6) + 1))) := iv_put hv28_ (l := 0) (u := 20) rfl (by omega) (by omega)
  have hf31_ : jfr jW_X4_add a0 (jxu a 89 ((a 83 6).toNat) (-1)) := jfr_put hf rfl
  have hf32_ : jfr jW_X4_add a0 (jxu (jxu a 89 ((a 83 6).toNat) (-1)) 83 6 (jxw ((a 83 6) + 1))) := jfr_put hf31_ rfl
  exact jt_rI ⟨hv29_, hf32_, rfl, (show (((a0 83 6 < 20 ∧ a 83 6 = a0 83 6) ∧ jxw ((a 83 6) + 1) = (a0 83 6) + 1) ∨ ((20 ≤ a0 83 6 ∧ a 83 6 = 0 - 1) ∧ jxw ((a 83 6) + 1) = a0 83 6)) from by omega), (fun _ => ⟨by rw [jxu_off (show ¬ 84 = 83 by decide)]; rw [jxu_off (show ¬ 84 = 89 by decide)]; exact h48.1, by rw [jxu_off (show ¬ 85 = 83 by decide)]; rw [jxu_off (show ¬ 85 = 89 by decide)]; exact h48.2.1, by rw [jxu_off (show ¬ 86 = 83 by decide)]; rw [jxu_off (show ¬ 86 = 89 by decide)]; exact h48.2.2.1, by rw [jxu_off (show ¬ 87 = 83 by decide)]; rw [jxu_off (show ¬ 87 = 89 by decide)]; exact h48.2.2.2.1, by rw [jxu_off (show ¬ 88 = 83 by decide)]; rw [jxu_off (show ¬ 88 = 89 by decide)]; exact h48.2.2.2.2, by rw [jxu_off (show ¬ 89 = 83 by decide)]; rw [jxu_rup, hfe 83 6 rfl, show a 89 = a0 89 from funext fun j => hfe 89 j rfl]⟩), (fun h => absurd h (by have := iv_get hv (k := 83) (j := 6) (l := 0) (u := 20) rfl; omega))⟩
theorem cr_X4_add_31 (E : jxE) (d : Nat) (hd : Nat.ble 1 (d + 1) = true) (x1 x2 x3 : Int) (a0 b0 : Nat → Nat → Int) (hv0 : iv a0) : ∀ (y3 : Int) (a : Nat → Nat → Int), iv a → jfr jW_X4_add a0 a → a 83 6 ≤ 19 → a 83 6 = a0 83 6 → a 83 6 ≤ 19 → (jfr jWod1 a0 a) → (y3 = x3) → (a 84 = rup (a0 84) (a0 83 6).toNat x1 ∧ a 85 = rup (a0 85) (a0 83 6).toNat x2) → jt (jxX E d 66 31 [some (.inr (.inr (.inl 83))), none, none, some (.inl y3)] [] (jxSH, a, b0)) (jR_X4_add x1 x2 x3 a0 b0) := by
  intro y3 a hv hf hi0 hi1 hi2 hfe hy3 h45
  refine jt_eq (bq_X4_add_31 E d y3 a b0) ?_
  have h33_ := iv_get hv (k := 83) (j := 6) (l := 0) (u := 20) rfl
  have h34_ := iv_get hv0 (k := 83) (j := 6) (l := 0) (u := 20) rfl
  refine jt_grd (by omega) ?_
  refine jt_grd (by omega) ?_
  refine jt_grd (by omega) ?_
  have hv35_ : iv (jxu a 86 ((a 83 6).toNat) y3) := iv_putf hv rfl
  have hv36_ : iv (jxu (jxu a 86 ((a 83 6).toNat) y3) 87 ((a 83 6).toNat) 0) := iv_putf hv35_ rfl
  have hv37_ : iv (jxu (jxu (jxu a 86 ((a 83 6).toNat) y3) 87 ((a 83 6).toNat) 0) 88 ((a 83 6).toNat) (-1)) := iv_putf hv36_ rfl
  have hf38_ : jfr jW_X4_add a0 (jxu a 86 ((a 83 6).toNat) y3) := jfr_put hf rfl
  have hf39_ : jfr jW_X4_add a0 (jxu (jxu a 86 ((a 83 6).toNat) y3) 87 ((a 83 6).toNat) 0) := jfr_put hf38_ rfl
  have hf40_ : jfr jW_X4_add a0 (jxu (jxu (jxu a 86 ((a 83 6).toNat) y3) 87 ((a 83 6).toNat) 0) 88 ((a 83 6).toNat) (-1)) := jfr_put hf39_ rfl
  have hf41_ : jfr jWod2 a0 (jxu a 86 ((a 83 6).toNat) y3) := jfr_put (jfr_tr (jfr_rf _ _) hfe rfl) rfl
  have hf42_ : jfr jWod2 a0 (jxu (jxu a 86 ((a 83 6).toNat) y3) 87 ((a 83 6).toNat) 0) := jfr_put hf41_ rfl
  have hf43_ : jfr jWod2 a0 (jxu (jxu (jxu a 86 ((a 83 6).toNat) y3) 87 ((a 83 6).toNat) 0) 88 ((a 83 6).toNat) (-1)) := jfr_put hf42_ rfl
  exact cr_X4_add_61 E d hd x1 x2 x3 a0 b0 hv0 (jxu (jxu (jxu a 86 ((a 83 6).toNat) y3) 87 ((a 83 6).toNat) 0) 88 ((a 83 6).toNat) (-1)) hv37_ hf40_ (show a 83 6 ≤ 19 from by omega) (show a 83 6 = a0 83 6 from by omega) (show a 83 6 ≤ 19 from by omega) hf43_ (by have e6_ := hfe 83 6 rfl; refine ⟨?_, ?_, ?_, ?_, ?_⟩ <;> first | (rw [jxu_off (show ¬ 84 = 88 by decide)]; rw [jxu_off (show ¬ 84 = 87 by decide)]; rw [jxu_off (show ¬ 84 = 86 by decide)]; exact h45.1) | (rw [jxu_off (show ¬ 85 = 88 by decide)]; rw [jxu_off (show ¬ 85 = 87 by decide)]; rw [jxu_off (show ¬ 85 = 86 by decide)]; exact h45.2) | (rw [jxu_off (show ¬ 86 = 88 by decide)]; rw [jxu_off (show ¬ 86 = 87 by decide)]; rw [jxu_rup, hy3, e6_, show a 86 = a0 86 from funext fun j => hfe 86 j rfl]) | (rw [jxu_off (show ¬ 87 = 88 by decide)]; rw [jxu_rup, jxu_off (show ¬ 87 = 86 by decide), e6_, show a 87 = a0 87 from funext fun j => hfe 87 j rfl]) | (rw [jxu_rup, jxu_off (show ¬ 88 = 87 by decide), jxu_off (show ¬ 88 = 86 by decide), e6_, show a 88 = a0 88 from funext fun j => hfe 88 j rfl]))
theorem sq_X4_add (E : jxE) (d : Nat) (hd : Nat.ble 1 d = true) (x1 x2 x3 : Int) (a0 b0 : Nat → Nat → Int) (hv0 : iv a0) : jt (jxC E d 66 [.inr (.inr (.inl 83)), .inl x1, .inl x2, .inl x3] (jxSH, a0, b0)) (jR_X4_add x1 x2 x3 a0 b0) := by
  obtain ⟨d, rfl⟩ := jd_succ hd
  refine jt_eq (bq_X4_add E d x1 x2 x3 a0 b0) ?_
  have h44_ := iv_get hv0 (k := 83) (j := 6) (l := 0) (u := 20) rfl
  refine jt_ite (fun c45_ => ?_) (fun c45_ => ?_)
  ·
    refine jt_grd (by omega) ?_
    refine jt_grd (by omega) ?_
    have hv46_ : iv (jxu a0 84 ((a0 83 6).toNat) x1) := iv_putf hv0 rfl
    have hv47_ : iv (jxu (jxu a0 84 ((a0 83 6).toNat) x1) 85 ((a0 83 6).toNat) x2) := iv_putf hv46_ rfl
    have hf48_ : jfr jW_X4_add a0 (jxu a0 84 ((a0 83 6).toNat) x1) := jfr_put (jfr_rf _ _) rfl
    have hf49_ : jfr jW_X4_add a0 (jxu (jxu a0 84 ((a0 83 6).toNat) x1) 85 ((a0 83 6).toNat) x2) := jfr_put hf48_ rfl
    have hf50_ : jfr jWod1 a0 (jxu a0 84 ((a0 83 6).toNat) x1) := jfr_put (jfr_rf _ _) rfl
    have hf51_ : jfr jWod1 a0 (jxu (jxu a0 84 ((a0 83 6).toNat) x1) 85 ((a0 83 6).toNat) x2) := jfr_put hf50_ rfl
    exact cr_X4_add_31 E d hd x1 x2 x3 a0 b0 hv0 x3 (jxu (jxu a0 84 ((a0 83 6).toNat) x1) 85 ((a0 83 6).toNat) x2) hv47_ hf49_ (show a0 83 6 ≤ 19 from by omega) (show a0 83 6 = a0 83 6 from by omega) (show a0 83 6 ≤ 19 from by omega) hf51_ rfl ⟨by rw [jxu_off (show ¬ 84 = 85 by decide)]; exact jxu_rup _ _ _ _, by rw [jxu_rup, jxu_off (show ¬ 85 = 84 by decide)]⟩
  ·
    exact jt_rI ⟨hv0, (jfr_rf _ _), rfl, (show (((a0 83 6 < 20 ∧ (-1) = a0 83 6) ∧ a0 83 6 = (a0 83 6) + 1) ∨ ((20 ≤ a0 83 6 ∧ (-1) = 0 - 1) ∧ a0 83 6 = a0 83 6)) from by omega), (fun h => absurd h (by decide)), (fun _ => ⟨rfl, rfl, rfl, rfl, rfl, rfl⟩)⟩
abbrev jR_X11_offer (x1 x2 x3 : Int) (a0 b0 : Nat → Nat → Int) : List jxV → (Nat → Nat → Int) → (Nat → Nat → Int) → Prop := rI (fun r a b => (iv a) ∧ (jfr jW_X11_offer a0 a) ∧ (b0 = b) ∧ ((a0 4 6 = 0 → r = 0 - 1)) ∧ (((((((((0 ≤ x1 ∧ x1 < a0 4 6) ∧ ¬ a0 10 (x1.toNat) = 0) ∧ 0 ≤ x2) ∧ x2 ≤ 31) ∧ a0 83 6 < 20) ∧ r = a0 83 6) ∧ a 83 6 = (a0 83 6) + 1) ∨ (((((((x1 < 0 ∨ a0 4 6 ≤ x1) ∨ a0 10 (x1.toNat) = 0) ∨ x2 < 0) ∨ 31 < x2) ∨ 20 ≤ a0 83 6) ∧ r = 0 - 1) ∧ a 83 6 = a0 83 6))) ∧ (0 ≤ r → OFA a0 a x1 x2 x3) ∧ (r < 0 → OFS a0 a))
theorem sq_X11_offer (E : jxE) (d : Nat) (hd : Nat.ble 3 d = true) (x1 x2 x3 : Int) (a0 b0 : Nat → Nat → Int) (hv0 : iv a0) : jt (jxC E d 184 [.inr (.inr (.inl 0)), .inl x1, .inl x2, .inl x3] (jxSH, a0, b0)) (jR_X11_offer x1 x2 x3 a0 b0) := by
  obtain ⟨d, rfl⟩ := jd_succ hd
  refine jt_eq (bq_X11_offer E d x1 x2 x3 a0 b0) ?_
  refine jt_eI (eq_X3_isThere E d (jd_le hd rfl) x1 a0 b0) ?_
  have h52_ := f_X3_isThere_eq a0 b0 x1
  have h53_ := f_X3_has_eq a0 b0 x1
  have h54_ := iv_get hv0 (k := 4) (j := 6) (l := 0) (u := 40) rfl
  refine jt_ite (fun c55_ => ?_) (fun c55_ => ?_)
  ·
    have h56_ := iv_get hv0 (k := 83) (j := 6) (l := 0) (u := 20) rfl
    exact jt_rI ⟨hv0, (jfr_rf _ _), rfl, (show (a0 4 6 = 0 → (-1) = 0 - 1) from by omega), (show ((((((((0 ≤ x1 ∧ x1 < a0 4 6) ∧ ¬ a0 10 (x1.toNat) = 0) ∧ 0 ≤ x2) ∧ x2 ≤ 31) ∧ a0 83 6 < 20) ∧ (-1) = a0 83 6) ∧ a0 83 6 = (a0 83 6) + 1) ∨ (((((((x1 < 0 ∨ a0 4 6 ≤ x1) ∨ a0 10 (x1.toNat) = 0) ∨ x2 < 0) ∨ 31 < x2) ∨ 20 ≤ a0 83 6) ∧ (-1) = 0 - 1) ∧ a0 83 6 = a0 83 6)) from by omega), (fun h => absurd h (by decide)), (fun _ => ⟨rfl, rfl, rfl, rfl, rfl, rfl⟩)⟩
  ·
    refine jt_eI (eq_X11_within E d (jd_le hd rfl) x2 0 31 a0 b0) ?_
    have h57_ := f_X11_within_eq a0 b0 x2 0 31
    refine jt_ite (fun c58_ => ?_) (fun c58_ => ?_)
    ·
      have h59_ := iv_get hv0 (k := 83) (j := 6) (l := 0) (u := 20) rfl
      exact jt_rI ⟨hv0, (jfr_rf _ _), rfl, (show (a0 4 6 = 0 → (-1) = 0 - 1) from by omega), (show ((((((((0 ≤ x1 ∧ x1 < a0 4 6) ∧ ¬ a0 10 (x1.toNat) = 0) ∧ 0 ≤ x2) ∧ x2 ≤ 31) ∧ a0 83 6 < 20) ∧ (-1) = a0 83 6) ∧ a0 83 6 = (a0 83 6) + 1) ∨ (((((((x1 < 0 ∨ a0 4 6 ≤ x1) ∨ a0 10 (x1.toNat) = 0) ∨ x2 < 0) ∨ 31 < x2) ∨ 20 ≤ a0 83 6) ∧ (-1) = 0 - 1) ∧ a0 83 6 = a0 83 6)) from by omega), (fun h => absurd h (by decide)), (fun _ => ⟨rfl, rfl, rfl, rfl, rfl, rfl⟩)⟩
    ·
      refine jt_bI (sq_X4_add E d (jd_le hd rfl) x1 x2 x3 a0 b0 hv0) (fun r60_ a60_ b60_ h60_ => ?_)
      obtain ⟨hv60_, hf60_, rfl, hq60_0, hq60_1, hq60_2⟩ := h60_
      have h61_ := iv_get hv0 (k := 83) (j := 6) (l := 0) (u := 20) rfl
      have h62_ := iv_get hv60_ (k := 83) (j := 6) (l := 0) (u := 20) rfl
      have hf63_ : jfr jW_X11_offer a0 a60_ := jfr_tr (jfr_rf _ _) hf60_ rfl
      exact jt_rI ⟨hv60_, hf63_, rfl, (show (a0 4 6 = 0 → r60_ = 0 - 1) from by omega), (show ((((((((0 ≤ x1 ∧ x1 < a0 4 6) ∧ ¬ a0 10 (x1.toNat) = 0) ∧ 0 ≤ x2) ∧ x2 ≤ 31) ∧ a0 83 6 < 20) ∧ r60_ = a0 83 6) ∧ a60_ 83 6 = (a0 83 6) + 1) ∨ (((((((x1 < 0 ∨ a0 4 6 ≤ x1) ∨ a0 10 (x1.toNat) = 0) ∨ x2 < 0) ∨ 31 < x2) ∨ 20 ≤ a0 83 6) ∧ r60_ = 0 - 1) ∧ a60_ 83 6 = a0 83 6)) from by omega), hq60_1, hq60_2⟩
abbrev jR_X12_away (x1 : Int) (a0 b0 : Nat → Nat → Int) : List jxV → (Nat → Nat → Int) → (Nat → Nat → Int) → Prop := rI (fun r a b => (iv a) ∧ (jfr jW_X12_away a0 a) ∧ (b0 = b) ∧ ((0 ≤ r ∧ r ≤ 1)) ∧ (OC a) ∧ ((a0 146 49 = 0 → r = 0)) ∧ (AWR a0 a x1 r))
theorem cr_X12_away_32 (E : jxE) (d : Nat) (hd : Nat.ble 2 (d + 1) = true) (x1 : Int) (a0 b0 : Nat → Nat → Int) (hv0 : iv a0) (hp0 : OC a0) : ∀ (a : Nat → Nat → Int), iv a → jfr jW_X12_away a0 a → 1 ≤ a0 146 49 → (AWO (a0 146 49) (a0 181) x1 ∧ a 181 = rup (a0 181) x1.toNat 2) → (OC a) → jt (jxX E d 263 32 [none, none] [] (jxSH, a, b0)) (jR_X12_away x1 a0 b0) := by
  intro a hv hf hi0 haw hi2
  refine jt_eq (bq_X12_away_32 E d a b0) ?_
  have h64_ := iv_get hv0 (k := 146) (j := 49) (l := 0) (u := 20) rfl
  exact jt_rI ⟨hv, hf, rfl, (show (0 ≤ 1 ∧ 1 ≤ 1) from by omega), hi2, (show (a0 146 49 = 0 → 1 = 0) from by omega), (Or.inl ⟨haw.1, rfl, haw.2⟩)⟩
theorem sq_X12_away (E : jxE) (d : Nat) (hd : Nat.ble 2 d = true) (x1 : Int) (a0 b0 : Nat → Nat → Int) (hv0 : iv a0) (hp0 : OC a0) : jt (jxC E d 263 [.inr (.inr (.inl 146)), .inl x1] (jxSH, a0, b0)) (jR_X12_away x1 a0 b0) := by
  obtain ⟨d, rfl⟩ := jd_succ hd
  refine jt_eq (bq_X12_away E d x1 a0 b0) ?_
  have i49_ := iv_get hv0 (k := 146) (j := 49) (l := 0) (u := 20) rfl
  refine jt_eI (eq_X12_in E d (jd_le hd rfl) x1 0 (jxw ((a0 146 49) - 1)) a0 b0) ?_
  have h65_ := iv_get hv0 (k := 146) (j := 49) (l := 0) (u := 20) rfl
  have h66_ : jxw ((a0 146 49) - 1) = (a0 146 49) - 1 := jxw_id (by omega) (by omega)
  have h67_ := f_X12_in_eq a0 b0 x1 0 (jxw ((a0 146 49) - 1))
  refine jt_ite (fun c68_ => ?_) (fun c68_ => ?_)
  ·
    exact jt_rI ⟨hv0, (jfr_rf _ _), rfl, (show (0 ≤ 0 ∧ 0 ≤ 1) from by omega), hp0, (show (a0 146 49 = 0 → 0 = 0) from by omega), (Or.inr ⟨fun z => by have z1 := z.1; have z2 := z.2.1; first | omega | exact absurd z.2.2 (by assumption), rfl, rfl⟩)⟩
  ·
    refine jt_grd (by omega) ?_
    have h69_ := iv_get hv0 (k := 181) (j := x1.toNat) (l := 0) (u := 2) rfl
    refine jt_ite (fun c70_ => ?_) (fun c70_ => ?_)
    ·
      refine jt_grd (by omega) ?_
      have hv71_ : iv (jxu a0 181 (x1.toNat) 2) := iv_put hv0 (l := 0) (u := 2) rfl (by omega) (by omega)
      have hf72_ : jfr jW_X12_away a0 (jxu a0 181 (x1.toNat) 2) := jfr_put (jfr_rf _ _) rfl
      have hg73_ : OC (jxu a0 181 (x1.toNat) 2) := (OC_put2 hp0 (by decide) (by omega))
      exact cr_X12_away_32 E d hd x1 a0 b0 hv0 hp0 (jxu a0 181 (x1.toNat) 2) hv71_ hf72_ (show 1 ≤ a0 146 49 from by omega) ⟨⟨by omega, by omega, by assumption⟩, jxu_rup _ _ _ _⟩ hg73_
    ·
      exact jt_rI ⟨hv0, (jfr_rf _ _), rfl, (show (0 ≤ 0 ∧ 0 ≤ 1) from by omega), hp0, (show (a0 146 49 = 0 → 0 = 0) from by omega), (Or.inr ⟨fun z => by have z1 := z.1; have z2 := z.2.1; first | omega | exact absurd z.2.2 (by assumption), rfl, rfl⟩)⟩
def jWl173 : List (Nat × Nat) := []
abbrev jR_X12_list (x1 : Int) (a0 b0 : Nat → Nat → Int) : List jxV → (Nat → Nat → Int) → (Nat → Nat → Int) → Prop := rI (fun r a b => (iv a) ∧ (jfr jW_X12_list a0 a) ∧ (b0 = b) ∧ ((a0 146 2 = 0 → r = 0 - 1)) ∧ (LSP (a0 146 42) (a 146 42) (a0 173) (a 173) (a0 146 2) x1 r))
theorem cr_X12_list_67 (E : jxE) (d : Nat) (hd : Nat.ble 3 (d + 1) = true) (x1 : Int) (a0 b0 : Nat → Nat → Int) (hv0 : iv a0) : ∀ (a : Nat → Nat → Int), iv a → jfr jW_X12_list a0 a → 1 ≤ a 146 42 → (LSP (a0 146 42) (a 146 42) (a0 173) (a 173) (a0 146 2) x1 (a 146 42)) → 1 ≤ a0 146 2 → jt (jxX E d 252 67 [some (.inr (.inr (.inl 146))), none, none] [] (jxSH, a, b0)) (jR_X12_list x1 a0 b0) := by
  intro a hv hf hi0 hls hi2
  refine jt_eq (bq_X12_list_67 E d a b0) ?_
  have h74_ := iv_get hv (k := 146) (j := 42) (l := 0) (u := 8) rfl
  have h75_ := iv_get hv0 (k := 146) (j := 2) (l := 0) (u := 40) rfl
  exact jt_rI ⟨hv, hf, rfl, (show (a0 146 2 = 0 → a 146 42 = 0 - 1) from by omega), hls⟩
theorem cr_X12_list_21 (E : jxE) (d : Nat) (hd : Nat.ble 3 (d + 1) = true) (x1 : Int) (a0 b0 : Nat → Nat → Int) (hv0 : iv a0) : ∀ n : Nat, (∀ (y1 y2 : Int) (a : Nat → Nat → Int), (((7 - y2) * 1) + 0).toNat ≤ n → iv a → jfr jW_X12_list a0 a → 0 ≤ y1 → y1 ≤ 39 → 0 ≤ y2 → y2 ≤ 7 → a 146 42 ≤ 7 → (jfr jWl173 a0 a) → ((y1 = x1 ∧ 0 ≤ x1) ∧ x1 < a 146 2) → a 146 42 < 8 → 0 ≤ y2 → (∀ i : Nat, (i : Int) < y2 → ¬ a0 173 i = x1) → 1 ≤ a0 146 2 → jt (jxX E d 252 21 [some (.inr (.inr (.inl 146))), some (.inl y1), some (.inl y2)] [] (jxSH, a, b0)) (jR_X12_list x1 a0 b0)) := by
  refine jx_ind fun n ih => ?_
  have ih21 : ∀ (y1 y2 : Int) (a : Nat → Nat → Int), (((7 - y2) * 1) + 0).toNat < n → iv a → jfr jW_X12_list a0 a → 0 ≤ y1 → y1 ≤ 39 → 0 ≤ y2 → y2 ≤ 7 → a 146 42 ≤ 7 → (jfr jWl173 a0 a) → ((y1 = x1 ∧ 0 ≤ x1) ∧ x1 < a 146 2) → a 146 42 < 8 → 0 ≤ y2 → (∀ i : Nat, (i : Int) < y2 → ¬ a0 173 i = x1) → 1 ≤ a0 146 2 → jt (jxX E d 252 21 [some (.inr (.inr (.inl 146))), some (.inl y1), some (.inl y2)] [] (jxSH, a, b0)) (jR_X12_list x1 a0 b0) := fun y1 y2 a hlt i0 i1 i2 i3 i4 i5 i6 i7 i8 i9 i10 i11 i12 => (ih _ hlt) y1 y2 a (Nat.le_refl _) i0 i1 i2 i3 i4 i5 i6 i7 i8 i9 i10 i11 i12
  have hc21 : ∀ (y1 y2 : Int) (a : Nat → Nat → Int), (((7 - y2) * 1) + 0).toNat ≤ n → iv a → jfr jW_X12_list a0 a → 0 ≤ y1 → y1 ≤ 39 → 0 ≤ y2 → y2 ≤ 7 → a 146 42 ≤ 7 → (jfr jWl173 a0 a) → ((y1 = x1 ∧ 0 ≤ x1) ∧ x1 < a 146 2) → a 146 42 < 8 → 0 ≤ y2 → (∀ i : Nat, (i : Int) < y2 → ¬ a0 173 i = x1) → 1 ≤ a0 146 2 → jt (jxX E d 252 21 [some (.inr (.inr (.inl 146))), some (.inl y1), some (.inl y2)] [] (jxSH, a, b0)) (jR_X12_list x1 a0 b0) := by
    intro y1 y2 a hm hv hf hi0 hi1 hi2 hi3 hi4 hfe hi6 hi7 hi8 hli hi10
    refine jt_eq (bq_X12_list_21 E d y1 y2 a b0) ?_
    have h76_ := iv_get hv (k := 146) (j := 42) (l := 0) (u := 8) rfl
    have h77_ := iv_get hv (k := 146) (j := 2) (l := 0) (u := 40) rfl
    have h78_ : a 146 2 = a0 146 2 := hf 146 2 rfl
    have h79_ := iv_get hv0 (k := 146) (j := 2) (l := 0) (u := 40) rfl
    have inl_ := iv_get hv0 (k := 146) (j := 42) (l := 0) (u := 8) rfl
    have inm_ := iv_get hv0 (k := 146) (j := 2) (l := 0) (u := 40) rfl
    refine jt_ite (fun c80_ => ?_) (fun c80_ => ?_)
    ·
      refine jt_grd (by omega) ?_
      have h81_ := iv_get hv (k := 173) (j := y2.toNat) (l := 0) (u := 39) rfl
      refine jt_ite (fun c82_ => ?_) (fun c82_ => ?_)
      ·
        exact jt_rI ⟨hv, hf, rfl, (show (a0 146 2 = 0 → (-1) = 0 - 1) from by omega), (Or.inr ⟨fun z => (z.2.2.2 y2.toNat (by have e := hfe 146 42 rfl; omega)) (by rw [← hfe 173 _ rfl, ← show y1 = x1 from by omega]; assumption), rfl, hfe 146 42 rfl, funext fun j => hfe 173 j rfl⟩)⟩
      ·
        have h83_ : jxw (y2 + 1) = y2 + 1 := jxw_id (by omega) (by omega)
        exact ih21 y1 (jxw (y2 + 1)) a (show (((7 - (jxw (y2 + 1))) * 1) + 0).toNat < n from by omega) hv hf (show 0 ≤ y1 from by omega) (show y1 ≤ 39 from by omega) (show 0 ≤ jxw (y2 + 1) from by omega) (show jxw (y2 + 1) ≤ 7 from by omega) (show a 146 42 ≤ 7 from by omega) hfe (show ((y1 = x1 ∧ 0 ≤ x1) ∧ x1 < a 146 2) from by omega) (show a 146 42 < 8 from by omega) (show 0 ≤ jxw (y2 + 1) from by omega) (fun i h => by by_cases e : i = y2.toNat <;> first | (rw [e, ← hfe 173 _ rfl, ← show y1 = x1 from by omega]; assumption) | exact hli i (by omega)) (show 1 ≤ a0 146 2 from by omega)
    ·
      refine jt_grd (by omega) ?_
      have hv84_ : iv (jxu a 173 ((a 146 42).toNat) y1) := iv_put hv (l := 0) (u := 39) rfl (by omega) (by omega)
      have h86_ : jxw ((a 146 42) + 1) = (a 146 42) + 1 := jxw_id (by omega) (by omega)
      have hv85_ : iv (jxu (jxu a 173 ((a 146 42).toNat) y1) 146 42 (jxw ((a 146 42) + 1))) := iv_put hv84_ (l := 0) (u := 8) rfl (by omega) (by omega)
      have hf87_ : jfr jW_X12_list a0 (jxu a 173 ((a 146 42).toNat) y1) := jfr_put hf rfl
      have hf88_ : jfr jW_X12_list a0 (jxu (jxu a 173 ((a 146 42).toNat) y1) 146 42 (jxw ((a 146 42) + 1))) := jfr_put hf87_ rfl
      exact cr_X12_list_67 E d hd x1 a0 b0 hv0 (jxu (jxu a 173 ((a 146 42).toNat) y1) 146 42 (jxw ((a 146 42) + 1))) hv85_ hf88_ (show 1 ≤ jxw ((a 146 42) + 1) from by omega) (by have e9_ := hfe 146 42 rfl; have en_ := hfe 146 2 rfl; exact (Or.inl ⟨⟨by omega, by omega, by omega, fun i h => hli i (by omega)⟩, by rw [jxu_at, e9_, jxw_id (by omega) (by omega)], by rw [jxu_at, e9_, jxw_id (by omega) (by omega)], by rw [jxu_off (show ¬ 173 = 146 by decide), jxu_rup, e9_, show a 173 = a0 173 from funext fun j => hfe 173 j rfl, show y1 = x1 from by omega]⟩)) (show 1 ≤ a0 146 2 from by omega)
  exact hc21
theorem sq_X12_list (E : jxE) (d : Nat) (hd : Nat.ble 3 d = true) (x1 : Int) (a0 b0 : Nat → Nat → Int) (hv0 : iv a0) : jt (jxC E d 252 [.inr (.inr (.inl 146)), .inl x1] (jxSH, a0, b0)) (jR_X12_list x1 a0 b0) := by
  obtain ⟨d, rfl⟩ := jd_succ hd
  refine jt_eq (bq_X12_list E d x1 a0 b0) ?_
  have inl_ := iv_get hv0 (k := 146) (j := 42) (l := 0) (u := 8) rfl
  have inm_ := iv_get hv0 (k := 146) (j := 2) (l := 0) (u := 40) rfl
  refine jt_eI (eq_X12_isMember E d (jd_le hd rfl) x1 a0 b0) ?_
  have h89_ := f_X12_isMember_eq a0 b0 x1
  have h90_ := iv_get hv0 (k := 146) (j := 2) (l := 0) (u := 40) rfl
  have h91_ : jxw ((a0 146 2) - 1) = (a0 146 2) - 1 := jxw_id (by omega) (by omega)
  have h92_ := f_X12_in_eq a0 b0 x1 0 (jxw ((a0 146 2) - 1))
  refine jt_ite (fun c93_ => ?_) (fun c93_ => ?_)
  ·
    exact jt_rI ⟨hv0, (jfr_rf _ _), rfl, (show (a0 146 2 = 0 → (-1) = 0 - 1) from by omega), (Or.inr ⟨fun z => by have z1 := z.1; have z2 := z.2.1; have z3 := z.2.2.1; omega, rfl, rfl, rfl⟩)⟩
  ·
    have h94_ := iv_get hv0 (k := 146) (j := 42) (l := 0) (u := 8) rfl
    refine jt_ite (fun c95_ => ?_) (fun c95_ => ?_)
    ·
      exact jt_rI ⟨hv0, (jfr_rf _ _), rfl, (show (a0 146 2 = 0 → (-1) = 0 - 1) from by omega), (Or.inr ⟨fun z => by have z1 := z.1; have z2 := z.2.1; have z3 := z.2.2.1; omega, rfl, rfl, rfl⟩)⟩
    ·
      exact (cr_X12_list_21 E d hd x1 a0 b0 hv0 _) x1 0 a0 (Nat.le_refl _) hv0 (jfr_rf _ _) (show 0 ≤ x1 from by omega) (show x1 ≤ 39 from by omega) (show 0 ≤ 0 from by omega) (show 0 ≤ 7 from by omega) (show a0 146 42 ≤ 7 from by omega) (jfr_rf _ _) (show ((x1 = x1 ∧ 0 ≤ x1) ∧ x1 < a0 146 2) from by omega) (show a0 146 42 < 8 from by omega) (show 0 ≤ 0 from by omega) (fun i h => absurd h (by omega)) (show 1 ≤ a0 146 2 from by omega)
def jWox0 : List (Nat × Nat) := []
def jWox1 : List (Nat × Nat) := [(178, 9999), (179, 9999), (180, 9999)]
abbrev jR_X12_offer (x1 x2 x3 : Int) (a0 b0 : Nat → Nat → Int) : List jxV → (Nat → Nat → Int) → (Nat → Nat → Int) → Prop := rI (fun r a b => (iv a) ∧ (jfr jW_X12_offer a0 a) ∧ (b0 = b) ∧ (OC a) ∧ (FO a) ∧ (FW a) ∧ ((a0 146 2 = 0 → r = 0 - 1)) ∧ (((((((((0 ≤ x1 ∧ x1 < a0 146 2) ∧ ¬ a0 152 (x1.toNat) = 0) ∧ 0 ≤ x2) ∧ x2 ≤ 31) ∧ a0 146 49 < 20) ∧ r = a0 146 49) ∧ a 146 49 = (a0 146 49) + 1) ∨ (((((((x1 < 0 ∨ a0 146 2 ≤ x1) ∨ a0 152 (x1.toNat) = 0) ∨ x2 < 0) ∨ 31 < x2) ∨ 20 ≤ a0 146 49) ∧ r = 0 - 1) ∧ a 146 49 = a0 146 49))) ∧ (0 ≤ r → OFAr a0 a x1 x2 x3) ∧ (r < 0 → OFSr a0 a))
theorem cr_X12_offer_36 (E : jxE) (d : Nat) (hd : Nat.ble 3 (d + 1) = true) (x1 x2 x3 : Int) (a0 b0 : Nat → Nat → Int) (hv0 : iv a0) (hp0 : OC a0) (hp1 : FO a0) (hp2 : FW a0) : ∀ (a : Nat → Nat → Int), iv a → jfr jW_X12_offer a0 a → (((((x1 < 0 ∨ a0 146 2 ≤ x1) ∨ a0 152 (x1.toNat) = 0) ∨ x2 < 0) ∨ 31 < x2) ∨ 20 ≤ a0 146 49) → a 146 49 = a0 146 49 → (jfr jWox0 a0 a) → (OC a) → (FO a) → (FW a) → jt (jxX E d 262 36 [none, none, none, none] [] (jxSH, a, b0)) (jR_X12_offer x1 x2 x3 a0 b0) := by
  intro a hv hf hi0 hi1 hfe hi3 hi4 hi5
  refine jt_eq (bq_X12_offer_36 E d a b0) ?_
  have h96_ := iv_get hv0 (k := 146) (j := 2) (l := 0) (u := 40) rfl
  have h97_ := iv_get hv0 (k := 152) (j := x1.toNat) (l := 0) (u := 1) rfl
  have h98_ := iv_get hv0 (k := 146) (j := 49) (l := 0) (u := 20) rfl
  have h99_ := iv_get hv (k := 146) (j := 49) (l := 0) (u := 20) rfl
  exact jt_rI ⟨hv, hf, rfl, hi3, hi4, hi5, (show (a0 146 2 = 0 → (-1) = 0 - 1) from by omega), (show ((((((((0 ≤ x1 ∧ x1 < a0 146 2) ∧ ¬ a0 152 (x1.toNat) = 0) ∧ 0 ≤ x2) ∧ x2 ≤ 31) ∧ a0 146 49 < 20) ∧ (-1) = a0 146 49) ∧ a 146 49 = (a0 146 49) + 1) ∨ (((((((x1 < 0 ∨ a0 146 2 ≤ x1) ∨ a0 152 (x1.toNat) = 0) ∨ x2 < 0) ∨ 31 < x2) ∨ 20 ≤ a0 146 49) ∧ (-1) = 0 - 1) ∧ a 146 49 = a0 146 49)) from by omega), (fun h => absurd h (by decide)), (fun _ => ⟨funext fun j => hfe 178 j rfl, funext fun j => hfe 179 j rfl, funext fun j => hfe 180 j rfl, funext fun j => hfe 181 j rfl, funext fun j => hfe 182 j rfl⟩)⟩
theorem cr_X12_offer_68 (E : jxE) (d : Nat) (hd : Nat.ble 3 (d + 1) = true) (x1 x2 x3 : Int) (a0 b0 : Nat → Nat → Int) (hv0 : iv a0) (hp0 : OC a0) (hp1 : FO a0) (hp2 : FW a0) : ∀ (a : Nat → Nat → Int), iv a → jfr jW_X12_offer a0 a → a 146 49 ≤ 19 → 1 ≤ a0 146 2 → (((((0 ≤ x1 ∧ x1 < a0 146 2) ∧ ¬ a0 152 (x1.toNat) = 0) ∧ 0 ≤ x2) ∧ x2 ≤ 31) ∧ a0 146 49 < 20) → a 146 49 = a0 146 49 → (jfr jWox1 a0 a) → (a 178 = rup (a0 178) (a0 146 49).toNat x1 ∧ a 179 = rup (a0 179) (a0 146 49).toNat x2 ∧ a 180 = rup (a0 180) (a0 146 49).toNat x3) → (OC a) → (FO a) → (FW a) → jt (jxX E d 262 68 [some (.inr (.inr (.inl 146))), none, none, none] [] (jxSH, a, b0)) (jR_X12_offer x1 x2 x3 a0 b0) := by
  intro a hv hf hi0 hi1 hi2 hi3 hfe h78 hi6 hi7 hi8
  refine jt_eq (bq_X12_offer_68 E d a b0) ?_
  have h100_ := iv_get hv (k := 146) (j := 49) (l := 0) (u := 20) rfl
  have h101_ := iv_get hv0 (k := 146) (j := 2) (l := 0) (u := 40) rfl
  have h102_ := iv_get hv0 (k := 152) (j := x1.toNat) (l := 0) (u := 1) rfl
  have h103_ := iv_get hv0 (k := 146) (j := 49) (l := 0) (u := 20) rfl
  refine jt_grd (by omega) ?_
  have hv104_ : iv (jxu a 182 ((a 146 49).toNat) (-1)) := iv_putf hv rfl
  have h106_ : jxw ((a 146 49) + 1) = (a 146 49) + 1 := jxw_id (by omega) (by omega)
  have hv105_ : iv (jxu (jxu a 182 ((a 146 49).toNat) (-1)) 146 49 (jxw ((a 146 49) + 1))) := iv_put hv104_ (l := 0) (u := 20) rfl (by omega) (by omega)
  have hf107_ : jfr jW_X12_offer a0 (jxu a 182 ((a 146 49).toNat) (-1)) := jfr_put hf rfl
  have hf108_ : jfr jW_X12_offer a0 (jxu (jxu a 182 ((a 146 49).toNat) (-1)) 146 49 (jxw ((a 146 49) + 1))) := jfr_put hf107_ rfl
  have hg109_ : OC (jxu a 182 ((a 146 49).toNat) (-1)) := (OC_putx hi6 (by decide) (show a 146 49 ≤ ((((a 146 49).toNat) : Nat) : Int) from by omega))
  have hg110_ : OC (jxu (jxu a 182 ((a 146 49).toNat) (-1)) 146 49 (jxw ((a 146 49) + 1))) := (OC_put49 hg109_ (show 0 ≤ a 146 49 from by omega) (show jxw ((a 146 49) + 1) = a 146 49 + 1 from by omega))
  have hg111_ : FO (jxu a 182 ((a 146 49).toNat) (-1)) := (FO_fr hi7 (jfr_1 a 182 ((a 146 49).toNat) (-1)) rfl rfl (fun _ => rfl))
  have hg112_ : FO (jxu (jxu a 182 ((a 146 49).toNat) (-1)) 146 49 (jxw ((a 146 49) + 1))) := (FO_put49 hg111_ (show a 146 49 ≤ jxw ((a 146 49) + 1) from by omega))
  have hg113_ : FW (jxu a 182 ((a 146 49).toNat) (-1)) := (FW_fr hi8 (jfr_1 a 182 ((a 146 49).toNat) (-1)) rfl (fun _ => rfl))
  have hg114_ : FW (jxu (jxu a 182 ((a 146 49).toNat) (-1)) 146 49 (jxw ((a 146 49) + 1))) := (FW_put49 hg113_ (show a 146 49 ≤ jxw ((a 146 49) + 1) from by omega))
  have h115_ : jxw ((jxw ((a 146 49) + 1)) - 1) = (jxw ((a 146 49) + 1)) - 1 := jxw_id (by omega) (by omega)
  exact jt_rI ⟨hv105_, hf108_, rfl, hg110_, hg112_, hg114_, (show (a0 146 2 = 0 → jxw ((jxw ((a 146 49) + 1)) - 1) = 0 - 1) from by omega), (show ((((((((0 ≤ x1 ∧ x1 < a0 146 2) ∧ ¬ a0 152 (x1.toNat) = 0) ∧ 0 ≤ x2) ∧ x2 ≤ 31) ∧ a0 146 49 < 20) ∧ jxw ((jxw ((a 146 49) + 1)) - 1) = a0 146 49) ∧ jxw ((a 146 49) + 1) = (a0 146 49) + 1) ∨ (((((((x1 < 0 ∨ a0 146 2 ≤ x1) ∨ a0 152 (x1.toNat) = 0) ∨ x2 < 0) ∨ 31 < x2) ∨ 20 ≤ a0 146 49) ∧ jxw ((jxw ((a 146 49) + 1)) - 1) = 0 - 1) ∧ jxw ((a 146 49) + 1) = a0 146 49)) from by omega), (fun _ => ⟨by rw [jxu_off (show ¬ 178 = 146 by decide)]; rw [jxu_off (show ¬ 178 = 182 by decide)]; exact h78.1, by rw [jxu_off (show ¬ 179 = 146 by decide)]; rw [jxu_off (show ¬ 179 = 182 by decide)]; exact h78.2.1, by rw [jxu_off (show ¬ 180 = 146 by decide)]; rw [jxu_off (show ¬ 180 = 182 by decide)]; exact h78.2.2, by rw [jxu_off (show ¬ 181 = 146 by decide)]; rw [jxu_off (show ¬ 181 = 182 by decide)]; exact funext fun j => hfe 181 j rfl, by rw [jxu_off (show ¬ 182 = 146 by decide)]; rw [jxu_rup, hfe 146 49 rfl, show a 182 = a0 182 from funext fun j => hfe 182 j rfl]⟩), (fun h => absurd h (by have := iv_get hv (k := 146) (j := 49) (l := 0) (u := 20) rfl; omega))⟩
theorem cr_X12_offer_38 (E : jxE) (d : Nat) (hd : Nat.ble 3 (d + 1) = true) (x1 x2 x3 : Int) (a0 b0 : Nat → Nat → Int) (hv0 : iv a0) (hp0 : OC a0) (hp1 : FO a0) (hp2 : FW a0) : ∀ (y1 y2 y3 : Int) (a : Nat → Nat → Int), iv a → jfr jW_X12_offer a0 a → 0 ≤ y1 → y1 ≤ 39 → 0 ≤ y2 → y2 ≤ 31 → a 146 49 ≤ 19 → 1 ≤ a0 146 2 → (((((0 ≤ x1 ∧ x1 < a0 146 2) ∧ ¬ a0 152 (x1.toNat) = 0) ∧ 0 ≤ x2) ∧ x2 ≤ 31) ∧ a0 146 49 < 20) → a 146 49 = a0 146 49 → (jfr jWox0 a0 a) → (y1 = x1 ∧ y2 = x2 ∧ y3 = x3) → (OC a) → (FO a) → (FW a) → jt (jxX E d 262 38 [some (.inr (.inr (.inl 146))), some (.inl y1), some (.inl y2), some (.inl y3)] [] (jxSH, a, b0)) (jR_X12_offer x1 x2 x3 a0 b0) := by
  intro y1 y2 y3 a hv hf hi0 hi1 hi2 hi3 hi4 hi5 hi6 hi7 hfe hyx hi10 hi11 hi12
  refine jt_eq (bq_X12_offer_38 E d y1 y2 y3 a b0) ?_
  have h116_ := iv_get hv (k := 146) (j := 49) (l := 0) (u := 20) rfl
  have h117_ := iv_get hv0 (k := 146) (j := 2) (l := 0) (u := 40) rfl
  have h118_ := iv_get hv0 (k := 152) (j := x1.toNat) (l := 0) (u := 1) rfl
  have h119_ := iv_get hv0 (k := 146) (j := 49) (l := 0) (u := 20) rfl
  refine jt_grd (by omega) ?_
  refine jt_grd (by omega) ?_
  refine jt_grd (by omega) ?_
  have hv120_ : iv (jxu a 178 ((a 146 49).toNat) y1) := iv_put hv (l := 0) (u := 39) rfl (by omega) (by omega)
  have hv121_ : iv (jxu (jxu a 178 ((a 146 49).toNat) y1) 179 ((a 146 49).toNat) y2) := iv_put hv120_ (l := 0) (u := 31) rfl (by omega) (by omega)
  have hv122_ : iv (jxu (jxu (jxu a 178 ((a 146 49).toNat) y1) 179 ((a 146 49).toNat) y2) 180 ((a 146 49).toNat) y3) := iv_putf hv121_ rfl
  have hf123_ : jfr jW_X12_offer a0 (jxu a 178 ((a 146 49).toNat) y1) := jfr_put hf rfl
  have hf124_ : jfr jW_X12_offer a0 (jxu (jxu a 178 ((a 146 49).toNat) y1) 179 ((a 146 49).toNat) y2) := jfr_put hf123_ rfl
  have hf125_ : jfr jW_X12_offer a0 (jxu (jxu (jxu a 178 ((a 146 49).toNat) y1) 179 ((a 146 49).toNat) y2) 180 ((a 146 49).toNat) y3) := jfr_put hf124_ rfl
  have hf126_ : jfr jWox1 a0 (jxu a 178 ((a 146 49).toNat) y1) := jfr_put (jfr_tr (jfr_rf _ _) hfe rfl) rfl
  have hf127_ : jfr jWox1 a0 (jxu (jxu a 178 ((a 146 49).toNat) y1) 179 ((a 146 49).toNat) y2) := jfr_put hf126_ rfl
  have hf128_ : jfr jWox1 a0 (jxu (jxu (jxu a 178 ((a 146 49).toNat) y1) 179 ((a 146 49).toNat) y2) 180 ((a 146 49).toNat) y3) := jfr_put hf127_ rfl
  have hg129_ : OC (jxu a 178 ((a 146 49).toNat) y1) := (OC_putx hi10 (by decide) (show a 146 49 ≤ ((((a 146 49).toNat) : Nat) : Int) from by omega))
  have hg130_ : OC (jxu (jxu a 178 ((a 146 49).toNat) y1) 179 ((a 146 49).toNat) y2) := (OC_fr hg129_ (jfr_1 (jxu a 178 ((a 146 49).toNat) y1) 179 ((a 146 49).toNat) y2) rfl rfl (fun _ => rfl) (fun _ => rfl) (fun _ => rfl) (fun _ => rfl) (fun _ => rfl))
  have hg131_ : OC (jxu (jxu (jxu a 178 ((a 146 49).toNat) y1) 179 ((a 146 49).toNat) y2) 180 ((a 146 49).toNat) y3) := (OC_fr hg130_ (jfr_1 (jxu (jxu a 178 ((a 146 49).toNat) y1) 179 ((a 146 49).toNat) y2) 180 ((a 146 49).toNat) y3) rfl rfl (fun _ => rfl) (fun _ => rfl) (fun _ => rfl) (fun _ => rfl) (fun _ => rfl))
  have hg132_ : FO (jxu a 178 ((a 146 49).toNat) y1) := (FO_fr hi11 (jfr_1 a 178 ((a 146 49).toNat) y1) rfl rfl (fun _ => rfl))
  have hg133_ : FO (jxu (jxu a 178 ((a 146 49).toNat) y1) 179 ((a 146 49).toNat) y2) := (FO_fr hg132_ (jfr_1 (jxu a 178 ((a 146 49).toNat) y1) 179 ((a 146 49).toNat) y2) rfl rfl (fun _ => rfl))
  have hg134_ : FO (jxu (jxu (jxu a 178 ((a 146 49).toNat) y1) 179 ((a 146 49).toNat) y2) 180 ((a 146 49).toNat) y3) := (FO_fr hg133_ (jfr_1 (jxu (jxu a 178 ((a 146 49).toNat) y1) 179 ((a 146 49).toNat) y2) 180 ((a 146 49).toNat) y3) rfl rfl (fun _ => rfl))
  have hg135_ : FW (jxu a 178 ((a 146 49).toNat) y1) := (FW_fr hi12 (jfr_1 a 178 ((a 146 49).toNat) y1) rfl (fun _ => rfl))
  have hg136_ : FW (jxu (jxu a 178 ((a 146 49).toNat) y1) 179 ((a 146 49).toNat) y2) := (FW_fr hg135_ (jfr_1 (jxu a 178 ((a 146 49).toNat) y1) 179 ((a 146 49).toNat) y2) rfl (fun _ => rfl))
  have hg137_ : FW (jxu (jxu (jxu a 178 ((a 146 49).toNat) y1) 179 ((a 146 49).toNat) y2) 180 ((a 146 49).toNat) y3) := (FW_fr hg136_ (jfr_1 (jxu (jxu a 178 ((a 146 49).toNat) y1) 179 ((a 146 49).toNat) y2) 180 ((a 146 49).toNat) y3) rfl (fun _ => rfl))
  exact cr_X12_offer_68 E d hd x1 x2 x3 a0 b0 hv0 hp0 hp1 hp2 (jxu (jxu (jxu a 178 ((a 146 49).toNat) y1) 179 ((a 146 49).toNat) y2) 180 ((a 146 49).toNat) y3) hv122_ hf125_ (show a 146 49 ≤ 19 from by omega) (show 1 ≤ a0 146 2 from by omega) (show (((((0 ≤ x1 ∧ x1 < a0 146 2) ∧ ¬ a0 152 (x1.toNat) = 0) ∧ 0 ≤ x2) ∧ x2 ≤ 31) ∧ a0 146 49 < 20) from by omega) (show a 146 49 = a0 146 49 from by omega) hf128_ ⟨by rw [jxu_off (show ¬ 178 = 180 by decide)]; rw [jxu_off (show ¬ 178 = 179 by decide)]; rw [jxu_rup, hyx.1, hfe 146 49 rfl, show a 178 = a0 178 from funext fun j => hfe 178 j rfl], by rw [jxu_off (show ¬ 179 = 180 by decide)]; rw [jxu_rup, jxu_off (show ¬ 179 = 178 by decide), hyx.2.1, hfe 146 49 rfl, show a 179 = a0 179 from funext fun j => hfe 179 j rfl], by rw [jxu_rup, jxu_off (show ¬ 180 = 179 by decide), jxu_off (show ¬ 180 = 178 by decide), hyx.2.2, hfe 146 49 rfl, show a 180 = a0 180 from funext fun j => hfe 180 j rfl]⟩ hg131_ hg134_ hg137_
theorem sq_X12_offer (E : jxE) (d : Nat) (hd : Nat.ble 3 d = true) (x1 x2 x3 : Int) (a0 b0 : Nat → Nat → Int) (hv0 : iv a0) (hp0 : OC a0) (hp1 : FO a0) (hp2 : FW a0) : jt (jxC E d 262 [.inr (.inr (.inl 146)), .inl x1, .inl x2, .inl x3] (jxSH, a0, b0)) (jR_X12_offer x1 x2 x3 a0 b0) := by
  obtain ⟨d, rfl⟩ := jd_succ hd
  refine jt_eq (bq_X12_offer E d x1 x2 x3 a0 b0) ?_
  have h138_ := iv_get hv0 (k := 146) (j := 49) (l := 0) (u := 20) rfl
  refine jt_ite (fun c139_ => ?_) (fun c139_ => ?_)
  ·
    have h140_ := iv_get hv0 (k := 146) (j := 2) (l := 0) (u := 40) rfl
    have h141_ := iv_get hv0 (k := 152) (j := x1.toNat) (l := 0) (u := 1) rfl
    exact cr_X12_offer_36 E d hd x1 x2 x3 a0 b0 hv0 hp0 hp1 hp2 a0 hv0 (jfr_rf _ _) (show (((((x1 < 0 ∨ a0 146 2 ≤ x1) ∨ a0 152 (x1.toNat) = 0) ∨ x2 < 0) ∨ 31 < x2) ∨ 20 ≤ a0 146 49) from by omega) (show a0 146 49 = a0 146 49 from by omega) (jfr_rf _ _) hp0 hp1 hp2
  ·
    refine jt_eI (eq_X12_isMember E d (jd_le hd rfl) x1 a0 b0) ?_
    have h142_ := f_X12_isMember_eq a0 b0 x1
    have h143_ := iv_get hv0 (k := 146) (j := 2) (l := 0) (u := 40) rfl
    have h144_ : jxw ((a0 146 2) - 1) = (a0 146 2) - 1 := jxw_id (by omega) (by omega)
    have h145_ := f_X12_in_eq a0 b0 x1 0 (jxw ((a0 146 2) - 1))
    refine jt_ite (fun c146_ => ?_) (fun c146_ => ?_)
    ·
      have h147_ := iv_get hv0 (k := 152) (j := x1.toNat) (l := 0) (u := 1) rfl
      exact cr_X12_offer_36 E d hd x1 x2 x3 a0 b0 hv0 hp0 hp1 hp2 a0 hv0 (jfr_rf _ _) (show (((((x1 < 0 ∨ a0 146 2 ≤ x1) ∨ a0 152 (x1.toNat) = 0) ∨ x2 < 0) ∨ 31 < x2) ∨ 20 ≤ a0 146 49) from by omega) (show a0 146 49 = a0 146 49 from by omega) (jfr_rf _ _) hp0 hp1 hp2
    ·
      refine jt_grd (by omega) ?_
      have h148_ := iv_get hv0 (k := 152) (j := x1.toNat) (l := 0) (u := 1) rfl
      refine jt_ite (fun c149_ => ?_) (fun c149_ => ?_)
      ·
        exact cr_X12_offer_36 E d hd x1 x2 x3 a0 b0 hv0 hp0 hp1 hp2 a0 hv0 (jfr_rf _ _) (show (((((x1 < 0 ∨ a0 146 2 ≤ x1) ∨ a0 152 (x1.toNat) = 0) ∨ x2 < 0) ∨ 31 < x2) ∨ 20 ≤ a0 146 49) from by omega) (show a0 146 49 = a0 146 49 from by omega) (jfr_rf _ _) hp0 hp1 hp2
      ·
        refine jt_eI (eq_X12_in E d (jd_le hd rfl) x2 0 31 a0 b0) ?_
        have h150_ := f_X12_in_eq a0 b0 x2 0 31
        refine jt_ite (fun c151_ => ?_) (fun c151_ => ?_)
        ·
          exact cr_X12_offer_36 E d hd x1 x2 x3 a0 b0 hv0 hp0 hp1 hp2 a0 hv0 (jfr_rf _ _) (show (((((x1 < 0 ∨ a0 146 2 ≤ x1) ∨ a0 152 (x1.toNat) = 0) ∨ x2 < 0) ∨ 31 < x2) ∨ 20 ≤ a0 146 49) from by omega) (show a0 146 49 = a0 146 49 from by omega) (jfr_rf _ _) hp0 hp1 hp2
        ·
          exact cr_X12_offer_38 E d hd x1 x2 x3 a0 b0 hv0 hp0 hp1 hp2 x1 x2 x3 a0 hv0 (jfr_rf _ _) (show 0 ≤ x1 from by omega) (show x1 ≤ 39 from by omega) (show 0 ≤ x2 from by omega) (show x2 ≤ 31 from by omega) (show a0 146 49 ≤ 19 from by omega) (show 1 ≤ a0 146 2 from by omega) (show (((((0 ≤ x1 ∧ x1 < a0 146 2) ∧ ¬ a0 152 (x1.toNat) = 0) ∧ 0 ≤ x2) ∧ x2 ≤ 31) ∧ a0 146 49 < 20) from by omega) (show a0 146 49 = a0 146 49 from by omega) (jfr_rf _ _) ⟨rfl, rfl, rfl⟩ hp0 hp1 hp2
