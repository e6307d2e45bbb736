def jWam : List (Nat × Nat) := []
abbrev jR_X0_addMeasured (x1 : Int) (a0 b0 : Nat → Nat → Int) : List jxV → (Nat → Nat → Int) → (Nat → Nat → Int) → Prop := rV (fun a b => (iv a) ∧ (jfr jW_X0_addMeasured a0 a) ∧ (b0 = b) ∧ (a 58 13 = (a0 58 13) + 1) ∧ (a 58 14 = (if a0 58 13 = 0 then x1 else if x1 < a0 58 14 then x1 else a0 58 14)) ∧ (a 58 15 = (if a0 58 15 < x1 then x1 else a0 58 15)))
theorem cr_X0_addMeasured_20 (E : jxE) (d : Nat) (hd : Nat.ble 2 (d + 1) = true) (x1 : Int) (a0 b0 : Nat → Nat → Int) (hv0 : iv a0) (hp0 : a0 58 13 < 10) : ∀ (y1 s1 : Int) (a : Nat → Nat → Int), iv a → jfr jW_X0_addMeasured a0 a → a 58 13 ≤ 9 → (s1 = (if a0 58 13 = 0 then x1 else if x1 < a0 58 14 then x1 else a0 58 14)) → (y1 = x1) → a 58 13 = a0 58 13 → (jfr jWam a0 a) → jt (jxX E d 24 20 [some (.inr (.inr (.inl 58))), some (.inl y1)] [.inl s1, .inr (.inr (.inl 58))] (jxSH, a, b0)) (jR_X0_addMeasured x1 a0 b0) := by
  intro y1 s1 a hv hf hi0 hs1 hy1 hi3 hfe
  refine jt_eq (bq_X0_addMeasured_20 E d y1 s1 a b0) ?_
  have h1_ := iv_get hv (k := 58) (j := 13) (l := 0) (u := 10) rfl
  have h2_ := iv_get hv0 (k := 58) (j := 13) (l := 0) (u := 10) rfl
  refine jt_eI (eq_J9_max_7cf53 E d (jd_le hd rfl) (a 58 15) y1 (jxu a 58 14 s1) b0) ?_
  have hv3_ : iv (jxu a 58 14 s1) := iv_putf hv rfl
  have hv4_ : iv (jxu (jxu a 58 14 s1) 58 15 (f_J9_max_7cf53 (jxu a 58 14 s1) b0 (a 58 15) y1)) := iv_putf hv3_ rfl
  have h6_ : jxw ((a 58 13) + 1) = (a 58 13) + 1 := jxw_id (by omega) (by omega)
  have hv5_ : iv (jxu (jxu (jxu a 58 14 s1) 58 15 (f_J9_max_7cf53 (jxu a 58 14 s1) b0 (a 58 15) y1)) 58 13 (jxw ((a 58 13) + 1))) := iv_put hv4_ (l := 0) (u := 10) rfl (by omega) (by omega)
  have hf7_ : jfr jW_X0_addMeasured a0 (jxu a 58 14 s1) := jfr_put hf rfl
  have hf8_ : jfr jW_X0_addMeasured a0 (jxu (jxu a 58 14 s1) 58 15 (f_J9_max_7cf53 (jxu a 58 14 s1) b0 (a 58 15) y1)) := jfr_put hf7_ rfl
  have hf9_ : jfr jW_X0_addMeasured a0 (jxu (jxu (jxu a 58 14 s1) 58 15 (f_J9_max_7cf53 (jxu a 58 14 s1) b0 (a 58 15) y1)) 58 13 (jxw ((a 58 13) + 1))) := jfr_put hf8_ rfl
  exact jt_rV ⟨hv5_, hf9_, rfl, (show jxw ((a 58 13) + 1) = (a0 58 13) + 1 from by omega), (by show s1 = _; exact hs1), (by show f_J9_max_7cf53 (jxu a 58 14 s1) b0 (a 58 15) y1 = _; rw [hy1, hfe 58 15 rfl]; rfl)⟩
theorem sq_X0_addMeasured (E : jxE) (d : Nat) (hd : Nat.ble 2 d = true) (x1 : Int) (a0 b0 : Nat → Nat → Int) (hv0 : iv a0) (hp0 : a0 58 13 < 10) : jt (jxC E d 24 [.inr (.inr (.inl 58)), .inl x1] (jxSH, a0, b0)) (jR_X0_addMeasured x1 a0 b0) := by
  obtain ⟨d, rfl⟩ := jd_succ hd
  refine jt_eq (bq_X0_addMeasured E d x1 a0 b0) ?_
  have h10_ := iv_get hv0 (k := 58) (j := 13) (l := 0) (u := 10) rfl
  refine jt_ite (fun c11_ => ?_) (fun c11_ => ?_)
  ·
    exact cr_X0_addMeasured_20 E d hd x1 a0 b0 hv0 hp0 x1 x1 a0 hv0 (jfr_rf _ _) (show a0 58 13 ≤ 9 from by omega) (by first | (rw [if_pos (by assumption)]) | (rw [if_neg (by assumption)]; rfl)) (by first | rfl | assumption) (show a0 58 13 = a0 58 13 from by omega) (jfr_rf _ _)
  ·
    refine jt_eI (eq_J9_min_7cf53 E d (jd_le hd rfl) (a0 58 14) x1 a0 b0) ?_
    have h12_ := f_J9_min_7cf53_eq a0 b0 (a0 58 14) x1
    exact cr_X0_addMeasured_20 E d hd x1 a0 b0 hv0 hp0 x1 (f_J9_min_7cf53 a0 b0 (a0 58 14) x1) a0 hv0 (jfr_rf _ _) (show a0 58 13 ≤ 9 from by omega) (by first | (rw [if_pos (by assumption)]) | (rw [if_neg (by assumption)]; rfl)) (by first | rfl | assumption) (show a0 58 13 = a0 58 13 from by omega) (jfr_rf _ _)
abbrev jR_X0_measure (x1 x2 : Int) (a0 b0 : Nat → Nat → Int) : List jxV → (Nat → Nat → Int) → (Nat → Nat → Int) → Prop := rV (fun a b => (iv a) ∧ (jfr jW_X0_measure a0 a) ∧ (b0 = b) ∧ ((a0 58 12 = 0 → ((a 58 13 = 0 ∧ a 58 14 = 0 - 1) ∧ a 58 15 = 0 - 1))) ∧ ((a 58 13, a 58 14, a 58 15) = SPC a0 b0 x1 x2))
theorem cr_X0_measure_22 (E : jxE) (d : Nat) (hd : Nat.ble 3 (d + 1) = true) (x1 x2 : Int) (a0 b0 : Nat → Nat → Int) (hv0 : iv a0) : ∀ n : Nat, (∀ (y1 y2 y3 : Int) (a : Nat → Nat → Int), (((y3 + 1) * 1) + 0).toNat ≤ n → iv a → jfr jW_X0_measure a0 a → 0 ≤ y3 → y3 ≤ 599 → 1 ≤ a0 58 12 → y1 = x1 → y2 = x2 → 0 ≤ a 58 13 → 0 ≤ y3 → y3 < a0 58 12 → y3 ≤ 599 → (SPN (pC a0 b0 x1 x2) (dC a0) 0 y3.toNat (a 58 13, a 58 14, a 58 15) = SPC a0 b0 x1 x2) → jt (jxX E d 23 139 [some (.inr (.inr (.inl 58))), some (.inl y1), some (.inl y2), some (.inl y3), none, none] [] (jxSH, a, b0)) (jR_X0_measure x1 x2 a0 b0)) ∧ (∀ (y1 y2 y3 y4 : Int) (a : Nat → Nat → Int), (((y3 + 1) * 1) + 0).toNat ≤ n → iv a → jfr jW_X0_measure a0 a → 0 ≤ y3 → y3 ≤ 599 → 0 ≤ y4 → y4 ≤ 299 → a 58 13 ≤ 9 → 1 ≤ a0 58 12 → y1 = x1 → y2 = x2 → 0 ≤ a 58 13 → 0 ≤ y3 → y3 < a0 58 12 → y3 ≤ 599 → (SPN (pC a0 b0 x1 x2) (dC a0) 0 (y3.toNat + 1) (a 58 13, a 58 14, a 58 15) = SPC a0 b0 x1 x2) → (y4 = a0 66 y3.toNat) → a 58 13 < 10 → (pC a0 b0 x1 x2 y3.toNat = 1) → jt (jxX E d 23 121 [some (.inr (.inr (.inl 58))), some (.inl y1), some (.inl y2), some (.inl y3), some (.inl y4), none] [] (jxSH, a, b0)) (jR_X0_measure x1 x2 a0 b0)) ∧ (∀ (y1 y2 y3 y4 s0 : Int) (a : Nat → Nat → Int), (((y3 + 1) * 1) + 0).toNat ≤ n → iv a → jfr jW_X0_measure a0 a → 0 ≤ y3 → y3 ≤ 599 → 0 ≤ s0 → s0 ≤ 1 → a 58 13 ≤ 9 → 1 ≤ a0 58 12 → y1 = x1 → y2 = x2 → 0 ≤ a 58 13 → 0 ≤ y3 → y3 < a0 58 12 → y3 ≤ 599 → (SPN (pC a0 b0 x1 x2) (dC a0) 0 (y3.toNat + 1) (a 58 13, a 58 14, a 58 15) = SPC a0 b0 x1 x2) → (y4 = a0 66 y3.toNat) → a 58 13 < 10 → (s0 = 0 → ¬ pC a0 b0 x1 x2 y3.toNat = 1) → (s0 = 1 → ¬ f_X0_has a0 b0 y4 = 0 ∧ a0 65 y4.toNat = y3 ∧ ¬ a0 67 y3.toNat = -1) → (s0 = 0 ∨ s0 = 1) → (s0 = 1 → (0 ≤ y4 ∧ y4 ≤ 299)) → jt (jxX E d 23 78 [some (.inr (.inr (.inl 58))), some (.inl y1), some (.inl y2), some (.inl y3), some (.inl y4), none] [.inl s0] (jxSH, a, b0)) (jR_X0_measure x1 x2 a0 b0)) ∧ (∀ (y1 y2 y3 y4 : Int) (a : Nat → Nat → Int), (((y3 + 1) * 1) + 0).toNat ≤ n → iv a → jfr jW_X0_measure a0 a → 0 ≤ y3 → y3 ≤ 599 → a 58 13 ≤ 9 → 1 ≤ a0 58 12 → y1 = x1 → y2 = x2 → 0 ≤ a 58 13 → 0 ≤ y3 → y3 < a0 58 12 → y3 ≤ 599 → (SPN (pC a0 b0 x1 x2) (dC a0) 0 (y3.toNat + 1) (a 58 13, a 58 14, a 58 15) = SPC a0 b0 x1 x2) → (y4 = a0 66 y3.toNat) → a 58 13 < 10 → (¬ pC a0 b0 x1 x2 y3.toNat = 1) → jt (jxX E d 23 77 [some (.inr (.inr (.inl 58))), some (.inl y1), some (.inl y2), some (.inl y3), some (.inl y4), none] [] (jxSH, a, b0)) (jR_X0_measure x1 x2 a0 b0)) ∧ (∀ (y1 y2 y3 y4 : Int) (a : Nat → Nat → Int), (((y3 + 1) * 1) + 0).toNat ≤ n → iv a → jfr jW_X0_measure a0 a → 0 ≤ y3 → y3 ≤ 599 → 0 ≤ y4 → y4 ≤ 299 → a 58 13 ≤ 9 → 1 ≤ a0 58 12 → y1 = x1 → y2 = x2 → 0 ≤ a 58 13 → 0 ≤ y3 → y3 < a0 58 12 → y3 ≤ 599 → (SPN (pC a0 b0 x1 x2) (dC a0) 0 (y3.toNat + 1) (a 58 13, a 58 14, a 58 15) = SPC a0 b0 x1 x2) → (y4 = a0 66 y3.toNat) → a 58 13 < 10 → (¬ f_X0_has a0 b0 y4 = 0) → jt (jxX E d 23 52 [some (.inr (.inr (.inl 58))), some (.inl y1), some (.inl y2), some (.inl y3), some (.inl y4), none] [] (jxSH, a, b0)) (jR_X0_measure x1 x2 a0 b0)) ∧ (∀ (y1 y2 y3 : Int) (a : Nat → Nat → Int), (((y3 + 1) * 1) + 0).toNat ≤ n → iv a → jfr jW_X0_measure a0 a → 0 - 1 ≤ y3 → y3 ≤ 599 → (a0 58 12 = 0 → (((y3 < 0 ∧ a 58 13 = 0) ∧ a 58 14 = 0 - 1) ∧ a 58 15 = 0 - 1)) → y1 = x1 → y2 = x2 → 0 ≤ a 58 13 → 0 - 1 ≤ y3 → y3 < a0 58 12 → (SPN (pC a0 b0 x1 x2) (dC a0) 0 (y3 + 1).toNat (a 58 13, a 58 14, a 58 15) = SPC a0 b0 x1 x2) → jt (jxX E d 23 22 [some (.inr (.inr (.inl 58))), some (.inl y1), some (.inl y2), some (.inl y3), none, none] [] (jxSH, a, b0)) (jR_X0_measure x1 x2 a0 b0)) := by
  refine jx_ind fun n ih => ?_
  have ih139 : ∀ (y1 y2 y3 : Int) (a : Nat → Nat → Int), (((y3 + 1) * 1) + 0).toNat < n → iv a → jfr jW_X0_measure a0 a → 0 ≤ y3 → y3 ≤ 599 → 1 ≤ a0 58 12 → y1 = x1 → y2 = x2 → 0 ≤ a 58 13 → 0 ≤ y3 → y3 < a0 58 12 → y3 ≤ 599 → (SPN (pC a0 b0 x1 x2) (dC a0) 0 y3.toNat (a 58 13, a 58 14, a 58 15) = SPC a0 b0 x1 x2) → jt (jxX E d 23 139 [some (.inr (.inr (.inl 58))), some (.inl y1), some (.inl y2), some (.inl y3), none, none] [] (jxSH, a, b0)) (jR_X0_measure x1 x2 a0 b0) := fun y1 y2 y3 a hlt i0 i1 i2 i3 i4 i5 i6 i7 i8 i9 i10 i11 => (ih _ hlt).1 y1 y2 y3 a (Nat.le_refl _) i0 i1 i2 i3 i4 i5 i6 i7 i8 i9 i10 i11
  have ih121 : ∀ (y1 y2 y3 y4 : Int) (a : Nat → Nat → Int), (((y3 + 1) * 1) + 0).toNat < n → iv a → jfr jW_X0_measure a0 a → 0 ≤ y3 → y3 ≤ 599 → 0 ≤ y4 → y4 ≤ 299 → a 58 13 ≤ 9 → 1 ≤ a0 58 12 → y1 = x1 → y2 = x2 → 0 ≤ a 58 13 → 0 ≤ y3 → y3 < a0 58 12 → y3 ≤ 599 → (SPN (pC a0 b0 x1 x2) (dC a0) 0 (y3.toNat + 1) (a 58 13, a 58 14, a 58 15) = SPC a0 b0 x1 x2) → (y4 = a0 66 y3.toNat) → a 58 13 < 10 → (pC a0 b0 x1 x2 y3.toNat = 1) → jt (jxX E d 23 121 [some (.inr (.inr (.inl 58))), some (.inl y1), some (.inl y2), some (.inl y3), some (.inl y4), none] [] (jxSH, a, b0)) (jR_X0_measure x1 x2 a0 b0) := fun y1 y2 y3 y4 a hlt i0 i1 i2 i3 i4 i5 i6 i7 i8 i9 i10 i11 i12 i13 i14 i15 i16 i17 => (ih _ hlt).2.1 y1 y2 y3 y4 a (Nat.le_refl _) i0 i1 i2 i3 i4 i5 i6 i7 i8 i9 i10 i11 i12 i13 i14 i15 i16 i17
  have ih78 : ∀ (y1 y2 y3 y4 s0 : Int) (a : Nat → Nat → Int), (((y3 + 1) * 1) + 0).toNat < n → iv a → jfr jW_X0_measure a0 a → 0 ≤ y3 → y3 ≤ 599 → 0 ≤ s0 → s0 ≤ 1 → a 58 13 ≤ 9 → 1 ≤ a0 58 12 → y1 = x1 → y2 = x2 → 0 ≤ a 58 13 → 0 ≤ y3 → y3 < a0 58 12 → y3 ≤ 599 → (SPN (pC a0 b0 x1 x2) (dC a0) 0 (y3.toNat + 1) (a 58 13, a 58 14, a 58 15) = SPC a0 b0 x1 x2) → (y4 = a0 66 y3.toNat) → a 58 13 < 10 → (s0 = 0 → ¬ pC a0 b0 x1 x2 y3.toNat = 1) → (s0 = 1 → ¬ f_X0_has a0 b0 y4 = 0 ∧ a0 65 y4.toNat = y3 ∧ ¬ a0 67 y3.toNat = -1) → (s0 = 0 ∨ s0 = 1) → (s0 = 1 → (0 ≤ y4 ∧ y4 ≤ 299)) → jt (jxX E d 23 78 [some (.inr (.inr (.inl 58))), some (.inl y1), some (.inl y2), some (.inl y3), some (.inl y4), none] [.inl s0] (jxSH, a, b0)) (jR_X0_measure x1 x2 a0 b0) := fun y1 y2 y3 y4 s0 a hlt i0 i1 i2 i3 i4 i5 i6 i7 i8 i9 i10 i11 i12 i13 i14 i15 i16 i17 i18 i19 i20 => (ih _ hlt).2.2.1 y1 y2 y3 y4 s0 a (Nat.le_refl _) i0 i1 i2 i3 i4 i5 i6 i7 i8 i9 i10 i11 i12 i13 i14 i15 i16 i17 i18 i19 i20
  have ih77 : ∀ (y1 y2 y3 y4 : Int) (a : Nat → Nat → Int), (((y3 + 1) * 1) + 0).toNat < n → iv a → jfr jW_X0_measure a0 a → 0 ≤ y3 → y3 ≤ 599 → a 58 13 ≤ 9 → 1 ≤ a0 58 12 → y1 = x1 → y2 = x2 → 0 ≤ a 58 13 → 0 ≤ y3 → y3 < a0 58 12 → y3 ≤ 599 → (SPN (pC a0 b0 x1 x2) (dC a0) 0 (y3.toNat + 1) (a 58 13, a 58 14, a 58 15) = SPC a0 b0 x1 x2) → (y4 = a0 66 y3.toNat) → a 58 13 < 10 → (¬ pC a0 b0 x1 x2 y3.toNat = 1) → jt (jxX E d 23 77 [some (.inr (.inr (.inl 58))), some (.inl y1), some (.inl y2), some (.inl y3), some (.inl y4), none] [] (jxSH, a, b0)) (jR_X0_measure x1 x2 a0 b0) := fun y1 y2 y3 y4 a hlt i0 i1 i2 i3 i4 i5 i6 i7 i8 i9 i10 i11 i12 i13 i14 i15 => (ih _ hlt).2.2.2.1 y1 y2 y3 y4 a (Nat.le_refl _) i0 i1 i2 i3 i4 i5 i6 i7 i8 i9 i10 i11 i12 i13 i14 i15
  have ih52 : ∀ (y1 y2 y3 y4 : Int) (a : Nat → Nat → Int), (((y3 + 1) * 1) + 0).toNat < n → iv a → jfr jW_X0_measure a0 a → 0 ≤ y3 → y3 ≤ 599 → 0 ≤ y4 → y4 ≤ 299 → a 58 13 ≤ 9 → 1 ≤ a0 58 12 → y1 = x1 → y2 = x2 → 0 ≤ a 58 13 → 0 ≤ y3 → y3 < a0 58 12 → y3 ≤ 599 → (SPN (pC a0 b0 x1 x2) (dC a0) 0 (y3.toNat + 1) (a 58 13, a 58 14, a 58 15) = SPC a0 b0 x1 x2) → (y4 = a0 66 y3.toNat) → a 58 13 < 10 → (¬ f_X0_has a0 b0 y4 = 0) → jt (jxX E d 23 52 [some (.inr (.inr (.inl 58))), some (.inl y1), some (.inl y2), some (.inl y3), some (.inl y4), none] [] (jxSH, a, b0)) (jR_X0_measure x1 x2 a0 b0) := fun y1 y2 y3 y4 a hlt i0 i1 i2 i3 i4 i5 i6 i7 i8 i9 i10 i11 i12 i13 i14 i15 i16 i17 => (ih _ hlt).2.2.2.2.1 y1 y2 y3 y4 a (Nat.le_refl _) i0 i1 i2 i3 i4 i5 i6 i7 i8 i9 i10 i11 i12 i13 i14 i15 i16 i17
  have ih22 : ∀ (y1 y2 y3 : Int) (a : Nat → Nat → Int), (((y3 + 1) * 1) + 0).toNat < n → iv a → jfr jW_X0_measure a0 a → 0 - 1 ≤ y3 → y3 ≤ 599 → (a0 58 12 = 0 → (((y3 < 0 ∧ a 58 13 = 0) ∧ a 58 14 = 0 - 1) ∧ a 58 15 = 0 - 1)) → y1 = x1 → y2 = x2 → 0 ≤ a 58 13 → 0 - 1 ≤ y3 → y3 < a0 58 12 → (SPN (pC a0 b0 x1 x2) (dC a0) 0 (y3 + 1).toNat (a 58 13, a 58 14, a 58 15) = SPC a0 b0 x1 x2) → jt (jxX E d 23 22 [some (.inr (.inr (.inl 58))), some (.inl y1), some (.inl y2), some (.inl y3), none, none] [] (jxSH, a, b0)) (jR_X0_measure x1 x2 a0 b0) := fun y1 y2 y3 a hlt i0 i1 i2 i3 i4 i5 i6 i7 i8 i9 i10 => (ih _ hlt).2.2.2.2.2 y1 y2 y3 a (Nat.le_refl _) i0 i1 i2 i3 i4 i5 i6 i7 i8 i9 i10
  have hc139 : ∀ (y1 y2 y3 : Int) (a : Nat → Nat → Int), (((y3 + 1) * 1) + 0).toNat ≤ n → iv a → jfr jW_X0_measure a0 a → 0 ≤ y3 → y3 ≤ 599 → 1 ≤ a0 58 12 → y1 = x1 → y2 = x2 → 0 ≤ a 58 13 → 0 ≤ y3 → y3 < a0 58 12 → y3 ≤ 599 → (SPN (pC a0 b0 x1 x2) (dC a0) 0 y3.toNat (a 58 13, a 58 14, a 58 15) = SPC a0 b0 x1 x2) → jt (jxX E d 23 139 [some (.inr (.inr (.inl 58))), some (.inl y1), some (.inl y2), some (.inl y3), none, none] [] (jxSH, a, b0)) (jR_X0_measure x1 x2 a0 b0) := by
    intro y1 y2 y3 a hm hv hf hi0 hi1 hi2 hi3 hi4 hi5 hi6 hi7 hi8 hm
    refine jt_eq (bq_X0_measure_139 E d y1 y2 y3 a b0) ?_
    have h13_ := iv_get hv0 (k := 58) (j := 12) (l := 0) (u := 600) rfl
    have h14_ := iv_get hv (k := 58) (j := 13) (l := 0) (u := 10) rfl
    have h15_ : jxw (y3 + (-1)) = y3 + (-1) := jxw_id (by omega) (by omega)
    exact ih22 y1 y2 (jxw (y3 + (-1))) a (show ((((jxw (y3 + (-1))) + 1) * 1) + 0).toNat < n from by omega) hv hf (show 0 - 1 ≤ jxw (y3 + (-1)) from by omega) (show jxw (y3 + (-1)) ≤ 599 from by omega) (show (a0 58 12 = 0 → (((jxw (y3 + (-1)) < 0 ∧ a 58 13 = 0) ∧ a 58 14 = 0 - 1) ∧ a 58 15 = 0 - 1)) from by omega) (show y1 = x1 from by omega) (show y2 = x2 from by omega) (show 0 ≤ a 58 13 from by omega) (show 0 - 1 ≤ jxw (y3 + (-1)) from by omega) (show jxw (y3 + (-1)) < a0 58 12 from by omega) (by rw [show (jxw (y3 + (-1)) + 1).toNat = y3.toNat from by omega]; exact hm)
  have hc121 : ∀ (y1 y2 y3 y4 : Int) (a : Nat → Nat → Int), (((y3 + 1) * 1) + 0).toNat ≤ n → iv a → jfr jW_X0_measure a0 a → 0 ≤ y3 → y3 ≤ 599 → 0 ≤ y4 → y4 ≤ 299 → a 58 13 ≤ 9 → 1 ≤ a0 58 12 → y1 = x1 → y2 = x2 → 0 ≤ a 58 13 → 0 ≤ y3 → y3 < a0 58 12 → y3 ≤ 599 → (SPN (pC a0 b0 x1 x2) (dC a0) 0 (y3.toNat + 1) (a 58 13, a 58 14, a 58 15) = SPC a0 b0 x1 x2) → (y4 = a0 66 y3.toNat) → a 58 13 < 10 → (pC a0 b0 x1 x2 y3.toNat = 1) → jt (jxX E d 23 121 [some (.inr (.inr (.inl 58))), some (.inl y1), some (.inl y2), some (.inl y3), some (.inl y4), none] [] (jxSH, a, b0)) (jR_X0_measure x1 x2 a0 b0) := by
    intro y1 y2 y3 y4 a hm hv hf hi0 hi1 hi2 hi3 hi4 hi5 hi6 hi7 hi8 hi9 hi10 hi11 hm hy4 hi14 hp
    refine jt_eq (bq_X0_measure_121 E d y1 y2 y3 y4 a b0) ?_
    have h16_ := iv_get hv (k := 58) (j := 13) (l := 0) (u := 10) rfl
    have h17_ := iv_get hv0 (k := 58) (j := 12) (l := 0) (u := 600) rfl
    refine jt_grd (by omega) ?_
    refine jt_grd (by omega) ?_
    refine jt_bV (sq_X0_addMeasured E d (jd_le hd rfl) (jxw ((a 67 (y3.toNat)) - (a 61 (y4.toNat)))) a b0 hv (show a 58 13 < 10 from by omega)) (fun a18_ b18_ h18_ => ?_)
    obtain ⟨hv18_, hf18_, rfl, hq18_0, hq18_1, hq18_2⟩ := h18_
    have h19_ := iv_get hv18_ (k := 58) (j := 13) (l := 0) (u := 10) rfl
    have hf20_ : jfr jW_X0_measure a0 a18_ := jfr_tr hf hf18_ rfl
    exact hc139 y1 y2 y3 a18_ (show (((y3 + 1) * 1) + 0).toNat ≤ n from by omega) hv18_ hf20_ (show 0 ≤ y3 from by omega) (show y3 ≤ 599 from by omega) (show 1 ≤ a0 58 12 from by omega) (show y1 = x1 from by omega) (show y2 = x2 from by omega) (show 0 ≤ a18_ 58 13 from by omega) (show 0 ≤ y3 from by omega) (show y3 < a0 58 12 from by omega) (show y3 ≤ 599 from by omega) (by have q := hm; rw [SPN_yes (by omega) hp] at q; have ed : dC a0 y3.toNat = jxw ((a 67 (y3.toNat)) - (a 61 (y4.toNat))) := (by show jxw (a0 67 y3.toNat - a0 61 (a0 66 y3.toNat).toNat) = _; rw [← hy4, hf 67 _ rfl, hf 61 _ rfl]); rw [show a18_ 58 13 = a 58 13 + 1 from by omega, hq18_1, hq18_2, ← ed]; have eif : (if a 58 13 = 0 then dC a0 y3.toNat else if dC a0 y3.toNat < a 58 14 then dC a0 y3.toNat else a 58 14) = (if a 58 13 = 0 ∧ (0 : Int) = 0 then dC a0 y3.toNat else if dC a0 y3.toNat < a 58 14 then dC a0 y3.toNat else a 58 14) := (by split <;> split <;> first | rfl | omega); rw [eif]; exact q)
  have hc78 : ∀ (y1 y2 y3 y4 s0 : Int) (a : Nat → Nat → Int), (((y3 + 1) * 1) + 0).toNat ≤ n → iv a → jfr jW_X0_measure a0 a → 0 ≤ y3 → y3 ≤ 599 → 0 ≤ s0 → s0 ≤ 1 → a 58 13 ≤ 9 → 1 ≤ a0 58 12 → y1 = x1 → y2 = x2 → 0 ≤ a 58 13 → 0 ≤ y3 → y3 < a0 58 12 → y3 ≤ 599 → (SPN (pC a0 b0 x1 x2) (dC a0) 0 (y3.toNat + 1) (a 58 13, a 58 14, a 58 15) = SPC a0 b0 x1 x2) → (y4 = a0 66 y3.toNat) → a 58 13 < 10 → (s0 = 0 → ¬ pC a0 b0 x1 x2 y3.toNat = 1) → (s0 = 1 → ¬ f_X0_has a0 b0 y4 = 0 ∧ a0 65 y4.toNat = y3 ∧ ¬ a0 67 y3.toNat = -1) → (s0 = 0 ∨ s0 = 1) → (s0 = 1 → (0 ≤ y4 ∧ y4 ≤ 299)) → jt (jxX E d 23 78 [some (.inr (.inr (.inl 58))), some (.inl y1), some (.inl y2), some (.inl y3), some (.inl y4), none] [.inl s0] (jxSH, a, b0)) (jR_X0_measure x1 x2 a0 b0) := by
    intro y1 y2 y3 y4 s0 a hm hv hf hi0 hi1 hi2 hi3 hi4 hi5 hi6 hi7 hi8 hi9 hi10 hi11 hm hy4 hi14 hnp hyp hi17 hi18
    refine jt_eq (bq_X0_measure_78 E d y1 y2 y3 y4 s0 a b0) ?_
    have h21_ := iv_get hv (k := 58) (j := 13) (l := 0) (u := 10) rfl
    have h22_ := iv_get hv0 (k := 58) (j := 12) (l := 0) (u := 600) rfl
    have hl1 := (show f_X3_landOf a b0 (a 59 (y4.toNat)) = f_X3_landOf a0 b0 (a0 59 (y4.toNat)) from by rw [hf 59 _ rfl]; show (if _ < 0 then _ else (if _ < a 4 6 then (if _ < 40 then a 5 _ else _) else _)) = (if _ < 0 then _ else (if _ < a0 4 6 then (if _ < 40 then a0 5 _ else _) else _)); rw [hf 4 6 rfl, hf 5 _ rfl])
    have hl2 := (show f_X3_landOf a b0 (a 60 (y4.toNat)) = f_X3_landOf a0 b0 (a0 60 (y4.toNat)) from by rw [hf 60 _ rfl]; show (if _ < 0 then _ else (if _ < a 4 6 then (if _ < 40 then a 5 _ else _) else _)) = (if _ < 0 then _ else (if _ < a0 4 6 then (if _ < 40 then a0 5 _ else _) else _)); rw [hf 4 6 rfl, hf 5 _ rfl])
    refine jt_ite (fun c23_ => ?_) (fun c23_ => ?_)
    ·
      exact hc139 y1 y2 y3 a (show (((y3 + 1) * 1) + 0).toNat ≤ n from by omega) hv hf (show 0 ≤ y3 from by omega) (show y3 ≤ 599 from by omega) (show 1 ≤ a0 58 12 from by omega) (show y1 = x1 from by omega) (show y2 = x2 from by omega) (show 0 ≤ a 58 13 from by omega) (show 0 ≤ y3 from by omega) (show y3 < a0 58 12 from by omega) (show y3 ≤ 599 from by omega) (by have q := hm; rw [SPN_no (by omega) (by first | exact hnp (by omega) | exact (fun h => by have q := pC_iff.1 h; rw [← hy4, ← hl1, ← hl2] at q; omega))] at q; exact q)
    ·
      refine jt_grd (by omega) ?_
      refine jt_eI (eq_X3_landOf E d (jd_le hd rfl) (a 59 (y4.toNat)) a b0) ?_
      have h24_ : a 59 (y4.toNat) = a0 59 (y4.toNat) := hf 59 (y4.toNat) rfl
      have h25_ := f_X3_landOf_eq a b0 (a 59 (y4.toNat))
      have h26_ := iv_get hv (k := 4) (j := 6) (l := 0) (u := 40) rfl
      have h27_ : a 4 6 = a0 4 6 := hf 4 6 rfl
      have h28_ := iv_get hv0 (k := 4) (j := 6) (l := 0) (u := 40) rfl
      have h29_ := f_X11_entry_r5_eq a b0 (a 4 6) (a 59 (y4.toNat))
      have h30_ : a 5 ((a 59 (y4.toNat)).toNat) = a0 5 ((a 59 (y4.toNat)).toNat) := hf 5 ((a 59 (y4.toNat)).toNat) rfl
      refine jt_ite (fun c31_ => ?_) (fun c31_ => ?_)
      ·
        refine jt_grd (by omega) ?_
        refine jt_eI (eq_X3_landOf E d (jd_le hd rfl) (a 60 (y4.toNat)) a b0) ?_
        have h32_ : a 60 (y4.toNat) = a0 60 (y4.toNat) := hf 60 (y4.toNat) rfl
        have h33_ := f_X3_landOf_eq a b0 (a 60 (y4.toNat))
        have h34_ := f_X11_entry_r5_eq a b0 (a 4 6) (a 60 (y4.toNat))
        have h35_ : a 5 ((a 60 (y4.toNat)).toNat) = a0 5 ((a 60 (y4.toNat)).toNat) := hf 5 ((a 60 (y4.toNat)).toNat) rfl
        refine jt_ite (fun c36_ => ?_) (fun c36_ => ?_)
        ·
          exact hc121 y1 y2 y3 y4 a (show (((y3 + 1) * 1) + 0).toNat ≤ n from by omega) hv hf (show 0 ≤ y3 from by omega) (show y3 ≤ 599 from by omega) (show 0 ≤ y4 from by omega) (show y4 ≤ 299 from by omega) (show a 58 13 ≤ 9 from by omega) (show 1 ≤ a0 58 12 from by omega) (show y1 = x1 from by omega) (show y2 = x2 from by omega) (show 0 ≤ a 58 13 from by omega) (show 0 ≤ y3 from by omega) (show y3 < a0 58 12 from by omega) (show y3 ≤ 599 from by omega) hm (by first | assumption | exact hf 66 _ rfl) (show a 58 13 < 10 from by omega) (pC_iff.2 (by rw [← hy4]; have q := hyp (by omega); exact ⟨q.1, by rw [q.2.1]; omega, q.2.2, by rw [← hl1]; omega, by rw [← hl2]; omega⟩))
        ·
          exact hc139 y1 y2 y3 a (show (((y3 + 1) * 1) + 0).toNat ≤ n from by omega) hv hf (show 0 ≤ y3 from by omega) (show y3 ≤ 599 from by omega) (show 1 ≤ a0 58 12 from by omega) (show y1 = x1 from by omega) (show y2 = x2 from by omega) (show 0 ≤ a 58 13 from by omega) (show 0 ≤ y3 from by omega) (show y3 < a0 58 12 from by omega) (show y3 ≤ 599 from by omega) (by have q := hm; rw [SPN_no (by omega) (by first | exact hnp (by omega) | exact (fun h => by have q := pC_iff.1 h; rw [← hy4, ← hl1, ← hl2] at q; omega))] at q; exact q)
      ·
        exact hc139 y1 y2 y3 a (show (((y3 + 1) * 1) + 0).toNat ≤ n from by omega) hv hf (show 0 ≤ y3 from by omega) (show y3 ≤ 599 from by omega) (show 1 ≤ a0 58 12 from by omega) (show y1 = x1 from by omega) (show y2 = x2 from by omega) (show 0 ≤ a 58 13 from by omega) (show 0 ≤ y3 from by omega) (show y3 < a0 58 12 from by omega) (show y3 ≤ 599 from by omega) (by have q := hm; rw [SPN_no (by omega) (by first | exact hnp (by omega) | exact (fun h => by have q := pC_iff.1 h; rw [← hy4, ← hl1, ← hl2] at q; omega))] at q; exact q)
  have hc77 : ∀ (y1 y2 y3 y4 : Int) (a : Nat → Nat → Int), (((y3 + 1) * 1) + 0).toNat ≤ n → iv a → jfr jW_X0_measure a0 a → 0 ≤ y3 → y3 ≤ 599 → a 58 13 ≤ 9 → 1 ≤ a0 58 12 → y1 = x1 → y2 = x2 → 0 ≤ a 58 13 → 0 ≤ y3 → y3 < a0 58 12 → y3 ≤ 599 → (SPN (pC a0 b0 x1 x2) (dC a0) 0 (y3.toNat + 1) (a 58 13, a 58 14, a 58 15) = SPC a0 b0 x1 x2) → (y4 = a0 66 y3.toNat) → a 58 13 < 10 → (¬ pC a0 b0 x1 x2 y3.toNat = 1) → jt (jxX E d 23 77 [some (.inr (.inr (.inl 58))), some (.inl y1), some (.inl y2), some (.inl y3), some (.inl y4), none] [] (jxSH, a, b0)) (jR_X0_measure x1 x2 a0 b0) := by
    intro y1 y2 y3 y4 a hm hv hf hi0 hi1 hi2 hi3 hi4 hi5 hi6 hi7 hi8 hi9 hm hy4 hi12 hnp
    refine jt_eq (bq_X0_measure_77 E d y1 y2 y3 y4 a b0) ?_
    have h37_ := iv_get hv (k := 58) (j := 13) (l := 0) (u := 10) rfl
    have h38_ := iv_get hv0 (k := 58) (j := 12) (l := 0) (u := 600) rfl
    exact hc78 y1 y2 y3 y4 0 a (show (((y3 + 1) * 1) + 0).toNat ≤ n from by omega) hv hf (show 0 ≤ y3 from by omega) (show y3 ≤ 599 from by omega) (show 0 ≤ 0 from by omega) (show 0 ≤ 1 from by omega) (show a 58 13 ≤ 9 from by omega) (show 1 ≤ a0 58 12 from by omega) (show y1 = x1 from by omega) (show y2 = x2 from by omega) (show 0 ≤ a 58 13 from by omega) (show 0 ≤ y3 from by omega) (show y3 < a0 58 12 from by omega) (show y3 ≤ 599 from by omega) hm (by first | assumption | exact hf 66 _ rfl) (show a 58 13 < 10 from by omega) (by first | exact (fun _ => hnp) | exact (fun h => absurd h (by decide))) (by first | exact (fun h => absurd h (by decide)) | exact (fun _ => ⟨hhas, by have e1 := hf 65 (y4.toNat) rfl; omega, by have e2 := hf 67 (y3.toNat) rfl; omega⟩)) (show (0 = 0 ∨ 0 = 1) from by omega) (show (0 = 1 → (0 ≤ y4 ∧ y4 ≤ 299)) from by omega)
  have hc52 : ∀ (y1 y2 y3 y4 : Int) (a : Nat → Nat → Int), (((y3 + 1) * 1) + 0).toNat ≤ n → iv a → jfr jW_X0_measure a0 a → 0 ≤ y3 → y3 ≤ 599 → 0 ≤ y4 → y4 ≤ 299 → a 58 13 ≤ 9 → 1 ≤ a0 58 12 → y1 = x1 → y2 = x2 → 0 ≤ a 58 13 → 0 ≤ y3 → y3 < a0 58 12 → y3 ≤ 599 → (SPN (pC a0 b0 x1 x2) (dC a0) 0 (y3.toNat + 1) (a 58 13, a 58 14, a 58 15) = SPC a0 b0 x1 x2) → (y4 = a0 66 y3.toNat) → a 58 13 < 10 → (¬ f_X0_has a0 b0 y4 = 0) → jt (jxX E d 23 52 [some (.inr (.inr (.inl 58))), some (.inl y1), some (.inl y2), some (.inl y3), some (.inl y4), none] [] (jxSH, a, b0)) (jR_X0_measure x1 x2 a0 b0) := by
    intro y1 y2 y3 y4 a hm hv hf hi0 hi1 hi2 hi3 hi4 hi5 hi6 hi7 hi8 hi9 hi10 hi11 hm hy4 hi14 hhas
    refine jt_eq (bq_X0_measure_52 E d y1 y2 y3 y4 a b0) ?_
    have h39_ := iv_get hv (k := 58) (j := 13) (l := 0) (u := 10) rfl
    have h40_ := iv_get hv0 (k := 58) (j := 12) (l := 0) (u := 600) rfl
    refine jt_grd (by omega) ?_
    have h41_ : a 65 (y4.toNat) = a0 65 (y4.toNat) := hf 65 (y4.toNat) rfl
    refine jt_ite (fun c42_ => ?_) (fun c42_ => ?_)
    ·
      refine jt_grd (by omega) ?_
      have h43_ : a 67 (y3.toNat) = a0 67 (y3.toNat) := hf 67 (y3.toNat) rfl
      refine jt_ite (fun c44_ => ?_) (fun c44_ => ?_)
      ·
        exact hc77 y1 y2 y3 y4 a (show (((y3 + 1) * 1) + 0).toNat ≤ n from by omega) hv hf (show 0 ≤ y3 from by omega) (show y3 ≤ 599 from by omega) (show a 58 13 ≤ 9 from by omega) (show 1 ≤ a0 58 12 from by omega) (show y1 = x1 from by omega) (show y2 = x2 from by omega) (show 0 ≤ a 58 13 from by omega) (show 0 ≤ y3 from by omega) (show y3 < a0 58 12 from by omega) (show y3 ≤ 599 from by omega) hm (by first | assumption | exact hf 66 _ rfl) (show a 58 13 < 10 from by omega) (fun h => by have q := pC_iff.1 h; rw [← hy4] at q; have q2 := q.2.1; have q3 := q.2.2.1; have e1 := hf 65 (y4.toNat) rfl; have e2 := hf 67 (y3.toNat) rfl; omega)
      ·
        exact hc78 y1 y2 y3 y4 1 a (show (((y3 + 1) * 1) + 0).toNat ≤ n from by omega) hv hf (show 0 ≤ y3 from by omega) (show y3 ≤ 599 from by omega) (show 0 ≤ 1 from by omega) (show 1 ≤ 1 from by omega) (show a 58 13 ≤ 9 from by omega) (show 1 ≤ a0 58 12 from by omega) (show y1 = x1 from by omega) (show y2 = x2 from by omega) (show 0 ≤ a 58 13 from by omega) (show 0 ≤ y3 from by omega) (show y3 < a0 58 12 from by omega) (show y3 ≤ 599 from by omega) hm (by first | assumption | exact hf 66 _ rfl) (show a 58 13 < 10 from by omega) (by first | exact (fun _ => hnp) | exact (fun h => absurd h (by decide))) (by first | exact (fun h => absurd h (by decide)) | exact (fun _ => ⟨hhas, by have e1 := hf 65 (y4.toNat) rfl; omega, by have e2 := hf 67 (y3.toNat) rfl; omega⟩)) (show (1 = 0 ∨ 1 = 1) from by omega) (show (1 = 1 → (0 ≤ y4 ∧ y4 ≤ 299)) from by omega)
    ·
      exact hc77 y1 y2 y3 y4 a (show (((y3 + 1) * 1) + 0).toNat ≤ n from by omega) hv hf (show 0 ≤ y3 from by omega) (show y3 ≤ 599 from by omega) (show a 58 13 ≤ 9 from by omega) (show 1 ≤ a0 58 12 from by omega) (show y1 = x1 from by omega) (show y2 = x2 from by omega) (show 0 ≤ a 58 13 from by omega) (show 0 ≤ y3 from by omega) (show y3 < a0 58 12 from by omega) (show y3 ≤ 599 from by omega) hm (by first | assumption | exact hf 66 _ rfl) (show a 58 13 < 10 from by omega) (fun h => by have q := pC_iff.1 h; rw [← hy4] at q; have q2 := q.2.1; have q3 := q.2.2.1; have e1 := hf 65 (y4.toNat) rfl; have e2 := hf 67 (y3.toNat) rfl; omega)
  have hc22 : ∀ (y1 y2 y3 : Int) (a : Nat → Nat → Int), (((y3 + 1) * 1) + 0).toNat ≤ n → iv a → jfr jW_X0_measure a0 a → 0 - 1 ≤ y3 → y3 ≤ 599 → (a0 58 12 = 0 → (((y3 < 0 ∧ a 58 13 = 0) ∧ a 58 14 = 0 - 1) ∧ a 58 15 = 0 - 1)) → y1 = x1 → y2 = x2 → 0 ≤ a 58 13 → 0 - 1 ≤ y3 → y3 < a0 58 12 → (SPN (pC a0 b0 x1 x2) (dC a0) 0 (y3 + 1).toNat (a 58 13, a 58 14, a 58 15) = SPC a0 b0 x1 x2) → jt (jxX E d 23 22 [some (.inr (.inr (.inl 58))), some (.inl y1), some (.inl y2), some (.inl y3), none, none] [] (jxSH, a, b0)) (jR_X0_measure x1 x2 a0 b0) := by
    intro y1 y2 y3 a hm hv hf hi0 hi1 hi2 hi3 hi4 hi5 hi6 hi7 hm
    refine jt_eq (bq_X0_measure_22 E d y1 y2 y3 a b0) ?_
    have h45_ := iv_get hv0 (k := 58) (j := 12) (l := 0) (u := 600) rfl
    have h46_ := iv_get hv (k := 58) (j := 13) (l := 0) (u := 10) rfl
    refine jt_ite (fun c47_ => ?_) (fun c47_ => ?_)
    ·
      exact jt_rV ⟨hv, hf, rfl, (show (a0 58 12 = 0 → ((a 58 13 = 0 ∧ a 58 14 = 0 - 1) ∧ a 58 15 = 0 - 1)) from by omega), (by first | (have q := hm; rw [show (y3 + 1).toNat = 0 from by omega] at q; exact q) | (have q := hm; rw [SPN_stop (by omega)] at q; exact q))⟩
    ·
      refine jt_ite (fun c48_ => ?_) (fun c48_ => ?_)
      ·
        refine jt_grd (by omega) ?_
        refine jt_eI (eq_X0_has E d (jd_le hd rfl) (a 66 (y3.toNat)) a b0) ?_
        have h49_ : a 66 (y3.toNat) = a0 66 (y3.toNat) := hf 66 (y3.toNat) rfl
        have h50_ := f_X0_has_eq a b0 (a 66 (y3.toNat))
        have h51_ := iv_get hv (k := 58) (j := 8) (l := 0) (u := 300) rfl
        have h52_ : a 58 8 = a0 58 8 := hf 58 8 rfl
        have h53_ := iv_get hv0 (k := 58) (j := 8) (l := 0) (u := 300) rfl
        refine jt_ite (fun c54_ => ?_) (fun c54_ => ?_)
        ·
          exact hc77 y1 y2 y3 (a 66 (y3.toNat)) a (show (((y3 + 1) * 1) + 0).toNat ≤ n from by omega) hv hf (show 0 ≤ y3 from by omega) (show y3 ≤ 599 from by omega) (show a 58 13 ≤ 9 from by omega) (show 1 ≤ a0 58 12 from by omega) (show y1 = x1 from by omega) (show y2 = x2 from by omega) (show 0 ≤ a 58 13 from by omega) (show 0 ≤ y3 from by omega) (show y3 < a0 58 12 from by omega) (show y3 ≤ 599 from by omega) (by have q := hm; rw [show (y3 + 1).toNat = y3.toNat + 1 from by omega] at q; exact q) (by first | assumption | exact hf 66 _ rfl) (show a 58 13 < 10 from by omega) (fun h => by have q := (pC_iff.1 h).1; apply q; rw [show a0 66 (y3.toNat) = a 66 (y3.toNat) from (hf 66 _ rfl).symm]; rw [← (show f_X0_has a b0 (a 66 (y3.toNat)) = f_X0_has a0 b0 (a 66 (y3.toNat)) from (by show (if _ < 0 then 0 else (if _ < a 58 8 then _ else 0)) = (if _ < 0 then 0 else (if _ < a0 58 8 then _ else 0)); rw [hf 58 8 rfl]))]; assumption)
        ·
          exact hc52 y1 y2 y3 (a 66 (y3.toNat)) a (show (((y3 + 1) * 1) + 0).toNat ≤ n from by omega) hv hf (show 0 ≤ y3 from by omega) (show y3 ≤ 599 from by omega) (show 0 ≤ a 66 (y3.toNat) from by omega) (show a 66 (y3.toNat) ≤ 299 from by omega) (show a 58 13 ≤ 9 from by omega) (show 1 ≤ a0 58 12 from by omega) (show y1 = x1 from by omega) (show y2 = x2 from by omega) (show 0 ≤ a 58 13 from by omega) (show 0 ≤ y3 from by omega) (show y3 < a0 58 12 from by omega) (show y3 ≤ 599 from by omega) (by have q := hm; rw [show (y3 + 1).toNat = y3.toNat + 1 from by omega] at q; exact q) (by first | assumption | exact hf 66 _ rfl) (show a 58 13 < 10 from by omega) (by have e : f_X0_has a b0 (a 66 (y3.toNat)) = f_X0_has a0 b0 (a 66 (y3.toNat)) := (by show (if _ < 0 then 0 else (if _ < a 58 8 then _ else 0)) = (if _ < 0 then 0 else (if _ < a0 58 8 then _ else 0)); rw [hf 58 8 rfl]); rw [← e]; assumption)
      ·
        exact jt_rV ⟨hv, hf, rfl, (show (a0 58 12 = 0 → ((a 58 13 = 0 ∧ a 58 14 = 0 - 1) ∧ a 58 15 = 0 - 1)) from by omega), (by first | (have q := hm; rw [show (y3 + 1).toNat = 0 from by omega] at q; exact q) | (have q := hm; rw [SPN_stop (by omega)] at q; exact q))⟩
  exact ⟨hc139, hc121, hc78, hc77, hc52, hc22⟩
theorem sq_X0_measure (E : jxE) (d : Nat) (hd : Nat.ble 3 d = true) (x1 x2 : Int) (a0 b0 : Nat → Nat → Int) (hv0 : iv a0) : jt (jxC E d 23 [.inr (.inr (.inl 58)), .inl x1, .inl x2] (jxSH, a0, b0)) (jR_X0_measure x1 x2 a0 b0) := by
  obtain ⟨d, rfl⟩ := jd_succ hd
  refine jt_eq (bq_X0_measure E d x1 x2 a0 b0) ?_
  have hv55_ : iv (jxu a0 58 13 0) := iv_put hv0 (l := 0) (u := 10) rfl (by omega) (by omega)
  have hv56_ : iv (jxu (jxu a0 58 13 0) 58 14 (-1)) := iv_putf hv55_ rfl
  have hv57_ : iv (jxu (jxu (jxu a0 58 13 0) 58 14 (-1)) 58 15 (-1)) := iv_putf hv56_ rfl
  have hf58_ : jfr jW_X0_measure a0 (jxu a0 58 13 0) := jfr_put (jfr_rf _ _) rfl
  have hf59_ : jfr jW_X0_measure a0 (jxu (jxu a0 58 13 0) 58 14 (-1)) := jfr_put hf58_ rfl
  have hf60_ : jfr jW_X0_measure a0 (jxu (jxu (jxu a0 58 13 0) 58 14 (-1)) 58 15 (-1)) := jfr_put hf59_ rfl
  have h61_ := iv_get hv0 (k := 58) (j := 12) (l := 0) (u := 600) rfl
  have h62_ : jxw ((a0 58 12) - 1) = (a0 58 12) - 1 := jxw_id (by omega) (by omega)
  exact (cr_X0_measure_22 E d hd x1 x2 a0 b0 hv0 _).2.2.2.2.2 x1 x2 (jxw ((a0 58 12) - 1)) (jxu (jxu (jxu a0 58 13 0) 58 14 (-1)) 58 15 (-1)) (Nat.le_refl _) hv57_ hf60_ (show 0 - 1 ≤ jxw ((a0 58 12) - 1) from by omega) (show jxw ((a0 58 12) - 1) ≤ 599 from by omega) (show (a0 58 12 = 0 → (((jxw ((a0 58 12) - 1) < 0 ∧ 0 = 0) ∧ (-1) = 0 - 1) ∧ (-1) = 0 - 1)) from by omega) (show x1 = x1 from by omega) (show x2 = x2 from by omega) (show 0 ≤ 0 from by omega) (show 0 - 1 ≤ jxw ((a0 58 12) - 1) from by omega) (show jxw ((a0 58 12) - 1) < a0 58 12 from by omega) (by show SPN _ _ 0 (jxw ((a0 58 12) - 1) + 1).toNat (0, -1, -1) = _; rw [show (jxw ((a0 58 12) - 1) + 1).toNat = (a0 58 12).toNat from by omega]; rfl)
abbrev jR_X0_stateAsKnown (x1 x2 x3 : Int) (a0 b0 : Nat → Nat → Int) : List jxV → (Nat → Nat → Int) → (Nat → Nat → Int) → Prop := rI (fun r a b => (a0 = a) ∧ (b0 = b) ∧ (r = f_X0_stateOn a0 b0 x1 x2 x3 (lastd (a0 66) (a0 67) (a0 68) x1 x3 (a0 58 12).toNat)))
theorem cr_X0_stateAsKnown_6 (E : jxE) (d : Nat) (hd : Nat.ble 3 (d + 1) = true) (x1 x2 x3 : Int) (a0 b0 : Nat → Nat → Int) (hv0 : iv a0) : ∀ n : Nat, (∀ (y1 y2 y3 y4 y5 : Int), (((600 - y5) * 1) + 0).toNat ≤ n → 0 ≤ y5 → y5 ≤ 599 → y1 = x1 → y2 = x2 → y3 = x3 → 0 ≤ y5 → y5 < a0 58 12 → (y4 = lastd (a0 66) (a0 67) (a0 68) x1 x3 (y5.toNat + 1)) → jt (jxX E d 18 46 [some (.inr (.inr (.inl 58))), some (.inl y1), some (.inl y2), some (.inl y3), some (.inl y4), some (.inl y5)] [] (jxSH, a0, b0)) (jR_X0_stateAsKnown x1 x2 x3 a0 b0)) ∧ (∀ (y1 y2 y3 y5 : Int), (((600 - y5) * 1) + 0).toNat ≤ n → 0 ≤ y5 → y5 ≤ 599 → y1 = x1 → y2 = x2 → y3 = x3 → 0 ≤ y5 → y5 < a0 58 12 → (a0 67 y5.toNat = lastd (a0 66) (a0 67) (a0 68) x1 x3 (y5.toNat + 1)) → jt (jxX E d 18 37 [some (.inr (.inr (.inl 58))), some (.inl y1), some (.inl y2), some (.inl y3), none, some (.inl y5)] [] (jxSH, a0, b0)) (jR_X0_stateAsKnown x1 x2 x3 a0 b0)) ∧ (∀ (y1 y2 y3 y4 y5 : Int), (((600 - y5) * 1) + 0).toNat ≤ n → 0 ≤ y5 → y5 ≤ 600 → y1 = x1 → y2 = x2 → y3 = x3 → 0 ≤ y5 → y5 ≤ a0 58 12 → (y4 = lastd (a0 66) (a0 67) (a0 68) x1 x3 y5.toNat) → jt (jxX E d 18 6 [some (.inr (.inr (.inl 58))), some (.inl y1), some (.inl y2), some (.inl y3), some (.inl y4), some (.inl y5)] [] (jxSH, a0, b0)) (jR_X0_stateAsKnown x1 x2 x3 a0 b0)) := by
  refine jx_ind fun n ih => ?_
  have ih46 : ∀ (y1 y2 y3 y4 y5 : Int), (((600 - y5) * 1) + 0).toNat < n → 0 ≤ y5 → y5 ≤ 599 → y1 = x1 → y2 = x2 → y3 = x3 → 0 ≤ y5 → y5 < a0 58 12 → (y4 = lastd (a0 66) (a0 67) (a0 68) x1 x3 (y5.toNat + 1)) → jt (jxX E d 18 46 [some (.inr (.inr (.inl 58))), some (.inl y1), some (.inl y2), some (.inl y3), some (.inl y4), some (.inl y5)] [] (jxSH, a0, b0)) (jR_X0_stateAsKnown x1 x2 x3 a0 b0) := fun y1 y2 y3 y4 y5 hlt i0 i1 i2 i3 i4 i5 i6 i7 => (ih _ hlt).1 y1 y2 y3 y4 y5 (Nat.le_refl _) i0 i1 i2 i3 i4 i5 i6 i7
  have ih37 : ∀ (y1 y2 y3 y5 : Int), (((600 - y5) * 1) + 0).toNat < n → 0 ≤ y5 → y5 ≤ 599 → y1 = x1 → y2 = x2 → y3 = x3 → 0 ≤ y5 → y5 < a0 58 12 → (a0 67 y5.toNat = lastd (a0 66) (a0 67) (a0 68) x1 x3 (y5.toNat + 1)) → jt (jxX E d 18 37 [some (.inr (.inr (.inl 58))), some (.inl y1), some (.inl y2), some (.inl y3), none, some (.inl y5)] [] (jxSH, a0, b0)) (jR_X0_stateAsKnown x1 x2 x3 a0 b0) := fun y1 y2 y3 y5 hlt i0 i1 i2 i3 i4 i5 i6 i7 => (ih _ hlt).2.1 y1 y2 y3 y5 (Nat.le_refl _) i0 i1 i2 i3 i4 i5 i6 i7
  have ih6 : ∀ (y1 y2 y3 y4 y5 : Int), (((600 - y5) * 1) + 0).toNat < n → 0 ≤ y5 → y5 ≤ 600 → y1 = x1 → y2 = x2 → y3 = x3 → 0 ≤ y5 → y5 ≤ a0 58 12 → (y4 = lastd (a0 66) (a0 67) (a0 68) x1 x3 y5.toNat) → jt (jxX E d 18 6 [some (.inr (.inr (.inl 58))), some (.inl y1), some (.inl y2), some (.inl y3), some (.inl y4), some (.inl y5)] [] (jxSH, a0, b0)) (jR_X0_stateAsKnown x1 x2 x3 a0 b0) := fun y1 y2 y3 y4 y5 hlt i0 i1 i2 i3 i4 i5 i6 i7 => (ih _ hlt).2.2 y1 y2 y3 y4 y5 (Nat.le_refl _) i0 i1 i2 i3 i4 i5 i6 i7
  have hc46 : ∀ (y1 y2 y3 y4 y5 : Int), (((600 - y5) * 1) + 0).toNat ≤ n → 0 ≤ y5 → y5 ≤ 599 → y1 = x1 → y2 = x2 → y3 = x3 → 0 ≤ y5 → y5 < a0 58 12 → (y4 = lastd (a0 66) (a0 67) (a0 68) x1 x3 (y5.toNat + 1)) → jt (jxX E d 18 46 [some (.inr (.inr (.inl 58))), some (.inl y1), some (.inl y2), some (.inl y3), some (.inl y4), some (.inl y5)] [] (jxSH, a0, b0)) (jR_X0_stateAsKnown x1 x2 x3 a0 b0) := by
    intro y1 y2 y3 y4 y5 hm hi0 hi1 hi2 hi3 hi4 hi5 hi6 hl
    refine jt_eq (bq_X0_stateAsKnown_46 E d y1 y2 y3 y4 y5 a0 b0) ?_
    have h63_ := iv_get hv0 (k := 58) (j := 12) (l := 0) (u := 600) rfl
    have h64_ : jxw (y5 + 1) = y5 + 1 := jxw_id (by omega) (by omega)
    exact ih6 y1 y2 y3 y4 (jxw (y5 + 1)) (show (((600 - (jxw (y5 + 1))) * 1) + 0).toNat < n from by omega) (show 0 ≤ jxw (y5 + 1) from by omega) (show jxw (y5 + 1) ≤ 600 from by omega) (show y1 = x1 from by omega) (show y2 = x2 from by omega) (show y3 = x3 from by omega) (show 0 ≤ jxw (y5 + 1) from by omega) (show jxw (y5 + 1) ≤ a0 58 12 from by omega) (by first | rfl | (rw [show (jxw (y5 + 1)).toNat = y5.toNat + 1 from by omega]; exact hl))
  have hc37 : ∀ (y1 y2 y3 y5 : Int), (((600 - y5) * 1) + 0).toNat ≤ n → 0 ≤ y5 → y5 ≤ 599 → y1 = x1 → y2 = x2 → y3 = x3 → 0 ≤ y5 → y5 < a0 58 12 → (a0 67 y5.toNat = lastd (a0 66) (a0 67) (a0 68) x1 x3 (y5.toNat + 1)) → jt (jxX E d 18 37 [some (.inr (.inr (.inl 58))), some (.inl y1), some (.inl y2), some (.inl y3), none, some (.inl y5)] [] (jxSH, a0, b0)) (jR_X0_stateAsKnown x1 x2 x3 a0 b0) := by
    intro y1 y2 y3 y5 hm hi0 hi1 hi2 hi3 hi4 hi5 hi6 hl
    refine jt_eq (bq_X0_stateAsKnown_37 E d y1 y2 y3 y5 a0 b0) ?_
    have h65_ := iv_get hv0 (k := 58) (j := 12) (l := 0) (u := 600) rfl
    refine jt_grd (by omega) ?_
    exact hc46 y1 y2 y3 (a0 67 (y5.toNat)) y5 (show (((600 - y5) * 1) + 0).toNat ≤ n from by omega) (show 0 ≤ y5 from by omega) (show y5 ≤ 599 from by omega) (show y1 = x1 from by omega) (show y2 = x2 from by omega) (show y3 = x3 from by omega) (show 0 ≤ y5 from by omega) (show y5 < a0 58 12 from by omega) (by first | exact hl | (rw [hls, if_neg (fun q => by omega)]; exact hl))
  have hc6 : ∀ (y1 y2 y3 y4 y5 : Int), (((600 - y5) * 1) + 0).toNat ≤ n → 0 ≤ y5 → y5 ≤ 600 → y1 = x1 → y2 = x2 → y3 = x3 → 0 ≤ y5 → y5 ≤ a0 58 12 → (y4 = lastd (a0 66) (a0 67) (a0 68) x1 x3 y5.toNat) → jt (jxX E d 18 6 [some (.inr (.inr (.inl 58))), some (.inl y1), some (.inl y2), some (.inl y3), some (.inl y4), some (.inl y5)] [] (jxSH, a0, b0)) (jR_X0_stateAsKnown x1 x2 x3 a0 b0) := by
    intro y1 y2 y3 y4 y5 hm hi0 hi1 hi2 hi3 hi4 hi5 hi6 hl
    refine jt_eq (bq_X0_stateAsKnown_6 E d y1 y2 y3 y4 y5 a0 b0) ?_
    have h66_ := iv_get hv0 (k := 58) (j := 12) (l := 0) (u := 600) rfl
    have hls : lastd (a0 66) (a0 67) (a0 68) x1 x3 (y5.toNat + 1) = if a0 66 y5.toNat = x1 ∧ a0 68 y5.toNat ≤ x3 then a0 67 y5.toNat else lastd (a0 66) (a0 67) (a0 68) x1 x3 y5.toNat := rfl
    refine jt_ite (fun c67_ => ?_) (fun c67_ => ?_)
    ·
      refine jt_grd (by omega) ?_
      refine jt_ite (fun c68_ => ?_) (fun c68_ => ?_)
      ·
        refine jt_grd (by omega) ?_
        refine jt_ite (fun c69_ => ?_) (fun c69_ => ?_)
        ·
          exact hc46 y1 y2 y3 y4 y5 (show (((600 - y5) * 1) + 0).toNat ≤ n from by omega) (show 0 ≤ y5 from by omega) (show y5 ≤ 599 from by omega) (show y1 = x1 from by omega) (show y2 = x2 from by omega) (show y3 = x3 from by omega) (show 0 ≤ y5 from by omega) (show y5 < a0 58 12 from by omega) (by first | exact hl | (rw [hls, if_neg (fun q => by omega)]; exact hl))
        ·
          exact hc37 y1 y2 y3 y5 (show (((600 - y5) * 1) + 0).toNat ≤ n from by omega) (show 0 ≤ y5 from by omega) (show y5 ≤ 599 from by omega) (show y1 = x1 from by omega) (show y2 = x2 from by omega) (show y3 = x3 from by omega) (show 0 ≤ y5 from by omega) (show y5 < a0 58 12 from by omega) (by rw [hls, if_pos ⟨by omega, by omega⟩])
      ·
        exact hc46 y1 y2 y3 y4 y5 (show (((600 - y5) * 1) + 0).toNat ≤ n from by omega) (show 0 ≤ y5 from by omega) (show y5 ≤ 599 from by omega) (show y1 = x1 from by omega) (show y2 = x2 from by omega) (show y3 = x3 from by omega) (show 0 ≤ y5 from by omega) (show y5 < a0 58 12 from by omega) (by first | exact hl | (rw [hls, if_neg (fun q => by omega)]; exact hl))
    ·
      refine jt_eI (eq_X0_stateOn E d (jd_le hd rfl) y1 y2 y3 y4 a0 b0) ?_
      exact jt_rI ⟨rfl, rfl, (by rw [show (a0 58 12).toNat = y5.toNat from by omega, ← hl, show y1 = x1 from by omega, show y2 = x2 from by omega, show y3 = x3 from by omega])⟩
  exact ⟨hc46, hc37, hc6⟩
theorem sq_X0_stateAsKnown (E : jxE) (d : Nat) (hd : Nat.ble 3 d = true) (x1 x2 x3 : Int) (a0 b0 : Nat → Nat → Int) (hv0 : iv a0) : jt (jxC E d 18 [.inr (.inr (.inl 58)), .inl x1, .inl x2, .inl x3] (jxSH, a0, b0)) (jR_X0_stateAsKnown x1 x2 x3 a0 b0) := by
  obtain ⟨d, rfl⟩ := jd_succ hd
  refine jt_eq (bq_X0_stateAsKnown E d x1 x2 x3 a0 b0) ?_
  have h70_ := iv_get hv0 (k := 58) (j := 12) (l := 0) (u := 600) rfl
  exact (cr_X0_stateAsKnown_6 E d hd x1 x2 x3 a0 b0 hv0 _).2.2 x1 x2 x3 (-1) 0 (Nat.le_refl _) (show 0 ≤ 0 from by omega) (show 0 ≤ 600 from by omega) (show x1 = x1 from by omega) (show x2 = x2 from by omega) (show x3 = x3 from by omega) (show 0 ≤ 0 from by omega) (show 0 ≤ a0 58 12 from by omega) (by first | rfl | (rw [show (jxw (y5 + 1)).toNat = y5.toNat + 1 from by omega]; exact hl))
def jWta : List (Nat × Nat) := [(75, 9999)]
def jWtb : List (Nat × Nat) := [(70, 9999), (71, 9999), (75, 9999)]
def jWtc : List (Nat × Nat) := [(73, 9999), (75, 9999)]
abbrev jR_X7_add (x1 x2 x3 x4 : Int) (a0 b0 : Nat → Nat → Int) : List jxV → (Nat → Nat → Int) → (Nat → Nat → Int) → Prop := rV (fun a b => (iv a) ∧ (jfr jW_X7_add a0 a) ∧ (b0 = b) ∧ (TAD a0 a x1 x2 x3 x4))
theorem cr_X7_add_104 (E : jxE) (d : Nat) (hd : Nat.ble 2 (d + 1) = true) (x1 x2 x3 x4 : Int) (a0 b0 : Nat → Nat → Int) (hv0 : iv a0) : ∀ (a : Nat → Nat → Int), iv a → jfr jW_X7_add a0 a → (TAD a0 a x1 x2 x3 x4) → jt (jxX E d 109 104 [none, none, none, none, none] [] (jxSH, a, b0)) (jR_X7_add x1 x2 x3 x4 a0 b0) := by
  intro a hv hf htad
  refine jt_eq (bq_X7_add_104 E d a b0) ?_
  exact jt_rV ⟨hv, hf, rfl, htad⟩
theorem cr_X7_add_76 (E : jxE) (d : Nat) (hd : Nat.ble 2 (d + 1) = true) (x1 x2 x3 x4 : Int) (a0 b0 : Nat → Nat → Int) (hv0 : iv a0) : ∀ (y2 : Int) (a : Nat → Nat → Int), iv a → jfr jW_X7_add a0 a → 0 ≤ y2 → y2 ≤ 39 → (0 ≤ x1 ∧ x1 ≤ 39 ∧ 0 ≤ x2 ∧ x2 ≤ 39) → (jfr jWtc a0 a) → (y2 = x2) → (UP (a0 75) (a 75) x2.toNat x4) → x3 = 0 → (UP (a0 73) (a 73) x1.toNat (jxw (a0 73 x1.toNat + 1))) → jt (jxX E d 109 76 [some (.inr (.inr (.inl 69))), none, some (.inl y2), none, none] [] (jxSH, a, b0)) (jR_X7_add x1 x2 x3 x4 a0 b0) := by
  intro y2 a hv hf hi0 hi1 hv4 hfe hy2 hu75 hi6 hu73
  refine jt_eq (bq_X7_add_76 E d y2 a b0) ?_
  refine jt_grd (by omega) ?_
  refine jt_grd (by omega) ?_
  have hv71_ : iv (jxu a 72 (y2.toNat) (jxw ((a 72 (y2.toNat)) + 1))) := iv_putf hv rfl
  have hf72_ : jfr jW_X7_add a0 (jxu a 72 (y2.toNat) (jxw ((a 72 (y2.toNat)) + 1))) := jfr_put hf rfl
  exact cr_X7_add_104 E d hd x1 x2 x3 x4 a0 b0 hv0 (jxu a 72 (y2.toNat) (jxw ((a 72 (y2.toNat)) + 1))) hv71_ hf72_ (TAD_b hv4 (by omega) (UP_cr hu75 (fun _ => rfl)) (by rw [hy2]; show UP (a0 72) (jxu a 72 x2.toNat (jxw (a 72 x2.toNat + 1)) 72) x2.toNat _; rw [show a 72 x2.toNat = a0 72 x2.toNat from hfe 72 _ rfl]; exact UP_put (fun j => hfe 72 j rfl)) (UP_cr hu73 (fun _ => rfl)) (fun j => hfe 70 j rfl) (fun j => hfe 71 j rfl) (fun j => hfe 74 j rfl))
theorem cr_X7_add_59 (E : jxE) (d : Nat) (hd : Nat.ble 2 (d + 1) = true) (x1 x2 x3 x4 : Int) (a0 b0 : Nat → Nat → Int) (hv0 : iv a0) : ∀ (a : Nat → Nat → Int), iv a → jfr jW_X7_add a0 a → (jfr jWtb a0 a) → (TAD a0 a x1 x2 x3 x4) → jt (jxX E d 109 59 [none, none, none, none, none] [] (jxSH, a, b0)) (jR_X7_add x1 x2 x3 x4 a0 b0) := by
  intro a hv hf hfe htad
  refine jt_eq (bq_X7_add_59 E d a b0) ?_
  exact cr_X7_add_104 E d hd x1 x2 x3 x4 a0 b0 hv0 a hv hf htad
theorem cr_X7_add_39 (E : jxE) (d : Nat) (hd : Nat.ble 2 (d + 1) = true) (x1 x2 x3 x4 : Int) (a0 b0 : Nat → Nat → Int) (hv0 : iv a0) : ∀ (y1 y2 : Int) (a : Nat → Nat → Int), iv a → jfr jW_X7_add a0 a → 0 ≤ y1 → y1 ≤ 39 → 0 ≤ y2 → y2 ≤ 39 → (0 ≤ x1 ∧ x1 ≤ 39 ∧ 0 ≤ x2 ∧ x2 ≤ 39) → (jfr jWta a0 a) → (y1 = x1) → (y2 = x2) → (UP (a0 75) (a 75) x2.toNat x4) → (x3 = 1 ∨ x3 = 3) → jt (jxX E d 109 39 [some (.inr (.inr (.inl 69))), some (.inl y1), some (.inl y2), none, none] [] (jxSH, a, b0)) (jR_X7_add x1 x2 x3 x4 a0 b0) := by
  intro y1 y2 a hv hf hi0 hi1 hi2 hi3 hv4 hfe hy1 hy2 hu75 hi9
  refine jt_eq (bq_X7_add_39 E d y1 y2 a b0) ?_
  refine jt_grd (by omega) ?_
  refine jt_grd (by omega) ?_
  refine jt_grd (by omega) ?_
  refine jt_grd (by omega) ?_
  have hv73_ : iv (jxu a 70 (y1.toNat) (jxw ((a 70 (y1.toNat)) + 1))) := iv_putf hv rfl
  have hv74_ : iv (jxu (jxu a 70 (y1.toNat) (jxw ((a 70 (y1.toNat)) + 1))) 71 (y2.toNat) (jxw ((a 71 (y2.toNat)) + 1))) := iv_putf hv73_ rfl
  have hf75_ : jfr jW_X7_add a0 (jxu a 70 (y1.toNat) (jxw ((a 70 (y1.toNat)) + 1))) := jfr_put hf rfl
  have hf76_ : jfr jW_X7_add a0 (jxu (jxu a 70 (y1.toNat) (jxw ((a 70 (y1.toNat)) + 1))) 71 (y2.toNat) (jxw ((a 71 (y2.toNat)) + 1))) := jfr_put hf75_ rfl
  have hf77_ : jfr jWtb a0 (jxu a 70 (y1.toNat) (jxw ((a 70 (y1.toNat)) + 1))) := jfr_put (jfr_tr (jfr_rf _ _) hfe rfl) rfl
  have hf78_ : jfr jWtb a0 (jxu (jxu a 70 (y1.toNat) (jxw ((a 70 (y1.toNat)) + 1))) 71 (y2.toNat) (jxw ((a 71 (y2.toNat)) + 1))) := jfr_put hf77_ rfl
  exact cr_X7_add_59 E d hd x1 x2 x3 x4 a0 b0 hv0 (jxu (jxu a 70 (y1.toNat) (jxw ((a 70 (y1.toNat)) + 1))) 71 (y2.toNat) (jxw ((a 71 (y2.toNat)) + 1))) hv74_ hf76_ hf78_ (TAD_a hv4 (by omega) (UP_cr hu75 (fun _ => rfl)) (by rw [hy1, hy2]; rw [show a 70 x1.toNat = a0 70 x1.toNat from hfe 70 _ rfl]; exact UP_put (fun j => hfe 70 j rfl)) (by rw [hy1, hy2]; show UP (a0 71) (jxu a 71 x2.toNat (jxw (a 71 x2.toNat + 1)) 71) x2.toNat _; rw [show a 71 x2.toNat = a0 71 x2.toNat from hfe 71 _ rfl]; exact UP_put (fun j => hfe 71 j rfl)) (fun j => hfe 72 j rfl) (fun j => hfe 73 j rfl) (fun j => hfe 74 j rfl))
theorem cr_X7_add_29 (E : jxE) (d : Nat) (hd : Nat.ble 2 (d + 1) = true) (x1 x2 x3 x4 : Int) (a0 b0 : Nat → Nat → Int) (hv0 : iv a0) : ∀ (y1 y2 y3 : Int) (a : Nat → Nat → Int), iv a → jfr jW_X7_add a0 a → 0 ≤ y1 → y1 ≤ 39 → 0 ≤ y2 → y2 ≤ 39 → (0 ≤ x1 ∧ x1 ≤ 39 ∧ 0 ≤ x2 ∧ x2 ≤ 39) → (jfr jWta a0 a) → (y1 = x1) → (y2 = x2) → (y3 = x3) → (UP (a0 75) (a 75) x2.toNat x4) → jt (jxX E d 109 29 [some (.inr (.inr (.inl 69))), some (.inl y1), some (.inl y2), some (.inl y3), none] [] (jxSH, a, b0)) (jR_X7_add x1 x2 x3 x4 a0 b0) := by
  intro y1 y2 y3 a hv hf hi0 hi1 hi2 hi3 hv4 hfe hy1 hy2 hy3 hu75
  refine jt_eq (bq_X7_add_29 E d y1 y2 y3 a b0) ?_
  refine jt_ite (fun c79_ => ?_) (fun c79_ => ?_)
  ·
    exact cr_X7_add_39 E d hd x1 x2 x3 x4 a0 b0 hv0 y1 y2 a hv hf (show 0 ≤ y1 from by omega) (show y1 ≤ 39 from by omega) (show 0 ≤ y2 from by omega) (show y2 ≤ 39 from by omega) ⟨by omega, by omega, by omega, by omega⟩ hfe (by first | rfl | assumption) (by first | rfl | assumption) (by first | exact UP_put (fun _ => rfl) | exact hu75) (show (x3 = 1 ∨ x3 = 3) from by omega)
  ·
    refine jt_ite (fun c80_ => ?_) (fun c80_ => ?_)
    ·
      exact cr_X7_add_39 E d hd x1 x2 x3 x4 a0 b0 hv0 y1 y2 a hv hf (show 0 ≤ y1 from by omega) (show y1 ≤ 39 from by omega) (show 0 ≤ y2 from by omega) (show y2 ≤ 39 from by omega) ⟨by omega, by omega, by omega, by omega⟩ hfe (by first | rfl | assumption) (by first | rfl | assumption) (by first | exact UP_put (fun _ => rfl) | exact hu75) (show (x3 = 1 ∨ x3 = 3) from by omega)
    ·
      refine jt_ite (fun c81_ => ?_) (fun c81_ => ?_)
      ·
        refine jt_grd (by omega) ?_
        refine jt_grd (by omega) ?_
        have hv82_ : iv (jxu a 73 (y1.toNat) (jxw ((a 73 (y1.toNat)) + 1))) := iv_putf hv rfl
        have hf83_ : jfr jW_X7_add a0 (jxu a 73 (y1.toNat) (jxw ((a 73 (y1.toNat)) + 1))) := jfr_put hf rfl
        have hf84_ : jfr jWtc a0 (jxu a 73 (y1.toNat) (jxw ((a 73 (y1.toNat)) + 1))) := jfr_put (jfr_tr (jfr_rf _ _) hfe rfl) rfl
        exact cr_X7_add_76 E d hd x1 x2 x3 x4 a0 b0 hv0 y2 (jxu a 73 (y1.toNat) (jxw ((a 73 (y1.toNat)) + 1))) hv82_ hf83_ (show 0 ≤ y2 from by omega) (show y2 ≤ 39 from by omega) ⟨by omega, by omega, by omega, by omega⟩ hf84_ (by first | rfl | assumption) (by first | exact UP_put (fun _ => rfl) | exact hu75) (show x3 = 0 from by omega) (by rw [hy1]; rw [show a 73 x1.toNat = a0 73 x1.toNat from hfe 73 _ rfl]; exact UP_put (fun j => hfe 73 j rfl))
      ·
        refine jt_ite (fun c85_ => ?_) (fun c85_ => ?_)
        ·
          refine jt_grd (by omega) ?_
          refine jt_grd (by omega) ?_
          have hv86_ : iv (jxu a 74 (y1.toNat) (jxw ((a 74 (y1.toNat)) + 1))) := iv_putf hv rfl
          have hf87_ : jfr jW_X7_add a0 (jxu a 74 (y1.toNat) (jxw ((a 74 (y1.toNat)) + 1))) := jfr_put hf rfl
          exact cr_X7_add_104 E d hd x1 x2 x3 x4 a0 b0 hv0 (jxu a 74 (y1.toNat) (jxw ((a 74 (y1.toNat)) + 1))) hv86_ hf87_ (by first | exact TAD_c hv4 (by omega) (UP_cr hu75 (fun _ => rfl)) (by rw [hy1]; show UP (a0 74) (jxu a 74 x1.toNat (jxw (a 74 x1.toNat + 1)) 74) x1.toNat _; rw [show a 74 x1.toNat = a0 74 x1.toNat from hfe 74 _ rfl]; exact UP_put (fun j => hfe 74 j rfl)) (fun j => hfe 70 j rfl) (fun j => hfe 71 j rfl) (fun j => hfe 72 j rfl) (fun j => hfe 73 j rfl) | exact TAD_d hv4 (by omega) hu75 (fun j => hfe 70 j rfl) (fun j => hfe 71 j rfl) (fun j => hfe 72 j rfl) (fun j => hfe 73 j rfl) (fun j => hfe 74 j rfl))
        ·
          exact cr_X7_add_104 E d hd x1 x2 x3 x4 a0 b0 hv0 a hv hf (by first | exact TAD_c hv4 (by omega) (UP_cr hu75 (fun _ => rfl)) (by rw [hy1]; show UP (a0 74) (jxu a 74 x1.toNat (jxw (a 74 x1.toNat + 1)) 74) x1.toNat _; rw [show a 74 x1.toNat = a0 74 x1.toNat from hfe 74 _ rfl]; exact UP_put (fun j => hfe 74 j rfl)) (fun j => hfe 70 j rfl) (fun j => hfe 71 j rfl) (fun j => hfe 72 j rfl) (fun j => hfe 73 j rfl) | exact TAD_d hv4 (by omega) hu75 (fun j => hfe 70 j rfl) (fun j => hfe 71 j rfl) (fun j => hfe 72 j rfl) (fun j => hfe 73 j rfl) (fun j => hfe 74 j rfl))
theorem sq_X7_add (E : jxE) (d : Nat) (hd : Nat.ble 2 d = true) (x1 x2 x3 x4 : Int) (a0 b0 : Nat → Nat → Int) (hv0 : iv a0) : jt (jxC E d 109 [.inr (.inr (.inl 69)), .inl x1, .inl x2, .inl x3, .inl x4] (jxSH, a0, b0)) (jR_X7_add x1 x2 x3 x4 a0 b0) := by
  obtain ⟨d, rfl⟩ := jd_succ hd
  refine jt_eq (bq_X7_add E d x1 x2 x3 x4 a0 b0) ?_
  refine jt_eI (eq_X11_within E d (jd_le hd rfl) x1 0 39 a0 b0) ?_
  have h88_ := f_X11_within_eq a0 b0 x1 0 39
  refine jt_ite (fun c89_ => ?_) (fun c89_ => ?_)
  ·
    exact jt_rV ⟨hv0, (jfr_rf _ _), rfl, (TAD_no (fun q => by omega))⟩
  ·
    refine jt_eI (eq_X11_within E d (jd_le hd rfl) x2 0 39 a0 b0) ?_
    have h90_ := f_X11_within_eq a0 b0 x2 0 39
    refine jt_ite (fun c91_ => ?_) (fun c91_ => ?_)
    ·
      exact jt_rV ⟨hv0, (jfr_rf _ _), rfl, (TAD_no (fun q => by omega))⟩
    ·
      refine jt_grd (by omega) ?_
      have hv92_ : iv (jxu a0 75 (x2.toNat) x4) := iv_putf hv0 rfl
      have hf93_ : jfr jW_X7_add a0 (jxu a0 75 (x2.toNat) x4) := jfr_put (jfr_rf _ _) rfl
      have hf94_ : jfr jWta a0 (jxu a0 75 (x2.toNat) x4) := jfr_put (jfr_rf _ _) rfl
      exact cr_X7_add_29 E d hd x1 x2 x3 x4 a0 b0 hv0 x1 x2 x3 (jxu a0 75 (x2.toNat) x4) hv92_ hf93_ (show 0 ≤ x1 from by omega) (show x1 ≤ 39 from by omega) (show 0 ≤ x2 from by omega) (show x2 ≤ 39 from by omega) ⟨by omega, by omega, by omega, by omega⟩ hf94_ (by first | rfl | assumption) (by first | rfl | assumption) (by first | rfl | assumption) (by first | exact UP_put (fun _ => rfl) | exact hu75)
abbrev jR_X7_take_r58 (x2 : Int) (a0 b0 : Nat → Nat → Int) : List jxV → (Nat → Nat → Int) → (Nat → Nat → Int) → Prop := rV (fun a b => (iv a) ∧ (jfr jW_X7_take_r58 a0 a) ∧ (b0 = b) ∧ (TSUM a0 b0 x2 a (a0 58 8).toNat))
theorem cr_X7_take_r58_58 (E : jxE) (d : Nat) (hd : Nat.ble 4 (d + 1) = true) (x2 : Int) (a0 b0 : Nat → Nat → Int) (hv0 : iv a0) : ∀ n : Nat, (∀ (y2 y3 : Int) (a : Nat → Nat → Int), (((300 - y3) * 1) + 0).toNat ≤ n → iv a → jfr jW_X7_take_r58 a0 a → 0 ≤ y3 → y3 ≤ 299 → y2 = x2 → 0 ≤ y3 → y3 < a 58 8 → (TSUM a0 b0 x2 a (y3.toNat + 1)) → jt (jxX E d 108 91 [some (.inr (.inr (.inl 69))), some (.inr (.inr (.inl 58))), some (.inl y2), some (.inl y3)] [] (jxSH, a, b0)) (jR_X7_take_r58 x2 a0 b0)) ∧ (∀ (y2 y3 : Int) (a : Nat → Nat → Int), (((300 - y3) * 1) + 0).toNat ≤ n → iv a → jfr jW_X7_take_r58 a0 a → 0 ≤ y3 → y3 ≤ 300 → y2 = x2 → 0 ≤ y3 → y3 ≤ a 58 8 → (TSUM a0 b0 x2 a y3.toNat) → jt (jxX E d 108 58 [some (.inr (.inr (.inl 69))), some (.inr (.inr (.inl 58))), some (.inl y2), some (.inl y3)] [] (jxSH, a, b0)) (jR_X7_take_r58 x2 a0 b0)) := by
  refine jx_ind fun n ih => ?_
  have ih91 : ∀ (y2 y3 : Int) (a : Nat → Nat → Int), (((300 - y3) * 1) + 0).toNat < n → iv a → jfr jW_X7_take_r58 a0 a → 0 ≤ y3 → y3 ≤ 299 → y2 = x2 → 0 ≤ y3 → y3 < a 58 8 → (TSUM a0 b0 x2 a (y3.toNat + 1)) → jt (jxX E d 108 91 [some (.inr (.inr (.inl 69))), some (.inr (.inr (.inl 58))), some (.inl y2), some (.inl y3)] [] (jxSH, a, b0)) (jR_X7_take_r58 x2 a0 b0) := fun y2 y3 a hlt i0 i1 i2 i3 i4 i5 i6 i7 => (ih _ hlt).1 y2 y3 a (Nat.le_refl _) i0 i1 i2 i3 i4 i5 i6 i7
  have ih58 : ∀ (y2 y3 : Int) (a : Nat → Nat → Int), (((300 - y3) * 1) + 0).toNat < n → iv a → jfr jW_X7_take_r58 a0 a → 0 ≤ y3 → y3 ≤ 300 → y2 = x2 → 0 ≤ y3 → y3 ≤ a 58 8 → (TSUM a0 b0 x2 a y3.toNat) → jt (jxX E d 108 58 [some (.inr (.inr (.inl 69))), some (.inr (.inr (.inl 58))), some (.inl y2), some (.inl y3)] [] (jxSH, a, b0)) (jR_X7_take_r58 x2 a0 b0) := fun y2 y3 a hlt i0 i1 i2 i3 i4 i5 i6 i7 => (ih _ hlt).2 y2 y3 a (Nat.le_refl _) i0 i1 i2 i3 i4 i5 i6 i7
  have hc91 : ∀ (y2 y3 : Int) (a : Nat → Nat → Int), (((300 - y3) * 1) + 0).toNat ≤ n → iv a → jfr jW_X7_take_r58 a0 a → 0 ≤ y3 → y3 ≤ 299 → y2 = x2 → 0 ≤ y3 → y3 < a 58 8 → (TSUM a0 b0 x2 a (y3.toNat + 1)) → jt (jxX E d 108 91 [some (.inr (.inr (.inl 69))), some (.inr (.inr (.inl 58))), some (.inl y2), some (.inl y3)] [] (jxSH, a, b0)) (jR_X7_take_r58 x2 a0 b0) := by
    intro y2 y3 a hm hv hf hi0 hi1 hi2 hi3 hi4 hts
    refine jt_eq (bq_X7_take_r58_91 E d y2 y3 a b0) ?_
    have h95_ := iv_get hv (k := 58) (j := 8) (l := 0) (u := 300) rfl
    have h96_ : a 58 8 = a0 58 8 := hf 58 8 rfl
    have h97_ := iv_get hv0 (k := 58) (j := 8) (l := 0) (u := 300) rfl
    have h98_ : jxw (y3 + 1) = y3 + 1 := jxw_id (by omega) (by omega)
    exact ih58 y2 (jxw (y3 + 1)) a (show (((300 - (jxw (y3 + 1))) * 1) + 0).toNat < n from by omega) hv hf (show 0 ≤ jxw (y3 + 1) from by omega) (show jxw (y3 + 1) ≤ 300 from by omega) (show y2 = x2 from by omega) (show 0 ≤ jxw (y3 + 1) from by omega) (show jxw (y3 + 1) ≤ a 58 8 from by omega) (by first | exact TSUM_0 (fun m h => hz m (by omega)) | (rw [show (jxw (y3 + 1)).toNat = y3.toNat + 1 from by omega]; exact hts))
  have hc58 : ∀ (y2 y3 : Int) (a : Nat → Nat → Int), (((300 - y3) * 1) + 0).toNat ≤ n → iv a → jfr jW_X7_take_r58 a0 a → 0 ≤ y3 → y3 ≤ 300 → y2 = x2 → 0 ≤ y3 → y3 ≤ a 58 8 → (TSUM a0 b0 x2 a y3.toNat) → jt (jxX E d 108 58 [some (.inr (.inr (.inl 69))), some (.inr (.inr (.inl 58))), some (.inl y2), some (.inl y3)] [] (jxSH, a, b0)) (jR_X7_take_r58 x2 a0 b0) := by
    intro y2 y3 a hm hv hf hi0 hi1 hi2 hi3 hi4 hts
    refine jt_eq (bq_X7_take_r58_58 E d y2 y3 a b0) ?_
    have h99_ := iv_get hv (k := 58) (j := 8) (l := 0) (u := 300) rfl
    have h100_ : a 58 8 = a0 58 8 := hf 58 8 rfl
    have h101_ := iv_get hv0 (k := 58) (j := 8) (l := 0) (u := 300) rfl
    have i588 := iv_get hv (k := 58) (j := 8) (l := 0) (u := 300) rfl
    have hr59 : a 59 y3.toNat = a0 59 y3.toNat := hf 59 _ rfl
    have hr60 : a 60 y3.toNat = a0 60 y3.toNat := hf 60 _ rfl
    have hr61 : a 61 y3.toNat = a0 61 y3.toNat := hf 61 _ rfl
    have hstn : f_X0_stateNow a b0 y3 x2 = f_X0_stateNow a0 b0 ((y3.toNat : Nat) : Int) x2 := by rw [show ((y3.toNat : Nat) : Int) = y3 from by omega]; exact stNow_fr (hf 58 8 rfl) (hf 58 12 rfl) (funext fun j => hf 61 j rfl) (funext fun j => hf 62 j rfl) (funext fun j => hf 64 j rfl) (funext fun j => hf 65 j rfl) (funext fun j => hf 67 j rfl) _ _
    refine jt_eI (eq_X0_size E d (jd_le hd rfl) a b0) ?_
    have h102_ := f_X0_size_eq a b0
    refine jt_ite (fun c103_ => ?_) (fun c103_ => ?_)
    ·
      refine jt_eI (eq_X0_fromOf E d (jd_le hd rfl) y3 a b0) ?_
      refine jt_eI (eq_X0_toOf E d (jd_le hd rfl) y3 a b0) ?_
      refine jt_eI (eq_X0_stateNow E d (jd_le hd rfl) y3 y2 a b0) ?_
      refine jt_eI (eq_X0_sentOnOf E d (jd_le hd rfl) y3 a b0) ?_
      refine jt_bV (sq_X7_add E d (jd_le hd rfl) (f_X0_fromOf a b0 y3) (f_X0_toOf a b0 y3) (f_X0_stateNow a b0 y3 y2) (f_X0_sentOnOf a b0 y3) a b0 hv) (fun a104_ b104_ h104_ => ?_)
      obtain ⟨hv104_, hf104_, rfl, hq104_0⟩ := h104_
      have hf105_ : jfr jW_X7_take_r58 a0 a104_ := jfr_tr hf hf104_ rfl
      have h106_ := iv_get hv104_ (k := 58) (j := 8) (l := 0) (u := 300) rfl
      have h107_ : a104_ 58 8 = a 58 8 := hf104_ 58 8 rfl
      exact hc91 y2 y3 a104_ (show (((300 - y3) * 1) + 0).toNat ≤ n from by omega) hv104_ hf105_ (show 0 ≤ y3 from by omega) (show y3 ≤ 299 from by omega) (show y2 = x2 from by omega) (show 0 ≤ y3 from by omega) (show y3 < a104_ 58 8 from by omega) (by have q := hq104_0; rw [fromOf_at (by omega) (by omega) i588.2, toOf_at (by omega) (by omega) i588.2, sentOf_at (by omega) (by omega) i588.2, show y2 = x2 from by omega, hstn, hr59, hr60, hr61] at q; exact TSUM_step hts (by omega) q)
    ·
      exact jt_rV ⟨hv, hf, rfl, (by rw [show (a0 58 8).toNat = y3.toNat from by omega]; exact hts)⟩
  exact ⟨hc91, hc58⟩
theorem cr_X7_take_r58_2 (E : jxE) (d : Nat) (hd : Nat.ble 4 (d + 1) = true) (x2 : Int) (a0 b0 : Nat → Nat → Int) (hv0 : iv a0) : ∀ n : Nat, (∀ (y2 y3 : Int) (a : Nat → Nat → Int), (((40 - y3) * 1) + 0).toNat ≤ n → iv a → jfr jW_X7_take_r58 a0 a → 0 ≤ y3 → y3 ≤ 39 → y2 = x2 → 0 ≤ y3 → (∀ m : Nat, (m : Int) < y3 + 1 → a 70 m = 0 ∧ a 71 m = 0 ∧ a 72 m = 0 ∧ a 73 m = 0 ∧ a 74 m = 0 ∧ a 75 m = -1) → jt (jxX E d 108 50 [some (.inr (.inr (.inl 69))), some (.inr (.inr (.inl 58))), some (.inl y2), some (.inl y3)] [] (jxSH, a, b0)) (jR_X7_take_r58 x2 a0 b0)) ∧ (∀ (y2 y3 : Int) (a : Nat → Nat → Int), (((40 - y3) * 1) + 0).toNat ≤ n → iv a → jfr jW_X7_take_r58 a0 a → 0 ≤ y3 → y3 ≤ 39 → y2 = x2 → 0 ≤ y3 → (∀ m : Nat, (m : Int) < y3 → a 70 m = 0 ∧ a 71 m = 0 ∧ a 72 m = 0 ∧ a 73 m = 0 ∧ a 74 m = 0 ∧ a 75 m = -1) → (a 70 y3.toNat = 0 ∧ a 71 y3.toNat = 0 ∧ a 72 y3.toNat = 0) → jt (jxX E d 108 29 [some (.inr (.inr (.inl 69))), some (.inr (.inr (.inl 58))), some (.inl y2), some (.inl y3)] [] (jxSH, a, b0)) (jR_X7_take_r58 x2 a0 b0)) ∧ (∀ (y2 y3 : Int) (a : Nat → Nat → Int), (((40 - y3) * 1) + 0).toNat ≤ n → iv a → jfr jW_X7_take_r58 a0 a → 0 ≤ y3 → y3 ≤ 40 → y2 = x2 → 0 ≤ y3 → (∀ m : Nat, (m : Int) < y3 → a 70 m = 0 ∧ a 71 m = 0 ∧ a 72 m = 0 ∧ a 73 m = 0 ∧ a 74 m = 0 ∧ a 75 m = -1) → jt (jxX E d 108 2 [some (.inr (.inr (.inl 69))), some (.inr (.inr (.inl 58))), some (.inl y2), some (.inl y3)] [] (jxSH, a, b0)) (jR_X7_take_r58 x2 a0 b0)) := by
  refine jx_ind fun n ih => ?_
  have ih50 : ∀ (y2 y3 : Int) (a : Nat → Nat → Int), (((40 - y3) * 1) + 0).toNat < n → iv a → jfr jW_X7_take_r58 a0 a → 0 ≤ y3 → y3 ≤ 39 → y2 = x2 → 0 ≤ y3 → (∀ m : Nat, (m : Int) < y3 + 1 → a 70 m = 0 ∧ a 71 m = 0 ∧ a 72 m = 0 ∧ a 73 m = 0 ∧ a 74 m = 0 ∧ a 75 m = -1) → jt (jxX E d 108 50 [some (.inr (.inr (.inl 69))), some (.inr (.inr (.inl 58))), some (.inl y2), some (.inl y3)] [] (jxSH, a, b0)) (jR_X7_take_r58 x2 a0 b0) := fun y2 y3 a hlt i0 i1 i2 i3 i4 i5 i6 => (ih _ hlt).1 y2 y3 a (Nat.le_refl _) i0 i1 i2 i3 i4 i5 i6
  have ih29 : ∀ (y2 y3 : Int) (a : Nat → Nat → Int), (((40 - y3) * 1) + 0).toNat < n → iv a → jfr jW_X7_take_r58 a0 a → 0 ≤ y3 → y3 ≤ 39 → y2 = x2 → 0 ≤ y3 → (∀ m : Nat, (m : Int) < y3 → a 70 m = 0 ∧ a 71 m = 0 ∧ a 72 m = 0 ∧ a 73 m = 0 ∧ a 74 m = 0 ∧ a 75 m = -1) → (a 70 y3.toNat = 0 ∧ a 71 y3.toNat = 0 ∧ a 72 y3.toNat = 0) → jt (jxX E d 108 29 [some (.inr (.inr (.inl 69))), some (.inr (.inr (.inl 58))), some (.inl y2), some (.inl y3)] [] (jxSH, a, b0)) (jR_X7_take_r58 x2 a0 b0) := fun y2 y3 a hlt i0 i1 i2 i3 i4 i5 i6 i7 => (ih _ hlt).2.1 y2 y3 a (Nat.le_refl _) i0 i1 i2 i3 i4 i5 i6 i7
  have ih2 : ∀ (y2 y3 : Int) (a : Nat → Nat → Int), (((40 - y3) * 1) + 0).toNat < n → iv a → jfr jW_X7_take_r58 a0 a → 0 ≤ y3 → y3 ≤ 40 → y2 = x2 → 0 ≤ y3 → (∀ m : Nat, (m : Int) < y3 → a 70 m = 0 ∧ a 71 m = 0 ∧ a 72 m = 0 ∧ a 73 m = 0 ∧ a 74 m = 0 ∧ a 75 m = -1) → jt (jxX E d 108 2 [some (.inr (.inr (.inl 69))), some (.inr (.inr (.inl 58))), some (.inl y2), some (.inl y3)] [] (jxSH, a, b0)) (jR_X7_take_r58 x2 a0 b0) := fun y2 y3 a hlt i0 i1 i2 i3 i4 i5 i6 => (ih _ hlt).2.2 y2 y3 a (Nat.le_refl _) i0 i1 i2 i3 i4 i5 i6
  have hc50 : ∀ (y2 y3 : Int) (a : Nat → Nat → Int), (((40 - y3) * 1) + 0).toNat ≤ n → iv a → jfr jW_X7_take_r58 a0 a → 0 ≤ y3 → y3 ≤ 39 → y2 = x2 → 0 ≤ y3 → (∀ m : Nat, (m : Int) < y3 + 1 → a 70 m = 0 ∧ a 71 m = 0 ∧ a 72 m = 0 ∧ a 73 m = 0 ∧ a 74 m = 0 ∧ a 75 m = -1) → jt (jxX E d 108 50 [some (.inr (.inr (.inl 69))), some (.inr (.inr (.inl 58))), some (.inl y2), some (.inl y3)] [] (jxSH, a, b0)) (jR_X7_take_r58 x2 a0 b0) := by
    intro y2 y3 a hm hv hf hi0 hi1 hi2 hi3 hz
    refine jt_eq (bq_X7_take_r58_50 E d y2 y3 a b0) ?_
    have h108_ : jxw (y3 + 1) = y3 + 1 := jxw_id (by omega) (by omega)
    exact ih2 y2 (jxw (y3 + 1)) a (show (((40 - (jxw (y3 + 1))) * 1) + 0).toNat < n from by omega) hv hf (show 0 ≤ jxw (y3 + 1) from by omega) (show jxw (y3 + 1) ≤ 40 from by omega) (show y2 = x2 from by omega) (show 0 ≤ jxw (y3 + 1) from by omega) (by first | exact (fun m h => absurd h (by omega)) | exact (fun m h => hz m (by omega)))
  have hc29 : ∀ (y2 y3 : Int) (a : Nat → Nat → Int), (((40 - y3) * 1) + 0).toNat ≤ n → iv a → jfr jW_X7_take_r58 a0 a → 0 ≤ y3 → y3 ≤ 39 → y2 = x2 → 0 ≤ y3 → (∀ m : Nat, (m : Int) < y3 → a 70 m = 0 ∧ a 71 m = 0 ∧ a 72 m = 0 ∧ a 73 m = 0 ∧ a 74 m = 0 ∧ a 75 m = -1) → (a 70 y3.toNat = 0 ∧ a 71 y3.toNat = 0 ∧ a 72 y3.toNat = 0) → jt (jxX E d 108 29 [some (.inr (.inr (.inl 69))), some (.inr (.inr (.inl 58))), some (.inl y2), some (.inl y3)] [] (jxSH, a, b0)) (jR_X7_take_r58 x2 a0 b0) := by
    intro y2 y3 a hm hv hf hi0 hi1 hi2 hi3 hz hz3
    refine jt_eq (bq_X7_take_r58_29 E d y2 y3 a b0) ?_
    refine jt_grd (by omega) ?_
    refine jt_grd (by omega) ?_
    refine jt_grd (by omega) ?_
    have hv109_ : iv (jxu a 73 (y3.toNat) 0) := iv_putf hv rfl
    have hv110_ : iv (jxu (jxu a 73 (y3.toNat) 0) 74 (y3.toNat) 0) := iv_putf hv109_ rfl
    have hv111_ : iv (jxu (jxu (jxu a 73 (y3.toNat) 0) 74 (y3.toNat) 0) 75 (y3.toNat) (-1)) := iv_putf hv110_ rfl
    have hf112_ : jfr jW_X7_take_r58 a0 (jxu a 73 (y3.toNat) 0) := jfr_put hf rfl
    have hf113_ : jfr jW_X7_take_r58 a0 (jxu (jxu a 73 (y3.toNat) 0) 74 (y3.toNat) 0) := jfr_put hf112_ rfl
    have hf114_ : jfr jW_X7_take_r58 a0 (jxu (jxu (jxu a 73 (y3.toNat) 0) 74 (y3.toNat) 0) 75 (y3.toNat) (-1)) := jfr_put hf113_ rfl
    exact hc50 y2 y3 (jxu (jxu (jxu a 73 (y3.toNat) 0) 74 (y3.toNat) 0) 75 (y3.toNat) (-1)) (show (((40 - y3) * 1) + 0).toNat ≤ n from by omega) hv111_ hf114_ (show 0 ≤ y3 from by omega) (show y3 ≤ 39 from by omega) (show y2 = x2 from by omega) (show 0 ≤ y3 from by omega) (fun m h => by by_cases e : m = y3.toNat <;> first | (rw [e]; refine ⟨hz3.1, hz3.2.1, hz3.2.2, ?_, ?_, ?_⟩ <;> (show (if y3.toNat = y3.toNat then _ else _) = _; rw [if_pos rfl])) | (have q := hz m (by omega); refine ⟨q.1, q.2.1, q.2.2.1, ?_, ?_, ?_⟩ <;> (show (if m = y3.toNat then _ else _) = _; rw [if_neg e]) <;> first | exact q.2.2.2.1 | exact q.2.2.2.2.1 | exact q.2.2.2.2.2))
  have hc2 : ∀ (y2 y3 : Int) (a : Nat → Nat → Int), (((40 - y3) * 1) + 0).toNat ≤ n → iv a → jfr jW_X7_take_r58 a0 a → 0 ≤ y3 → y3 ≤ 40 → y2 = x2 → 0 ≤ y3 → (∀ m : Nat, (m : Int) < y3 → a 70 m = 0 ∧ a 71 m = 0 ∧ a 72 m = 0 ∧ a 73 m = 0 ∧ a 74 m = 0 ∧ a 75 m = -1) → jt (jxX E d 108 2 [some (.inr (.inr (.inl 69))), some (.inr (.inr (.inl 58))), some (.inl y2), some (.inl y3)] [] (jxSH, a, b0)) (jR_X7_take_r58 x2 a0 b0) := by
    intro y2 y3 a hm hv hf hi0 hi1 hi2 hi3 hz
    refine jt_eq (bq_X7_take_r58_2 E d y2 y3 a b0) ?_
    refine jt_ite (fun c115_ => ?_) (fun c115_ => ?_)
    ·
      refine jt_grd (by omega) ?_
      refine jt_grd (by omega) ?_
      refine jt_grd (by omega) ?_
      have hv116_ : iv (jxu a 70 (y3.toNat) 0) := iv_putf hv rfl
      have hv117_ : iv (jxu (jxu a 70 (y3.toNat) 0) 71 (y3.toNat) 0) := iv_putf hv116_ rfl
      have hv118_ : iv (jxu (jxu (jxu a 70 (y3.toNat) 0) 71 (y3.toNat) 0) 72 (y3.toNat) 0) := iv_putf hv117_ rfl
      have hf119_ : jfr jW_X7_take_r58 a0 (jxu a 70 (y3.toNat) 0) := jfr_put hf rfl
      have hf120_ : jfr jW_X7_take_r58 a0 (jxu (jxu a 70 (y3.toNat) 0) 71 (y3.toNat) 0) := jfr_put hf119_ rfl
      have hf121_ : jfr jW_X7_take_r58 a0 (jxu (jxu (jxu a 70 (y3.toNat) 0) 71 (y3.toNat) 0) 72 (y3.toNat) 0) := jfr_put hf120_ rfl
      exact hc29 y2 y3 (jxu (jxu (jxu a 70 (y3.toNat) 0) 71 (y3.toNat) 0) 72 (y3.toNat) 0) (show (((40 - y3) * 1) + 0).toNat ≤ n from by omega) hv118_ hf121_ (show 0 ≤ y3 from by omega) (show y3 ≤ 39 from by omega) (show y2 = x2 from by omega) (show 0 ≤ y3 from by omega) (fun m h => by have q := hz m (by omega); refine ⟨?_, ?_, ?_, q.2.2.2.1, q.2.2.2.2.1, q.2.2.2.2.2⟩ <;> (show (if m = y3.toNat then 0 else _) = 0; rw [if_neg (by omega)]) <;> first | exact q.1 | exact q.2.1 | exact q.2.2.1) (by refine ⟨?_, ?_, ?_⟩ <;> (show (if y3.toNat = y3.toNat then 0 else _) = 0; rw [if_pos rfl]))
    ·
      have h122_ := iv_get hv (k := 58) (j := 8) (l := 0) (u := 300) rfl
      have h123_ : a 58 8 = a0 58 8 := hf 58 8 rfl
      have h124_ := iv_get hv0 (k := 58) (j := 8) (l := 0) (u := 300) rfl
      exact (cr_X7_take_r58_58 E d hd x2 a0 b0 hv0 _).2 y2 0 a (Nat.le_refl _) hv hf (show 0 ≤ 0 from by omega) (show 0 ≤ 300 from by omega) (show y2 = x2 from by omega) (show 0 ≤ 0 from by omega) (show 0 ≤ a 58 8 from by omega) (by first | exact TSUM_0 (fun m h => hz m (by omega)) | (rw [show (jxw (y3 + 1)).toNat = y3.toNat + 1 from by omega]; exact hts))
  exact ⟨hc50, hc29, hc2⟩
theorem sq_X7_take_r58 (E : jxE) (d : Nat) (hd : Nat.ble 4 d = true) (x2 : Int) (a0 b0 : Nat → Nat → Int) (hv0 : iv a0) : jt (jxC E d 108 [.inr (.inr (.inl 69)), .inr (.inr (.inl 58)), .inl x2] (jxSH, a0, b0)) (jR_X7_take_r58 x2 a0 b0) := by
  obtain ⟨d, rfl⟩ := jd_succ hd
  refine jt_eq (bq_X7_take_r58 E d x2 a0 b0) ?_
  exact (cr_X7_take_r58_2 E d hd x2 a0 b0 hv0 _).2.2 x2 0 a0 (Nat.le_refl _) hv0 (jfr_rf _ _) (show 0 ≤ 0 from by omega) (show 0 ≤ 40 from by omega) (show x2 = x2 from by omega) (show 0 ≤ 0 from by omega) (by first | exact (fun m h => absurd h (by omega)) | exact (fun m h => hz m (by omega)))
abbrev jR_X11_span (x1 x2 x3 : Int) (a0 b0 : Nat → Nat → Int) : List jxV → (Nat → Nat → Int) → (Nat → Nat → Int) → Prop := rI (fun r a b => (iv a) ∧ (jfr jW_X11_span a0 a) ∧ (b0 = b) ∧ ((a0 58 12 = 0 → ((((((0 ≤ x1 ∧ x1 ≤ 15) ∧ 0 ≤ x2) ∧ x2 ≤ 15) ∧ x3 = 2) ∧ r = 0) ∨ (((((x1 < 0 ∨ 15 < x1) ∨ x2 < 0) ∨ 15 < x2) ∨ ¬ x3 = 2) ∧ r = 0 - 1)))) ∧ (0 ≤ x1 ∧ x1 ≤ 15 ∧ 0 ≤ x2 ∧ x2 ≤ 15 ∧ 0 ≤ x3 ∧ x3 ≤ 2 → r = if x3 = 2 then (SPC a0 b0 x1 x2).1 else if x3 = 0 then (SPC a0 b0 x1 x2).2.1 else (SPC a0 b0 x1 x2).2.2) ∧ (¬ (0 ≤ x1 ∧ x1 ≤ 15 ∧ 0 ≤ x2 ∧ x2 ≤ 15 ∧ 0 ≤ x3 ∧ x3 ≤ 2) → r = -1) ∧ (cvC a = cvC a0))
theorem cr_X11_span_34 (E : jxE) (d : Nat) (hd : Nat.ble 4 (d + 1) = true) (x1 x2 x3 : Int) (a0 b0 : Nat → Nat → Int) (hv0 : iv a0) : ∀ (y3 : Int) (a : Nat → Nat → Int), iv a → jfr jW_X11_span a0 a → 0 ≤ y3 → y3 ≤ 2 → (((0 ≤ x1 ∧ x1 ≤ 15) ∧ 0 ≤ x2) ∧ x2 ≤ 15) → y3 = x3 → (a0 58 12 = 0 → ((a 58 13 = 0 ∧ a 58 14 = 0 - 1) ∧ a 58 15 = 0 - 1)) → (y3 = x3) → (((((0 ≤ x1 ∧ x1 ≤ 15) ∧ 0 ≤ x2) ∧ x2 ≤ 15) ∧ 0 ≤ x3) ∧ x3 ≤ 2) → ((a 58 13, a 58 14, a 58 15) = SPC a0 b0 x1 x2) → jt (jxX E d 183 34 [some (.inr (.inr (.inl 0))), none, none, some (.inl y3)] [] (jxSH, a, b0)) (jR_X11_span x1 x2 x3 a0 b0) := by
  intro y3 a hv hf hi0 hi1 hi2 hi3 hi4 hy3 hi6 hsp
  refine jt_eq (bq_X11_span_34 E d y3 a b0) ?_
  have h125_ := iv_get hv0 (k := 58) (j := 12) (l := 0) (u := 600) rfl
  have h126_ := iv_get hv (k := 58) (j := 13) (l := 0) (u := 10) rfl
  refine jt_ite (fun c127_ => ?_) (fun c127_ => ?_)
  ·
    refine jt_eI (eq_X0_measuredArrivals E d (jd_le hd rfl) a b0) ?_
    have h128_ := f_X0_measuredArrivals_eq a b0
    exact jt_rI ⟨hv, hf, rfl, (show (a0 58 12 = 0 → ((((((0 ≤ x1 ∧ x1 ≤ 15) ∧ 0 ≤ x2) ∧ x2 ≤ 15) ∧ x3 = 2) ∧ f_X0_measuredArrivals a b0 = 0) ∨ (((((x1 < 0 ∨ 15 < x1) ∨ x2 < 0) ∨ 15 < x2) ∨ ¬ x3 = 2) ∧ f_X0_measuredArrivals a b0 = 0 - 1))) from by omega), (fun _ => by rw [← hsp, ← hy3]; first | (rw [if_pos (by assumption)]; rfl) | (rw [if_neg (by assumption), if_pos (by assumption)]; rfl) | (rw [if_neg (by assumption), if_neg (by assumption)]; rfl)), (fun h => absurd (by omega) h), (cvC_fr (by first | exact jfr_rf jW_X11_span _ | assumption) rfl)⟩
  ·
    refine jt_ite (fun c129_ => ?_) (fun c129_ => ?_)
    ·
      refine jt_eI (eq_X0_measuredLeast E d (jd_le hd rfl) a b0) ?_
      have h130_ := f_X0_measuredLeast_eq a b0
      exact jt_rI ⟨hv, hf, rfl, (show (a0 58 12 = 0 → ((((((0 ≤ x1 ∧ x1 ≤ 15) ∧ 0 ≤ x2) ∧ x2 ≤ 15) ∧ x3 = 2) ∧ f_X0_measuredLeast a b0 = 0) ∨ (((((x1 < 0 ∨ 15 < x1) ∨ x2 < 0) ∨ 15 < x2) ∨ ¬ x3 = 2) ∧ f_X0_measuredLeast a b0 = 0 - 1))) from by omega), (fun _ => by rw [← hsp, ← hy3]; first | (rw [if_pos (by assumption)]; rfl) | (rw [if_neg (by assumption), if_pos (by assumption)]; rfl) | (rw [if_neg (by assumption), if_neg (by assumption)]; rfl)), (fun h => absurd (by omega) h), (cvC_fr (by first | exact jfr_rf jW_X11_span _ | assumption) rfl)⟩
    ·
      refine jt_eI (eq_X0_measuredGreatest E d (jd_le hd rfl) a b0) ?_
      have h131_ := f_X0_measuredGreatest_eq a b0
      exact jt_rI ⟨hv, hf, rfl, (show (a0 58 12 = 0 → ((((((0 ≤ x1 ∧ x1 ≤ 15) ∧ 0 ≤ x2) ∧ x2 ≤ 15) ∧ x3 = 2) ∧ f_X0_measuredGreatest a b0 = 0) ∨ (((((x1 < 0 ∨ 15 < x1) ∨ x2 < 0) ∨ 15 < x2) ∨ ¬ x3 = 2) ∧ f_X0_measuredGreatest a b0 = 0 - 1))) from by omega), (fun _ => by rw [← hsp, ← hy3]; first | (rw [if_pos (by assumption)]; rfl) | (rw [if_neg (by assumption), if_pos (by assumption)]; rfl) | (rw [if_neg (by assumption), if_neg (by assumption)]; rfl)), (fun h => absurd (by omega) h), (cvC_fr (by first | exact jfr_rf jW_X11_span _ | assumption) rfl)⟩
theorem sq_X11_span (E : jxE) (d : Nat) (hd : Nat.ble 4 d = true) (x1 x2 x3 : Int) (a0 b0 : Nat → Nat → Int) (hv0 : iv a0) : jt (jxC E d 183 [.inr (.inr (.inl 0)), .inl x1, .inl x2, .inl x3] (jxSH, a0, b0)) (jR_X11_span x1 x2 x3 a0 b0) := by
  obtain ⟨d, rfl⟩ := jd_succ hd
  refine jt_eq (bq_X11_span E d x1 x2 x3 a0 b0) ?_
  refine jt_eI (eq_X11_isLand E d (jd_le hd rfl) x1 a0 b0) ?_
  have h132_ := f_X11_isLand_eq a0 b0 x1
  have h133_ := f_X11_within_eq a0 b0 x1 0 15
  refine jt_ite (fun c134_ => ?_) (fun c134_ => ?_)
  ·
    have h135_ := iv_get hv0 (k := 58) (j := 12) (l := 0) (u := 600) rfl
    exact jt_rI ⟨hv0, (jfr_rf _ _), rfl, (show (a0 58 12 = 0 → ((((((0 ≤ x1 ∧ x1 ≤ 15) ∧ 0 ≤ x2) ∧ x2 ≤ 15) ∧ x3 = 2) ∧ (-1) = 0) ∨ (((((x1 < 0 ∨ 15 < x1) ∨ x2 < 0) ∨ 15 < x2) ∨ ¬ x3 = 2) ∧ (-1) = 0 - 1))) from by omega), (fun h => absurd h (by omega)), (fun _ => rfl), (cvC_fr (by first | exact jfr_rf jW_X11_span _ | assumption) rfl)⟩
  ·
    refine jt_eI (eq_X11_isLand E d (jd_le hd rfl) x2 a0 b0) ?_
    have h136_ := f_X11_isLand_eq a0 b0 x2
    have h137_ := f_X11_within_eq a0 b0 x2 0 15
    refine jt_ite (fun c138_ => ?_) (fun c138_ => ?_)
    ·
      have h139_ := iv_get hv0 (k := 58) (j := 12) (l := 0) (u := 600) rfl
      exact jt_rI ⟨hv0, (jfr_rf _ _), rfl, (show (a0 58 12 = 0 → ((((((0 ≤ x1 ∧ x1 ≤ 15) ∧ 0 ≤ x2) ∧ x2 ≤ 15) ∧ x3 = 2) ∧ (-1) = 0) ∨ (((((x1 < 0 ∨ 15 < x1) ∨ x2 < 0) ∨ 15 < x2) ∨ ¬ x3 = 2) ∧ (-1) = 0 - 1))) from by omega), (fun h => absurd h (by omega)), (fun _ => rfl), (cvC_fr (by first | exact jfr_rf jW_X11_span _ | assumption) rfl)⟩
    ·
      refine jt_eI (eq_X11_within E d (jd_le hd rfl) x3 0 2 a0 b0) ?_
      have h140_ := f_X11_within_eq a0 b0 x3 0 2
      refine jt_ite (fun c141_ => ?_) (fun c141_ => ?_)
      ·
        have h142_ := iv_get hv0 (k := 58) (j := 12) (l := 0) (u := 600) rfl
        exact jt_rI ⟨hv0, (jfr_rf _ _), rfl, (show (a0 58 12 = 0 → ((((((0 ≤ x1 ∧ x1 ≤ 15) ∧ 0 ≤ x2) ∧ x2 ≤ 15) ∧ x3 = 2) ∧ (-1) = 0) ∨ (((((x1 < 0 ∨ 15 < x1) ∨ x2 < 0) ∨ 15 < x2) ∨ ¬ x3 = 2) ∧ (-1) = 0 - 1))) from by omega), (fun h => absurd h (by omega)), (fun _ => rfl), (cvC_fr (by first | exact jfr_rf jW_X11_span _ | assumption) rfl)⟩
      ·
        refine jt_bV (sq_X0_measure E d (jd_le hd rfl) x1 x2 a0 b0 hv0) (fun a143_ b143_ h143_ => ?_)
        obtain ⟨hv143_, hf143_, rfl, hq143_0, hq143_1⟩ := h143_
        have h144_ := iv_get hv0 (k := 58) (j := 12) (l := 0) (u := 600) rfl
        have h145_ := iv_get hv143_ (k := 58) (j := 13) (l := 0) (u := 10) rfl
        have hf146_ : jfr jW_X11_span a0 a143_ := jfr_tr (jfr_rf _ _) hf143_ rfl
        exact cr_X11_span_34 E d hd x1 x2 x3 a0 b0 hv0 x3 a143_ hv143_ hf146_ (show 0 ≤ x3 from by omega) (show x3 ≤ 2 from by omega) (show (((0 ≤ x1 ∧ x1 ≤ 15) ∧ 0 ≤ x2) ∧ x2 ≤ 15) from by omega) (show x3 = x3 from by omega) (show (a0 58 12 = 0 → ((a143_ 58 13 = 0 ∧ a143_ 58 14 = 0 - 1) ∧ a143_ 58 15 = 0 - 1)) from by omega) (by first | rfl | assumption) (show (((((0 ≤ x1 ∧ x1 ≤ 15) ∧ 0 ≤ x2) ∧ x2 ≤ 15) ∧ 0 ≤ x3) ∧ x3 ≤ 2) from by omega) hq143_1
abbrev jR_X11_state (x1 x2 x3 : Int) (a0 b0 : Nat → Nat → Int) : List jxV → (Nat → Nat → Int) → (Nat → Nat → Int) → Prop := rI (fun r a b => (a0 = a) ∧ (b0 = b) ∧ ((a0 58 8 = 0 → r = 0 - 1)) ∧ (0 ≤ x1 ∧ x1 < a0 58 8 ∧ 0 ≤ x2 ∧ x2 ≤ 1999 ∧ 0 ≤ x3 ∧ x3 ≤ 1999 → r = f_X0_stateOn a0 b0 x1 x2 x3 (lastd (a0 66) (a0 67) (a0 68) x1 x3 (a0 58 12).toNat)) ∧ (¬ (0 ≤ x1 ∧ x1 < a0 58 8 ∧ 0 ≤ x2 ∧ x2 ≤ 1999 ∧ 0 ≤ x3 ∧ x3 ≤ 1999) → r = -1))
theorem sq_X11_state (E : jxE) (d : Nat) (hd : Nat.ble 4 d = true) (x1 x2 x3 : Int) (a0 b0 : Nat → Nat → Int) (hv0 : iv a0) : jt (jxC E d 180 [.inr (.inr (.inl 0)), .inl x1, .inl x2, .inl x3] (jxSH, a0, b0)) (jR_X11_state x1 x2 x3 a0 b0) := by
  obtain ⟨d, rfl⟩ := jd_succ hd
  refine jt_eq (bq_X11_state E d x1 x2 x3 a0 b0) ?_
  refine jt_eI (eq_X0_has E d (jd_le hd rfl) x1 a0 b0) ?_
  have h147_ := f_X0_has_eq a0 b0 x1
  have h148_ := iv_get hv0 (k := 58) (j := 8) (l := 0) (u := 300) rfl
  refine jt_ite (fun c149_ => ?_) (fun c149_ => ?_)
  ·
    exact jt_rI ⟨rfl, rfl, (show (a0 58 8 = 0 → (-1) = 0 - 1) from by omega), (fun h => absurd h (by omega)), (fun _ => rfl)⟩
  ·
    refine jt_eI (eq_X11_isDay E d (jd_le hd rfl) x2 a0 b0) ?_
    have h150_ := f_X11_isDay_eq a0 b0 x2
    have h151_ := f_X11_within_eq a0 b0 x2 0 1999
    refine jt_ite (fun c152_ => ?_) (fun c152_ => ?_)
    ·
      exact jt_rI ⟨rfl, rfl, (show (a0 58 8 = 0 → (-1) = 0 - 1) from by omega), (fun h => absurd h (by omega)), (fun _ => rfl)⟩
    ·
      refine jt_eI (eq_X11_isDay E d (jd_le hd rfl) x3 a0 b0) ?_
      have h153_ := f_X11_isDay_eq a0 b0 x3
      have h154_ := f_X11_within_eq a0 b0 x3 0 1999
      refine jt_ite (fun c155_ => ?_) (fun c155_ => ?_)
      ·
        exact jt_rI ⟨rfl, rfl, (show (a0 58 8 = 0 → (-1) = 0 - 1) from by omega), (fun h => absurd h (by omega)), (fun _ => rfl)⟩
      ·
        refine jt_bI (sq_X0_stateAsKnown E d (jd_le hd rfl) x1 x2 x3 a0 b0 hv0) (fun r156_ a156_ b156_ h156_ => ?_)
        obtain ⟨rfl, rfl, hq156_0⟩ := h156_
        exact jt_rI ⟨rfl, rfl, (show (a0 58 8 = 0 → r156_ = 0 - 1) from by omega), (fun _ => hq156_0), (fun h => absurd (by omega) h)⟩
abbrev jR_X12_arrival (x1 x2 : Int) (a0 b0 : Nat → Nat → Int) : List jxV → (Nat → Nat → Int) → (Nat → Nat → Int) → Prop := rI (fun r a b => (a0 = a) ∧ (b0 = b) ∧ (r = if a0 146 0 ≤ x2 then vArr (cvR a0) x1.toNat else vKn (cvR a0) x1.toNat x2))
theorem cr_X12_arrival_38 (E : jxE) (d : Nat) (hd : Nat.ble 1 (d + 1) = true) (x1 x2 : Int) (a0 b0 : Nat → Nat → Int) (hv0 : iv a0) (hp0 : (0 ≤ x1 ∧ x1 ≤ 299)) : ∀ n : Nat, (∀ (y1 y2 y3 y4 : Int), (((600 - y4) * 1) + 0).toNat ≤ n → 0 ≤ y1 → y1 ≤ 299 → y2 ≤ 1998 → 0 ≤ y4 → y4 ≤ 599 → y1 = x1 → y2 = x2 → x2 < a0 146 0 → 0 ≤ y4 → y4 < a0 146 17 → (y3 = lastd (a0 161) (a0 162) (a0 163) x1 x2 (y4.toNat + 1)) → jt (jxX E d 233 77 [some (.inr (.inr (.inl 146))), some (.inl y1), some (.inl y2), some (.inl y3), some (.inl y4)] [] (jxSH, a0, b0)) (jR_X12_arrival x1 x2 a0 b0)) ∧ (∀ (y1 y2 y4 : Int), (((600 - y4) * 1) + 0).toNat ≤ n → 0 ≤ y1 → y1 ≤ 299 → y2 ≤ 1998 → 0 ≤ y4 → y4 ≤ 599 → y1 = x1 → y2 = x2 → x2 < a0 146 0 → 0 ≤ y4 → y4 < a0 146 17 → (a0 162 y4.toNat = lastd (a0 161) (a0 162) (a0 163) x1 x2 (y4.toNat + 1)) → jt (jxX E d 233 69 [some (.inr (.inr (.inl 146))), some (.inl y1), some (.inl y2), none, some (.inl y4)] [] (jxSH, a0, b0)) (jR_X12_arrival x1 x2 a0 b0)) ∧ (∀ (y1 y2 y3 y4 : Int), (((600 - y4) * 1) + 0).toNat ≤ n → 0 ≤ y1 → y1 ≤ 299 → y2 ≤ 1998 → 0 ≤ y4 → y4 ≤ 600 → y1 = x1 → y2 = x2 → x2 < a0 146 0 → 0 ≤ y4 → y4 ≤ a0 146 17 → (y3 = lastd (a0 161) (a0 162) (a0 163) x1 x2 y4.toNat) → jt (jxX E d 233 38 [some (.inr (.inr (.inl 146))), some (.inl y1), some (.inl y2), some (.inl y3), some (.inl y4)] [] (jxSH, a0, b0)) (jR_X12_arrival x1 x2 a0 b0)) := by
  refine jx_ind fun n ih => ?_
  have ih77 : ∀ (y1 y2 y3 y4 : Int), (((600 - y4) * 1) + 0).toNat < n → 0 ≤ y1 → y1 ≤ 299 → y2 ≤ 1998 → 0 ≤ y4 → y4 ≤ 599 → y1 = x1 → y2 = x2 → x2 < a0 146 0 → 0 ≤ y4 → y4 < a0 146 17 → (y3 = lastd (a0 161) (a0 162) (a0 163) x1 x2 (y4.toNat + 1)) → jt (jxX E d 233 77 [some (.inr (.inr (.inl 146))), some (.inl y1), some (.inl y2), some (.inl y3), some (.inl y4)] [] (jxSH, a0, b0)) (jR_X12_arrival x1 x2 a0 b0) := fun y1 y2 y3 y4 hlt i0 i1 i2 i3 i4 i5 i6 i7 i8 i9 i10 => (ih _ hlt).1 y1 y2 y3 y4 (Nat.le_refl _) i0 i1 i2 i3 i4 i5 i6 i7 i8 i9 i10
  have ih69 : ∀ (y1 y2 y4 : Int), (((600 - y4) * 1) + 0).toNat < n → 0 ≤ y1 → y1 ≤ 299 → y2 ≤ 1998 → 0 ≤ y4 → y4 ≤ 599 → y1 = x1 → y2 = x2 → x2 < a0 146 0 → 0 ≤ y4 → y4 < a0 146 17 → (a0 162 y4.toNat = lastd (a0 161) (a0 162) (a0 163) x1 x2 (y4.toNat + 1)) → jt (jxX E d 233 69 [some (.inr (.inr (.inl 146))), some (.inl y1), some (.inl y2), none, some (.inl y4)] [] (jxSH, a0, b0)) (jR_X12_arrival x1 x2 a0 b0) := fun y1 y2 y4 hlt i0 i1 i2 i3 i4 i5 i6 i7 i8 i9 i10 => (ih _ hlt).2.1 y1 y2 y4 (Nat.le_refl _) i0 i1 i2 i3 i4 i5 i6 i7 i8 i9 i10
  have ih38 : ∀ (y1 y2 y3 y4 : Int), (((600 - y4) * 1) + 0).toNat < n → 0 ≤ y1 → y1 ≤ 299 → y2 ≤ 1998 → 0 ≤ y4 → y4 ≤ 600 → y1 = x1 → y2 = x2 → x2 < a0 146 0 → 0 ≤ y4 → y4 ≤ a0 146 17 → (y3 = lastd (a0 161) (a0 162) (a0 163) x1 x2 y4.toNat) → jt (jxX E d 233 38 [some (.inr (.inr (.inl 146))), some (.inl y1), some (.inl y2), some (.inl y3), some (.inl y4)] [] (jxSH, a0, b0)) (jR_X12_arrival x1 x2 a0 b0) := fun y1 y2 y3 y4 hlt i0 i1 i2 i3 i4 i5 i6 i7 i8 i9 i10 => (ih _ hlt).2.2 y1 y2 y3 y4 (Nat.le_refl _) i0 i1 i2 i3 i4 i5 i6 i7 i8 i9 i10
  have hc77 : ∀ (y1 y2 y3 y4 : Int), (((600 - y4) * 1) + 0).toNat ≤ n → 0 ≤ y1 → y1 ≤ 299 → y2 ≤ 1998 → 0 ≤ y4 → y4 ≤ 599 → y1 = x1 → y2 = x2 → x2 < a0 146 0 → 0 ≤ y4 → y4 < a0 146 17 → (y3 = lastd (a0 161) (a0 162) (a0 163) x1 x2 (y4.toNat + 1)) → jt (jxX E d 233 77 [some (.inr (.inr (.inl 146))), some (.inl y1), some (.inl y2), some (.inl y3), some (.inl y4)] [] (jxSH, a0, b0)) (jR_X12_arrival x1 x2 a0 b0) := by
    intro y1 y2 y3 y4 hm hi0 hi1 hi2 hi3 hi4 hi5 hi6 hi7 hi8 hi9 hl
    refine jt_eq (bq_X12_arrival_77 E d y1 y2 y3 y4 a0 b0) ?_
    have h157_ := iv_get hv0 (k := 146) (j := 0) (l := 0) (u := 1999) rfl
    have h158_ := iv_get hv0 (k := 146) (j := 17) (l := 0) (u := 600) rfl
    have h159_ : jxw (y4 + 1) = y4 + 1 := jxw_id (by omega) (by omega)
    exact ih38 y1 y2 y3 (jxw (y4 + 1)) (show (((600 - (jxw (y4 + 1))) * 1) + 0).toNat < n from by omega) (show 0 ≤ y1 from by omega) (show y1 ≤ 299 from by omega) (show y2 ≤ 1998 from by omega) (show 0 ≤ jxw (y4 + 1) from by omega) (show jxw (y4 + 1) ≤ 600 from by omega) (show y1 = x1 from by omega) (show y2 = x2 from by omega) (show x2 < a0 146 0 from by omega) (show 0 ≤ jxw (y4 + 1) from by omega) (show jxw (y4 + 1) ≤ a0 146 17 from by omega) (by first | rfl | (rw [show (jxw (y4 + 1)).toNat = y4.toNat + 1 from by omega]; exact hl))
  have hc69 : ∀ (y1 y2 y4 : Int), (((600 - y4) * 1) + 0).toNat ≤ n → 0 ≤ y1 → y1 ≤ 299 → y2 ≤ 1998 → 0 ≤ y4 → y4 ≤ 599 → y1 = x1 → y2 = x2 → x2 < a0 146 0 → 0 ≤ y4 → y4 < a0 146 17 → (a0 162 y4.toNat = lastd (a0 161) (a0 162) (a0 163) x1 x2 (y4.toNat + 1)) → jt (jxX E d 233 69 [some (.inr (.inr (.inl 146))), some (.inl y1), some (.inl y2), none, some (.inl y4)] [] (jxSH, a0, b0)) (jR_X12_arrival x1 x2 a0 b0) := by
    intro y1 y2 y4 hm hi0 hi1 hi2 hi3 hi4 hi5 hi6 hi7 hi8 hi9 hl
    refine jt_eq (bq_X12_arrival_69 E d y1 y2 y4 a0 b0) ?_
    have h160_ := iv_get hv0 (k := 146) (j := 0) (l := 0) (u := 1999) rfl
    have h161_ := iv_get hv0 (k := 146) (j := 17) (l := 0) (u := 600) rfl
    refine jt_grd (by omega) ?_
    exact hc77 y1 y2 (a0 162 (y4.toNat)) y4 (show (((600 - y4) * 1) + 0).toNat ≤ n from by omega) (show 0 ≤ y1 from by omega) (show y1 ≤ 299 from by omega) (show y2 ≤ 1998 from by omega) (show 0 ≤ y4 from by omega) (show y4 ≤ 599 from by omega) (show y1 = x1 from by omega) (show y2 = x2 from by omega) (show x2 < a0 146 0 from by omega) (show 0 ≤ y4 from by omega) (show y4 < a0 146 17 from by omega) (by first | exact hl | (rw [hls, if_neg (fun q => by omega)]; exact hl))
  have hc38 : ∀ (y1 y2 y3 y4 : Int), (((600 - y4) * 1) + 0).toNat ≤ n → 0 ≤ y1 → y1 ≤ 299 → y2 ≤ 1998 → 0 ≤ y4 → y4 ≤ 600 → y1 = x1 → y2 = x2 → x2 < a0 146 0 → 0 ≤ y4 → y4 ≤ a0 146 17 → (y3 = lastd (a0 161) (a0 162) (a0 163) x1 x2 y4.toNat) → jt (jxX E d 233 38 [some (.inr (.inr (.inl 146))), some (.inl y1), some (.inl y2), some (.inl y3), some (.inl y4)] [] (jxSH, a0, b0)) (jR_X12_arrival x1 x2 a0 b0) := by
    intro y1 y2 y3 y4 hm hi0 hi1 hi2 hi3 hi4 hi5 hi6 hi7 hi8 hi9 hl
    refine jt_eq (bq_X12_arrival_38 E d y1 y2 y3 y4 a0 b0) ?_
    have h162_ := iv_get hv0 (k := 146) (j := 0) (l := 0) (u := 1999) rfl
    have h163_ := iv_get hv0 (k := 146) (j := 17) (l := 0) (u := 600) rfl
    have hls : lastd (a0 161) (a0 162) (a0 163) x1 x2 (y4.toNat + 1) = if a0 161 y4.toNat = x1 ∧ a0 163 y4.toNat ≤ x2 then a0 162 y4.toNat else lastd (a0 161) (a0 162) (a0 163) x1 x2 y4.toNat := rfl
    refine jt_ite (fun c164_ => ?_) (fun c164_ => ?_)
    ·
      refine jt_grd (by omega) ?_
      have h165_ := iv_get hv0 (k := 161) (j := y4.toNat) (l := 0) (u := 299) rfl
      refine jt_ite (fun c166_ => ?_) (fun c166_ => ?_)
      ·
        refine jt_grd (by omega) ?_
        refine jt_ite (fun c167_ => ?_) (fun c167_ => ?_)
        ·
          exact hc77 y1 y2 y3 y4 (show (((600 - y4) * 1) + 0).toNat ≤ n from by omega) (show 0 ≤ y1 from by omega) (show y1 ≤ 299 from by omega) (show y2 ≤ 1998 from by omega) (show 0 ≤ y4 from by omega) (show y4 ≤ 599 from by omega) (show y1 = x1 from by omega) (show y2 = x2 from by omega) (show x2 < a0 146 0 from by omega) (show 0 ≤ y4 from by omega) (show y4 < a0 146 17 from by omega) (by first | exact hl | (rw [hls, if_neg (fun q => by omega)]; exact hl))
        ·
          exact hc69 y1 y2 y4 (show (((600 - y4) * 1) + 0).toNat ≤ n from by omega) (show 0 ≤ y1 from by omega) (show y1 ≤ 299 from by omega) (show y2 ≤ 1998 from by omega) (show 0 ≤ y4 from by omega) (show y4 ≤ 599 from by omega) (show y1 = x1 from by omega) (show y2 = x2 from by omega) (show x2 < a0 146 0 from by omega) (show 0 ≤ y4 from by omega) (show y4 < a0 146 17 from by omega) (by rw [hls, if_pos ⟨by omega, by omega⟩])
      ·
        exact hc77 y1 y2 y3 y4 (show (((600 - y4) * 1) + 0).toNat ≤ n from by omega) (show 0 ≤ y1 from by omega) (show y1 ≤ 299 from by omega) (show y2 ≤ 1998 from by omega) (show 0 ≤ y4 from by omega) (show y4 ≤ 599 from by omega) (show y1 = x1 from by omega) (show y2 = x2 from by omega) (show x2 < a0 146 0 from by omega) (show 0 ≤ y4 from by omega) (show y4 < a0 146 17 from by omega) (by first | exact hl | (rw [hls, if_neg (fun q => by omega)]; exact hl))
    ·
      exact jt_rI ⟨rfl, rfl, (by rw [if_neg (by omega)]; show y3 = lastd (a0 161) (a0 162) (a0 163) ((x1.toNat : Nat) : Int) x2 (a0 146 17).toNat; rw [show ((x1.toNat : Nat) : Int) = x1 from by omega, show (a0 146 17).toNat = y4.toNat from by omega]; exact hl)⟩
  exact ⟨hc77, hc69, hc38⟩
theorem sq_X12_arrival (E : jxE) (d : Nat) (hd : Nat.ble 1 d = true) (x1 x2 : Int) (a0 b0 : Nat → Nat → Int) (hv0 : iv a0) (hp0 : (0 ≤ x1 ∧ x1 ≤ 299)) : jt (jxC E d 233 [.inr (.inr (.inl 146)), .inl x1, .inl x2] (jxSH, a0, b0)) (jR_X12_arrival x1 x2 a0 b0) := by
  obtain ⟨d, rfl⟩ := jd_succ hd
  refine jt_eq (bq_X12_arrival E d x1 x2 a0 b0) ?_
  have h168_ := iv_get hv0 (k := 146) (j := 0) (l := 0) (u := 1999) rfl
  refine jt_ite (fun c169_ => ?_) (fun c169_ => ?_)
  ·
    have h170_ := iv_get hv0 (k := 146) (j := 17) (l := 0) (u := 600) rfl
    exact (cr_X12_arrival_38 E d hd x1 x2 a0 b0 hv0 hp0 _).2.2 x1 x2 (-1) 0 (Nat.le_refl _) (show 0 ≤ x1 from by omega) (show x1 ≤ 299 from by omega) (show x2 ≤ 1998 from by omega) (show 0 ≤ 0 from by omega) (show 0 ≤ 600 from by omega) (show x1 = x1 from by omega) (show x2 = x2 from by omega) (show x2 < a0 146 0 from by omega) (show 0 ≤ 0 from by omega) (show 0 ≤ a0 146 17 from by omega) (by first | rfl | (rw [show (jxw (y4 + 1)).toNat = y4.toNat + 1 from by omega]; exact hl))
  ·
    refine jt_grd (by omega) ?_
    have h171_ := iv_get hv0 (k := 160) (j := x1.toNat) (l := (-1)) (u := 599) rfl
    refine jt_ite (fun c172_ => ?_) (fun c172_ => ?_)
    ·
      exact jt_rI ⟨rfl, rfl, (by rw [if_pos (by omega)]; show -1 = (if a0 160 x1.toNat < 0 then -1 else _); rw [if_pos (by assumption)])⟩
    ·
      refine jt_grd (by omega) ?_
      refine jt_grd (by omega) ?_
      exact jt_rI ⟨rfl, rfl, (by rw [if_pos (by omega)]; show _ = (if a0 160 x1.toNat < 0 then -1 else a0 162 (a0 160 x1.toNat).toNat); rw [if_neg (by assumption)])⟩
abbrev jR_X12_stateAt (x1 x2 x3 : Int) (a0 b0 : Nat → Nat → Int) : List jxV → (Nat → Nat → Int) → (Nat → Nat → Int) → Prop := rI (fun r a b => (a0 = a) ∧ (b0 = b) ∧ (0 ≤ r) ∧ (r ≤ 4) ∧ (r = vStk (cvR a0) (a0 146 0) x1.toNat x2 x3))
theorem cr_X12_stateAt_30 (E : jxE) (d : Nat) (hd : Nat.ble 2 (d + 1) = true) (x1 x2 x3 : Int) (a0 b0 : Nat → Nat → Int) (hv0 : iv a0) (hp0 : (0 ≤ x1 ∧ x1 ≤ 299)) : (¬ a0 159 x1.toNat = -1 ∧ a0 159 x1.toNat ≤ x2 ∧ a0 159 x1.toNat ≤ x3) → jt (jxX E d 234 30 [none, none, none, none, none] [] (jxSH, a0, b0)) (jR_X12_stateAt x1 x2 x3 a0 b0) := by
  intro hof
  refine jt_eq (bq_X12_stateAt_30 E d a0 b0) ?_
  exact jt_rI ⟨rfl, rfl, (show 0 ≤ 4 from by omega), (show 4 ≤ 4 from by omega), (vStk_off (v := cvR a0) hof).symm⟩
theorem cr_X12_stateAt_74 (E : jxE) (d : Nat) (hd : Nat.ble 2 (d + 1) = true) (x1 x2 x3 : Int) (a0 b0 : Nat → Nat → Int) (hv0 : iv a0) (hp0 : (0 ≤ x1 ∧ x1 ≤ 299)) : (vStk (cvR a0) (a0 146 0) x1.toNat x2 x3 = 1) → jt (jxX E d 234 74 [none, none, none, none, none] [] (jxSH, a0, b0)) (jR_X12_stateAt x1 x2 x3 a0 b0) := by
  intro hv
  refine jt_eq (bq_X12_stateAt_74 E d a0 b0) ?_
  exact jt_rI ⟨rfl, rfl, (show 0 ≤ 1 from by omega), (show 1 ≤ 4 from by omega), hv.symm⟩
theorem cr_X12_stateAt_76 (E : jxE) (d : Nat) (hd : Nat.ble 2 (d + 1) = true) (x1 x2 x3 : Int) (a0 b0 : Nat → Nat → Int) (hv0 : iv a0) (hp0 : (0 ≤ x1 ∧ x1 ≤ 299)) : ∀ (y1 y2 : Int), 0 ≤ y1 → y1 ≤ 299 → (y1 = x1) → (y2 = x2) → (vStk (cvR a0) (a0 146 0) x1.toNat x2 x3 = if jxw (x2 - a0 156 x1.toNat) < a0 157 x1.toNat then 0 else 2) → jt (jxX E d 234 76 [some (.inr (.inr (.inl 146))), some (.inl y1), some (.inl y2), none, none] [] (jxSH, a0, b0)) (jR_X12_stateAt x1 x2 x3 a0 b0) := by
  intro y1 y2 hi0 hi1 hy1 hy2 hv
  refine jt_eq (bq_X12_stateAt_76 E d y1 y2 a0 b0) ?_
  refine jt_grd (by omega) ?_
  refine jt_grd (by omega) ?_
  have h173_ := iv_get hv0 (k := 156) (j := y1.toNat) (l := 0) (u := 1999) rfl
  have h174_ := jxw_im (y2 - (a0 156 (y1.toNat)))
  have h175_ := jxw_rg (y2 - (a0 156 (y1.toNat)))
  refine jt_ite (fun c176_ => ?_) (fun c176_ => ?_)
  ·
    exact jt_rI ⟨rfl, rfl, (show 0 ≤ 0 from by omega), (show 0 ≤ 4 from by omega), (by rw [hv, ← hy1, ← hy2]; first | rw [if_pos (by assumption)] | rw [if_neg (by assumption)])⟩
  ·
    exact jt_rI ⟨rfl, rfl, (show 0 ≤ 2 from by omega), (show 2 ≤ 4 from by omega), (by rw [hv, ← hy1, ← hy2]; first | rw [if_pos (by assumption)] | rw [if_neg (by assumption)])⟩
theorem cr_X12_stateAt_70 (E : jxE) (d : Nat) (hd : Nat.ble 2 (d + 1) = true) (x1 x2 x3 : Int) (a0 b0 : Nat → Nat → Int) (hv0 : iv a0) (hp0 : (0 ≤ x1 ∧ x1 ≤ 299)) : (vStk (cvR a0) (a0 146 0) x1.toNat x2 x3 = 3) → jt (jxX E d 234 70 [none, none, none, none, none] [] (jxSH, a0, b0)) (jR_X12_stateAt x1 x2 x3 a0 b0) := by
  intro hv
  refine jt_eq (bq_X12_stateAt_70 E d a0 b0) ?_
  exact jt_rI ⟨rfl, rfl, (show 0 ≤ 3 from by omega), (show 3 ≤ 4 from by omega), hv.symm⟩
theorem cr_X12_stateAt_32 (E : jxE) (d : Nat) (hd : Nat.ble 2 (d + 1) = true) (x1 x2 x3 : Int) (a0 b0 : Nat → Nat → Int) (hv0 : iv a0) (hp0 : (0 ≤ x1 ∧ x1 ≤ 299)) : ∀ (y1 y2 y3 : Int), 0 ≤ y1 → y1 ≤ 299 → (y1 = x1) → (y2 = x2) → (y3 = x3) → (¬ (¬ a0 159 x1.toNat = -1 ∧ a0 159 x1.toNat ≤ x2 ∧ a0 159 x1.toNat ≤ x3)) → jt (jxX E d 234 32 [some (.inr (.inr (.inl 146))), some (.inl y1), some (.inl y2), some (.inl y3), none] [] (jxSH, a0, b0)) (jR_X12_stateAt x1 x2 x3 a0 b0) := by
  intro y1 y2 y3 hi0 hi1 hy1 hy2 hy3 hof
  refine jt_eq (bq_X12_stateAt_32 E d y1 y2 y3 a0 b0) ?_
  refine jt_bI (sq_X12_arrival E d (jd_le hd rfl) y1 y3 a0 b0 hv0 (show (0 ≤ y1 ∧ y1 ≤ 299) from by omega)) (fun r177_ a177_ b177_ h177_ => ?_)
  obtain ⟨rfl, rfl, hq177_0⟩ := h177_
  refine jt_ite (fun c178_ => ?_) (fun c178_ => ?_)
  ·
    exact cr_X12_stateAt_76 E d hd x1 x2 x3 a0 b0 hv0 hp0 y1 y2 (show 0 ≤ y1 from by omega) (show y1 ≤ 299 from by omega) (by first | rfl | assumption) (by first | rfl | assumption) (by have er : r177_ = if a0 146 0 ≤ x3 then vArr (cvR a0) x1.toNat else vKn (cvR a0) x1.toNat x3 := (by have q := hq177_0; rw [hy1, hy3] at q; exact q); have ev := vStk_on (v := cvR a0) (w := a0 146 0) (c := x1.toNat) (d := x2) (k := x3) hof er; rw [ev, if_neg (fun q => by omega)]; rfl)
  ·
    refine jt_ite (fun c179_ => ?_) (fun c179_ => ?_)
    ·
      exact cr_X12_stateAt_76 E d hd x1 x2 x3 a0 b0 hv0 hp0 y1 y2 (show 0 ≤ y1 from by omega) (show y1 ≤ 299 from by omega) (by first | rfl | assumption) (by first | rfl | assumption) (by have er : r177_ = if a0 146 0 ≤ x3 then vArr (cvR a0) x1.toNat else vKn (cvR a0) x1.toNat x3 := (by have q := hq177_0; rw [hy1, hy3] at q; exact q); have ev := vStk_on (v := cvR a0) (w := a0 146 0) (c := x1.toNat) (d := x2) (k := x3) hof er; rw [ev, if_neg (fun q => by omega)]; rfl)
    ·
      refine jt_grd (by omega) ?_
      refine jt_grd (by omega) ?_
      have h180_ := iv_get hv0 (k := 156) (j := y1.toNat) (l := 0) (u := 1999) rfl
      have h181_ := jxw_im (r177_ - (a0 156 (y1.toNat)))
      have h182_ := jxw_rg (r177_ - (a0 156 (y1.toNat)))
      refine jt_ite (fun c183_ => ?_) (fun c183_ => ?_)
      ·
        exact cr_X12_stateAt_74 E d hd x1 x2 x3 a0 b0 hv0 hp0 (by have er : r177_ = if a0 146 0 ≤ x3 then vArr (cvR a0) x1.toNat else vKn (cvR a0) x1.toNat x3 := (by have q := hq177_0; rw [hy1, hy3] at q; exact q); have ev := vStk_on (v := cvR a0) (w := a0 146 0) (c := x1.toNat) (d := x2) (k := x3) hof er; have f1 : vSn (cvR a0) x1.toNat = a0 156 (y1.toNat) := (by rw [hy1]; rfl); have f2 : vBd (cvR a0) x1.toNat = a0 157 (y1.toNat) := (by rw [hy1]; rfl); rw [ev, if_pos ⟨by omega, by omega⟩, f1, f2]; first | rw [if_pos (by assumption)] | rw [if_neg (by assumption)])
      ·
        exact cr_X12_stateAt_70 E d hd x1 x2 x3 a0 b0 hv0 hp0 (by have er : r177_ = if a0 146 0 ≤ x3 then vArr (cvR a0) x1.toNat else vKn (cvR a0) x1.toNat x3 := (by have q := hq177_0; rw [hy1, hy3] at q; exact q); have ev := vStk_on (v := cvR a0) (w := a0 146 0) (c := x1.toNat) (d := x2) (k := x3) hof er; have f1 : vSn (cvR a0) x1.toNat = a0 156 (y1.toNat) := (by rw [hy1]; rfl); have f2 : vBd (cvR a0) x1.toNat = a0 157 (y1.toNat) := (by rw [hy1]; rfl); rw [ev, if_pos ⟨by omega, by omega⟩, f1, f2]; first | rw [if_pos (by assumption)] | rw [if_neg (by assumption)])
theorem sq_X12_stateAt (E : jxE) (d : Nat) (hd : Nat.ble 2 d = true) (x1 x2 x3 : Int) (a0 b0 : Nat → Nat → Int) (hv0 : iv a0) (hp0 : (0 ≤ x1 ∧ x1 ≤ 299)) : jt (jxC E d 234 [.inr (.inr (.inl 146)), .inl x1, .inl x2, .inl x3] (jxSH, a0, b0)) (jR_X12_stateAt x1 x2 x3 a0 b0) := by
  obtain ⟨d, rfl⟩ := jd_succ hd
  refine jt_eq (bq_X12_stateAt E d x1 x2 x3 a0 b0) ?_
  refine jt_grd (by omega) ?_
  refine jt_ite (fun c184_ => ?_) (fun c184_ => ?_)
  ·
    exact cr_X12_stateAt_32 E d hd x1 x2 x3 a0 b0 hv0 hp0 x1 x2 x3 (show 0 ≤ x1 from by omega) (show x1 ≤ 299 from by omega) (by first | rfl | assumption) (by first | rfl | assumption) (by first | rfl | assumption) (fun q => by omega)
  ·
    refine jt_grd (by omega) ?_
    refine jt_ite (fun c185_ => ?_) (fun c185_ => ?_)
    ·
      exact cr_X12_stateAt_32 E d hd x1 x2 x3 a0 b0 hv0 hp0 x1 x2 x3 (show 0 ≤ x1 from by omega) (show x1 ≤ 299 from by omega) (by first | rfl | assumption) (by first | rfl | assumption) (by first | rfl | assumption) (fun q => by omega)
    ·
      refine jt_grd (by omega) ?_
      refine jt_ite (fun c186_ => ?_) (fun c186_ => ?_)
      ·
        exact cr_X12_stateAt_32 E d hd x1 x2 x3 a0 b0 hv0 hp0 x1 x2 x3 (show 0 ≤ x1 from by omega) (show x1 ≤ 299 from by omega) (by first | rfl | assumption) (by first | rfl | assumption) (by first | rfl | assumption) (fun q => by omega)
      ·
        exact cr_X12_stateAt_30 E d hd x1 x2 x3 a0 b0 hv0 hp0 ⟨by omega, by omega, by omega⟩
def jWts : List (Nat × Nat) := [(161, 9999), (162, 9999), (163, 9999)]
abbrev jR_X12_tells (x1 x2 : Int) (a0 b0 : Nat → Nat → Int) : List jxV → (Nat → Nat → Int) → (Nat → Nat → Int) → Prop := rV (fun a b => (iv a) ∧ (jfr jW_X12_tells a0 a) ∧ (b0 = b) ∧ (cvR a = vTell (cvR a0) x1 x2 (a0 146 0)))
theorem cr_X12_tells_33 (E : jxE) (d : Nat) (hd : Nat.ble 1 (d + 1) = true) (x1 x2 : Int) (a0 b0 : Nat → Nat → Int) (hv0 : iv a0) (hp0 : (0 ≤ x1 ∧ x1 ≤ 299)) (hp1 : a0 146 17 ≤ 599) : ∀ (y1 : Int) (a : Nat → Nat → Int), iv a → jfr jW_X12_tells a0 a → 0 ≤ y1 → y1 ≤ 299 → (jfr jWts a0 a) → (y1 = x1) → (a 161 = rup (a0 161) (a0 146 17).toNat x1 ∧ a 162 = rup (a0 162) (a0 146 17).toNat x2 ∧ a 163 = rup (a0 163) (a0 146 17).toNat (a0 146 0)) → a 146 17 ≤ 599 → jt (jxX E d 256 33 [some (.inr (.inr (.inl 146))), some (.inl y1), none] [] (jxSH, a, b0)) (jR_X12_tells x1 x2 a0 b0) := by
  intro y1 a hv hf hi0 hi1 hfa hy1 hr1 hi5
  refine jt_eq (bq_X12_tells_33 E d y1 a b0) ?_
  have h187_ := iv_get hv (k := 146) (j := 17) (l := 0) (u := 600) rfl
  have e17 := hfa 146 17 rfl
  refine jt_grd (by omega) ?_
  have hv188_ : iv (jxu a 160 (y1.toNat) (a 146 17)) := iv_put hv (l := (-1)) (u := 599) rfl (by omega) (by omega)
  have h190_ : jxw ((a 146 17) + 1) = (a 146 17) + 1 := jxw_id (by omega) (by omega)
  have hv189_ : iv (jxu (jxu a 160 (y1.toNat) (a 146 17)) 146 17 (jxw ((a 146 17) + 1))) := iv_put hv188_ (l := 0) (u := 600) rfl (by omega) (by omega)
  have hf191_ : jfr jW_X12_tells a0 (jxu a 160 (y1.toNat) (a 146 17)) := jfr_put hf rfl
  have hf192_ : jfr jW_X12_tells a0 (jxu (jxu a 160 (y1.toNat) (a 146 17)) 146 17 (jxw ((a 146 17) + 1))) := jfr_put hf191_ rfl
  exact jt_rV ⟨hv189_, hf192_, rfl, (mkCV_eq (hfa 146 9 rfl) (show jxw ((a 146 17) + 1) = a0 146 17 + 1 from by omega) (funext fun j => hfa 154 j rfl) (funext fun j => hfa 155 j rfl) (funext fun j => hfa 156 j rfl) (funext fun j => hfa 157 j rfl) (funext fun j => hfa 158 j rfl) (funext fun j => hfa 159 j rfl) (funext fun j => by show (if j = y1.toNat then a 146 17 else a 160 j) = (if j = x1.toNat then a0 146 17 else a0 160 j); rw [show y1.toNat = x1.toNat from by omega, hfa 160 j rfl, show a 146 17 = a0 146 17 from by omega]) hr1.1 hr1.2.1 hr1.2.2)⟩
theorem sq_X12_tells (E : jxE) (d : Nat) (hd : Nat.ble 1 d = true) (x1 x2 : Int) (a0 b0 : Nat → Nat → Int) (hv0 : iv a0) (hp0 : (0 ≤ x1 ∧ x1 ≤ 299)) (hp1 : a0 146 17 ≤ 599) : jt (jxC E d 256 [.inr (.inr (.inl 146)), .inl x1, .inl x2] (jxSH, a0, b0)) (jR_X12_tells x1 x2 a0 b0) := by
  obtain ⟨d, rfl⟩ := jd_succ hd
  refine jt_eq (bq_X12_tells E d x1 x2 a0 b0) ?_
  have h193_ := iv_get hv0 (k := 146) (j := 17) (l := 0) (u := 600) rfl
  refine jt_grd (by omega) ?_
  refine jt_grd (by omega) ?_
  refine jt_grd (by omega) ?_
  have hv194_ : iv (jxu a0 161 ((a0 146 17).toNat) x1) := iv_put hv0 (l := 0) (u := 299) rfl (by omega) (by omega)
  have hv195_ : iv (jxu (jxu a0 161 ((a0 146 17).toNat) x1) 162 ((a0 146 17).toNat) x2) := iv_putf hv194_ rfl
  have hv196_ : iv (jxu (jxu (jxu a0 161 ((a0 146 17).toNat) x1) 162 ((a0 146 17).toNat) x2) 163 ((a0 146 17).toNat) (a0 146 0)) := iv_putf hv195_ rfl
  have hf197_ : jfr jW_X12_tells a0 (jxu a0 161 ((a0 146 17).toNat) x1) := jfr_put (jfr_rf _ _) rfl
  have hf198_ : jfr jW_X12_tells a0 (jxu (jxu a0 161 ((a0 146 17).toNat) x1) 162 ((a0 146 17).toNat) x2) := jfr_put hf197_ rfl
  have hf199_ : jfr jW_X12_tells a0 (jxu (jxu (jxu a0 161 ((a0 146 17).toNat) x1) 162 ((a0 146 17).toNat) x2) 163 ((a0 146 17).toNat) (a0 146 0)) := jfr_put hf198_ rfl
  have hf200_ : jfr jWts a0 (jxu a0 161 ((a0 146 17).toNat) x1) := jfr_put (jfr_rf _ _) rfl
  have hf201_ : jfr jWts a0 (jxu (jxu a0 161 ((a0 146 17).toNat) x1) 162 ((a0 146 17).toNat) x2) := jfr_put hf200_ rfl
  have hf202_ : jfr jWts a0 (jxu (jxu (jxu a0 161 ((a0 146 17).toNat) x1) 162 ((a0 146 17).toNat) x2) 163 ((a0 146 17).toNat) (a0 146 0)) := jfr_put hf201_ rfl
  exact cr_X12_tells_33 E d hd x1 x2 a0 b0 hv0 hp0 hp1 x1 (jxu (jxu (jxu a0 161 ((a0 146 17).toNat) x1) 162 ((a0 146 17).toNat) x2) 163 ((a0 146 17).toNat) (a0 146 0)) hv196_ hf199_ (show 0 ≤ x1 from by omega) (show x1 ≤ 299 from by omega) hf202_ (by first | rfl | assumption) ⟨rfl, rfl, rfl⟩ (show a0 146 17 ≤ 599 from by omega)
def jWre : List (Nat × Nat) := []
abbrev jR_X12_arrive (x1 x2 : Int) (a0 b0 : Nat → Nat → Int) : List jxV → (Nat → Nat → Int) → (Nat → Nat → Int) → Prop := rI (fun r a b => (iv a) ∧ (jfr jW_X12_arrive a0 a) ∧ (b0 = b) ∧ ((0 ≤ r ∧ r ≤ 1)) ∧ ((a0 146 9 = 0 → r = 0)) ∧ ((((((((r = 1 ∧ 0 ≤ x1) ∧ x1 < a0 146 9) ∧ a0 159 (x1.toNat) = 0 - 1) ∧ ¬ a0 146 17 = 600) ∧ a0 156 (x1.toNat) ≤ x2) ∧ x2 ≤ a0 146 0) ∨ (r = 0 ∧ (((((x1 < 0 ∨ a0 146 9 ≤ x1) ∨ ¬ a0 159 (x1.toNat) = 0 - 1) ∨ a0 146 17 = 600) ∨ x2 < a0 156 (x1.toNat)) ∨ a0 146 0 < x2)))) ∧ (r = 1 → cvR a = vTell (cvR a0) x1 x2 (a0 146 0)) ∧ (r = 0 → cvR a = cvR a0))
theorem cr_X12_arrive_59 (E : jxE) (d : Nat) (hd : Nat.ble 2 (d + 1) = true) (x1 x2 : Int) (a0 b0 : Nat → Nat → Int) (hv0 : iv a0) : ∀ (a : Nat → Nat → Int), iv a → jfr jW_X12_arrive a0 a → 1 ≤ a0 146 9 → (((((0 ≤ x1 ∧ x1 < a0 146 9) ∧ a0 159 (x1.toNat) = 0 - 1) ∧ ¬ a0 146 17 = 600) ∧ a0 156 (x1.toNat) ≤ x2) ∧ x2 ≤ a0 146 0) → (cvR a = vTell (cvR a0) x1 x2 (a0 146 0)) → jt (jxX E d 257 59 [none, none, none] [] (jxSH, a, b0)) (jR_X12_arrive x1 x2 a0 b0) := by
  intro a hv hf hi0 hi1 hcv
  refine jt_eq (bq_X12_arrive_59 E d a b0) ?_
  have h203_ := iv_get hv0 (k := 146) (j := 9) (l := 0) (u := 300) rfl
  have h204_ := iv_get hv0 (k := 146) (j := 17) (l := 0) (u := 600) rfl
  have h205_ := iv_get hv0 (k := 156) (j := x1.toNat) (l := 0) (u := 1999) rfl
  have h206_ := iv_get hv0 (k := 146) (j := 0) (l := 0) (u := 1999) rfl
  exact jt_rI ⟨hv, hf, rfl, (show (0 ≤ 1 ∧ 1 ≤ 1) from by omega), (show (a0 146 9 = 0 → 1 = 0) from by omega), (show (((((((1 = 1 ∧ 0 ≤ x1) ∧ x1 < a0 146 9) ∧ a0 159 (x1.toNat) = 0 - 1) ∧ ¬ a0 146 17 = 600) ∧ a0 156 (x1.toNat) ≤ x2) ∧ x2 ≤ a0 146 0) ∨ (1 = 0 ∧ (((((x1 < 0 ∨ a0 146 9 ≤ x1) ∨ ¬ a0 159 (x1.toNat) = 0 - 1) ∨ a0 146 17 = 600) ∨ x2 < a0 156 (x1.toNat)) ∨ a0 146 0 < x2))) from by omega), (fun _ => hcv), (fun h => absurd h (by decide))⟩
theorem cr_X12_arrive_51 (E : jxE) (d : Nat) (hd : Nat.ble 2 (d + 1) = true) (x1 x2 : Int) (a0 b0 : Nat → Nat → Int) (hv0 : iv a0) : ∀ (a : Nat → Nat → Int), iv a → jfr jW_X12_arrive a0 a → (jfr jWre a0 a) → (((((x1 < 0 ∨ a0 146 9 ≤ x1) ∨ ¬ a0 159 (x1.toNat) = 0 - 1) ∨ a0 146 17 = 600) ∨ x2 < a0 156 (x1.toNat)) ∨ a0 146 0 < x2) → jt (jxX E d 257 51 [none, none, none] [] (jxSH, a, b0)) (jR_X12_arrive x1 x2 a0 b0) := by
  intro a hv hf hfe hi1
  refine jt_eq (bq_X12_arrive_51 E d a b0) ?_
  have h207_ := iv_get hv0 (k := 146) (j := 9) (l := 0) (u := 300) rfl
  have h208_ := iv_get hv0 (k := 146) (j := 17) (l := 0) (u := 600) rfl
  have h209_ := iv_get hv0 (k := 156) (j := x1.toNat) (l := 0) (u := 1999) rfl
  have h210_ := iv_get hv0 (k := 146) (j := 0) (l := 0) (u := 1999) rfl
  exact jt_rI ⟨hv, hf, rfl, (show (0 ≤ 0 ∧ 0 ≤ 1) from by omega), (show (a0 146 9 = 0 → 0 = 0) from by omega), (show (((((((0 = 1 ∧ 0 ≤ x1) ∧ x1 < a0 146 9) ∧ a0 159 (x1.toNat) = 0 - 1) ∧ ¬ a0 146 17 = 600) ∧ a0 156 (x1.toNat) ≤ x2) ∧ x2 ≤ a0 146 0) ∨ (0 = 0 ∧ (((((x1 < 0 ∨ a0 146 9 ≤ x1) ∨ ¬ a0 159 (x1.toNat) = 0 - 1) ∨ a0 146 17 = 600) ∨ x2 < a0 156 (x1.toNat)) ∨ a0 146 0 < x2))) from by omega), (fun h => absurd h (by decide)), (fun _ => cvR_fr hfe rfl)⟩
theorem cr_X12_arrive_24 (E : jxE) (d : Nat) (hd : Nat.ble 2 (d + 1) = true) (x1 x2 : Int) (a0 b0 : Nat → Nat → Int) (hv0 : iv a0) : ∀ (y1 y2 : Int) (a : Nat → Nat → Int), iv a → jfr jW_X12_arrive a0 a → 0 ≤ y1 → y1 ≤ 299 → 1 ≤ a0 146 9 → (jfr jWre a0 a) → (y1 = x1) → (y2 = x2) → ((0 ≤ x1 ∧ x1 < a0 146 9) ∧ a0 159 (x1.toNat) = 0 - 1) → jt (jxX E d 257 24 [some (.inr (.inr (.inl 146))), some (.inl y1), some (.inl y2)] [] (jxSH, a, b0)) (jR_X12_arrive x1 x2 a0 b0) := by
  intro y1 y2 a hv hf hi0 hi1 hi2 hfe hy1 hy2 hi6
  refine jt_eq (bq_X12_arrive_24 E d y1 y2 a b0) ?_
  have h211_ := iv_get hv0 (k := 146) (j := 9) (l := 0) (u := 300) rfl
  have e17 := hfe 146 17 rfl
  have e56 : a0 156 (y1.toNat) = a0 156 (x1.toNat) := by rw [hy1]
  have h212_ := iv_get hv (k := 146) (j := 17) (l := 0) (u := 600) rfl
  refine jt_ite (fun c213_ => ?_) (fun c213_ => ?_)
  ·
    have h214_ := iv_get hv0 (k := 146) (j := 17) (l := 0) (u := 600) rfl
    have h215_ := iv_get hv0 (k := 156) (j := x1.toNat) (l := 0) (u := 1999) rfl
    have h216_ := iv_get hv0 (k := 146) (j := 0) (l := 0) (u := 1999) rfl
    exact cr_X12_arrive_51 E d hd x1 x2 a0 b0 hv0 a hv hf hfe (show (((((x1 < 0 ∨ a0 146 9 ≤ x1) ∨ ¬ a0 159 (x1.toNat) = 0 - 1) ∨ a0 146 17 = 600) ∨ x2 < a0 156 (x1.toNat)) ∨ a0 146 0 < x2) from by omega)
  ·
    refine jt_grd (by omega) ?_
    refine jt_eI (eq_X12_in E d (jd_le hd rfl) y2 (a 156 (y1.toNat)) (a 146 0) a b0) ?_
    have h217_ := iv_get hv (k := 156) (j := y1.toNat) (l := 0) (u := 1999) rfl
    have h218_ : a 156 (y1.toNat) = a0 156 (y1.toNat) := hf 156 (y1.toNat) rfl
    have h219_ := iv_get hv0 (k := 156) (j := y1.toNat) (l := 0) (u := 1999) rfl
    have h220_ := iv_get hv (k := 146) (j := 0) (l := 0) (u := 1999) rfl
    have h221_ : a 146 0 = a0 146 0 := hf 146 0 rfl
    have h222_ := iv_get hv0 (k := 146) (j := 0) (l := 0) (u := 1999) rfl
    have h223_ := f_X12_in_eq a b0 y2 (a 156 (y1.toNat)) (a 146 0)
    refine jt_ite (fun c224_ => ?_) (fun c224_ => ?_)
    ·
      have h225_ := iv_get hv0 (k := 146) (j := 17) (l := 0) (u := 600) rfl
      have h226_ := iv_get hv0 (k := 156) (j := x1.toNat) (l := 0) (u := 1999) rfl
      exact cr_X12_arrive_51 E d hd x1 x2 a0 b0 hv0 a hv hf hfe (show (((((x1 < 0 ∨ a0 146 9 ≤ x1) ∨ ¬ a0 159 (x1.toNat) = 0 - 1) ∨ a0 146 17 = 600) ∨ x2 < a0 156 (x1.toNat)) ∨ a0 146 0 < x2) from by omega)
    ·
      refine jt_bV (sq_X12_tells E d (jd_le hd rfl) y1 y2 a b0 hv (show (0 ≤ y1 ∧ y1 ≤ 299) from by omega) (show a 146 17 ≤ 599 from by omega)) (fun a227_ b227_ h227_ => ?_)
      obtain ⟨hv227_, hf227_, rfl, hq227_0⟩ := h227_
      have hf228_ : jfr jW_X12_arrive a0 a227_ := jfr_tr hf hf227_ rfl
      have h229_ := iv_get hv0 (k := 146) (j := 17) (l := 0) (u := 600) rfl
      have h230_ := iv_get hv0 (k := 156) (j := x1.toNat) (l := 0) (u := 1999) rfl
      exact cr_X12_arrive_59 E d hd x1 x2 a0 b0 hv0 a227_ hv227_ hf228_ (show 1 ≤ a0 146 9 from by omega) (show (((((0 ≤ x1 ∧ x1 < a0 146 9) ∧ a0 159 (x1.toNat) = 0 - 1) ∧ ¬ a0 146 17 = 600) ∧ a0 156 (x1.toNat) ≤ x2) ∧ x2 ≤ a0 146 0) from by omega) (by have q := hq227_0; rw [hy1, hy2, hfe 146 0 rfl, show cvR a = cvR a0 from cvR_fr hfe rfl] at q; exact q)
theorem sq_X12_arrive (E : jxE) (d : Nat) (hd : Nat.ble 2 d = true) (x1 x2 : Int) (a0 b0 : Nat → Nat → Int) (hv0 : iv a0) : jt (jxC E d 257 [.inr (.inr (.inl 146)), .inl x1, .inl x2] (jxSH, a0, b0)) (jR_X12_arrive x1 x2 a0 b0) := by
  obtain ⟨d, rfl⟩ := jd_succ hd
  refine jt_eq (bq_X12_arrive E d x1 x2 a0 b0) ?_
  refine jt_eI (eq_X12_in E d (jd_le hd rfl) x1 0 (jxw ((a0 146 9) - 1)) a0 b0) ?_
  have h231_ := iv_get hv0 (k := 146) (j := 9) (l := 0) (u := 300) rfl
  have h232_ : jxw ((a0 146 9) - 1) = (a0 146 9) - 1 := jxw_id (by omega) (by omega)
  have h233_ := f_X12_in_eq a0 b0 x1 0 (jxw ((a0 146 9) - 1))
  refine jt_ite (fun c234_ => ?_) (fun c234_ => ?_)
  ·
    have h235_ := iv_get hv0 (k := 146) (j := 17) (l := 0) (u := 600) rfl
    have h236_ := iv_get hv0 (k := 156) (j := x1.toNat) (l := 0) (u := 1999) rfl
    have h237_ := iv_get hv0 (k := 146) (j := 0) (l := 0) (u := 1999) rfl
    exact cr_X12_arrive_51 E d hd x1 x2 a0 b0 hv0 a0 hv0 (jfr_rf _ _) (jfr_rf _ _) (show (((((x1 < 0 ∨ a0 146 9 ≤ x1) ∨ ¬ a0 159 (x1.toNat) = 0 - 1) ∨ a0 146 17 = 600) ∨ x2 < a0 156 (x1.toNat)) ∨ a0 146 0 < x2) from by omega)
  ·
    refine jt_grd (by omega) ?_
    refine jt_ite (fun c238_ => ?_) (fun c238_ => ?_)
    ·
      exact cr_X12_arrive_24 E d hd x1 x2 a0 b0 hv0 x1 x2 a0 hv0 (jfr_rf _ _) (show 0 ≤ x1 from by omega) (show x1 ≤ 299 from by omega) (show 1 ≤ a0 146 9 from by omega) (jfr_rf _ _) (by first | rfl | assumption) (by first | rfl | assumption) (show ((0 ≤ x1 ∧ x1 < a0 146 9) ∧ a0 159 (x1.toNat) = 0 - 1) from by omega)
    ·
      have h239_ := iv_get hv0 (k := 146) (j := 17) (l := 0) (u := 600) rfl
      have h240_ := iv_get hv0 (k := 156) (j := x1.toNat) (l := 0) (u := 1999) rfl
      have h241_ := iv_get hv0 (k := 146) (j := 0) (l := 0) (u := 1999) rfl
      exact cr_X12_arrive_51 E d hd x1 x2 a0 b0 hv0 a0 hv0 (jfr_rf _ _) (jfr_rf _ _) (show (((((x1 < 0 ∨ a0 146 9 ≤ x1) ∨ ¬ a0 159 (x1.toNat) = 0 - 1) ∨ a0 146 17 = 600) ∨ x2 < a0 156 (x1.toNat)) ∨ a0 146 0 < x2) from by omega)
abbrev jR_X12_spans (x1 x2 : Int) (a0 b0 : Nat → Nat → Int) : List jxV → (Nat → Nat → Int) → (Nat → Nat → Int) → Prop := rV (fun a b => (iv a) ∧ (jfr jW_X12_spans a0 a) ∧ (b0 = b) ∧ ((a0 146 17 = 0 → a 146 39 = 0)) ∧ ((a 146 39, a 146 40, a 146 41) = SPR a0 x1 x2))
theorem cr_X12_spans_24 (E : jxE) (d : Nat) (hd : Nat.ble 1 (d + 1) = true) (x1 x2 : Int) (a0 b0 : Nat → Nat → Int) (hv0 : iv a0) : ∀ n : Nat, (∀ (y1 y2 y3 : Int) (a : Nat → Nat → Int), (((y3 + 1) * 1) + 0).toNat ≤ n → iv a → jfr jW_X12_spans a0 a → 0 ≤ y3 → y3 ≤ 599 → 1 ≤ a0 146 17 → y1 = x1 → y2 = x2 → 0 ≤ y3 → y3 < a0 146 17 → y3 ≤ 599 → (SPN (pR a0 x1 x2) (dR a0) 1 y3.toNat (a 146 39, a 146 40, a 146 41) = SPR a0 x1 x2) → jt (jxX E d 238 182 [some (.inr (.inr (.inl 146))), some (.inl y1), some (.inl y2), some (.inl y3), none, none] [] (jxSH, a, b0)) (jR_X12_spans x1 x2 a0 b0)) ∧ (∀ (y1 y2 y3 s1 : Int) (a : Nat → Nat → Int), (((y3 + 1) * 1) + 0).toNat ≤ n → iv a → jfr jW_X12_spans a0 a → 0 ≤ y1 → y1 ≤ 15 → 0 ≤ y2 → y2 ≤ 15 → 0 ≤ y3 → y3 ≤ 599 → a 146 39 ≤ 9 → 1 ≤ a0 146 17 → y1 = x1 → y2 = x2 → 0 ≤ y3 → y3 < a0 146 17 → y3 ≤ 599 → a 146 39 < 10 → (SPN (pR a0 x1 x2) (dR a0) 1 y3.toNat (a 146 39 + 1, a 146 40, s1) = SPR a0 x1 x2) → jt (jxX E d 238 169 [some (.inr (.inr (.inl 146))), some (.inl y1), some (.inl y2), some (.inl y3), none, none] [.inl s1, .inr (.inr (.inl 146))] (jxSH, a, b0)) (jR_X12_spans x1 x2 a0 b0)) ∧ (∀ (y1 y2 y3 y5 s1 : Int) (a : Nat → Nat → Int), (((y3 + 1) * 1) + 0).toNat ≤ n → iv a → jfr jW_X12_spans a0 a → 0 ≤ y1 → y1 ≤ 15 → 0 ≤ y2 → y2 ≤ 15 → 0 ≤ y3 → y3 ≤ 599 → a 146 39 ≤ 9 → 1 ≤ a0 146 17 → y1 = x1 → y2 = x2 → 0 ≤ y3 → y3 < a0 146 17 → y3 ≤ 599 → a 146 39 < 10 → (SPN (pR a0 x1 x2) (dR a0) 1 (y3.toNat + 1) (a 146 39, a 146 40, a 146 41) = SPR a0 x1 x2) → (pR a0 x1 x2 y3.toNat = 1) → (y5 = dR a0 y3.toNat) → (s1 = if y5 < a 146 40 then y5 else a 146 40) → jt (jxX E d 238 147 [some (.inr (.inr (.inl 146))), some (.inl y1), some (.inl y2), some (.inl y3), none, some (.inl y5)] [.inl s1, .inr (.inr (.inl 146))] (jxSH, a, b0)) (jR_X12_spans x1 x2 a0 b0)) ∧ (∀ (y1 y2 y3 y5 : Int) (a : Nat → Nat → Int), (((y3 + 1) * 1) + 0).toNat ≤ n → iv a → jfr jW_X12_spans a0 a → 0 ≤ y1 → y1 ≤ 15 → 0 ≤ y2 → y2 ≤ 15 → 0 ≤ y3 → y3 ≤ 599 → a 146 39 ≤ 9 → 1 ≤ a0 146 17 → y1 = x1 → y2 = x2 → 0 ≤ y3 → y3 < a0 146 17 → y3 ≤ 599 → a 146 39 < 10 → (SPN (pR a0 x1 x2) (dR a0) 1 (y3.toNat + 1) (a 146 39, a 146 40, a 146 41) = SPR a0 x1 x2) → (pR a0 x1 x2 y3.toNat = 1) → (y5 = dR a0 y3.toNat) → jt (jxX E d 238 128 [some (.inr (.inr (.inl 146))), some (.inl y1), some (.inl y2), some (.inl y3), none, some (.inl y5)] [] (jxSH, a, b0)) (jR_X12_spans x1 x2 a0 b0)) ∧ (∀ (y1 y2 y3 y4 : Int) (a : Nat → Nat → Int), (((y3 + 1) * 1) + 0).toNat ≤ n → iv a → jfr jW_X12_spans a0 a → 0 ≤ y1 → y1 ≤ 15 → 0 ≤ y3 → y3 ≤ 599 → 0 ≤ y4 → y4 ≤ 299 → a 146 39 ≤ 9 → 1 ≤ a0 146 17 → y1 = x1 → y2 = x2 → 0 ≤ y3 → y3 < a0 146 17 → y3 ≤ 599 → a 146 39 < 10 → (SPN (pR a0 x1 x2) (dR a0) 1 (y3.toNat + 1) (a 146 39, a 146 40, a 146 41) = SPR a0 x1 x2) → (y4 = a0 161 y3.toNat) → (a0 160 y4.toNat = y3) → (¬ a0 162 y3.toNat = -1 ∧ a0 159 y4.toNat = -1 ∧ a0 148 (a0 154 y4.toNat).toNat = x1) → jt (jxX E d 238 93 [some (.inr (.inr (.inl 146))), some (.inl y1), some (.inl y2), some (.inl y3), some (.inl y4), none] [] (jxSH, a, b0)) (jR_X12_spans x1 x2 a0 b0)) ∧ (∀ (y1 y2 y3 y4 : Int) (a : Nat → Nat → Int), (((y3 + 1) * 1) + 0).toNat ≤ n → iv a → jfr jW_X12_spans a0 a → 0 ≤ y3 → y3 ≤ 599 → 0 ≤ y4 → y4 ≤ 299 → a 146 39 ≤ 9 → 1 ≤ a0 146 17 → y1 = x1 → y2 = x2 → 0 ≤ y3 → y3 < a0 146 17 → y3 ≤ 599 → a 146 39 < 10 → (SPN (pR a0 x1 x2) (dR a0) 1 (y3.toNat + 1) (a 146 39, a 146 40, a 146 41) = SPR a0 x1 x2) → (y4 = a0 161 y3.toNat) → (a0 160 y4.toNat = y3) → jt (jxX E d 238 56 [some (.inr (.inr (.inl 146))), some (.inl y1), some (.inl y2), some (.inl y3), some (.inl y4), none] [] (jxSH, a, b0)) (jR_X12_spans x1 x2 a0 b0)) ∧ (∀ (y1 y2 y3 : Int) (a : Nat → Nat → Int), (((y3 + 1) * 1) + 0).toNat ≤ n → iv a → jfr jW_X12_spans a0 a → 0 - 1 ≤ y3 → y3 ≤ 599 → (a0 146 17 = 0 → (y3 < 0 ∧ a 146 39 = 0)) → y1 = x1 → y2 = x2 → 0 - 1 ≤ y3 → y3 < a0 146 17 → (SPN (pR a0 x1 x2) (dR a0) 1 (y3 + 1).toNat (a 146 39, a 146 40, a 146 41) = SPR a0 x1 x2) → jt (jxX E d 238 24 [some (.inr (.inr (.inl 146))), some (.inl y1), some (.inl y2), some (.inl y3), none, none] [] (jxSH, a, b0)) (jR_X12_spans x1 x2 a0 b0)) := by
  refine jx_ind fun n ih => ?_
  have ih182 : ∀ (y1 y2 y3 : Int) (a : Nat → Nat → Int), (((y3 + 1) * 1) + 0).toNat < n → iv a → jfr jW_X12_spans a0 a → 0 ≤ y3 → y3 ≤ 599 → 1 ≤ a0 146 17 → y1 = x1 → y2 = x2 → 0 ≤ y3 → y3 < a0 146 17 → y3 ≤ 599 → (SPN (pR a0 x1 x2) (dR a0) 1 y3.toNat (a 146 39, a 146 40, a 146 41) = SPR a0 x1 x2) → jt (jxX E d 238 182 [some (.inr (.inr (.inl 146))), some (.inl y1), some (.inl y2), some (.inl y3), none, none] [] (jxSH, a, b0)) (jR_X12_spans x1 x2 a0 b0) := fun y1 y2 y3 a hlt i0 i1 i2 i3 i4 i5 i6 i7 i8 i9 i10 => (ih _ hlt).1 y1 y2 y3 a (Nat.le_refl _) i0 i1 i2 i3 i4 i5 i6 i7 i8 i9 i10
  have ih169 : ∀ (y1 y2 y3 s1 : Int) (a : Nat → Nat → Int), (((y3 + 1) * 1) + 0).toNat < n → iv a → jfr jW_X12_spans a0 a → 0 ≤ y1 → y1 ≤ 15 → 0 ≤ y2 → y2 ≤ 15 → 0 ≤ y3 → y3 ≤ 599 → a 146 39 ≤ 9 → 1 ≤ a0 146 17 → y1 = x1 → y2 = x2 → 0 ≤ y3 → y3 < a0 146 17 → y3 ≤ 599 → a 146 39 < 10 → (SPN (pR a0 x1 x2) (dR a0) 1 y3.toNat (a 146 39 + 1, a 146 40, s1) = SPR a0 x1 x2) → jt (jxX E d 238 169 [some (.inr (.inr (.inl 146))), some (.inl y1), some (.inl y2), some (.inl y3), none, none] [.inl s1, .inr (.inr (.inl 146))] (jxSH, a, b0)) (jR_X12_spans x1 x2 a0 b0) := fun y1 y2 y3 s1 a hlt i0 i1 i2 i3 i4 i5 i6 i7 i8 i9 i10 i11 i12 i13 i14 i15 i16 => (ih _ hlt).2.1 y1 y2 y3 s1 a (Nat.le_refl _) i0 i1 i2 i3 i4 i5 i6 i7 i8 i9 i10 i11 i12 i13 i14 i15 i16
  have ih147 : ∀ (y1 y2 y3 y5 s1 : Int) (a : Nat → Nat → Int), (((y3 + 1) * 1) + 0).toNat < n → iv a → jfr jW_X12_spans a0 a → 0 ≤ y1 → y1 ≤ 15 → 0 ≤ y2 → y2 ≤ 15 → 0 ≤ y3 → y3 ≤ 599 → a 146 39 ≤ 9 → 1 ≤ a0 146 17 → y1 = x1 → y2 = x2 → 0 ≤ y3 → y3 < a0 146 17 → y3 ≤ 599 → a 146 39 < 10 → (SPN (pR a0 x1 x2) (dR a0) 1 (y3.toNat + 1) (a 146 39, a 146 40, a 146 41) = SPR a0 x1 x2) → (pR a0 x1 x2 y3.toNat = 1) → (y5 = dR a0 y3.toNat) → (s1 = if y5 < a 146 40 then y5 else a 146 40) → jt (jxX E d 238 147 [some (.inr (.inr (.inl 146))), some (.inl y1), some (.inl y2), some (.inl y3), none, some (.inl y5)] [.inl s1, .inr (.inr (.inl 146))] (jxSH, a, b0)) (jR_X12_spans x1 x2 a0 b0) := fun y1 y2 y3 y5 s1 a hlt i0 i1 i2 i3 i4 i5 i6 i7 i8 i9 i10 i11 i12 i13 i14 i15 i16 i17 i18 i19 => (ih _ hlt).2.2.1 y1 y2 y3 y5 s1 a (Nat.le_refl _) i0 i1 i2 i3 i4 i5 i6 i7 i8 i9 i10 i11 i12 i13 i14 i15 i16 i17 i18 i19
  have ih128 : ∀ (y1 y2 y3 y5 : Int) (a : Nat → Nat → Int), (((y3 + 1) * 1) + 0).toNat < n → iv a → jfr jW_X12_spans a0 a → 0 ≤ y1 → y1 ≤ 15 → 0 ≤ y2 → y2 ≤ 15 → 0 ≤ y3 → y3 ≤ 599 → a 146 39 ≤ 9 → 1 ≤ a0 146 17 → y1 = x1 → y2 = x2 → 0 ≤ y3 → y3 < a0 146 17 → y3 ≤ 599 → a 146 39 < 10 → (SPN (pR a0 x1 x2) (dR a0) 1 (y3.toNat + 1) (a 146 39, a 146 40, a 146 41) = SPR a0 x1 x2) → (pR a0 x1 x2 y3.toNat = 1) → (y5 = dR a0 y3.toNat) → jt (jxX E d 238 128 [some (.inr (.inr (.inl 146))), some (.inl y1), some (.inl y2), some (.inl y3), none, some (.inl y5)] [] (jxSH, a, b0)) (jR_X12_spans x1 x2 a0 b0) := fun y1 y2 y3 y5 a hlt i0 i1 i2 i3 i4 i5 i6 i7 i8 i9 i10 i11 i12 i13 i14 i15 i16 i17 i18 => (ih _ hlt).2.2.2.1 y1 y2 y3 y5 a (Nat.le_refl _) i0 i1 i2 i3 i4 i5 i6 i7 i8 i9 i10 i11 i12 i13 i14 i15 i16 i17 i18
  have ih93 : ∀ (y1 y2 y3 y4 : Int) (a : Nat → Nat → Int), (((y3 + 1) * 1) + 0).toNat < n → iv a → jfr jW_X12_spans a0 a → 0 ≤ y1 → y1 ≤ 15 → 0 ≤ y3 → y3 ≤ 599 → 0 ≤ y4 → y4 ≤ 299 → a 146 39 ≤ 9 → 1 ≤ a0 146 17 → y1 = x1 → y2 = x2 → 0 ≤ y3 → y3 < a0 146 17 → y3 ≤ 599 → a 146 39 < 10 → (SPN (pR a0 x1 x2) (dR a0) 1 (y3.toNat + 1) (a 146 39, a 146 40, a 146 41) = SPR a0 x1 x2) → (y4 = a0 161 y3.toNat) → (a0 160 y4.toNat = y3) → (¬ a0 162 y3.toNat = -1 ∧ a0 159 y4.toNat = -1 ∧ a0 148 (a0 154 y4.toNat).toNat = x1) → jt (jxX E d 238 93 [some (.inr (.inr (.inl 146))), some (.inl y1), some (.inl y2), some (.inl y3), some (.inl y4), none] [] (jxSH, a, b0)) (jR_X12_spans x1 x2 a0 b0) := fun y1 y2 y3 y4 a hlt i0 i1 i2 i3 i4 i5 i6 i7 i8 i9 i10 i11 i12 i13 i14 i15 i16 i17 i18 i19 => (ih _ hlt).2.2.2.2.1 y1 y2 y3 y4 a (Nat.le_refl _) i0 i1 i2 i3 i4 i5 i6 i7 i8 i9 i10 i11 i12 i13 i14 i15 i16 i17 i18 i19
  have ih56 : ∀ (y1 y2 y3 y4 : Int) (a : Nat → Nat → Int), (((y3 + 1) * 1) + 0).toNat < n → iv a → jfr jW_X12_spans a0 a → 0 ≤ y3 → y3 ≤ 599 → 0 ≤ y4 → y4 ≤ 299 → a 146 39 ≤ 9 → 1 ≤ a0 146 17 → y1 = x1 → y2 = x2 → 0 ≤ y3 → y3 < a0 146 17 → y3 ≤ 599 → a 146 39 < 10 → (SPN (pR a0 x1 x2) (dR a0) 1 (y3.toNat + 1) (a 146 39, a 146 40, a 146 41) = SPR a0 x1 x2) → (y4 = a0 161 y3.toNat) → (a0 160 y4.toNat = y3) → jt (jxX E d 238 56 [some (.inr (.inr (.inl 146))), some (.inl y1), some (.inl y2), some (.inl y3), some (.inl y4), none] [] (jxSH, a, b0)) (jR_X12_spans x1 x2 a0 b0) := fun y1 y2 y3 y4 a hlt i0 i1 i2 i3 i4 i5 i6 i7 i8 i9 i10 i11 i12 i13 i14 i15 i16 => (ih _ hlt).2.2.2.2.2.1 y1 y2 y3 y4 a (Nat.le_refl _) i0 i1 i2 i3 i4 i5 i6 i7 i8 i9 i10 i11 i12 i13 i14 i15 i16
  have ih24 : ∀ (y1 y2 y3 : Int) (a : Nat → Nat → Int), (((y3 + 1) * 1) + 0).toNat < n → iv a → jfr jW_X12_spans a0 a → 0 - 1 ≤ y3 → y3 ≤ 599 → (a0 146 17 = 0 → (y3 < 0 ∧ a 146 39 = 0)) → y1 = x1 → y2 = x2 → 0 - 1 ≤ y3 → y3 < a0 146 17 → (SPN (pR a0 x1 x2) (dR a0) 1 (y3 + 1).toNat (a 146 39, a 146 40, a 146 41) = SPR a0 x1 x2) → jt (jxX E d 238 24 [some (.inr (.inr (.inl 146))), some (.inl y1), some (.inl y2), some (.inl y3), none, none] [] (jxSH, a, b0)) (jR_X12_spans x1 x2 a0 b0) := fun y1 y2 y3 a hlt i0 i1 i2 i3 i4 i5 i6 i7 i8 i9 => (ih _ hlt).2.2.2.2.2.2 y1 y2 y3 a (Nat.le_refl _) i0 i1 i2 i3 i4 i5 i6 i7 i8 i9
  have hc182 : ∀ (y1 y2 y3 : Int) (a : Nat → Nat → Int), (((y3 + 1) * 1) + 0).toNat ≤ n → iv a → jfr jW_X12_spans a0 a → 0 ≤ y3 → y3 ≤ 599 → 1 ≤ a0 146 17 → y1 = x1 → y2 = x2 → 0 ≤ y3 → y3 < a0 146 17 → y3 ≤ 599 → (SPN (pR a0 x1 x2) (dR a0) 1 y3.toNat (a 146 39, a 146 40, a 146 41) = SPR a0 x1 x2) → jt (jxX E d 238 182 [some (.inr (.inr (.inl 146))), some (.inl y1), some (.inl y2), some (.inl y3), none, none] [] (jxSH, a, b0)) (jR_X12_spans x1 x2 a0 b0) := by
    intro y1 y2 y3 a hm hv hf hi0 hi1 hi2 hi3 hi4 hi5 hi6 hi7 hm
    refine jt_eq (bq_X12_spans_182 E d y1 y2 y3 a b0) ?_
    have h242_ := iv_get hv0 (k := 146) (j := 17) (l := 0) (u := 600) rfl
    have h243_ : jxw (y3 + (-1)) = y3 + (-1) := jxw_id (by omega) (by omega)
    have h244_ := iv_get hv (k := 146) (j := 39) (l := 0) (u := 10) rfl
    exact ih24 y1 y2 (jxw (y3 + (-1))) a (show ((((jxw (y3 + (-1))) + 1) * 1) + 0).toNat < n from by omega) hv hf (show 0 - 1 ≤ jxw (y3 + (-1)) from by omega) (show jxw (y3 + (-1)) ≤ 599 from by omega) (show (a0 146 17 = 0 → (jxw (y3 + (-1)) < 0 ∧ a 146 39 = 0)) from by omega) (show y1 = x1 from by omega) (show y2 = x2 from by omega) (show 0 - 1 ≤ jxw (y3 + (-1)) from by omega) (show jxw (y3 + (-1)) < a0 146 17 from by omega) (by rw [show (jxw (y3 + (-1)) + 1).toNat = y3.toNat from by omega]; exact hm)
  have hc169 : ∀ (y1 y2 y3 s1 : Int) (a : Nat → Nat → Int), (((y3 + 1) * 1) + 0).toNat ≤ n → iv a → jfr jW_X12_spans a0 a → 0 ≤ y1 → y1 ≤ 15 → 0 ≤ y2 → y2 ≤ 15 → 0 ≤ y3 → y3 ≤ 599 → a 146 39 ≤ 9 → 1 ≤ a0 146 17 → y1 = x1 → y2 = x2 → 0 ≤ y3 → y3 < a0 146 17 → y3 ≤ 599 → a 146 39 < 10 → (SPN (pR a0 x1 x2) (dR a0) 1 y3.toNat (a 146 39 + 1, a 146 40, s1) = SPR a0 x1 x2) → jt (jxX E d 238 169 [some (.inr (.inr (.inl 146))), some (.inl y1), some (.inl y2), some (.inl y3), none, none] [.inl s1, .inr (.inr (.inl 146))] (jxSH, a, b0)) (jR_X12_spans x1 x2 a0 b0) := by
    intro y1 y2 y3 s1 a hm hv hf hi0 hi1 hi2 hi3 hi4 hi5 hi6 hi7 hi8 hi9 hi10 hi11 hi12 hi13 hm
    refine jt_eq (bq_X12_spans_169 E d y1 y2 y3 s1 a b0) ?_
    have h245_ := iv_get hv (k := 146) (j := 39) (l := 0) (u := 10) rfl
    have h246_ := iv_get hv0 (k := 146) (j := 17) (l := 0) (u := 600) rfl
    have hv247_ : iv (jxu a 146 41 s1) := iv_putf hv rfl
    have h249_ : jxw ((a 146 39) + 1) = (a 146 39) + 1 := jxw_id (by omega) (by omega)
    have hv248_ : iv (jxu (jxu a 146 41 s1) 146 39 (jxw ((a 146 39) + 1))) := iv_put hv247_ (l := 0) (u := 10) rfl (by omega) (by omega)
    have hf250_ : jfr jW_X12_spans a0 (jxu a 146 41 s1) := jfr_put hf rfl
    have hf251_ : jfr jW_X12_spans a0 (jxu (jxu a 146 41 s1) 146 39 (jxw ((a 146 39) + 1))) := jfr_put hf250_ rfl
    exact hc182 y1 y2 y3 (jxu (jxu a 146 41 s1) 146 39 (jxw ((a 146 39) + 1))) (show (((y3 + 1) * 1) + 0).toNat ≤ n from by omega) hv248_ hf251_ (show 0 ≤ y3 from by omega) (show y3 ≤ 599 from by omega) (show 1 ≤ a0 146 17 from by omega) (show y1 = x1 from by omega) (show y2 = x2 from by omega) (show 0 ≤ y3 from by omega) (show y3 < a0 146 17 from by omega) (show y3 ≤ 599 from by omega) (by show SPN _ _ 1 y3.toNat (jxw ((a 146 39) + 1), a 146 40, s1) = _; rw [show jxw ((a 146 39) + 1) = a 146 39 + 1 from by omega]; exact hm)
  have hc147 : ∀ (y1 y2 y3 y5 s1 : Int) (a : Nat → Nat → Int), (((y3 + 1) * 1) + 0).toNat ≤ n → iv a → jfr jW_X12_spans a0 a → 0 ≤ y1 → y1 ≤ 15 → 0 ≤ y2 → y2 ≤ 15 → 0 ≤ y3 → y3 ≤ 599 → a 146 39 ≤ 9 → 1 ≤ a0 146 17 → y1 = x1 → y2 = x2 → 0 ≤ y3 → y3 < a0 146 17 → y3 ≤ 599 → a 146 39 < 10 → (SPN (pR a0 x1 x2) (dR a0) 1 (y3.toNat + 1) (a 146 39, a 146 40, a 146 41) = SPR a0 x1 x2) → (pR a0 x1 x2 y3.toNat = 1) → (y5 = dR a0 y3.toNat) → (s1 = if y5 < a 146 40 then y5 else a 146 40) → jt (jxX E d 238 147 [some (.inr (.inr (.inl 146))), some (.inl y1), some (.inl y2), some (.inl y3), none, some (.inl y5)] [.inl s1, .inr (.inr (.inl 146))] (jxSH, a, b0)) (jR_X12_spans x1 x2 a0 b0) := by
    intro y1 y2 y3 y5 s1 a hm hv hf hi0 hi1 hi2 hi3 hi4 hi5 hi6 hi7 hi8 hi9 hi10 hi11 hi12 hi13 hm hp hy5 hs1
    refine jt_eq (bq_X12_spans_147 E d y1 y2 y3 y5 s1 a b0) ?_
    have h252_ := iv_get hv (k := 146) (j := 39) (l := 0) (u := 10) rfl
    have h253_ := iv_get hv0 (k := 146) (j := 17) (l := 0) (u := 600) rfl
    refine jt_ite (fun c254_ => ?_) (fun c254_ => ?_)
    ·
      have hv255_ : iv (jxu a 146 40 s1) := iv_putf hv rfl
      have hf256_ : jfr jW_X12_spans a0 (jxu a 146 40 s1) := jfr_put hf rfl
      exact hc169 y1 y2 y3 y5 (jxu a 146 40 s1) (show (((y3 + 1) * 1) + 0).toNat ≤ n from by omega) hv255_ hf256_ (show 0 ≤ y1 from by omega) (show y1 ≤ 15 from by omega) (show 0 ≤ y2 from by omega) (show y2 ≤ 15 from by omega) (show 0 ≤ y3 from by omega) (show y3 ≤ 599 from by omega) (show a 146 39 ≤ 9 from by omega) (show 1 ≤ a0 146 17 from by omega) (show y1 = x1 from by omega) (show y2 = x2 from by omega) (show 0 ≤ y3 from by omega) (show y3 < a0 146 17 from by omega) (show y3 ≤ 599 from by omega) (show a 146 39 < 10 from by omega) (by have q := hm; rw [SPN_yes (by omega) hp, if_neg (fun z => absurd z.2 (by decide)), ← hy5, ← hs1] at q; first | (rw [if_pos (by assumption)] at q; exact q) | (rw [if_neg (by assumption)] at q; exact q))
    ·
      have hv257_ : iv (jxu a 146 40 s1) := iv_putf hv rfl
      have hf258_ : jfr jW_X12_spans a0 (jxu a 146 40 s1) := jfr_put hf rfl
      exact hc169 y1 y2 y3 (a 146 41) (jxu a 146 40 s1) (show (((y3 + 1) * 1) + 0).toNat ≤ n from by omega) hv257_ hf258_ (show 0 ≤ y1 from by omega) (show y1 ≤ 15 from by omega) (show 0 ≤ y2 from by omega) (show y2 ≤ 15 from by omega) (show 0 ≤ y3 from by omega) (show y3 ≤ 599 from by omega) (show a 146 39 ≤ 9 from by omega) (show 1 ≤ a0 146 17 from by omega) (show y1 = x1 from by omega) (show y2 = x2 from by omega) (show 0 ≤ y3 from by omega) (show y3 < a0 146 17 from by omega) (show y3 ≤ 599 from by omega) (show a 146 39 < 10 from by omega) (by have q := hm; rw [SPN_yes (by omega) hp, if_neg (fun z => absurd z.2 (by decide)), ← hy5, ← hs1] at q; first | (rw [if_pos (by assumption)] at q; exact q) | (rw [if_neg (by assumption)] at q; exact q))
  have hc128 : ∀ (y1 y2 y3 y5 : Int) (a : Nat → Nat → Int), (((y3 + 1) * 1) + 0).toNat ≤ n → iv a → jfr jW_X12_spans a0 a → 0 ≤ y1 → y1 ≤ 15 → 0 ≤ y2 → y2 ≤ 15 → 0 ≤ y3 → y3 ≤ 599 → a 146 39 ≤ 9 → 1 ≤ a0 146 17 → y1 = x1 → y2 = x2 → 0 ≤ y3 → y3 < a0 146 17 → y3 ≤ 599 → a 146 39 < 10 → (SPN (pR a0 x1 x2) (dR a0) 1 (y3.toNat + 1) (a 146 39, a 146 40, a 146 41) = SPR a0 x1 x2) → (pR a0 x1 x2 y3.toNat = 1) → (y5 = dR a0 y3.toNat) → jt (jxX E d 238 128 [some (.inr (.inr (.inl 146))), some (.inl y1), some (.inl y2), some (.inl y3), none, some (.inl y5)] [] (jxSH, a, b0)) (jR_X12_spans x1 x2 a0 b0) := by
    intro y1 y2 y3 y5 a hm hv hf hi0 hi1 hi2 hi3 hi4 hi5 hi6 hi7 hi8 hi9 hi10 hi11 hi12 hi13 hm hp hy5
    refine jt_eq (bq_X12_spans_128 E d y1 y2 y3 y5 a b0) ?_
    have h259_ := iv_get hv (k := 146) (j := 39) (l := 0) (u := 10) rfl
    have h260_ := iv_get hv0 (k := 146) (j := 17) (l := 0) (u := 600) rfl
    refine jt_ite (fun c261_ => ?_) (fun c261_ => ?_)
    ·
      exact hc147 y1 y2 y3 y5 y5 a (show (((y3 + 1) * 1) + 0).toNat ≤ n from by omega) hv hf (show 0 ≤ y1 from by omega) (show y1 ≤ 15 from by omega) (show 0 ≤ y2 from by omega) (show y2 ≤ 15 from by omega) (show 0 ≤ y3 from by omega) (show y3 ≤ 599 from by omega) (show a 146 39 ≤ 9 from by omega) (show 1 ≤ a0 146 17 from by omega) (show y1 = x1 from by omega) (show y2 = x2 from by omega) (show 0 ≤ y3 from by omega) (show y3 < a0 146 17 from by omega) (show y3 ≤ 599 from by omega) (show a 146 39 < 10 from by omega) hm hp hy5 (by first | rw [if_pos (by assumption)] | rw [if_neg (by assumption)])
    ·
      exact hc147 y1 y2 y3 y5 (a 146 40) a (show (((y3 + 1) * 1) + 0).toNat ≤ n from by omega) hv hf (show 0 ≤ y1 from by omega) (show y1 ≤ 15 from by omega) (show 0 ≤ y2 from by omega) (show y2 ≤ 15 from by omega) (show 0 ≤ y3 from by omega) (show y3 ≤ 599 from by omega) (show a 146 39 ≤ 9 from by omega) (show 1 ≤ a0 146 17 from by omega) (show y1 = x1 from by omega) (show y2 = x2 from by omega) (show 0 ≤ y3 from by omega) (show y3 < a0 146 17 from by omega) (show y3 ≤ 599 from by omega) (show a 146 39 < 10 from by omega) hm hp hy5 (by first | rw [if_pos (by assumption)] | rw [if_neg (by assumption)])
  have hc93 : ∀ (y1 y2 y3 y4 : Int) (a : Nat → Nat → Int), (((y3 + 1) * 1) + 0).toNat ≤ n → iv a → jfr jW_X12_spans a0 a → 0 ≤ y1 → y1 ≤ 15 → 0 ≤ y3 → y3 ≤ 599 → 0 ≤ y4 → y4 ≤ 299 → a 146 39 ≤ 9 → 1 ≤ a0 146 17 → y1 = x1 → y2 = x2 → 0 ≤ y3 → y3 < a0 146 17 → y3 ≤ 599 → a 146 39 < 10 → (SPN (pR a0 x1 x2) (dR a0) 1 (y3.toNat + 1) (a 146 39, a 146 40, a 146 41) = SPR a0 x1 x2) → (y4 = a0 161 y3.toNat) → (a0 160 y4.toNat = y3) → (¬ a0 162 y3.toNat = -1 ∧ a0 159 y4.toNat = -1 ∧ a0 148 (a0 154 y4.toNat).toNat = x1) → jt (jxX E d 238 93 [some (.inr (.inr (.inl 146))), some (.inl y1), some (.inl y2), some (.inl y3), some (.inl y4), none] [] (jxSH, a, b0)) (jR_X12_spans x1 x2 a0 b0) := by
    intro y1 y2 y3 y4 a hm hv hf hi0 hi1 hi2 hi3 hi4 hi5 hi6 hi7 hi8 hi9 hi10 hi11 hi12 hi13 hm hy4 hlt hq93
    refine jt_eq (bq_X12_spans_93 E d y1 y2 y3 y4 a b0) ?_
    have h262_ := iv_get hv (k := 146) (j := 39) (l := 0) (u := 10) rfl
    have h263_ := iv_get hv0 (k := 146) (j := 17) (l := 0) (u := 600) rfl
    refine jt_grd (by omega) ?_
    have h264_ := iv_get hv (k := 155) (j := y4.toNat) (l := 0) (u := 39) rfl
    have h265_ : a 155 (y4.toNat) = a0 155 (y4.toNat) := hf 155 (y4.toNat) rfl
    have h266_ := iv_get hv0 (k := 155) (j := y4.toNat) (l := 0) (u := 39) rfl
    refine jt_grd (by omega) ?_
    have h267_ := iv_get hv (k := 148) (j := (a 155 (y4.toNat)).toNat) (l := 0) (u := 15) rfl
    have h268_ : a 148 ((a 155 (y4.toNat)).toNat) = a0 148 ((a 155 (y4.toNat)).toNat) := hf 148 ((a 155 (y4.toNat)).toNat) rfl
    have h269_ := iv_get hv0 (k := 148) (j := (a 155 (y4.toNat)).toNat) (l := 0) (u := 15) rfl
    refine jt_ite (fun c270_ => ?_) (fun c270_ => ?_)
    ·
      refine jt_grd (by omega) ?_
      refine jt_grd (by omega) ?_
      have h271_ : a 162 (y3.toNat) = a0 162 (y3.toNat) := hf 162 (y3.toNat) rfl
      have h272_ := iv_get hv (k := 156) (j := y4.toNat) (l := 0) (u := 1999) rfl
      have h273_ : a 156 (y4.toNat) = a0 156 (y4.toNat) := hf 156 (y4.toNat) rfl
      have h274_ := iv_get hv0 (k := 156) (j := y4.toNat) (l := 0) (u := 1999) rfl
      have h275_ := jxw_im ((a 162 (y3.toNat)) - (a 156 (y4.toNat)))
      have h276_ := jxw_rg ((a 162 (y3.toNat)) - (a 156 (y4.toNat)))
      exact hc128 y1 y2 y3 (jxw ((a 162 (y3.toNat)) - (a 156 (y4.toNat)))) a (show (((y3 + 1) * 1) + 0).toNat ≤ n from by omega) hv hf (show 0 ≤ y1 from by omega) (show y1 ≤ 15 from by omega) (show 0 ≤ y2 from by omega) (show y2 ≤ 15 from by omega) (show 0 ≤ y3 from by omega) (show y3 ≤ 599 from by omega) (show a 146 39 ≤ 9 from by omega) (show 1 ≤ a0 146 17 from by omega) (show y1 = x1 from by omega) (show y2 = x2 from by omega) (show 0 ≤ y3 from by omega) (show y3 < a0 146 17 from by omega) (show y3 ≤ 599 from by omega) (show a 146 39 < 10 from by omega) hm (pR_iff.2 (by rw [← hy4]; have e3 := hf 155 (y4.toNat) rfl; have e4 := hf 148 ((a 155 (y4.toNat)).toNat) rfl; rw [e3] at e4; exact ⟨by rw [hlt]; omega, hq93.1, hq93.2.1, hq93.2.2, by rw [← e4, ← e3]; omega⟩)) (by show _ = jxw (a0 162 y3.toNat - a0 156 (a0 161 y3.toNat).toNat); rw [← hy4, hf 162 _ rfl, hf 156 _ rfl])
    ·
      exact hc182 y1 y2 y3 a (show (((y3 + 1) * 1) + 0).toNat ≤ n from by omega) hv hf (show 0 ≤ y3 from by omega) (show y3 ≤ 599 from by omega) (show 1 ≤ a0 146 17 from by omega) (show y1 = x1 from by omega) (show y2 = x2 from by omega) (show 0 ≤ y3 from by omega) (show y3 < a0 146 17 from by omega) (show y3 ≤ 599 from by omega) (by have q := hm; rw [SPN_no (by omega) (fun h => by have z := pR_iff.1 h; rw [← hy4] at z; have e1 := hf 162 (y3.toNat) rfl; have e2 := hf 159 (y4.toNat) rfl; have e3 := hf 154 (y4.toNat) rfl; have e4 := hf 148 ((a 154 (y4.toNat)).toNat) rfl; have e5 := hf 155 (y4.toNat) rfl; have e6 := hf 148 ((a 155 (y4.toNat)).toNat) rfl; rw [← e3, ← e5, ← e4, ← e6] at z; omega)] at q; exact q)
  have hc56 : ∀ (y1 y2 y3 y4 : Int) (a : Nat → Nat → Int), (((y3 + 1) * 1) + 0).toNat ≤ n → iv a → jfr jW_X12_spans a0 a → 0 ≤ y3 → y3 ≤ 599 → 0 ≤ y4 → y4 ≤ 299 → a 146 39 ≤ 9 → 1 ≤ a0 146 17 → y1 = x1 → y2 = x2 → 0 ≤ y3 → y3 < a0 146 17 → y3 ≤ 599 → a 146 39 < 10 → (SPN (pR a0 x1 x2) (dR a0) 1 (y3.toNat + 1) (a 146 39, a 146 40, a 146 41) = SPR a0 x1 x2) → (y4 = a0 161 y3.toNat) → (a0 160 y4.toNat = y3) → jt (jxX E d 238 56 [some (.inr (.inr (.inl 146))), some (.inl y1), some (.inl y2), some (.inl y3), some (.inl y4), none] [] (jxSH, a, b0)) (jR_X12_spans x1 x2 a0 b0) := by
    intro y1 y2 y3 y4 a hm hv hf hi0 hi1 hi2 hi3 hi4 hi5 hi6 hi7 hi8 hi9 hi10 hi11 hm hy4 hlt
    refine jt_eq (bq_X12_spans_56 E d y1 y2 y3 y4 a b0) ?_
    have h277_ := iv_get hv (k := 146) (j := 39) (l := 0) (u := 10) rfl
    have h278_ := iv_get hv0 (k := 146) (j := 17) (l := 0) (u := 600) rfl
    refine jt_grd (by omega) ?_
    have h279_ : a 162 (y3.toNat) = a0 162 (y3.toNat) := hf 162 (y3.toNat) rfl
    refine jt_ite (fun c280_ => ?_) (fun c280_ => ?_)
    ·
      exact hc182 y1 y2 y3 a (show (((y3 + 1) * 1) + 0).toNat ≤ n from by omega) hv hf (show 0 ≤ y3 from by omega) (show y3 ≤ 599 from by omega) (show 1 ≤ a0 146 17 from by omega) (show y1 = x1 from by omega) (show y2 = x2 from by omega) (show 0 ≤ y3 from by omega) (show y3 < a0 146 17 from by omega) (show y3 ≤ 599 from by omega) (by have q := hm; rw [SPN_no (by omega) (fun h => by have z := pR_iff.1 h; rw [← hy4] at z; have e1 := hf 162 (y3.toNat) rfl; have e2 := hf 159 (y4.toNat) rfl; have e3 := hf 154 (y4.toNat) rfl; have e4 := hf 148 ((a 154 (y4.toNat)).toNat) rfl; have e5 := hf 155 (y4.toNat) rfl; have e6 := hf 148 ((a 155 (y4.toNat)).toNat) rfl; rw [← e3, ← e5, ← e4, ← e6] at z; omega)] at q; exact q)
    ·
      refine jt_grd (by omega) ?_
      have h281_ : a 159 (y4.toNat) = a0 159 (y4.toNat) := hf 159 (y4.toNat) rfl
      refine jt_ite (fun c282_ => ?_) (fun c282_ => ?_)
      ·
        refine jt_grd (by omega) ?_
        have h283_ := iv_get hv (k := 154) (j := y4.toNat) (l := 0) (u := 39) rfl
        have h284_ : a 154 (y4.toNat) = a0 154 (y4.toNat) := hf 154 (y4.toNat) rfl
        have h285_ := iv_get hv0 (k := 154) (j := y4.toNat) (l := 0) (u := 39) rfl
        refine jt_grd (by omega) ?_
        have h286_ := iv_get hv (k := 148) (j := (a 154 (y4.toNat)).toNat) (l := 0) (u := 15) rfl
        have h287_ : a 148 ((a 154 (y4.toNat)).toNat) = a0 148 ((a 154 (y4.toNat)).toNat) := hf 148 ((a 154 (y4.toNat)).toNat) rfl
        have h288_ := iv_get hv0 (k := 148) (j := (a 154 (y4.toNat)).toNat) (l := 0) (u := 15) rfl
        refine jt_ite (fun c289_ => ?_) (fun c289_ => ?_)
        ·
          exact hc93 y1 y2 y3 y4 a (show (((y3 + 1) * 1) + 0).toNat ≤ n from by omega) hv hf (show 0 ≤ y1 from by omega) (show y1 ≤ 15 from by omega) (show 0 ≤ y3 from by omega) (show y3 ≤ 599 from by omega) (show 0 ≤ y4 from by omega) (show y4 ≤ 299 from by omega) (show a 146 39 ≤ 9 from by omega) (show 1 ≤ a0 146 17 from by omega) (show y1 = x1 from by omega) (show y2 = x2 from by omega) (show 0 ≤ y3 from by omega) (show y3 < a0 146 17 from by omega) (show y3 ≤ 599 from by omega) (show a 146 39 < 10 from by omega) hm (by first | assumption | exact hf 161 _ rfl) (by first | assumption | (rw [← hf 160 _ rfl]; assumption)) (by have e1 := hf 162 (y3.toNat) rfl; have e2 := hf 159 (y4.toNat) rfl; have e3 := hf 154 (y4.toNat) rfl; have e4 := hf 148 ((a 154 (y4.toNat)).toNat) rfl; rw [← e3, ← e4]; exact ⟨by omega, by omega, by omega⟩)
        ·
          exact hc182 y1 y2 y3 a (show (((y3 + 1) * 1) + 0).toNat ≤ n from by omega) hv hf (show 0 ≤ y3 from by omega) (show y3 ≤ 599 from by omega) (show 1 ≤ a0 146 17 from by omega) (show y1 = x1 from by omega) (show y2 = x2 from by omega) (show 0 ≤ y3 from by omega) (show y3 < a0 146 17 from by omega) (show y3 ≤ 599 from by omega) (by have q := hm; rw [SPN_no (by omega) (fun h => by have z := pR_iff.1 h; rw [← hy4] at z; have e1 := hf 162 (y3.toNat) rfl; have e2 := hf 159 (y4.toNat) rfl; have e3 := hf 154 (y4.toNat) rfl; have e4 := hf 148 ((a 154 (y4.toNat)).toNat) rfl; have e5 := hf 155 (y4.toNat) rfl; have e6 := hf 148 ((a 155 (y4.toNat)).toNat) rfl; rw [← e3, ← e5, ← e4, ← e6] at z; omega)] at q; exact q)
      ·
        exact hc182 y1 y2 y3 a (show (((y3 + 1) * 1) + 0).toNat ≤ n from by omega) hv hf (show 0 ≤ y3 from by omega) (show y3 ≤ 599 from by omega) (show 1 ≤ a0 146 17 from by omega) (show y1 = x1 from by omega) (show y2 = x2 from by omega) (show 0 ≤ y3 from by omega) (show y3 < a0 146 17 from by omega) (show y3 ≤ 599 from by omega) (by have q := hm; rw [SPN_no (by omega) (fun h => by have z := pR_iff.1 h; rw [← hy4] at z; have e1 := hf 162 (y3.toNat) rfl; have e2 := hf 159 (y4.toNat) rfl; have e3 := hf 154 (y4.toNat) rfl; have e4 := hf 148 ((a 154 (y4.toNat)).toNat) rfl; have e5 := hf 155 (y4.toNat) rfl; have e6 := hf 148 ((a 155 (y4.toNat)).toNat) rfl; rw [← e3, ← e5, ← e4, ← e6] at z; omega)] at q; exact q)
  have hc24 : ∀ (y1 y2 y3 : Int) (a : Nat → Nat → Int), (((y3 + 1) * 1) + 0).toNat ≤ n → iv a → jfr jW_X12_spans a0 a → 0 - 1 ≤ y3 → y3 ≤ 599 → (a0 146 17 = 0 → (y3 < 0 ∧ a 146 39 = 0)) → y1 = x1 → y2 = x2 → 0 - 1 ≤ y3 → y3 < a0 146 17 → (SPN (pR a0 x1 x2) (dR a0) 1 (y3 + 1).toNat (a 146 39, a 146 40, a 146 41) = SPR a0 x1 x2) → jt (jxX E d 238 24 [some (.inr (.inr (.inl 146))), some (.inl y1), some (.inl y2), some (.inl y3), none, none] [] (jxSH, a, b0)) (jR_X12_spans x1 x2 a0 b0) := by
    intro y1 y2 y3 a hm hv hf hi0 hi1 hi2 hi3 hi4 hi5 hi6 hm
    refine jt_eq (bq_X12_spans_24 E d y1 y2 y3 a b0) ?_
    have h290_ := iv_get hv0 (k := 146) (j := 17) (l := 0) (u := 600) rfl
    have h291_ := iv_get hv (k := 146) (j := 39) (l := 0) (u := 10) rfl
    refine jt_ite (fun c292_ => ?_) (fun c292_ => ?_)
    ·
      exact jt_rV ⟨hv, hf, rfl, (show (a0 146 17 = 0 → a 146 39 = 0) from by omega), (by first | (have q := hm; rw [show (y3 + 1).toNat = 0 from by omega] at q; exact q) | (have q := hm; rw [SPN_stop (by omega)] at q; exact q))⟩
    ·
      refine jt_ite (fun c293_ => ?_) (fun c293_ => ?_)
      ·
        refine jt_grd (by omega) ?_
        have h294_ := iv_get hv (k := 161) (j := y3.toNat) (l := 0) (u := 299) rfl
        have h295_ : a 161 (y3.toNat) = a0 161 (y3.toNat) := hf 161 (y3.toNat) rfl
        have h296_ := iv_get hv0 (k := 161) (j := y3.toNat) (l := 0) (u := 299) rfl
        refine jt_grd (by omega) ?_
        have h297_ := iv_get hv (k := 160) (j := (a 161 (y3.toNat)).toNat) (l := (-1)) (u := 599) rfl
        have h298_ : a 160 ((a 161 (y3.toNat)).toNat) = a0 160 ((a 161 (y3.toNat)).toNat) := hf 160 ((a 161 (y3.toNat)).toNat) rfl
        have h299_ := iv_get hv0 (k := 160) (j := (a 161 (y3.toNat)).toNat) (l := (-1)) (u := 599) rfl
        refine jt_ite (fun c300_ => ?_) (fun c300_ => ?_)
        ·
          exact hc56 y1 y2 y3 (a 161 (y3.toNat)) a (show (((y3 + 1) * 1) + 0).toNat ≤ n from by omega) hv hf (show 0 ≤ y3 from by omega) (show y3 ≤ 599 from by omega) (show 0 ≤ a 161 (y3.toNat) from by omega) (show a 161 (y3.toNat) ≤ 299 from by omega) (show a 146 39 ≤ 9 from by omega) (show 1 ≤ a0 146 17 from by omega) (show y1 = x1 from by omega) (show y2 = x2 from by omega) (show 0 ≤ y3 from by omega) (show y3 < a0 146 17 from by omega) (show y3 ≤ 599 from by omega) (show a 146 39 < 10 from by omega) (by have q := hm; rw [show (y3 + 1).toNat = y3.toNat + 1 from by omega] at q; exact q) (by first | assumption | exact hf 161 _ rfl) (by first | assumption | (rw [← hf 160 _ rfl]; assumption))
        ·
          exact hc182 y1 y2 y3 a (show (((y3 + 1) * 1) + 0).toNat ≤ n from by omega) hv hf (show 0 ≤ y3 from by omega) (show y3 ≤ 599 from by omega) (show 1 ≤ a0 146 17 from by omega) (show y1 = x1 from by omega) (show y2 = x2 from by omega) (show 0 ≤ y3 from by omega) (show y3 < a0 146 17 from by omega) (show y3 ≤ 599 from by omega) (by have q := hm; rw [show (y3 + 1).toNat = y3.toNat + 1 from by omega] at q; rw [SPN_no (by omega) (fun h => by have z := pR_iff.1 h; have e1 := hf 160 ((a 161 (y3.toNat)).toNat) rfl; have e2 := hf 161 (y3.toNat) rfl; rw [← e2] at z; omega)] at q; exact q)
      ·
        exact jt_rV ⟨hv, hf, rfl, (show (a0 146 17 = 0 → a 146 39 = 0) from by omega), (by first | (have q := hm; rw [show (y3 + 1).toNat = 0 from by omega] at q; exact q) | (have q := hm; rw [SPN_stop (by omega)] at q; exact q))⟩
  exact ⟨hc182, hc169, hc147, hc128, hc93, hc56, hc24⟩
theorem sq_X12_spans (E : jxE) (d : Nat) (hd : Nat.ble 1 d = true) (x1 x2 : Int) (a0 b0 : Nat → Nat → Int) (hv0 : iv a0) : jt (jxC E d 238 [.inr (.inr (.inl 146)), .inl x1, .inl x2] (jxSH, a0, b0)) (jR_X12_spans x1 x2 a0 b0) := by
  obtain ⟨d, rfl⟩ := jd_succ hd
  refine jt_eq (bq_X12_spans E d x1 x2 a0 b0) ?_
  have hv301_ : iv (jxu a0 146 39 0) := iv_put hv0 (l := 0) (u := 10) rfl (by omega) (by omega)
  have hv302_ : iv (jxu (jxu a0 146 39 0) 146 40 1000000) := iv_putf hv301_ rfl
  have hv303_ : iv (jxu (jxu (jxu a0 146 39 0) 146 40 1000000) 146 41 0) := iv_putf hv302_ rfl
  have hf304_ : jfr jW_X12_spans a0 (jxu a0 146 39 0) := jfr_put (jfr_rf _ _) rfl
  have hf305_ : jfr jW_X12_spans a0 (jxu (jxu a0 146 39 0) 146 40 1000000) := jfr_put hf304_ rfl
  have hf306_ : jfr jW_X12_spans a0 (jxu (jxu (jxu a0 146 39 0) 146 40 1000000) 146 41 0) := jfr_put hf305_ rfl
  have h307_ := iv_get hv0 (k := 146) (j := 17) (l := 0) (u := 600) rfl
  have h308_ : jxw ((a0 146 17) - 1) = (a0 146 17) - 1 := jxw_id (by omega) (by omega)
  exact (cr_X12_spans_24 E d hd x1 x2 a0 b0 hv0 _).2.2.2.2.2.2 x1 x2 (jxw ((a0 146 17) - 1)) (jxu (jxu (jxu a0 146 39 0) 146 40 1000000) 146 41 0) (Nat.le_refl _) hv303_ hf306_ (show 0 - 1 ≤ jxw ((a0 146 17) - 1) from by omega) (show jxw ((a0 146 17) - 1) ≤ 599 from by omega) (show (a0 146 17 = 0 → (jxw ((a0 146 17) - 1) < 0 ∧ 0 = 0)) from by omega) (show x1 = x1 from by omega) (show x2 = x2 from by omega) (show 0 - 1 ≤ jxw ((a0 146 17) - 1) from by omega) (show jxw ((a0 146 17) - 1) < a0 146 17 from by omega) (by show SPN _ _ 1 (jxw ((a0 146 17) - 1) + 1).toNat (0, 1000000, 0) = _; rw [show (jxw ((a0 146 17) - 1) + 1).toNat = (a0 146 17).toNat from by omega]; rfl)
def jWse1 : List (Nat × Nat) := [(146, 39), (146, 40), (146, 41)]
def jWse2 : List (Nat × Nat) := [(146, 39), (146, 40), (146, 41), (154, 9999), (155, 9999), (156, 9999)]
def jWse3 : List (Nat × Nat) := [(146, 39), (146, 40), (146, 41), (154, 9999), (155, 9999), (156, 9999), (157, 9999), (158, 9999), (159, 9999)]
abbrev jR_X12_sends (x1 x2 x3 : Int) (a0 b0 : Nat → Nat → Int) : List jxV → (Nat → Nat → Int) → (Nat → Nat → Int) → Prop := rI (fun r a b => (iv a) ∧ (jfr jW_X12_sends a0 a) ∧ (b0 = b) ∧ (a 146 9 = (a0 146 9) + 1) ∧ (a 154 (a0 146 9).toNat = x1 ∧ a 158 (a0 146 9).toNat = x3) ∧ (∀ c : Nat, (c : Int) < a0 146 9 → a 154 c = a0 154 c ∧ a 158 c = a0 158 c) ∧ (cvR a = vAdd (cvR a0) x1 x2 (a0 146 0) (BNR a0 (a0 148 x1.toNat) (a0 148 x2.toNat)) x3) ∧ (r = a0 146 9))
theorem cr_X12_sends_125 (E : jxE) (d : Nat) (hd : Nat.ble 2 (d + 1) = true) (x1 x2 x3 : Int) (a0 b0 : Nat → Nat → Int) (hv0 : iv a0) (hp0 : (0 ≤ x1 ∧ x1 ≤ 39)) (hp1 : (0 ≤ x2 ∧ x2 ≤ 39)) (hp2 : a0 146 9 ≤ 299) : ∀ (a : Nat → Nat → Int), iv a → jfr jW_X12_sends a0 a → (a 154 (a0 146 9).toNat = x1) → (a 158 (a0 146 9).toNat = x3) → (jfr jWse3 a0 a) → (a 154 = rup (a0 154) (a0 146 9).toNat x1 ∧ a 155 = rup (a0 155) (a0 146 9).toNat x2 ∧ a 156 = rup (a0 156) (a0 146 9).toNat (a0 146 0) ∧ a 157 = rup (a0 157) (a0 146 9).toNat (BNR a0 (a0 148 x1.toNat) (a0 148 x2.toNat)) ∧ a 158 = rup (a0 158) (a0 146 9).toNat x3 ∧ a 159 = rup (a0 159) (a0 146 9).toNat (-1)) → a 146 9 = a0 146 9 → (∀ c : Nat, (c : Int) < a0 146 9 → a 154 c = a0 154 c ∧ a 158 c = a0 158 c) → jt (jxX E d 240 125 [some (.inr (.inr (.inl 146))), none, none, none, none] [] (jxSH, a, b0)) (jR_X12_sends x1 x2 x3 a0 b0) := by
  intro a hv hf hi0 hi1 hfe hr1 hi4 hol
  refine jt_eq (bq_X12_sends_125 E d a b0) ?_
  have h309_ := iv_get hv (k := 146) (j := 9) (l := 0) (u := 300) rfl
  have h310_ := iv_get hv0 (k := 146) (j := 9) (l := 0) (u := 300) rfl
  refine jt_grd (by omega) ?_
  have hv311_ : iv (jxu a 160 ((a 146 9).toNat) (-1)) := iv_put hv (l := (-1)) (u := 599) rfl (by omega) (by omega)
  have h313_ : jxw ((a 146 9) + 1) = (a 146 9) + 1 := jxw_id (by omega) (by omega)
  have hv312_ : iv (jxu (jxu a 160 ((a 146 9).toNat) (-1)) 146 9 (jxw ((a 146 9) + 1))) := iv_put hv311_ (l := 0) (u := 300) rfl (by omega) (by omega)
  have hf314_ : jfr jW_X12_sends a0 (jxu a 160 ((a 146 9).toNat) (-1)) := jfr_put hf rfl
  have hf315_ : jfr jW_X12_sends a0 (jxu (jxu a 160 ((a 146 9).toNat) (-1)) 146 9 (jxw ((a 146 9) + 1))) := jfr_put hf314_ rfl
  have h316_ : jxw ((jxw ((a 146 9) + 1)) - 1) = (jxw ((a 146 9) + 1)) - 1 := jxw_id (by omega) (by omega)
  exact jt_rI ⟨hv312_, hf315_, rfl, (show jxw ((a 146 9) + 1) = (a0 146 9) + 1 from by omega), (by constructor <;> simp [jxu] <;> omega), (by intro c hc; have hne : ¬ c = (a 146 9).toNat := (by omega); have h9 := hol c hc; simp [jxu, hne, h9]), (mkCV_eq (show jxw ((a 146 9) + 1) = a0 146 9 + 1 from by omega) (hfe 146 17 rfl) hr1.1 hr1.2.1 hr1.2.2.1 hr1.2.2.2.1 hr1.2.2.2.2.1 hr1.2.2.2.2.2 (funext fun j => by show (if j = (a 146 9).toNat then (-1) else a 160 j) = (if j = (a0 146 9).toNat then (-1) else a0 160 j); rw [show (a 146 9).toNat = (a0 146 9).toNat from by omega, hfe 160 j rfl]; first | done | (rw [show (-1) = (-1) from by first | omega | assumption | exact hfe 146 0 rfl])) (funext fun j => hfe 161 j rfl) (funext fun j => hfe 162 j rfl) (funext fun j => hfe 163 j rfl)), (show jxw ((jxw ((a 146 9) + 1)) - 1) = a0 146 9 from by omega)⟩
theorem cr_X12_sends_94 (E : jxE) (d : Nat) (hd : Nat.ble 2 (d + 1) = true) (x1 x2 x3 : Int) (a0 b0 : Nat → Nat → Int) (hv0 : iv a0) (hp0 : (0 ≤ x1 ∧ x1 ≤ 39)) (hp1 : (0 ≤ x2 ∧ x2 ≤ 39)) (hp2 : a0 146 9 ≤ 299) : ∀ (y3 y4 : Int) (a : Nat → Nat → Int), iv a → jfr jW_X12_sends a0 a → y3 = x3 → (a 154 (a0 146 9).toNat = x1) → (jfr jWse2 a0 a) → (a 154 = rup (a0 154) (a0 146 9).toNat x1 ∧ a 155 = rup (a0 155) (a0 146 9).toNat x2 ∧ a 156 = rup (a0 156) (a0 146 9).toNat (a0 146 0)) → (y4 = BNR a0 (a0 148 x1.toNat) (a0 148 x2.toNat)) → a 146 9 = a0 146 9 → (∀ c : Nat, (c : Int) < a0 146 9 → a 154 c = a0 154 c ∧ a 158 c = a0 158 c) → jt (jxX E d 240 94 [some (.inr (.inr (.inl 146))), none, none, some (.inl y3), some (.inl y4)] [] (jxSH, a, b0)) (jR_X12_sends x1 x2 x3 a0 b0) := by
  intro y3 y4 a hv hf hi0 hi1 hfe hr1 hy4 hi5 hol
  refine jt_eq (bq_X12_sends_94 E d y3 y4 a b0) ?_
  have h317_ := iv_get hv (k := 146) (j := 9) (l := 0) (u := 300) rfl
  have h318_ := iv_get hv0 (k := 146) (j := 9) (l := 0) (u := 300) rfl
  refine jt_grd (by omega) ?_
  refine jt_grd (by omega) ?_
  refine jt_grd (by omega) ?_
  have hv319_ : iv (jxu a 157 ((a 146 9).toNat) y4) := iv_putf hv rfl
  have hv320_ : iv (jxu (jxu a 157 ((a 146 9).toNat) y4) 158 ((a 146 9).toNat) y3) := iv_putf hv319_ rfl
  have hv321_ : iv (jxu (jxu (jxu a 157 ((a 146 9).toNat) y4) 158 ((a 146 9).toNat) y3) 159 ((a 146 9).toNat) (-1)) := iv_putf hv320_ rfl
  have hf322_ : jfr jW_X12_sends a0 (jxu a 157 ((a 146 9).toNat) y4) := jfr_put hf rfl
  have hf323_ : jfr jW_X12_sends a0 (jxu (jxu a 157 ((a 146 9).toNat) y4) 158 ((a 146 9).toNat) y3) := jfr_put hf322_ rfl
  have hf324_ : jfr jW_X12_sends a0 (jxu (jxu (jxu a 157 ((a 146 9).toNat) y4) 158 ((a 146 9).toNat) y3) 159 ((a 146 9).toNat) (-1)) := jfr_put hf323_ rfl
  have hf325_ : jfr jWse3 a0 (jxu a 157 ((a 146 9).toNat) y4) := jfr_put (jfr_tr (jfr_rf _ _) hfe rfl) rfl
  have hf326_ : jfr jWse3 a0 (jxu (jxu a 157 ((a 146 9).toNat) y4) 158 ((a 146 9).toNat) y3) := jfr_put hf325_ rfl
  have hf327_ : jfr jWse3 a0 (jxu (jxu (jxu a 157 ((a 146 9).toNat) y4) 158 ((a 146 9).toNat) y3) 159 ((a 146 9).toNat) (-1)) := jfr_put hf326_ rfl
  exact cr_X12_sends_125 E d hd x1 x2 x3 a0 b0 hv0 hp0 hp1 hp2 (jxu (jxu (jxu a 157 ((a 146 9).toNat) y4) 158 ((a 146 9).toNat) y3) 159 ((a 146 9).toNat) (-1)) hv321_ hf324_ (by simp [jxu]; omega) (by rw [show (a0 146 9).toNat = (a 146 9).toNat from (by omega)]; simp [jxu]; omega) hf327_ ⟨hr1.1, hr1.2.1, hr1.2.2, (funext fun j => by show (if j = (a 146 9).toNat then y4 else a 157 j) = (if j = (a0 146 9).toNat then BNR a0 (a0 148 x1.toNat) (a0 148 x2.toNat) else a0 157 j); rw [show (a 146 9).toNat = (a0 146 9).toNat from by omega, hfe 157 j rfl]; first | done | (rw [show y4 = BNR a0 (a0 148 x1.toNat) (a0 148 x2.toNat) from by first | omega | assumption | exact hfe 146 0 rfl])), (funext fun j => by show (if j = (a 146 9).toNat then y3 else a 158 j) = (if j = (a0 146 9).toNat then x3 else a0 158 j); rw [show (a 146 9).toNat = (a0 146 9).toNat from by omega, hfe 158 j rfl]; first | done | (rw [show y3 = x3 from by first | omega | assumption | exact hfe 146 0 rfl])), (funext fun j => by show (if j = (a 146 9).toNat then (-1) else a 159 j) = (if j = (a0 146 9).toNat then (-1) else a0 159 j); rw [show (a 146 9).toNat = (a0 146 9).toNat from by omega, hfe 159 j rfl]; first | done | (rw [show (-1) = (-1) from by first | omega | assumption | exact hfe 146 0 rfl]))⟩ (show a 146 9 = a0 146 9 from by omega) (by intro c hc; have hne : ¬ c = (a 146 9).toNat := (by omega); have h9 := hol c hc; simp [jxu, hne, h9])
theorem cr_X12_sends_59 (E : jxE) (d : Nat) (hd : Nat.ble 2 (d + 1) = true) (x1 x2 x3 : Int) (a0 b0 : Nat → Nat → Int) (hv0 : iv a0) (hp0 : (0 ≤ x1 ∧ x1 ≤ 39)) (hp1 : (0 ≤ x2 ∧ x2 ≤ 39)) (hp2 : a0 146 9 ≤ 299) : ∀ (y1 y2 y3 s0 : Int) (a : Nat → Nat → Int), iv a → jfr jW_X12_sends a0 a → 0 ≤ y1 → y1 ≤ 39 → 0 ≤ y2 → y2 ≤ 39 → y1 = x1 → y2 = x2 → y3 = x3 → (jfr jWse1 a0 a) → (s0 = BNR a0 (a0 148 x1.toNat) (a0 148 x2.toNat)) → a 146 9 = a0 146 9 → (∀ c : Nat, (c : Int) < a0 146 9 → a 154 c = a0 154 c ∧ a 158 c = a0 158 c) → jt (jxX E d 240 59 [some (.inr (.inr (.inl 146))), some (.inl y1), some (.inl y2), some (.inl y3), none] [.inl s0] (jxSH, a, b0)) (jR_X12_sends x1 x2 x3 a0 b0) := by
  intro y1 y2 y3 s0 a hv hf hi0 hi1 hi2 hi3 hi4 hi5 hi6 hfe hs0 hi9 hol
  refine jt_eq (bq_X12_sends_59 E d y1 y2 y3 s0 a b0) ?_
  have h328_ := iv_get hv (k := 146) (j := 9) (l := 0) (u := 300) rfl
  have h329_ := iv_get hv0 (k := 146) (j := 9) (l := 0) (u := 300) rfl
  refine jt_grd (by omega) ?_
  refine jt_grd (by omega) ?_
  refine jt_grd (by omega) ?_
  have hv330_ : iv (jxu a 154 ((a 146 9).toNat) y1) := iv_put hv (l := 0) (u := 39) rfl (by omega) (by omega)
  have hv331_ : iv (jxu (jxu a 154 ((a 146 9).toNat) y1) 155 ((a 146 9).toNat) y2) := iv_put hv330_ (l := 0) (u := 39) rfl (by omega) (by omega)
  have h333_ := iv_get hv (k := 146) (j := 0) (l := 0) (u := 1999) rfl
  have h334_ : a 146 0 = a0 146 0 := hf 146 0 rfl
  have h335_ := iv_get hv0 (k := 146) (j := 0) (l := 0) (u := 1999) rfl
  have hv332_ : iv (jxu (jxu (jxu a 154 ((a 146 9).toNat) y1) 155 ((a 146 9).toNat) y2) 156 ((a 146 9).toNat) (a 146 0)) := iv_put hv331_ (l := 0) (u := 1999) rfl (by omega) (by omega)
  have hf336_ : jfr jW_X12_sends a0 (jxu a 154 ((a 146 9).toNat) y1) := jfr_put hf rfl
  have hf337_ : jfr jW_X12_sends a0 (jxu (jxu a 154 ((a 146 9).toNat) y1) 155 ((a 146 9).toNat) y2) := jfr_put hf336_ rfl
  have hf338_ : jfr jW_X12_sends a0 (jxu (jxu (jxu a 154 ((a 146 9).toNat) y1) 155 ((a 146 9).toNat) y2) 156 ((a 146 9).toNat) (a 146 0)) := jfr_put hf337_ rfl
  have hf339_ : jfr jWse2 a0 (jxu a 154 ((a 146 9).toNat) y1) := jfr_put (jfr_tr (jfr_rf _ _) hfe rfl) rfl
  have hf340_ : jfr jWse2 a0 (jxu (jxu a 154 ((a 146 9).toNat) y1) 155 ((a 146 9).toNat) y2) := jfr_put hf339_ rfl
  have hf341_ : jfr jWse2 a0 (jxu (jxu (jxu a 154 ((a 146 9).toNat) y1) 155 ((a 146 9).toNat) y2) 156 ((a 146 9).toNat) (a 146 0)) := jfr_put hf340_ rfl
  exact cr_X12_sends_94 E d hd x1 x2 x3 a0 b0 hv0 hp0 hp1 hp2 y3 s0 (jxu (jxu (jxu a 154 ((a 146 9).toNat) y1) 155 ((a 146 9).toNat) y2) 156 ((a 146 9).toNat) (a 146 0)) hv332_ hf338_ (show y3 = x3 from by omega) (by rw [show (a0 146 9).toNat = (a 146 9).toNat from (by omega)]; simp [jxu]; omega) hf341_ ⟨(funext fun j => by show (if j = (a 146 9).toNat then y1 else a 154 j) = (if j = (a0 146 9).toNat then x1 else a0 154 j); rw [show (a 146 9).toNat = (a0 146 9).toNat from by omega, hfe 154 j rfl]; first | done | (rw [show y1 = x1 from by first | omega | assumption | exact hfe 146 0 rfl])), (funext fun j => by show (if j = (a 146 9).toNat then y2 else a 155 j) = (if j = (a0 146 9).toNat then x2 else a0 155 j); rw [show (a 146 9).toNat = (a0 146 9).toNat from by omega, hfe 155 j rfl]; first | done | (rw [show y2 = x2 from by first | omega | assumption | exact hfe 146 0 rfl])), (funext fun j => by show (if j = (a 146 9).toNat then a 146 0 else a 156 j) = (if j = (a0 146 9).toNat then a0 146 0 else a0 156 j); rw [show (a 146 9).toNat = (a0 146 9).toNat from by omega, hfe 156 j rfl]; first | done | (rw [show a 146 0 = a0 146 0 from by first | omega | assumption | exact hfe 146 0 rfl]))⟩ hs0 (show a 146 9 = a0 146 9 from by omega) (by intro c hc; have hne : ¬ c = (a 146 9).toNat := (by omega); have h9 := hol c hc; simp [jxu, hne, h9])
theorem cr_X12_sends_41 (E : jxE) (d : Nat) (hd : Nat.ble 2 (d + 1) = true) (x1 x2 x3 : Int) (a0 b0 : Nat → Nat → Int) (hv0 : iv a0) (hp0 : (0 ≤ x1 ∧ x1 ≤ 39)) (hp1 : (0 ≤ x2 ∧ x2 ≤ 39)) (hp2 : a0 146 9 ≤ 299) : ∀ (y1 y2 y3 : Int) (a : Nat → Nat → Int), iv a → jfr jW_X12_sends a0 a → 0 ≤ y1 → y1 ≤ 39 → 0 ≤ y2 → y2 ≤ 39 → y1 = x1 → y2 = x2 → y3 = x3 → (jfr jWse1 a0 a) → (BNR a0 (a0 148 x1.toNat) (a0 148 x2.toNat) = a0 171 3) → a 146 9 = a0 146 9 → (∀ c : Nat, (c : Int) < a0 146 9 → a 154 c = a0 154 c ∧ a 158 c = a0 158 c) → jt (jxX E d 240 41 [some (.inr (.inr (.inl 146))), some (.inl y1), some (.inl y2), some (.inl y3), none] [] (jxSH, a, b0)) (jR_X12_sends x1 x2 x3 a0 b0) := by
  intro y1 y2 y3 a hv hf hi0 hi1 hi2 hi3 hi4 hi5 hi6 hfe hbn hi9 hol
  refine jt_eq (bq_X12_sends_41 E d y1 y2 y3 a b0) ?_
  have h342_ := iv_get hv (k := 146) (j := 9) (l := 0) (u := 300) rfl
  have h343_ := iv_get hv0 (k := 146) (j := 9) (l := 0) (u := 300) rfl
  have h344_ : a 171 3 = a0 171 3 := hf 171 3 rfl
  exact cr_X12_sends_59 E d hd x1 x2 x3 a0 b0 hv0 hp0 hp1 hp2 y1 y2 y3 (a 171 3) a hv hf (show 0 ≤ y1 from by omega) (show y1 ≤ 39 from by omega) (show 0 ≤ y2 from by omega) (show y2 ≤ 39 from by omega) (show y1 = x1 from by omega) (show y2 = x2 from by omega) (show y3 = x3 from by omega) hfe (by first | exact hbn.symm | exact (hfe 171 3 rfl).trans hbn.symm) (show a 146 9 = a0 146 9 from by omega) hol
theorem cr_X12_sends_50 (E : jxE) (d : Nat) (hd : Nat.ble 2 (d + 1) = true) (x1 x2 x3 : Int) (a0 b0 : Nat → Nat → Int) (hv0 : iv a0) (hp0 : (0 ≤ x1 ∧ x1 ≤ 39)) (hp1 : (0 ≤ x2 ∧ x2 ≤ 39)) (hp2 : a0 146 9 ≤ 299) : ∀ (y1 y2 y3 : Int) (a : Nat → Nat → Int), iv a → jfr jW_X12_sends a0 a → 0 ≤ y1 → y1 ≤ 39 → 0 ≤ y2 → y2 ≤ 39 → 1 ≤ a 146 39 → y1 = x1 → y2 = x2 → y3 = x3 → (jfr jWse1 a0 a) → (BNR a0 (a0 148 x1.toNat) (a0 148 x2.toNat) = jxw ((jxw (2 * (a 146 41))) + 7)) → a 146 9 = a0 146 9 → (∀ c : Nat, (c : Int) < a0 146 9 → a 154 c = a0 154 c ∧ a 158 c = a0 158 c) → jt (jxX E d 240 50 [some (.inr (.inr (.inl 146))), some (.inl y1), some (.inl y2), some (.inl y3), none] [] (jxSH, a, b0)) (jR_X12_sends x1 x2 x3 a0 b0) := by
  intro y1 y2 y3 a hv hf hi0 hi1 hi2 hi3 hi4 hi5 hi6 hi7 hfe hbn hi10 hol
  refine jt_eq (bq_X12_sends_50 E d y1 y2 y3 a b0) ?_
  have h345_ := iv_get hv (k := 146) (j := 39) (l := 0) (u := 10) rfl
  have h346_ := iv_get hv (k := 146) (j := 9) (l := 0) (u := 300) rfl
  have h347_ := iv_get hv0 (k := 146) (j := 9) (l := 0) (u := 300) rfl
  have h348_ := jxw_im (2 * (a 146 41))
  have h349_ := jxw_rg (2 * (a 146 41))
  have h350_ := jxw_im ((jxw (2 * (a 146 41))) + 7)
  have h351_ := jxw_rg ((jxw (2 * (a 146 41))) + 7)
  exact cr_X12_sends_59 E d hd x1 x2 x3 a0 b0 hv0 hp0 hp1 hp2 y1 y2 y3 (jxw ((jxw (2 * (a 146 41))) + 7)) a hv hf (show 0 ≤ y1 from by omega) (show y1 ≤ 39 from by omega) (show 0 ≤ y2 from by omega) (show y2 ≤ 39 from by omega) (show y1 = x1 from by omega) (show y2 = x2 from by omega) (show y3 = x3 from by omega) hfe (by first | exact hbn.symm | exact (hfe 171 3 rfl).trans hbn.symm) (show a 146 9 = a0 146 9 from by omega) hol
theorem sq_X12_sends (E : jxE) (d : Nat) (hd : Nat.ble 2 d = true) (x1 x2 x3 : Int) (a0 b0 : Nat → Nat → Int) (hv0 : iv a0) (hp0 : (0 ≤ x1 ∧ x1 ≤ 39)) (hp1 : (0 ≤ x2 ∧ x2 ≤ 39)) (hp2 : a0 146 9 ≤ 299) : jt (jxC E d 240 [.inr (.inr (.inl 146)), .inl x1, .inl x2, .inl x3] (jxSH, a0, b0)) (jR_X12_sends x1 x2 x3 a0 b0) := by
  obtain ⟨d, rfl⟩ := jd_succ hd
  refine jt_eq (bq_X12_sends E d x1 x2 x3 a0 b0) ?_
  have h352_ := iv_get hv0 (k := 146) (j := 9) (l := 0) (u := 300) rfl
  refine jt_grd (by omega) ?_
  refine jt_grd (by omega) ?_
  refine jt_bV (sq_X12_spans E d (jd_le hd rfl) (a0 148 (x1.toNat)) (a0 148 (x2.toNat)) a0 b0 hv0) (fun a353_ b353_ h353_ => ?_)
  obtain ⟨hv353_, hf353_, rfl, hq353_0, hq353_1⟩ := h353_
  have h354_ := iv_get hv0 (k := 146) (j := 17) (l := 0) (u := 600) rfl
  have h355_ := iv_get hv353_ (k := 146) (j := 39) (l := 0) (u := 10) rfl
  refine jt_ite (fun c356_ => ?_) (fun c356_ => ?_)
  ·
    have hf357_ : jfr jW_X12_sends a0 a353_ := jfr_tr (jfr_rf _ _) hf353_ rfl
    have hf358_ : jfr jWse1 a0 a353_ := jfr_tr (jfr_rf _ _) hf353_ rfl
    have h359_ := iv_get hv353_ (k := 146) (j := 9) (l := 0) (u := 300) rfl
    have h360_ : a353_ 146 9 = a0 146 9 := hf353_ 146 9 rfl
    exact cr_X12_sends_41 E d hd x1 x2 x3 a0 b0 hv0 hp0 hp1 hp2 x1 x2 x3 a353_ hv353_ hf357_ (show 0 ≤ x1 from by omega) (show x1 ≤ 39 from by omega) (show 0 ≤ x2 from by omega) (show x2 ≤ 39 from by omega) (show x1 = x1 from by omega) (show x2 = x2 from by omega) (show x3 = x3 from by omega) hf358_ (by unfold BNR; rw [← hq353_1]; show (if a353_ 146 39 = 0 then _ else if _ < jxw ((jxw (2 * (a353_ 146 41))) + 7) then _ else jxw ((jxw (2 * (a353_ 146 41))) + 7)) = _; first | rw [if_pos (by assumption)] | (rw [if_neg (by assumption)]; have e3 := hf353_ 171 3 rfl; first | rw [if_pos (by omega)] | rw [if_neg (by omega)])) (show a353_ 146 9 = a0 146 9 from by omega) (by intro c hc; exact ⟨hf353_ 154 c rfl, hf353_ 158 c rfl⟩)
  ·
    have h361_ : a353_ 171 3 = a0 171 3 := hf353_ 171 3 rfl
    have h362_ := jxw_im (2 * (a353_ 146 41))
    have h363_ := jxw_rg (2 * (a353_ 146 41))
    have h364_ := jxw_im ((jxw (2 * (a353_ 146 41))) + 7)
    have h365_ := jxw_rg ((jxw (2 * (a353_ 146 41))) + 7)
    refine jt_ite (fun c366_ => ?_) (fun c366_ => ?_)
    ·
      have hf367_ : jfr jW_X12_sends a0 a353_ := jfr_tr (jfr_rf _ _) hf353_ rfl
      have hf368_ : jfr jWse1 a0 a353_ := jfr_tr (jfr_rf _ _) hf353_ rfl
      have h369_ := iv_get hv353_ (k := 146) (j := 9) (l := 0) (u := 300) rfl
      have h370_ : a353_ 146 9 = a0 146 9 := hf353_ 146 9 rfl
      exact cr_X12_sends_41 E d hd x1 x2 x3 a0 b0 hv0 hp0 hp1 hp2 x1 x2 x3 a353_ hv353_ hf367_ (show 0 ≤ x1 from by omega) (show x1 ≤ 39 from by omega) (show 0 ≤ x2 from by omega) (show x2 ≤ 39 from by omega) (show x1 = x1 from by omega) (show x2 = x2 from by omega) (show x3 = x3 from by omega) hf368_ (by unfold BNR; rw [← hq353_1]; show (if a353_ 146 39 = 0 then _ else if _ < jxw ((jxw (2 * (a353_ 146 41))) + 7) then _ else jxw ((jxw (2 * (a353_ 146 41))) + 7)) = _; first | rw [if_pos (by assumption)] | (rw [if_neg (by assumption)]; have e3 := hf353_ 171 3 rfl; first | rw [if_pos (by omega)] | rw [if_neg (by omega)])) (show a353_ 146 9 = a0 146 9 from by omega) (by intro c hc; exact ⟨hf353_ 154 c rfl, hf353_ 158 c rfl⟩)
    ·
      have hf371_ : jfr jW_X12_sends a0 a353_ := jfr_tr (jfr_rf _ _) hf353_ rfl
      have hf372_ : jfr jWse1 a0 a353_ := jfr_tr (jfr_rf _ _) hf353_ rfl
      have h373_ := iv_get hv353_ (k := 146) (j := 9) (l := 0) (u := 300) rfl
      have h374_ : a353_ 146 9 = a0 146 9 := hf353_ 146 9 rfl
      exact cr_X12_sends_50 E d hd x1 x2 x3 a0 b0 hv0 hp0 hp1 hp2 x1 x2 x3 a353_ hv353_ hf371_ (show 0 ≤ x1 from by omega) (show x1 ≤ 39 from by omega) (show 0 ≤ x2 from by omega) (show x2 ≤ 39 from by omega) (show 1 ≤ a353_ 146 39 from by omega) (show x1 = x1 from by omega) (show x2 = x2 from by omega) (show x3 = x3 from by omega) hf372_ (by unfold BNR; rw [← hq353_1]; show (if a353_ 146 39 = 0 then _ else if _ < jxw ((jxw (2 * (a353_ 146 41))) + 7) then _ else jxw ((jxw (2 * (a353_ 146 41))) + 7)) = _; first | rw [if_pos (by assumption)] | (rw [if_neg (by assumption)]; have e3 := hf353_ 171 3 rfl; first | rw [if_pos (by omega)] | rw [if_neg (by omega)])) (show a353_ 146 9 = a0 146 9 from by omega) (by intro c hc; exact ⟨hf353_ 154 c rfl, hf353_ 158 c rfl⟩)
def jWrb : List (Nat × Nat) := []
abbrev jR_X12_back (x1 : Int) (a0 b0 : Nat → Nat → Int) : List jxV → (Nat → Nat → Int) → (Nat → Nat → Int) → Prop := rI (fun r a b => (iv a) ∧ (jfr jW_X12_back a0 a) ∧ (b0 = b) ∧ ((0 ≤ r ∧ r ≤ 1)) ∧ ((a0 146 9 = 0 → r = 0)) ∧ (r = 1 → 0 ≤ x1 ∧ x1 < a0 146 9 ∧ a0 159 x1.toNat = -1 ∧ ¬ a0 146 17 = 600 ∧ ¬ a0 160 x1.toNat < 0 ∧ ¬ a0 162 (a0 160 x1.toNat).toNat = -1) ∧ (r = 0 → ¬ (0 ≤ x1 ∧ x1 < a0 146 9 ∧ a0 159 x1.toNat = -1 ∧ ¬ a0 146 17 = 600 ∧ ¬ a0 160 x1.toNat < 0 ∧ ¬ a0 162 (a0 160 x1.toNat).toNat = -1)) ∧ (r = 1 → cvR a = vTell (cvR a0) x1 (-1) (a0 146 0)) ∧ (r = 0 → cvR a = cvR a0))
theorem cr_X12_back_58 (E : jxE) (d : Nat) (hd : Nat.ble 2 (d + 1) = true) (x1 : Int) (a0 b0 : Nat → Nat → Int) (hv0 : iv a0) : ∀ (a : Nat → Nat → Int), iv a → jfr jW_X12_back a0 a → (jfr jWrb a0 a) → (¬ (0 ≤ x1 ∧ x1 < a0 146 9 ∧ a0 159 x1.toNat = -1 ∧ ¬ a0 146 17 = 600 ∧ ¬ a0 160 x1.toNat < 0 ∧ ¬ a0 162 (a0 160 x1.toNat).toNat = -1)) → jt (jxX E d 258 58 [none, none] [] (jxSH, a, b0)) (jR_X12_back x1 a0 b0) := by
  intro a hv hf hfe hno
  refine jt_eq (bq_X12_back_58 E d a b0) ?_
  have h375_ := iv_get hv0 (k := 146) (j := 9) (l := 0) (u := 300) rfl
  exact jt_rI ⟨hv, hf, rfl, (show (0 ≤ 0 ∧ 0 ≤ 1) from by omega), (show (a0 146 9 = 0 → 0 = 0) from by omega), (fun h => absurd h (by decide)), (fun _ => hno), (fun h => absurd h (by decide)), (fun _ => cvR_fr hfe rfl)⟩
theorem cr_X12_back_60 (E : jxE) (d : Nat) (hd : Nat.ble 2 (d + 1) = true) (x1 : Int) (a0 b0 : Nat → Nat → Int) (hv0 : iv a0) : ∀ (y1 : Int) (a : Nat → Nat → Int), iv a → jfr jW_X12_back a0 a → 0 ≤ y1 → y1 ≤ 299 → a 146 17 ≤ 599 → 1 ≤ a0 146 9 → (jfr jWrb a0 a) → (y1 = x1) → (0 ≤ x1 ∧ x1 < a0 146 9 ∧ a0 159 x1.toNat = -1 ∧ ¬ a0 146 17 = 600 ∧ ¬ a0 160 x1.toNat < 0 ∧ ¬ a0 162 (a0 160 x1.toNat).toNat = -1) → jt (jxX E d 258 60 [some (.inr (.inr (.inl 146))), some (.inl y1)] [] (jxSH, a, b0)) (jR_X12_back x1 a0 b0) := by
  intro y1 a hv hf hi0 hi1 hi2 hi3 hfe hy1 hyes
  refine jt_eq (bq_X12_back_60 E d y1 a b0) ?_
  have h376_ := iv_get hv (k := 146) (j := 17) (l := 0) (u := 600) rfl
  have h377_ := iv_get hv0 (k := 146) (j := 9) (l := 0) (u := 300) rfl
  refine jt_bV (sq_X12_tells E d (jd_le hd rfl) y1 (-1) a b0 hv (show (0 ≤ y1 ∧ y1 ≤ 299) from by omega) (show a 146 17 ≤ 599 from by omega)) (fun a378_ b378_ h378_ => ?_)
  obtain ⟨hv378_, hf378_, rfl, hq378_0⟩ := h378_
  have hf379_ : jfr jW_X12_back a0 a378_ := jfr_tr hf hf378_ rfl
  exact jt_rI ⟨hv378_, hf379_, rfl, (show (0 ≤ 1 ∧ 1 ≤ 1) from by omega), (show (a0 146 9 = 0 → 1 = 0) from by omega), (fun _ => hyes), (fun h => absurd h (by decide)), (fun _ => by have q := hq378_0; rw [hy1, hfe 146 0 rfl, show cvR a = cvR a0 from cvR_fr hfe rfl] at q; exact q), (fun h => absurd h (by decide))⟩
theorem cr_X12_back_24 (E : jxE) (d : Nat) (hd : Nat.ble 2 (d + 1) = true) (x1 : Int) (a0 b0 : Nat → Nat → Int) (hv0 : iv a0) : ∀ (y1 : Int) (a : Nat → Nat → Int), iv a → jfr jW_X12_back a0 a → 0 ≤ y1 → y1 ≤ 299 → 1 ≤ a0 146 9 → (jfr jWrb a0 a) → (y1 = x1) → ((0 ≤ x1 ∧ x1 < a0 146 9) ∧ a0 159 (x1.toNat) = 0 - 1) → jt (jxX E d 258 24 [some (.inr (.inr (.inl 146))), some (.inl y1)] [] (jxSH, a, b0)) (jR_X12_back x1 a0 b0) := by
  intro y1 a hv hf hi0 hi1 hi2 hfe hy1 hi5
  refine jt_eq (bq_X12_back_24 E d y1 a b0) ?_
  have h380_ := iv_get hv0 (k := 146) (j := 9) (l := 0) (u := 300) rfl
  have h381_ := iv_get hv (k := 146) (j := 17) (l := 0) (u := 600) rfl
  refine jt_ite (fun c382_ => ?_) (fun c382_ => ?_)
  ·
    exact cr_X12_back_58 E d hd x1 a0 b0 hv0 a hv hf hfe (fun q => by have e17 := hfe 146 17 rfl; have e1 := hfe 160 (y1.toNat) rfl; have e2 := hfe 162 ((a 160 (y1.toNat)).toNat) rfl; have e3 : a0 160 (y1.toNat) = a0 160 (x1.toNat) := (by rw [hy1]); have e4 : a0 162 ((a 160 (y1.toNat)).toNat) = a0 162 ((a0 160 (x1.toNat)).toNat) := (by rw [e1, e3]); omega)
  ·
    refine jt_grd (by omega) ?_
    have h383_ := iv_get hv (k := 160) (j := y1.toNat) (l := (-1)) (u := 599) rfl
    refine jt_ite (fun c384_ => ?_) (fun c384_ => ?_)
    ·
      exact cr_X12_back_58 E d hd x1 a0 b0 hv0 a hv hf hfe (fun q => by have e17 := hfe 146 17 rfl; have e1 := hfe 160 (y1.toNat) rfl; have e2 := hfe 162 ((a 160 (y1.toNat)).toNat) rfl; have e3 : a0 160 (y1.toNat) = a0 160 (x1.toNat) := (by rw [hy1]); have e4 : a0 162 ((a 160 (y1.toNat)).toNat) = a0 162 ((a0 160 (x1.toNat)).toNat) := (by rw [e1, e3]); omega)
    ·
      refine jt_grd (by omega) ?_
      refine jt_grd (by omega) ?_
      refine jt_ite (fun c385_ => ?_) (fun c385_ => ?_)
      ·
        exact cr_X12_back_58 E d hd x1 a0 b0 hv0 a hv hf hfe (fun q => by have e17 := hfe 146 17 rfl; have e1 := hfe 160 (y1.toNat) rfl; have e2 := hfe 162 ((a 160 (y1.toNat)).toNat) rfl; have e3 : a0 160 (y1.toNat) = a0 160 (x1.toNat) := (by rw [hy1]); have e4 : a0 162 ((a 160 (y1.toNat)).toNat) = a0 162 ((a0 160 (x1.toNat)).toNat) := (by rw [e1, e3]); omega)
      ·
        exact cr_X12_back_60 E d hd x1 a0 b0 hv0 y1 a hv hf (show 0 ≤ y1 from by omega) (show y1 ≤ 299 from by omega) (show a 146 17 ≤ 599 from by omega) (show 1 ≤ a0 146 9 from by omega) hfe (by first | rfl | assumption) (by have e17 := hfe 146 17 rfl; have e1 := hfe 160 (y1.toNat) rfl; have e2 := hfe 162 ((a 160 (y1.toNat)).toNat) rfl; have e3 : a0 160 (y1.toNat) = a0 160 (x1.toNat) := (by rw [hy1]); have e4 : a0 162 ((a 160 (y1.toNat)).toNat) = a0 162 ((a0 160 (x1.toNat)).toNat) := (by rw [e1, e3]); omega)
theorem sq_X12_back (E : jxE) (d : Nat) (hd : Nat.ble 2 d = true) (x1 : Int) (a0 b0 : Nat → Nat → Int) (hv0 : iv a0) : jt (jxC E d 258 [.inr (.inr (.inl 146)), .inl x1] (jxSH, a0, b0)) (jR_X12_back x1 a0 b0) := by
  obtain ⟨d, rfl⟩ := jd_succ hd
  refine jt_eq (bq_X12_back E d x1 a0 b0) ?_
  refine jt_eI (eq_X12_in E d (jd_le hd rfl) x1 0 (jxw ((a0 146 9) - 1)) a0 b0) ?_
  have h386_ := iv_get hv0 (k := 146) (j := 9) (l := 0) (u := 300) rfl
  have h387_ : jxw ((a0 146 9) - 1) = (a0 146 9) - 1 := jxw_id (by omega) (by omega)
  have h388_ := f_X12_in_eq a0 b0 x1 0 (jxw ((a0 146 9) - 1))
  refine jt_ite (fun c389_ => ?_) (fun c389_ => ?_)
  ·
    exact cr_X12_back_58 E d hd x1 a0 b0 hv0 a0 hv0 (jfr_rf _ _) (jfr_rf _ _) (fun q => by omega)
  ·
    refine jt_grd (by omega) ?_
    refine jt_ite (fun c390_ => ?_) (fun c390_ => ?_)
    ·
      exact cr_X12_back_24 E d hd x1 a0 b0 hv0 x1 a0 hv0 (jfr_rf _ _) (show 0 ≤ x1 from by omega) (show x1 ≤ 299 from by omega) (show 1 ≤ a0 146 9 from by omega) (jfr_rf _ _) (by first | rfl | assumption) (show ((0 ≤ x1 ∧ x1 < a0 146 9) ∧ a0 159 (x1.toNat) = 0 - 1) from by omega)
    ·
      exact cr_X12_back_58 E d hd x1 a0 b0 hv0 a0 hv0 (jfr_rf _ _) (jfr_rf _ _) (fun q => by omega)
abbrev jR_X12_card (x1 x2 : Int) (a0 b0 : Nat → Nat → Int) : List jxV → (Nat → Nat → Int) → (Nat → Nat → Int) → Prop := rI (fun r a b => (a0 = a) ∧ (b0 = b) ∧ ((a0 146 9 = 0 → r = 0 - 1)) ∧ (0 ≤ x1 ∧ x1 < a0 146 9 → r = if x2 = 0 then a0 154 x1.toNat else if x2 = 1 then a0 155 x1.toNat else if x2 = 2 then a0 156 x1.toNat else if x2 = 3 then a0 157 x1.toNat else if x2 = 4 then vArr (cvR a0) x1.toNat else if x2 = 5 then a0 158 x1.toNat else if x2 = 6 then a0 159 x1.toNat else -1) ∧ (¬ (0 ≤ x1 ∧ x1 < a0 146 9) → r = -1))
theorem sq_X12_card (E : jxE) (d : Nat) (hd : Nat.ble 2 d = true) (x1 x2 : Int) (a0 b0 : Nat → Nat → Int) (hv0 : iv a0) : jt (jxC E d 259 [.inr (.inr (.inl 146)), .inl x1, .inl x2] (jxSH, a0, b0)) (jR_X12_card x1 x2 a0 b0) := by
  obtain ⟨d, rfl⟩ := jd_succ hd
  refine jt_eq (bq_X12_card E d x1 x2 a0 b0) ?_
  refine jt_eI (eq_X12_in E d (jd_le hd rfl) x1 0 (jxw ((a0 146 9) - 1)) a0 b0) ?_
  have h391_ := iv_get hv0 (k := 146) (j := 9) (l := 0) (u := 300) rfl
  have h392_ : jxw ((a0 146 9) - 1) = (a0 146 9) - 1 := jxw_id (by omega) (by omega)
  have h393_ := f_X12_in_eq a0 b0 x1 0 (jxw ((a0 146 9) - 1))
  refine jt_ite (fun c394_ => ?_) (fun c394_ => ?_)
  ·
    exact jt_rI ⟨rfl, rfl, (show (a0 146 9 = 0 → (-1) = 0 - 1) from by omega), (fun h => by first | (exfalso; omega) | (repeat (first | rw [if_pos (by assumption)] | rw [if_neg (by omega)]))), (fun _ => rfl)⟩
  ·
    refine jt_ite (fun c395_ => ?_) (fun c395_ => ?_)
    ·
      exact jt_rI ⟨rfl, rfl, (show (a0 146 9 = 0 → (-1) = 0 - 1) from by omega), (fun h => by first | (exfalso; omega) | (repeat (first | rw [if_pos (by assumption)] | rw [if_neg (by omega)]))), (fun _ => rfl)⟩
    ·
      refine jt_ite (fun c396_ => ?_) (fun c396_ => ?_)
      ·
        refine jt_grd (by omega) ?_
        have h397_ := iv_get hv0 (k := 154) (j := x1.toNat) (l := 0) (u := 39) rfl
        exact jt_rI ⟨rfl, rfl, (show (a0 146 9 = 0 → a0 154 (x1.toNat) = 0 - 1) from by omega), (fun h => by first | (exfalso; omega) | (repeat (first | rw [if_pos (by assumption)] | rw [if_neg (by omega)]))), (fun h => absurd (by omega) h)⟩
      ·
        refine jt_ite (fun c398_ => ?_) (fun c398_ => ?_)
        ·
          refine jt_grd (by omega) ?_
          have h399_ := iv_get hv0 (k := 155) (j := x1.toNat) (l := 0) (u := 39) rfl
          exact jt_rI ⟨rfl, rfl, (show (a0 146 9 = 0 → a0 155 (x1.toNat) = 0 - 1) from by omega), (fun h => by first | (exfalso; omega) | (repeat (first | rw [if_pos (by assumption)] | rw [if_neg (by omega)]))), (fun h => absurd (by omega) h)⟩
        ·
          refine jt_ite (fun c400_ => ?_) (fun c400_ => ?_)
          ·
            refine jt_grd (by omega) ?_
            have h401_ := iv_get hv0 (k := 156) (j := x1.toNat) (l := 0) (u := 1999) rfl
            exact jt_rI ⟨rfl, rfl, (show (a0 146 9 = 0 → a0 156 (x1.toNat) = 0 - 1) from by omega), (fun h => by first | (exfalso; omega) | (repeat (first | rw [if_pos (by assumption)] | rw [if_neg (by omega)]))), (fun h => absurd (by omega) h)⟩
          ·
            refine jt_ite (fun c402_ => ?_) (fun c402_ => ?_)
            ·
              refine jt_grd (by omega) ?_
              exact jt_rI ⟨rfl, rfl, (show (a0 146 9 = 0 → a0 157 (x1.toNat) = 0 - 1) from by omega), (fun h => by first | (exfalso; omega) | (repeat (first | rw [if_pos (by assumption)] | rw [if_neg (by omega)]))), (fun h => absurd (by omega) h)⟩
            ·
              refine jt_ite (fun c403_ => ?_) (fun c403_ => ?_)
              ·
                refine jt_bI (sq_X12_arrival E d (jd_le hd rfl) x1 (a0 146 0) a0 b0 hv0 (show (0 ≤ x1 ∧ x1 ≤ 299) from by omega)) (fun r404_ a404_ b404_ h404_ => ?_)
                obtain ⟨rfl, rfl, hq404_0⟩ := h404_
                exact jt_rI ⟨rfl, rfl, (show (a0 146 9 = 0 → r404_ = 0 - 1) from by omega), (fun _ => by have q := hq404_0; rw [if_pos (Int.le_refl _)] at q; rw [if_neg (by omega), if_neg (by omega), if_neg (by omega), if_neg (by omega), if_pos (by assumption)]; exact q), (fun h => absurd (by omega) h)⟩
              ·
                refine jt_ite (fun c405_ => ?_) (fun c405_ => ?_)
                ·
                  refine jt_grd (by omega) ?_
                  exact jt_rI ⟨rfl, rfl, (show (a0 146 9 = 0 → a0 158 (x1.toNat) = 0 - 1) from by omega), (fun h => by first | (exfalso; omega) | (repeat (first | rw [if_pos (by assumption)] | rw [if_neg (by omega)]))), (fun h => absurd (by omega) h)⟩
                ·
                  refine jt_ite (fun c406_ => ?_) (fun c406_ => ?_)
                  ·
                    refine jt_grd (by omega) ?_
                    exact jt_rI ⟨rfl, rfl, (show (a0 146 9 = 0 → a0 159 (x1.toNat) = 0 - 1) from by omega), (fun h => by first | (exfalso; omega) | (repeat (first | rw [if_pos (by assumption)] | rw [if_neg (by omega)]))), (fun h => absurd (by omega) h)⟩
                  ·
                    exact absurd (by omega : False) id
abbrev jR_X12_span (x1 x2 x3 : Int) (a0 b0 : Nat → Nat → Int) : List jxV → (Nat → Nat → Int) → (Nat → Nat → Int) → Prop := rI (fun r a b => (iv a) ∧ (jfr jW_X12_span a0 a) ∧ (b0 = b) ∧ ((a0 146 17 = 0 → ((((((0 ≤ x1 ∧ x1 ≤ 15) ∧ 0 ≤ x2) ∧ x2 ≤ 15) ∧ x3 = 2) ∧ r = 0) ∨ (((((x1 < 0 ∨ 15 < x1) ∨ x2 < 0) ∨ 15 < x2) ∨ ¬ x3 = 2) ∧ r = 0 - 1)))) ∧ (0 ≤ x1 ∧ x1 ≤ 15 ∧ 0 ≤ x2 ∧ x2 ≤ 15 → r = if x3 = 2 then (SPR a0 x1 x2).1 else if (SPR a0 x1 x2).1 = 0 then -1 else if x3 = 0 then (SPR a0 x1 x2).2.1 else if x3 = 1 then (SPR a0 x1 x2).2.2 else -1) ∧ (¬ (0 ≤ x1 ∧ x1 ≤ 15 ∧ 0 ≤ x2 ∧ x2 ≤ 15) → r = -1))
theorem cr_X12_span_39 (E : jxE) (d : Nat) (hd : Nat.ble 3 (d + 1) = true) (x1 x2 x3 : Int) (a0 b0 : Nat → Nat → Int) (hv0 : iv a0) : ∀ (a : Nat → Nat → Int), iv a → jfr jW_X12_span a0 a → a 146 39 ≤ 0 → (a0 146 17 = 0 → ¬ x3 = 2) → (((0 ≤ x1 ∧ x1 ≤ 15) ∧ 0 ≤ x2) ∧ x2 ≤ 15) → ((SPR a0 x1 x2).1 = 0 ∧ ¬ x3 = 2) → jt (jxX E d 239 39 [none, none, none, none] [] (jxSH, a, b0)) (jR_X12_span x1 x2 x3 a0 b0) := by
  intro a hv hf hi0 hi1 hi2 hsp
  refine jt_eq (bq_X12_span_39 E d a b0) ?_
  have h407_ := iv_get hv (k := 146) (j := 39) (l := 0) (u := 10) rfl
  have h408_ := iv_get hv0 (k := 146) (j := 17) (l := 0) (u := 600) rfl
  exact jt_rI ⟨hv, hf, rfl, (show (a0 146 17 = 0 → ((((((0 ≤ x1 ∧ x1 ≤ 15) ∧ 0 ≤ x2) ∧ x2 ≤ 15) ∧ x3 = 2) ∧ (-1) = 0) ∨ (((((x1 < 0 ∨ 15 < x1) ∨ x2 < 0) ∨ 15 < x2) ∨ ¬ x3 = 2) ∧ (-1) = 0 - 1))) from by omega), (fun _ => by rw [if_neg hsp.2, if_pos hsp.1]), (fun h => absurd (by omega) h)⟩
theorem cr_X12_span_43 (E : jxE) (d : Nat) (hd : Nat.ble 3 (d + 1) = true) (x1 x2 x3 : Int) (a0 b0 : Nat → Nat → Int) (hv0 : iv a0) : ∀ (y3 : Int) (a : Nat → Nat → Int), iv a → jfr jW_X12_span a0 a → 1 ≤ a 146 39 → 1 ≤ a0 146 17 → (y3 = x3) → (((0 ≤ x1 ∧ x1 ≤ 15) ∧ 0 ≤ x2) ∧ x2 ≤ 15) → ((a 146 39, a 146 40, a 146 41) = SPR a0 x1 x2) → (¬ (SPR a0 x1 x2).1 = 0 ∧ ¬ x3 = 2) → jt (jxX E d 239 43 [some (.inr (.inr (.inl 146))), none, none, some (.inl y3)] [] (jxSH, a, b0)) (jR_X12_span x1 x2 x3 a0 b0) := by
  intro y3 a hv hf hi0 hi1 hy3 hi3 hsp hs0
  refine jt_eq (bq_X12_span_43 E d y3 a b0) ?_
  have h409_ := iv_get hv (k := 146) (j := 39) (l := 0) (u := 10) rfl
  have h410_ := iv_get hv0 (k := 146) (j := 17) (l := 0) (u := 600) rfl
  refine jt_ite (fun c411_ => ?_) (fun c411_ => ?_)
  ·
    exact jt_rI ⟨hv, hf, rfl, (show (a0 146 17 = 0 → ((((((0 ≤ x1 ∧ x1 ≤ 15) ∧ 0 ≤ x2) ∧ x2 ≤ 15) ∧ x3 = 2) ∧ a 146 40 = 0) ∨ (((((x1 < 0 ∨ 15 < x1) ∨ x2 < 0) ∨ 15 < x2) ∨ ¬ x3 = 2) ∧ a 146 40 = 0 - 1))) from by omega), (fun _ => by rw [if_neg hs0.2, if_neg hs0.1, ← hsp, ← hy3]; first | (rw [if_pos (by assumption)]) | (rw [if_neg (by assumption), if_pos (by assumption)]) | (rw [if_neg (by assumption), if_neg (by assumption)])), (fun h => absurd (by omega) h)⟩
  ·
    refine jt_ite (fun c412_ => ?_) (fun c412_ => ?_)
    ·
      exact jt_rI ⟨hv, hf, rfl, (show (a0 146 17 = 0 → ((((((0 ≤ x1 ∧ x1 ≤ 15) ∧ 0 ≤ x2) ∧ x2 ≤ 15) ∧ x3 = 2) ∧ a 146 41 = 0) ∨ (((((x1 < 0 ∨ 15 < x1) ∨ x2 < 0) ∨ 15 < x2) ∨ ¬ x3 = 2) ∧ a 146 41 = 0 - 1))) from by omega), (fun _ => by rw [if_neg hs0.2, if_neg hs0.1, ← hsp, ← hy3]; first | (rw [if_pos (by assumption)]) | (rw [if_neg (by assumption), if_pos (by assumption)]) | (rw [if_neg (by assumption), if_neg (by assumption)])), (fun h => absurd (by omega) h)⟩
    ·
      exact jt_rI ⟨hv, hf, rfl, (show (a0 146 17 = 0 → ((((((0 ≤ x1 ∧ x1 ≤ 15) ∧ 0 ≤ x2) ∧ x2 ≤ 15) ∧ x3 = 2) ∧ (-1) = 0) ∨ (((((x1 < 0 ∨ 15 < x1) ∨ x2 < 0) ∨ 15 < x2) ∨ ¬ x3 = 2) ∧ (-1) = 0 - 1))) from by omega), (fun _ => by rw [if_neg hs0.2, if_neg hs0.1, ← hsp, ← hy3]; first | (rw [if_pos (by assumption)]) | (rw [if_neg (by assumption), if_pos (by assumption)]) | (rw [if_neg (by assumption), if_neg (by assumption)])), (fun h => absurd (by omega) h)⟩
theorem sq_X12_span (E : jxE) (d : Nat) (hd : Nat.ble 3 d = true) (x1 x2 x3 : Int) (a0 b0 : Nat → Nat → Int) (hv0 : iv a0) : jt (jxC E d 239 [.inr (.inr (.inl 146)), .inl x1, .inl x2, .inl x3] (jxSH, a0, b0)) (jR_X12_span x1 x2 x3 a0 b0) := by
  obtain ⟨d, rfl⟩ := jd_succ hd
  refine jt_eq (bq_X12_span E d x1 x2 x3 a0 b0) ?_
  refine jt_eI (eq_X12_isLand E d (jd_le hd rfl) x1 a0 b0) ?_
  have h413_ := f_X12_isLand_eq a0 b0 x1
  have h414_ := f_X12_in_eq a0 b0 x1 0 15
  refine jt_ite (fun c415_ => ?_) (fun c415_ => ?_)
  ·
    have h416_ := iv_get hv0 (k := 146) (j := 17) (l := 0) (u := 600) rfl
    exact jt_rI ⟨hv0, (jfr_rf _ _), rfl, (show (a0 146 17 = 0 → ((((((0 ≤ x1 ∧ x1 ≤ 15) ∧ 0 ≤ x2) ∧ x2 ≤ 15) ∧ x3 = 2) ∧ (-1) = 0) ∨ (((((x1 < 0 ∨ 15 < x1) ∨ x2 < 0) ∨ 15 < x2) ∨ ¬ x3 = 2) ∧ (-1) = 0 - 1))) from by omega), (fun h => absurd h (by omega)), (fun _ => rfl)⟩
  ·
    refine jt_eI (eq_X12_isLand E d (jd_le hd rfl) x2 a0 b0) ?_
    have h417_ := f_X12_isLand_eq a0 b0 x2
    have h418_ := f_X12_in_eq a0 b0 x2 0 15
    refine jt_ite (fun c419_ => ?_) (fun c419_ => ?_)
    ·
      have h420_ := iv_get hv0 (k := 146) (j := 17) (l := 0) (u := 600) rfl
      exact jt_rI ⟨hv0, (jfr_rf _ _), rfl, (show (a0 146 17 = 0 → ((((((0 ≤ x1 ∧ x1 ≤ 15) ∧ 0 ≤ x2) ∧ x2 ≤ 15) ∧ x3 = 2) ∧ (-1) = 0) ∨ (((((x1 < 0 ∨ 15 < x1) ∨ x2 < 0) ∨ 15 < x2) ∨ ¬ x3 = 2) ∧ (-1) = 0 - 1))) from by omega), (fun h => absurd h (by omega)), (fun _ => rfl)⟩
    ·
      refine jt_bV (sq_X12_spans E d (jd_le hd rfl) x1 x2 a0 b0 hv0) (fun a421_ b421_ h421_ => ?_)
      obtain ⟨hv421_, hf421_, rfl, hq421_0, hq421_1⟩ := h421_
      have h422_ := iv_get hv0 (k := 146) (j := 17) (l := 0) (u := 600) rfl
      have h423_ := iv_get hv421_ (k := 146) (j := 39) (l := 0) (u := 10) rfl
      refine jt_ite (fun c424_ => ?_) (fun c424_ => ?_)
      ·
        have hf425_ : jfr jW_X12_span a0 a421_ := jfr_tr (jfr_rf _ _) hf421_ rfl
        exact jt_rI ⟨hv421_, hf425_, rfl, (show (a0 146 17 = 0 → ((((((0 ≤ x1 ∧ x1 ≤ 15) ∧ 0 ≤ x2) ∧ x2 ≤ 15) ∧ x3 = 2) ∧ a421_ 146 39 = 0) ∨ (((((x1 < 0 ∨ 15 < x1) ∨ x2 < 0) ∨ 15 < x2) ∨ ¬ x3 = 2) ∧ a421_ 146 39 = 0 - 1))) from by omega), (fun _ => by rw [if_pos (by assumption), ← hq421_1]), (fun h => absurd (by omega) h)⟩
      ·
        refine jt_ite (fun c426_ => ?_) (fun c426_ => ?_)
        ·
          have hf427_ : jfr jW_X12_span a0 a421_ := jfr_tr (jfr_rf _ _) hf421_ rfl
          exact cr_X12_span_39 E d hd x1 x2 x3 a0 b0 hv0 a421_ hv421_ hf427_ (show a421_ 146 39 ≤ 0 from by omega) (show (a0 146 17 = 0 → ¬ x3 = 2) from by omega) (show (((0 ≤ x1 ∧ x1 ≤ 15) ∧ 0 ≤ x2) ∧ x2 ≤ 15) from by omega) (by rw [← hq421_1]; exact ⟨by assumption, by assumption⟩)
        ·
          have hf428_ : jfr jW_X12_span a0 a421_ := jfr_tr (jfr_rf _ _) hf421_ rfl
          exact cr_X12_span_43 E d hd x1 x2 x3 a0 b0 hv0 x3 a421_ hv421_ hf428_ (show 1 ≤ a421_ 146 39 from by omega) (show 1 ≤ a0 146 17 from by omega) (by first | rfl | assumption) (show (((0 ≤ x1 ∧ x1 ≤ 15) ∧ 0 ≤ x2) ∧ x2 ≤ 15) from by omega) hq421_1 (by rw [← hq421_1]; exact ⟨by assumption, by assumption⟩)
abbrev jR_X12_state (x1 x2 x3 : Int) (a0 b0 : Nat → Nat → Int) : List jxV → (Nat → Nat → Int) → (Nat → Nat → Int) → Prop := rI (fun r a b => (a0 = a) ∧ (b0 = b) ∧ ((a0 146 9 = 0 → r = 0 - 1)) ∧ (0 ≤ x1 ∧ x1 < a0 146 9 ∧ 0 ≤ x2 ∧ x2 ≤ 1999 ∧ 0 ≤ x3 ∧ x3 ≤ 1999 ∧ a0 156 x1.toNat ≤ x2 → r = vStk (cvR a0) (a0 146 0) x1.toNat x2 x3) ∧ (¬ (0 ≤ x1 ∧ x1 < a0 146 9 ∧ 0 ≤ x2 ∧ x2 ≤ 1999 ∧ 0 ≤ x3 ∧ x3 ≤ 1999 ∧ a0 156 x1.toNat ≤ x2) → r = -1))
theorem cr_X12_state_38 (E : jxE) (d : Nat) (hd : Nat.ble 3 (d + 1) = true) (x1 x2 x3 : Int) (a0 b0 : Nat → Nat → Int) (hv0 : iv a0) : (¬ (0 ≤ x1 ∧ x1 < a0 146 9 ∧ 0 ≤ x2 ∧ x2 ≤ 1999 ∧ 0 ≤ x3 ∧ x3 ≤ 1999 ∧ a0 156 x1.toNat ≤ x2)) → jt (jxX E d 237 38 [none, none, none, none] [] (jxSH, a0, b0)) (jR_X12_state x1 x2 x3 a0 b0) := by
  intro hno
  refine jt_eq (bq_X12_state_38 E d a0 b0) ?_
  have h429_ := iv_get hv0 (k := 146) (j := 9) (l := 0) (u := 300) rfl
  exact jt_rI ⟨rfl, rfl, (show (a0 146 9 = 0 → (-1) = 0 - 1) from by omega), (fun h => absurd h hno), (fun _ => rfl)⟩
theorem cr_X12_state_28 (E : jxE) (d : Nat) (hd : Nat.ble 3 (d + 1) = true) (x1 x2 x3 : Int) (a0 b0 : Nat → Nat → Int) (hv0 : iv a0) : ∀ (y1 y2 y3 : Int), 0 ≤ y1 → y1 ≤ 299 → 0 ≤ y2 → y2 ≤ 1999 → 0 ≤ y3 → y3 ≤ 1999 → 1 ≤ a0 146 9 → (y1 = x1) → (y2 = x2) → (y3 = x3) → (((((0 ≤ x1 ∧ x1 < a0 146 9) ∧ 0 ≤ x2) ∧ x2 ≤ 1999) ∧ 0 ≤ x3) ∧ x3 ≤ 1999) → jt (jxX E d 237 28 [some (.inr (.inr (.inl 146))), some (.inl y1), some (.inl y2), some (.inl y3)] [] (jxSH, a0, b0)) (jR_X12_state x1 x2 x3 a0 b0) := by
  intro y1 y2 y3 hi0 hi1 hi2 hi3 hi4 hi5 hi6 hy1 hy2 hy3 hi10
  refine jt_eq (bq_X12_state_28 E d y1 y2 y3 a0 b0) ?_
  have h430_ := iv_get hv0 (k := 146) (j := 9) (l := 0) (u := 300) rfl
  have e56 : a0 156 (y1.toNat) = a0 156 (x1.toNat) := by rw [hy1]
  refine jt_grd (by omega) ?_
  have h431_ := iv_get hv0 (k := 156) (j := y1.toNat) (l := 0) (u := 1999) rfl
  refine jt_ite (fun c432_ => ?_) (fun c432_ => ?_)
  ·
    exact cr_X12_state_38 E d hd x1 x2 x3 a0 b0 hv0 (fun q => by omega)
  ·
    refine jt_bI (sq_X12_stateAt E d (jd_le hd rfl) y1 y2 y3 a0 b0 hv0 (show (0 ≤ y1 ∧ y1 ≤ 299) from by omega)) (fun r433_ a433_ b433_ h433_ => ?_)
    obtain ⟨rfl, rfl, hq433_0, hq433_1, hq433_2⟩ := h433_
    exact jt_rI ⟨rfl, rfl, (show (a0 146 9 = 0 → r433_ = 0 - 1) from by omega), (fun _ => by have q := hq433_2; rw [hy1, hy2, hy3] at q; exact q), (fun h => absurd (by omega) h)⟩
theorem sq_X12_state (E : jxE) (d : Nat) (hd : Nat.ble 3 d = true) (x1 x2 x3 : Int) (a0 b0 : Nat → Nat → Int) (hv0 : iv a0) : jt (jxC E d 237 [.inr (.inr (.inl 146)), .inl x1, .inl x2, .inl x3] (jxSH, a0, b0)) (jR_X12_state x1 x2 x3 a0 b0) := by
  obtain ⟨d, rfl⟩ := jd_succ hd
  refine jt_eq (bq_X12_state E d x1 x2 x3 a0 b0) ?_
  refine jt_eI (eq_X12_in E d (jd_le hd rfl) x1 0 (jxw ((a0 146 9) - 1)) a0 b0) ?_
  have h434_ := iv_get hv0 (k := 146) (j := 9) (l := 0) (u := 300) rfl
  have h435_ : jxw ((a0 146 9) - 1) = (a0 146 9) - 1 := jxw_id (by omega) (by omega)
  have h436_ := f_X12_in_eq a0 b0 x1 0 (jxw ((a0 146 9) - 1))
  refine jt_ite (fun c437_ => ?_) (fun c437_ => ?_)
  ·
    exact cr_X12_state_38 E d hd x1 x2 x3 a0 b0 hv0 (fun q => by omega)
  ·
    refine jt_eI (eq_X12_isDay E d (jd_le hd rfl) x2 a0 b0) ?_
    have h438_ := f_X12_isDay_eq a0 b0 x2
    have h439_ := f_X12_in_eq a0 b0 x2 0 1999
    refine jt_ite (fun c440_ => ?_) (fun c440_ => ?_)
    ·
      exact cr_X12_state_38 E d hd x1 x2 x3 a0 b0 hv0 (fun q => by omega)
    ·
      refine jt_eI (eq_X12_isDay E d (jd_le hd rfl) x3 a0 b0) ?_
      have h441_ := f_X12_isDay_eq a0 b0 x3
      have h442_ := f_X12_in_eq a0 b0 x3 0 1999
      refine jt_ite (fun c443_ => ?_) (fun c443_ => ?_)
      ·
        exact cr_X12_state_38 E d hd x1 x2 x3 a0 b0 hv0 (fun q => by omega)
      ·
        exact cr_X12_state_28 E d hd x1 x2 x3 a0 b0 hv0 x1 x2 x3 (show 0 ≤ x1 from by omega) (show x1 ≤ 299 from by omega) (show 0 ≤ x2 from by omega) (show x2 ≤ 1999 from by omega) (show 0 ≤ x3 from by omega) (show x3 ≤ 1999 from by omega) (show 1 ≤ a0 146 9 from by omega) (by first | rfl | assumption) (by first | rfl | assumption) (by first | rfl | assumption) (show (((((0 ≤ x1 ∧ x1 < a0 146 9) ∧ 0 ≤ x2) ∧ x2 ≤ 1999) ∧ 0 ≤ x3) ∧ x3 ≤ 1999) from by omega)
