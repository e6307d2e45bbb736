def jW_X0_add : List (Nat × Nat) := [(58, 8), (59, 9999), (60, 9999), (61, 9999), (62, 9999), (63, 9999), (64, 9999), (65, 9999)]
abbrev jQ_X0_add (x1 x2 x3 x4 x5 : Int) (a0 b0 : Nat → Nat → Int) : List jxV → (Nat → Nat → Int) → (Nat → Nat → Int) → Prop := rI (fun r a b => (iv a) ∧ (jfr jW_X0_add a0 a) ∧ (b0 = b))
theorem cp_X0_add_64 (E : jxE) (d : Nat) (hd : Nat.ble 1 (d + 1) = true) (x1 x2 x3 x4 x5 : Int) (a0 b0 : Nat → Nat → Int) (hv0 : iv a0) : ∀ (a : Nat → Nat → Int), iv a → jfr jW_X0_add a0 a → a 58 8 ≤ 299 → jt (jxX E d 5 64 [some (.inr (.inr (.inl 58))), none, none, none, none, none] [] (jxSH, a, b0)) (jQ_X0_add x1 x2 x3 x4 x5 a0 b0) := by
  intro a hv hf hi0
  refine jt_eq (bq_X0_add_64 E d a b0) ?_
  have h1_ := iv_get hv (k := 58) (j := 8) (l := 0) (u := 300) rfl
  refine jt_grd (by omega) ?_
  refine jt_grd (by omega) ?_
  have hv2_ : iv (jxu a 64 ((a 58 8).toNat) (-1)) := iv_putf hv rfl
  have hv3_ : iv (jxu (jxu a 64 ((a 58 8).toNat) (-1)) 65 ((a 58 8).toNat) (-1)) := iv_putf hv2_ rfl
  have h5_ : jxw ((a 58 8) + 1) = (a 58 8) + 1 := jxw_id (by omega) (by omega)
  have hv4_ : iv (jxu (jxu (jxu a 64 ((a 58 8).toNat) (-1)) 65 ((a 58 8).toNat) (-1)) 58 8 (jxw ((a 58 8) + 1))) := iv_put hv3_ (l := 0) (u := 300) rfl (by omega) (by omega)
  have hf6_ : jfr jW_X0_add a0 (jxu a 64 ((a 58 8).toNat) (-1)) := jfr_put hf rfl
  have hf7_ : jfr jW_X0_add a0 (jxu (jxu a 64 ((a 58 8).toNat) (-1)) 65 ((a 58 8).toNat) (-1)) := jfr_put hf6_ rfl
  have hf8_ : jfr jW_X0_add a0 (jxu (jxu (jxu a 64 ((a 58 8).toNat) (-1)) 65 ((a 58 8).toNat) (-1)) 58 8 (jxw ((a 58 8) + 1))) := jfr_put hf7_ rfl
  exact jt_rI ⟨hv4_, hf8_, rfl⟩
theorem cp_X0_add_32 (E : jxE) (d : Nat) (hd : Nat.ble 1 (d + 1) = true) (x1 x2 x3 x4 x5 : Int) (a0 b0 : Nat → Nat → Int) (hv0 : iv a0) : ∀ (y3 y4 y5 : Int) (a : Nat → Nat → Int), iv a → jfr jW_X0_add a0 a → a 58 8 ≤ 299 → jt (jxX E d 5 32 [some (.inr (.inr (.inl 58))), none, none, some (.inl y3), some (.inl y4), some (.inl y5)] [] (jxSH, a, b0)) (jQ_X0_add x1 x2 x3 x4 x5 a0 b0) := by
  intro y3 y4 y5 a hv hf hi0
  refine jt_eq (bq_X0_add_32 E d y3 y4 y5 a b0) ?_
  have h9_ := iv_get hv (k := 58) (j := 8) (l := 0) (u := 300) rfl
  refine jt_grd (by omega) ?_
  refine jt_grd (by omega) ?_
  refine jt_grd (by omega) ?_
  have hv10_ : iv (jxu a 61 ((a 58 8).toNat) y3) := iv_putf hv rfl
  have hv11_ : iv (jxu (jxu a 61 ((a 58 8).toNat) y3) 62 ((a 58 8).toNat) y4) := iv_putf hv10_ rfl
  have hv12_ : iv (jxu (jxu (jxu a 61 ((a 58 8).toNat) y3) 62 ((a 58 8).toNat) y4) 63 ((a 58 8).toNat) y5) := iv_putf hv11_ rfl
  have hf13_ : jfr jW_X0_add a0 (jxu a 61 ((a 58 8).toNat) y3) := jfr_put hf rfl
  have hf14_ : jfr jW_X0_add a0 (jxu (jxu a 61 ((a 58 8).toNat) y3) 62 ((a 58 8).toNat) y4) := jfr_put hf13_ rfl
  have hf15_ : jfr jW_X0_add a0 (jxu (jxu (jxu a 61 ((a 58 8).toNat) y3) 62 ((a 58 8).toNat) y4) 63 ((a 58 8).toNat) y5) := jfr_put hf14_ rfl
  exact cp_X0_add_64 E d hd x1 x2 x3 x4 x5 a0 b0 hv0 (jxu (jxu (jxu a 61 ((a 58 8).toNat) y3) 62 ((a 58 8).toNat) y4) 63 ((a 58 8).toNat) y5) hv12_ hf15_ (show a 58 8 ≤ 299 from by omega)
theorem sp_X0_add (E : jxE) (d : Nat) (hd : Nat.ble 1 d = true) (x1 x2 x3 x4 x5 : Int) (a0 b0 : Nat → Nat → Int) (hv0 : iv a0) : jt (jxC E d 5 [.inr (.inr (.inl 58)), .inl x1, .inl x2, .inl x3, .inl x4, .inl x5] (jxSH, a0, b0)) (jQ_X0_add x1 x2 x3 x4 x5 a0 b0) := by
  obtain ⟨d, rfl⟩ := jd_succ hd
  refine jt_eq (bq_X0_add E d x1 x2 x3 x4 x5 a0 b0) ?_
  have h16_ := iv_get hv0 (k := 58) (j := 8) (l := 0) (u := 300) rfl
  refine jt_ite (fun c17_ => ?_) (fun c17_ => ?_)
  ·
    refine jt_grd (by omega) ?_
    refine jt_grd (by omega) ?_
    have hv18_ : iv (jxu a0 59 ((a0 58 8).toNat) x1) := iv_putf hv0 rfl
    have hv19_ : iv (jxu (jxu a0 59 ((a0 58 8).toNat) x1) 60 ((a0 58 8).toNat) x2) := iv_putf hv18_ rfl
    have hf20_ : jfr jW_X0_add a0 (jxu a0 59 ((a0 58 8).toNat) x1) := jfr_put (jfr_rf _ _) rfl
    have hf21_ : jfr jW_X0_add a0 (jxu (jxu a0 59 ((a0 58 8).toNat) x1) 60 ((a0 58 8).toNat) x2) := jfr_put hf20_ rfl
    exact cp_X0_add_32 E d hd x1 x2 x3 x4 x5 a0 b0 hv0 x3 x4 x5 (jxu (jxu a0 59 ((a0 58 8).toNat) x1) 60 ((a0 58 8).toNat) x2) hv19_ hf21_ (show a0 58 8 ≤ 299 from by omega)
  ·
    exact jt_rI ⟨hv0, (jfr_rf _ _), rfl⟩
def jW_X0_addMeasured : List (Nat × Nat) := [(58, 13), (58, 14), (58, 15)]
abbrev jQ_X0_addMeasured (x1 : Int) (a0 b0 : Nat → Nat → Int) : List jxV → (Nat → Nat → Int) → (Nat → Nat → Int) → Prop := rV (fun a b => (iv a) ∧ (jfr jW_X0_addMeasured a0 a) ∧ (b0 = b))
theorem cp_X0_addMeasured_20 (E : jxE) (d : Nat) (hd : Nat.ble 2 (d + 1) = true) (x1 : Int) (a0 b0 : Nat → Nat → Int) (hv0 : iv a0) (hp0 : a0 58 13 < 10) : ∀ (y1 s1 : Int) (a : Nat → Nat → Int), iv a → jfr jW_X0_addMeasured a0 a → a 58 13 ≤ 9 → jt (jxX E d 24 20 [some (.inr (.inr (.inl 58))), some (.inl y1)] [.inl s1, .inr (.inr (.inl 58))] (jxSH, a, b0)) (jQ_X0_addMeasured x1 a0 b0) := by
  intro y1 s1 a hv hf hi0
  refine jt_eq (bq_X0_addMeasured_20 E d y1 s1 a b0) ?_
  have h22_ := iv_get hv (k := 58) (j := 13) (l := 0) (u := 10) rfl
  refine jt_eI (eq_J9_max_7cf53 E d (jd_le hd rfl) (a 58 15) y1 (jxu a 58 14 s1) b0) ?_
  have hv23_ : iv (jxu a 58 14 s1) := iv_putf hv rfl
  have hv24_ : iv (jxu (jxu a 58 14 s1) 58 15 (f_J9_max_7cf53 (jxu a 58 14 s1) b0 (a 58 15) y1)) := iv_putf hv23_ rfl
  have h26_ : jxw ((a 58 13) + 1) = (a 58 13) + 1 := jxw_id (by omega) (by omega)
  have hv25_ : iv (jxu (jxu (jxu a 58 14 s1) 58 15 (f_J9_max_7cf53 (jxu a 58 14 s1) b0 (a 58 15) y1)) 58 13 (jxw ((a 58 13) + 1))) := iv_put hv24_ (l := 0) (u := 10) rfl (by omega) (by omega)
  have hf27_ : jfr jW_X0_addMeasured a0 (jxu a 58 14 s1) := jfr_put hf rfl
  have hf28_ : jfr jW_X0_addMeasured a0 (jxu (jxu a 58 14 s1) 58 15 (f_J9_max_7cf53 (jxu a 58 14 s1) b0 (a 58 15) y1)) := jfr_put hf27_ rfl
  have hf29_ : jfr jW_X0_addMeasured a0 (jxu (jxu (jxu a 58 14 s1) 58 15 (f_J9_max_7cf53 (jxu a 58 14 s1) b0 (a 58 15) y1)) 58 13 (jxw ((a 58 13) + 1))) := jfr_put hf28_ rfl
  exact jt_rV ⟨hv25_, hf29_, rfl⟩
theorem sp_X0_addMeasured (E : jxE) (d : Nat) (hd : Nat.ble 2 d = true) (x1 : Int) (a0 b0 : Nat → Nat → Int) (hv0 : iv a0) (hp0 : a0 58 13 < 10) : jt (jxC E d 24 [.inr (.inr (.inl 58)), .inl x1] (jxSH, a0, b0)) (jQ_X0_addMeasured x1 a0 b0) := by
  obtain ⟨d, rfl⟩ := jd_succ hd
  refine jt_eq (bq_X0_addMeasured E d x1 a0 b0) ?_
  have h30_ := iv_get hv0 (k := 58) (j := 13) (l := 0) (u := 10) rfl
  refine jt_ite (fun c31_ => ?_) (fun c31_ => ?_)
  ·
    exact cp_X0_addMeasured_20 E d hd x1 a0 b0 hv0 hp0 x1 x1 a0 hv0 (jfr_rf _ _) (show a0 58 13 ≤ 9 from by omega)
  ·
    refine jt_eI (eq_J9_min_7cf53 E d (jd_le hd rfl) (a0 58 14) x1 a0 b0) ?_
    exact cp_X0_addMeasured_20 E d hd x1 a0 b0 hv0 hp0 x1 (f_J9_min_7cf53 a0 b0 (a0 58 14) x1) a0 hv0 (jfr_rf _ _) (show a0 58 13 ≤ 9 from by omega)
def jW_X0_measure : List (Nat × Nat) := [(58, 13), (58, 14), (58, 15)]
abbrev jQ_X0_measure (x1 x2 : Int) (a0 b0 : Nat → Nat → Int) : List jxV → (Nat → Nat → Int) → (Nat → Nat → Int) → Prop := rV (fun a b => (iv a) ∧ (jfr jW_X0_measure a0 a) ∧ (b0 = b) ∧ ((a0 58 12 = 0 → ((a 58 13 = 0 ∧ a 58 14 = 0 - 1) ∧ a 58 15 = 0 - 1))))
theorem cp_X0_measure_22 (E : jxE) (d : Nat) (hd : Nat.ble 3 (d + 1) = true) (x1 x2 : Int) (a0 b0 : Nat → Nat → Int) (hv0 : iv a0) : ∀ n : Nat, (∀ (y1 y2 y3 : Int) (a : Nat → Nat → Int), (((y3 + 1) * 1) + 0).toNat ≤ n → iv a → jfr jW_X0_measure a0 a → 0 ≤ y3 → y3 ≤ 599 → 1 ≤ a0 58 12 → jt (jxX E d 23 139 [some (.inr (.inr (.inl 58))), some (.inl y1), some (.inl y2), some (.inl y3), none, none] [] (jxSH, a, b0)) (jQ_X0_measure x1 x2 a0 b0)) ∧ (∀ (y1 y2 y3 y4 : Int) (a : Nat → Nat → Int), (((y3 + 1) * 1) + 0).toNat ≤ n → iv a → jfr jW_X0_measure a0 a → 0 ≤ y3 → y3 ≤ 599 → 0 ≤ y4 → y4 ≤ 299 → a 58 13 ≤ 9 → 1 ≤ a0 58 12 → jt (jxX E d 23 121 [some (.inr (.inr (.inl 58))), some (.inl y1), some (.inl y2), some (.inl y3), some (.inl y4), none] [] (jxSH, a, b0)) (jQ_X0_measure x1 x2 a0 b0)) ∧ (∀ (y1 y2 y3 y4 s0 : Int) (a : Nat → Nat → Int), (((y3 + 1) * 1) + 0).toNat ≤ n → iv a → jfr jW_X0_measure a0 a → 0 ≤ y3 → y3 ≤ 599 → 0 ≤ s0 → s0 ≤ 1 → a 58 13 ≤ 9 → 1 ≤ a0 58 12 → (s0 = 1 → (0 ≤ y4 ∧ y4 ≤ 299)) → jt (jxX E d 23 78 [some (.inr (.inr (.inl 58))), some (.inl y1), some (.inl y2), some (.inl y3), some (.inl y4), none] [.inl s0] (jxSH, a, b0)) (jQ_X0_measure x1 x2 a0 b0)) ∧ (∀ (y1 y2 y3 y4 : Int) (a : Nat → Nat → Int), (((y3 + 1) * 1) + 0).toNat ≤ n → iv a → jfr jW_X0_measure a0 a → 0 ≤ y3 → y3 ≤ 599 → a 58 13 ≤ 9 → 1 ≤ a0 58 12 → jt (jxX E d 23 77 [some (.inr (.inr (.inl 58))), some (.inl y1), some (.inl y2), some (.inl y3), some (.inl y4), none] [] (jxSH, a, b0)) (jQ_X0_measure x1 x2 a0 b0)) ∧ (∀ (y1 y2 y3 y4 : Int) (a : Nat → Nat → Int), (((y3 + 1) * 1) + 0).toNat ≤ n → iv a → jfr jW_X0_measure a0 a → 0 ≤ y3 → y3 ≤ 599 → 0 ≤ y4 → y4 ≤ 299 → a 58 13 ≤ 9 → 1 ≤ a0 58 12 → jt (jxX E d 23 52 [some (.inr (.inr (.inl 58))), some (.inl y1), some (.inl y2), some (.inl y3), some (.inl y4), none] [] (jxSH, a, b0)) (jQ_X0_measure x1 x2 a0 b0)) ∧ (∀ (y1 y2 y3 : Int) (a : Nat → Nat → Int), (((y3 + 1) * 1) + 0).toNat ≤ n → iv a → jfr jW_X0_measure a0 a → 0 - 1 ≤ y3 → y3 ≤ 599 → (a0 58 12 = 0 → (((y3 < 0 ∧ a 58 13 = 0) ∧ a 58 14 = 0 - 1) ∧ a 58 15 = 0 - 1)) → jt (jxX E d 23 22 [some (.inr (.inr (.inl 58))), some (.inl y1), some (.inl y2), some (.inl y3), none, none] [] (jxSH, a, b0)) (jQ_X0_measure x1 x2 a0 b0)) := by
  refine jx_ind fun n ih => ?_
  have ih139 : ∀ (y1 y2 y3 : Int) (a : Nat → Nat → Int), (((y3 + 1) * 1) + 0).toNat < n → iv a → jfr jW_X0_measure a0 a → 0 ≤ y3 → y3 ≤ 599 → 1 ≤ a0 58 12 → jt (jxX E d 23 139 [some (.inr (.inr (.inl 58))), some (.inl y1), some (.inl y2), some (.inl y3), none, none] [] (jxSH, a, b0)) (jQ_X0_measure x1 x2 a0 b0) := fun y1 y2 y3 a hlt i0 i1 i2 i3 i4 => (ih _ hlt).1 y1 y2 y3 a (Nat.le_refl _) i0 i1 i2 i3 i4
  have ih121 : ∀ (y1 y2 y3 y4 : Int) (a : Nat → Nat → Int), (((y3 + 1) * 1) + 0).toNat < n → iv a → jfr jW_X0_measure a0 a → 0 ≤ y3 → y3 ≤ 599 → 0 ≤ y4 → y4 ≤ 299 → a 58 13 ≤ 9 → 1 ≤ a0 58 12 → jt (jxX E d 23 121 [some (.inr (.inr (.inl 58))), some (.inl y1), some (.inl y2), some (.inl y3), some (.inl y4), none] [] (jxSH, a, b0)) (jQ_X0_measure x1 x2 a0 b0) := fun y1 y2 y3 y4 a hlt i0 i1 i2 i3 i4 i5 i6 i7 => (ih _ hlt).2.1 y1 y2 y3 y4 a (Nat.le_refl _) i0 i1 i2 i3 i4 i5 i6 i7
  have ih78 : ∀ (y1 y2 y3 y4 s0 : Int) (a : Nat → Nat → Int), (((y3 + 1) * 1) + 0).toNat < n → iv a → jfr jW_X0_measure a0 a → 0 ≤ y3 → y3 ≤ 599 → 0 ≤ s0 → s0 ≤ 1 → a 58 13 ≤ 9 → 1 ≤ a0 58 12 → (s0 = 1 → (0 ≤ y4 ∧ y4 ≤ 299)) → jt (jxX E d 23 78 [some (.inr (.inr (.inl 58))), some (.inl y1), some (.inl y2), some (.inl y3), some (.inl y4), none] [.inl s0] (jxSH, a, b0)) (jQ_X0_measure x1 x2 a0 b0) := fun y1 y2 y3 y4 s0 a hlt i0 i1 i2 i3 i4 i5 i6 i7 i8 => (ih _ hlt).2.2.1 y1 y2 y3 y4 s0 a (Nat.le_refl _) i0 i1 i2 i3 i4 i5 i6 i7 i8
  have ih77 : ∀ (y1 y2 y3 y4 : Int) (a : Nat → Nat → Int), (((y3 + 1) * 1) + 0).toNat < n → iv a → jfr jW_X0_measure a0 a → 0 ≤ y3 → y3 ≤ 599 → a 58 13 ≤ 9 → 1 ≤ a0 58 12 → jt (jxX E d 23 77 [some (.inr (.inr (.inl 58))), some (.inl y1), some (.inl y2), some (.inl y3), some (.inl y4), none] [] (jxSH, a, b0)) (jQ_X0_measure x1 x2 a0 b0) := fun y1 y2 y3 y4 a hlt i0 i1 i2 i3 i4 i5 => (ih _ hlt).2.2.2.1 y1 y2 y3 y4 a (Nat.le_refl _) i0 i1 i2 i3 i4 i5
  have ih52 : ∀ (y1 y2 y3 y4 : Int) (a : Nat → Nat → Int), (((y3 + 1) * 1) + 0).toNat < n → iv a → jfr jW_X0_measure a0 a → 0 ≤ y3 → y3 ≤ 599 → 0 ≤ y4 → y4 ≤ 299 → a 58 13 ≤ 9 → 1 ≤ a0 58 12 → jt (jxX E d 23 52 [some (.inr (.inr (.inl 58))), some (.inl y1), some (.inl y2), some (.inl y3), some (.inl y4), none] [] (jxSH, a, b0)) (jQ_X0_measure x1 x2 a0 b0) := fun y1 y2 y3 y4 a hlt i0 i1 i2 i3 i4 i5 i6 i7 => (ih _ hlt).2.2.2.2.1 y1 y2 y3 y4 a (Nat.le_refl _) i0 i1 i2 i3 i4 i5 i6 i7
  have ih22 : ∀ (y1 y2 y3 : Int) (a : Nat → Nat → Int), (((y3 + 1) * 1) + 0).toNat < n → iv a → jfr jW_X0_measure a0 a → 0 - 1 ≤ y3 → y3 ≤ 599 → (a0 58 12 = 0 → (((y3 < 0 ∧ a 58 13 = 0) ∧ a 58 14 = 0 - 1) ∧ a 58 15 = 0 - 1)) → jt (jxX E d 23 22 [some (.inr (.inr (.inl 58))), some (.inl y1), some (.inl y2), some (.inl y3), none, none] [] (jxSH, a, b0)) (jQ_X0_measure x1 x2 a0 b0) := fun y1 y2 y3 a hlt i0 i1 i2 i3 i4 => (ih _ hlt).2.2.2.2.2 y1 y2 y3 a (Nat.le_refl _) i0 i1 i2 i3 i4
  have hc139 : ∀ (y1 y2 y3 : Int) (a : Nat → Nat → Int), (((y3 + 1) * 1) + 0).toNat ≤ n → iv a → jfr jW_X0_measure a0 a → 0 ≤ y3 → y3 ≤ 599 → 1 ≤ a0 58 12 → jt (jxX E d 23 139 [some (.inr (.inr (.inl 58))), some (.inl y1), some (.inl y2), some (.inl y3), none, none] [] (jxSH, a, b0)) (jQ_X0_measure x1 x2 a0 b0) := by
    intro y1 y2 y3 a hm hv hf hi0 hi1 hi2
    refine jt_eq (bq_X0_measure_139 E d y1 y2 y3 a b0) ?_
    have h32_ := iv_get hv0 (k := 58) (j := 12) (l := 0) (u := 600) rfl
    have h33_ : jxw (y3 + (-1)) = y3 + (-1) := jxw_id (by omega) (by omega)
    have h34_ := iv_get hv (k := 58) (j := 13) (l := 0) (u := 10) rfl
    exact ih22 y1 y2 (jxw (y3 + (-1))) a (show ((((jxw (y3 + (-1))) + 1) * 1) + 0).toNat < n from by omega) hv hf (show 0 - 1 ≤ jxw (y3 + (-1)) from by omega) (show jxw (y3 + (-1)) ≤ 599 from by omega) (show (a0 58 12 = 0 → (((jxw (y3 + (-1)) < 0 ∧ a 58 13 = 0) ∧ a 58 14 = 0 - 1) ∧ a 58 15 = 0 - 1)) from by omega)
  have hc121 : ∀ (y1 y2 y3 y4 : Int) (a : Nat → Nat → Int), (((y3 + 1) * 1) + 0).toNat ≤ n → iv a → jfr jW_X0_measure a0 a → 0 ≤ y3 → y3 ≤ 599 → 0 ≤ y4 → y4 ≤ 299 → a 58 13 ≤ 9 → 1 ≤ a0 58 12 → jt (jxX E d 23 121 [some (.inr (.inr (.inl 58))), some (.inl y1), some (.inl y2), some (.inl y3), some (.inl y4), none] [] (jxSH, a, b0)) (jQ_X0_measure x1 x2 a0 b0) := by
    intro y1 y2 y3 y4 a hm hv hf hi0 hi1 hi2 hi3 hi4 hi5
    refine jt_eq (bq_X0_measure_121 E d y1 y2 y3 y4 a b0) ?_
    have h35_ := iv_get hv (k := 58) (j := 13) (l := 0) (u := 10) rfl
    have h36_ := iv_get hv0 (k := 58) (j := 12) (l := 0) (u := 600) rfl
    refine jt_grd (by omega) ?_
    refine jt_grd (by omega) ?_
    refine jt_bV (sp_X0_addMeasured E d (jd_le hd rfl) (jxw ((a 67 (y3.toNat)) - (a 61 (y4.toNat)))) a b0 hv (show a 58 13 < 10 from by omega)) (fun a37_ b37_ h37_ => ?_)
    obtain ⟨hv37_, hf37_, rfl⟩ := h37_
    have hf38_ : jfr jW_X0_measure a0 a37_ := jfr_tr hf hf37_ rfl
    exact hc139 y1 y2 y3 a37_ (show (((y3 + 1) * 1) + 0).toNat ≤ n from by omega) hv37_ hf38_ (show 0 ≤ y3 from by omega) (show y3 ≤ 599 from by omega) (show 1 ≤ a0 58 12 from by omega)
  have hc78 : ∀ (y1 y2 y3 y4 s0 : Int) (a : Nat → Nat → Int), (((y3 + 1) * 1) + 0).toNat ≤ n → iv a → jfr jW_X0_measure a0 a → 0 ≤ y3 → y3 ≤ 599 → 0 ≤ s0 → s0 ≤ 1 → a 58 13 ≤ 9 → 1 ≤ a0 58 12 → (s0 = 1 → (0 ≤ y4 ∧ y4 ≤ 299)) → jt (jxX E d 23 78 [some (.inr (.inr (.inl 58))), some (.inl y1), some (.inl y2), some (.inl y3), some (.inl y4), none] [.inl s0] (jxSH, a, b0)) (jQ_X0_measure x1 x2 a0 b0) := by
    intro y1 y2 y3 y4 s0 a hm hv hf hi0 hi1 hi2 hi3 hi4 hi5 hi6
    refine jt_eq (bq_X0_measure_78 E d y1 y2 y3 y4 s0 a b0) ?_
    have h39_ := iv_get hv (k := 58) (j := 13) (l := 0) (u := 10) rfl
    have h40_ := iv_get hv0 (k := 58) (j := 12) (l := 0) (u := 600) rfl
    refine jt_ite (fun c41_ => ?_) (fun c41_ => ?_)
    ·
      exact hc139 y1 y2 y3 a (show (((y3 + 1) * 1) + 0).toNat ≤ n from by omega) hv hf (show 0 ≤ y3 from by omega) (show y3 ≤ 599 from by omega) (show 1 ≤ a0 58 12 from by omega)
    ·
      refine jt_grd (by omega) ?_
      refine jt_eI (eq_X3_landOf E d (jd_le hd rfl) (a 59 (y4.toNat)) a b0) ?_
      have h42_ : a 59 (y4.toNat) = a0 59 (y4.toNat) := hf 59 (y4.toNat) rfl
      have h43_ := f_X3_landOf_eq a b0 (a 59 (y4.toNat))
      have h44_ := iv_get hv (k := 4) (j := 6) (l := 0) (u := 40) rfl
      have h45_ : a 4 6 = a0 4 6 := hf 4 6 rfl
      have h46_ := iv_get hv0 (k := 4) (j := 6) (l := 0) (u := 40) rfl
      have h47_ := f_X11_entry_r5_eq a b0 (a 4 6) (a 59 (y4.toNat))
      have h48_ : a 5 ((a 59 (y4.toNat)).toNat) = a0 5 ((a 59 (y4.toNat)).toNat) := hf 5 ((a 59 (y4.toNat)).toNat) rfl
      refine jt_ite (fun c49_ => ?_) (fun c49_ => ?_)
      ·
        refine jt_grd (by omega) ?_
        refine jt_eI (eq_X3_landOf E d (jd_le hd rfl) (a 60 (y4.toNat)) a b0) ?_
        have h50_ : a 60 (y4.toNat) = a0 60 (y4.toNat) := hf 60 (y4.toNat) rfl
        have h51_ := f_X3_landOf_eq a b0 (a 60 (y4.toNat))
        have h52_ := f_X11_entry_r5_eq a b0 (a 4 6) (a 60 (y4.toNat))
        have h53_ : a 5 ((a 60 (y4.toNat)).toNat) = a0 5 ((a 60 (y4.toNat)).toNat) := hf 5 ((a 60 (y4.toNat)).toNat) rfl
        refine jt_ite (fun c54_ => ?_) (fun c54_ => ?_)
        ·
          exact hc121 y1 y2 y3 y4 a (show (((y3 + 1) * 1) + 0).toNat ≤ n from by omega) hv hf (show 0 ≤ y3 from by omega) (show y3 ≤ 599 from by omega) (show 0 ≤ y4 from by omega) (show y4 ≤ 299 from by omega) (show a 58 13 ≤ 9 from by omega) (show 1 ≤ a0 58 12 from by omega)
        ·
          exact hc139 y1 y2 y3 a (show (((y3 + 1) * 1) + 0).toNat ≤ n from by omega) hv hf (show 0 ≤ y3 from by omega) (show y3 ≤ 599 from by omega) (show 1 ≤ a0 58 12 from by omega)
      ·
        exact hc139 y1 y2 y3 a (show (((y3 + 1) * 1) + 0).toNat ≤ n from by omega) hv hf (show 0 ≤ y3 from by omega) (show y3 ≤ 599 from by omega) (show 1 ≤ a0 58 12 from by omega)
  have hc77 : ∀ (y1 y2 y3 y4 : Int) (a : Nat → Nat → Int), (((y3 + 1) * 1) + 0).toNat ≤ n → iv a → jfr jW_X0_measure a0 a → 0 ≤ y3 → y3 ≤ 599 → a 58 13 ≤ 9 → 1 ≤ a0 58 12 → jt (jxX E d 23 77 [some (.inr (.inr (.inl 58))), some (.inl y1), some (.inl y2), some (.inl y3), some (.inl y4), none] [] (jxSH, a, b0)) (jQ_X0_measure x1 x2 a0 b0) := by
    intro y1 y2 y3 y4 a hm hv hf hi0 hi1 hi2 hi3
    refine jt_eq (bq_X0_measure_77 E d y1 y2 y3 y4 a b0) ?_
    have h55_ := iv_get hv (k := 58) (j := 13) (l := 0) (u := 10) rfl
    have h56_ := iv_get hv0 (k := 58) (j := 12) (l := 0) (u := 600) rfl
    exact hc78 y1 y2 y3 y4 0 a (show (((y3 + 1) * 1) + 0).toNat ≤ n from by omega) hv hf (show 0 ≤ y3 from by omega) (show y3 ≤ 599 from by omega) (show 0 ≤ 0 from by omega) (show 0 ≤ 1 from by omega) (show a 58 13 ≤ 9 from by omega) (show 1 ≤ a0 58 12 from by omega) (show (0 = 1 → (0 ≤ y4 ∧ y4 ≤ 299)) from by omega)
  have hc52 : ∀ (y1 y2 y3 y4 : Int) (a : Nat → Nat → Int), (((y3 + 1) * 1) + 0).toNat ≤ n → iv a → jfr jW_X0_measure a0 a → 0 ≤ y3 → y3 ≤ 599 → 0 ≤ y4 → y4 ≤ 299 → a 58 13 ≤ 9 → 1 ≤ a0 58 12 → jt (jxX E d 23 52 [some (.inr (.inr (.inl 58))), some (.inl y1), some (.inl y2), some (.inl y3), some (.inl y4), none] [] (jxSH, a, b0)) (jQ_X0_measure x1 x2 a0 b0) := by
    intro y1 y2 y3 y4 a hm hv hf hi0 hi1 hi2 hi3 hi4 hi5
    refine jt_eq (bq_X0_measure_52 E d y1 y2 y3 y4 a b0) ?_
    have h57_ := iv_get hv (k := 58) (j := 13) (l := 0) (u := 10) rfl
    have h58_ := iv_get hv0 (k := 58) (j := 12) (l := 0) (u := 600) rfl
    refine jt_grd (by omega) ?_
    have h59_ : a 65 (y4.toNat) = a0 65 (y4.toNat) := hf 65 (y4.toNat) rfl
    refine jt_ite (fun c60_ => ?_) (fun c60_ => ?_)
    ·
      refine jt_grd (by omega) ?_
      have h61_ : a 67 (y3.toNat) = a0 67 (y3.toNat) := hf 67 (y3.toNat) rfl
      refine jt_ite (fun c62_ => ?_) (fun c62_ => ?_)
      ·
        exact hc77 y1 y2 y3 y4 a (show (((y3 + 1) * 1) + 0).toNat ≤ n from by omega) hv hf (show 0 ≤ y3 from by omega) (show y3 ≤ 599 from by omega) (show a 58 13 ≤ 9 from by omega) (show 1 ≤ a0 58 12 from by omega)
      ·
        exact hc78 y1 y2 y3 y4 1 a (show (((y3 + 1) * 1) + 0).toNat ≤ n from by omega) hv hf (show 0 ≤ y3 from by omega) (show y3 ≤ 599 from by omega) (show 0 ≤ 1 from by omega) (show 1 ≤ 1 from by omega) (show a 58 13 ≤ 9 from by omega) (show 1 ≤ a0 58 12 from by omega) (show (1 = 1 → (0 ≤ y4 ∧ y4 ≤ 299)) from by omega)
    ·
      exact hc77 y1 y2 y3 y4 a (show (((y3 + 1) * 1) + 0).toNat ≤ n from by omega) hv hf (show 0 ≤ y3 from by omega) (show y3 ≤ 599 from by omega) (show a 58 13 ≤ 9 from by omega) (show 1 ≤ a0 58 12 from by omega)
  have hc22 : ∀ (y1 y2 y3 : Int) (a : Nat → Nat → Int), (((y3 + 1) * 1) + 0).toNat ≤ n → iv a → jfr jW_X0_measure a0 a → 0 - 1 ≤ y3 → y3 ≤ 599 → (a0 58 12 = 0 → (((y3 < 0 ∧ a 58 13 = 0) ∧ a 58 14 = 0 - 1) ∧ a 58 15 = 0 - 1)) → jt (jxX E d 23 22 [some (.inr (.inr (.inl 58))), some (.inl y1), some (.inl y2), some (.inl y3), none, none] [] (jxSH, a, b0)) (jQ_X0_measure x1 x2 a0 b0) := by
    intro y1 y2 y3 a hm hv hf hi0 hi1 hi2
    refine jt_eq (bq_X0_measure_22 E d y1 y2 y3 a b0) ?_
    have h63_ := iv_get hv0 (k := 58) (j := 12) (l := 0) (u := 600) rfl
    have h64_ := iv_get hv (k := 58) (j := 13) (l := 0) (u := 10) rfl
    refine jt_ite (fun c65_ => ?_) (fun c65_ => ?_)
    ·
      exact jt_rV ⟨hv, hf, rfl, (show (a0 58 12 = 0 → ((a 58 13 = 0 ∧ a 58 14 = 0 - 1) ∧ a 58 15 = 0 - 1)) from by omega)⟩
    ·
      refine jt_ite (fun c66_ => ?_) (fun c66_ => ?_)
      ·
        refine jt_grd (by omega) ?_
        refine jt_eI (eq_X0_has E d (jd_le hd rfl) (a 66 (y3.toNat)) a b0) ?_
        have h67_ : a 66 (y3.toNat) = a0 66 (y3.toNat) := hf 66 (y3.toNat) rfl
        have h68_ := f_X0_has_eq a b0 (a 66 (y3.toNat))
        have h69_ := iv_get hv (k := 58) (j := 8) (l := 0) (u := 300) rfl
        have h70_ : a 58 8 = a0 58 8 := hf 58 8 rfl
        have h71_ := iv_get hv0 (k := 58) (j := 8) (l := 0) (u := 300) rfl
        refine jt_ite (fun c72_ => ?_) (fun c72_ => ?_)
        ·
          exact hc77 y1 y2 y3 (a 66 (y3.toNat)) a (show (((y3 + 1) * 1) + 0).toNat ≤ n from by omega) hv hf (show 0 ≤ y3 from by omega) (show y3 ≤ 599 from by omega) (show a 58 13 ≤ 9 from by omega) (show 1 ≤ a0 58 12 from by omega)
        ·
          exact hc52 y1 y2 y3 (a 66 (y3.toNat)) a (show (((y3 + 1) * 1) + 0).toNat ≤ n from by omega) hv hf (show 0 ≤ y3 from by omega) (show y3 ≤ 599 from by omega) (show 0 ≤ a 66 (y3.toNat) from by omega) (show a 66 (y3.toNat) ≤ 299 from by omega) (show a 58 13 ≤ 9 from by omega) (show 1 ≤ a0 58 12 from by omega)
      ·
        exact jt_rV ⟨hv, hf, rfl, (show (a0 58 12 = 0 → ((a 58 13 = 0 ∧ a 58 14 = 0 - 1) ∧ a 58 15 = 0 - 1)) from by omega)⟩
  exact ⟨hc139, hc121, hc78, hc77, hc52, hc22⟩
theorem sp_X0_measure (E : jxE) (d : Nat) (hd : Nat.ble 3 d = true) (x1 x2 : Int) (a0 b0 : Nat → Nat → Int) (hv0 : iv a0) : jt (jxC E d 23 [.inr (.inr (.inl 58)), .inl x1, .inl x2] (jxSH, a0, b0)) (jQ_X0_measure x1 x2 a0 b0) := by
  obtain ⟨d, rfl⟩ := jd_succ hd
  refine jt_eq (bq_X0_measure E d x1 x2 a0 b0) ?_
  have hv73_ : iv (jxu a0 58 13 0) := iv_put hv0 (l := 0) (u := 10) rfl (by omega) (by omega)
  have hv74_ : iv (jxu (jxu a0 58 13 0) 58 14 (-1)) := iv_putf hv73_ rfl
  have hv75_ : iv (jxu (jxu (jxu a0 58 13 0) 58 14 (-1)) 58 15 (-1)) := iv_putf hv74_ rfl
  have hf76_ : jfr jW_X0_measure a0 (jxu a0 58 13 0) := jfr_put (jfr_rf _ _) rfl
  have hf77_ : jfr jW_X0_measure a0 (jxu (jxu a0 58 13 0) 58 14 (-1)) := jfr_put hf76_ rfl
  have hf78_ : jfr jW_X0_measure a0 (jxu (jxu (jxu a0 58 13 0) 58 14 (-1)) 58 15 (-1)) := jfr_put hf77_ rfl
  have h79_ := iv_get hv0 (k := 58) (j := 12) (l := 0) (u := 600) rfl
  have h80_ : jxw ((a0 58 12) - 1) = (a0 58 12) - 1 := jxw_id (by omega) (by omega)
  exact (cp_X0_measure_22 E d hd x1 x2 a0 b0 hv0 _).2.2.2.2.2 x1 x2 (jxw ((a0 58 12) - 1)) (jxu (jxu (jxu a0 58 13 0) 58 14 (-1)) 58 15 (-1)) (Nat.le_refl _) hv75_ hf78_ (show 0 - 1 ≤ jxw ((a0 58 12) - 1) from by omega) (show jxw ((a0 58 12) - 1) ≤ 599 from by omega) (show (a0 58 12 = 0 → (((jxw ((a0 58 12) - 1) < 0 ∧ 0 = 0) ∧ (-1) = 0 - 1) ∧ (-1) = 0 - 1)) from by omega)
def jW_X0_boundBetween : List (Nat × Nat) := [(58, 13), (58, 14), (58, 15)]
abbrev jQ_X0_boundBetween (x1 x2 x3 : Int) (a0 b0 : Nat → Nat → Int) : List jxV → (Nat → Nat → Int) → (Nat → Nat → Int) → Prop := rI (fun r a b => (iv a) ∧ (jfr jW_X0_boundBetween a0 a) ∧ (b0 = b))
theorem sp_X0_boundBetween (E : jxE) (d : Nat) (hd : Nat.ble 4 d = true) (x1 x2 x3 : Int) (a0 b0 : Nat → Nat → Int) (hv0 : iv a0) : jt (jxC E d 22 [.inr (.inr (.inl 58)), .inl x1, .inl x2, .inl x3] (jxSH, a0, b0)) (jQ_X0_boundBetween x1 x2 x3 a0 b0) := by
  obtain ⟨d, rfl⟩ := jd_succ hd
  refine jt_eq (bq_X0_boundBetween E d x1 x2 x3 a0 b0) ?_
  refine jt_bV (sp_X0_measure E d (jd_le hd rfl) x1 x2 a0 b0 hv0) (fun a81_ b81_ h81_ => ?_)
  obtain ⟨hv81_, hf81_, rfl, hq81_0⟩ := h81_
  have h82_ := iv_get hv0 (k := 58) (j := 12) (l := 0) (u := 600) rfl
  have h83_ := iv_get hv81_ (k := 58) (j := 13) (l := 0) (u := 10) rfl
  refine jt_ite (fun c84_ => ?_) (fun c84_ => ?_)
  ·
    have hf85_ : jfr jW_X0_boundBetween a0 a81_ := jfr_tr (jfr_rf _ _) hf81_ rfl
    exact jt_rI ⟨hv81_, hf85_, rfl⟩
  ·
    refine jt_eI (eq_J9_min_7cf53 E d (jd_le hd rfl) x3 (jxw ((jxw (2 * (a81_ 58 15))) + 7)) a81_ b0) ?_
    have hf86_ : jfr jW_X0_boundBetween a0 a81_ := jfr_tr (jfr_rf _ _) hf81_ rfl
    exact jt_rI ⟨hv81_, hf86_, rfl⟩
def jW_X0_cancel : List (Nat × Nat) := [(64, 9999)]
abbrev jQ_X0_cancel (x1 x2 : Int) (a0 b0 : Nat → Nat → Int) : List jxV → (Nat → Nat → Int) → (Nat → Nat → Int) → Prop := rV (fun a b => (iv a) ∧ (jfr jW_X0_cancel a0 a) ∧ (b0 = b))
theorem sp_X0_cancel (E : jxE) (d : Nat) (hd : Nat.ble 2 d = true) (x1 x2 : Int) (a0 b0 : Nat → Nat → Int) (hv0 : iv a0) : jt (jxC E d 13 [.inr (.inr (.inl 58)), .inl x1, .inl x2] (jxSH, a0, b0)) (jQ_X0_cancel x1 x2 a0 b0) := by
  obtain ⟨d, rfl⟩ := jd_succ hd
  refine jt_eq (bq_X0_cancel E d x1 x2 a0 b0) ?_
  refine jt_eI (eq_X0_has E d (jd_le hd rfl) x1 a0 b0) ?_
  have h87_ := f_X0_has_eq a0 b0 x1
  have h88_ := iv_get hv0 (k := 58) (j := 8) (l := 0) (u := 300) rfl
  refine jt_ite (fun c89_ => ?_) (fun c89_ => ?_)
  ·
    exact jt_rV ⟨hv0, (jfr_rf _ _), rfl⟩
  ·
    refine jt_grd (by omega) ?_
    have hv90_ : iv (jxu a0 64 (x1.toNat) x2) := iv_putf hv0 rfl
    have hf91_ : jfr jW_X0_cancel a0 (jxu a0 64 (x1.toNat) x2) := jfr_put (jfr_rf _ _) rfl
    exact jt_rV ⟨hv90_, hf91_, rfl⟩
abbrev jQ_X0_landsArrivedTo (x1 x2 : Int) (a0 b0 : Nat → Nat → Int) : List jxV → (Nat → Nat → Int) → (Nat → Nat → Int) → Prop := rI (fun r a b => (a0 = a) ∧ (b0 = b))
theorem cp_X0_landsArrivedTo_5 (E : jxE) (d : Nat) (hd : Nat.ble 4 (d + 1) = true) (x1 x2 : Int) (a0 b0 : Nat → Nat → Int) (hv0 : iv a0) : ∀ n : Nat, (∀ (y1 y2 y3 y4 : Int), (((300 - y4) * 1) + 0).toNat ≤ n → 0 ≤ y4 → y4 ≤ 299 → jt (jxX E d 21 65 [some (.inr (.inr (.inl 58))), some (.inl y1), some (.inl y2), some (.inl y3), some (.inl y4), none] [] (jxSH, a0, b0)) (jQ_X0_landsArrivedTo x1 x2 a0 b0)) ∧ (∀ (y1 y2 y3 y4 : Int), (((300 - y4) * 1) + 0).toNat ≤ n → 0 ≤ y4 → y4 ≤ 299 → jt (jxX E d 21 46 [some (.inr (.inr (.inl 58))), some (.inl y1), some (.inl y2), some (.inl y3), some (.inl y4), none] [] (jxSH, a0, b0)) (jQ_X0_landsArrivedTo x1 x2 a0 b0)) ∧ (∀ (y1 y2 y3 y4 y5 : Int), (((300 - y4) * 1) + 0).toNat ≤ n → 0 ≤ y4 → y4 ≤ 299 → jt (jxX E d 21 34 [some (.inr (.inr (.inl 58))), some (.inl y1), some (.inl y2), some (.inl y3), some (.inl y4), some (.inl y5)] [] (jxSH, a0, b0)) (jQ_X0_landsArrivedTo x1 x2 a0 b0)) ∧ (∀ (y1 y2 y3 y4 : Int), (((300 - y4) * 1) + 0).toNat ≤ n → 0 ≤ y4 → y4 ≤ 300 → jt (jxX E d 21 5 [some (.inr (.inr (.inl 58))), some (.inl y1), some (.inl y2), some (.inl y3), some (.inl y4), none] [] (jxSH, a0, b0)) (jQ_X0_landsArrivedTo x1 x2 a0 b0)) := by
  refine jx_ind fun n ih => ?_
  have ih65 : ∀ (y1 y2 y3 y4 : Int), (((300 - y4) * 1) + 0).toNat < n → 0 ≤ y4 → y4 ≤ 299 → jt (jxX E d 21 65 [some (.inr (.inr (.inl 58))), some (.inl y1), some (.inl y2), some (.inl y3), some (.inl y4), none] [] (jxSH, a0, b0)) (jQ_X0_landsArrivedTo x1 x2 a0 b0) := fun y1 y2 y3 y4 hlt i0 i1 => (ih _ hlt).1 y1 y2 y3 y4 (Nat.le_refl _) i0 i1
  have ih46 : ∀ (y1 y2 y3 y4 : Int), (((300 - y4) * 1) + 0).toNat < n → 0 ≤ y4 → y4 ≤ 299 → jt (jxX E d 21 46 [some (.inr (.inr (.inl 58))), some (.inl y1), some (.inl y2), some (.inl y3), some (.inl y4), none] [] (jxSH, a0, b0)) (jQ_X0_landsArrivedTo x1 x2 a0 b0) := fun y1 y2 y3 y4 hlt i0 i1 => (ih _ hlt).2.1 y1 y2 y3 y4 (Nat.le_refl _) i0 i1
  have ih34 : ∀ (y1 y2 y3 y4 y5 : Int), (((300 - y4) * 1) + 0).toNat < n → 0 ≤ y4 → y4 ≤ 299 → jt (jxX E d 21 34 [some (.inr (.inr (.inl 58))), some (.inl y1), some (.inl y2), some (.inl y3), some (.inl y4), some (.inl y5)] [] (jxSH, a0, b0)) (jQ_X0_landsArrivedTo x1 x2 a0 b0) := fun y1 y2 y3 y4 y5 hlt i0 i1 => (ih _ hlt).2.2.1 y1 y2 y3 y4 y5 (Nat.le_refl _) i0 i1
  have ih5 : ∀ (y1 y2 y3 y4 : Int), (((300 - y4) * 1) + 0).toNat < n → 0 ≤ y4 → y4 ≤ 300 → jt (jxX E d 21 5 [some (.inr (.inr (.inl 58))), some (.inl y1), some (.inl y2), some (.inl y3), some (.inl y4), none] [] (jxSH, a0, b0)) (jQ_X0_landsArrivedTo x1 x2 a0 b0) := fun y1 y2 y3 y4 hlt i0 i1 => (ih _ hlt).2.2.2 y1 y2 y3 y4 (Nat.le_refl _) i0 i1
  have hc65 : ∀ (y1 y2 y3 y4 : Int), (((300 - y4) * 1) + 0).toNat ≤ n → 0 ≤ y4 → y4 ≤ 299 → jt (jxX E d 21 65 [some (.inr (.inr (.inl 58))), some (.inl y1), some (.inl y2), some (.inl y3), some (.inl y4), none] [] (jxSH, a0, b0)) (jQ_X0_landsArrivedTo x1 x2 a0 b0) := by
    intro y1 y2 y3 y4 hm hi0 hi1
    refine jt_eq (bq_X0_landsArrivedTo_65 E d y1 y2 y3 y4 a0 b0) ?_
    have h92_ : jxw (y4 + 1) = y4 + 1 := jxw_id (by omega) (by omega)
    exact ih5 y1 y2 y3 (jxw (y4 + 1)) (show (((300 - (jxw (y4 + 1))) * 1) + 0).toNat < n from by omega) (show 0 ≤ jxw (y4 + 1) from by omega) (show jxw (y4 + 1) ≤ 300 from by omega)
  have hc46 : ∀ (y1 y2 y3 y4 : Int), (((300 - y4) * 1) + 0).toNat ≤ n → 0 ≤ y4 → y4 ≤ 299 → jt (jxX E d 21 46 [some (.inr (.inr (.inl 58))), some (.inl y1), some (.inl y2), some (.inl y3), some (.inl y4), none] [] (jxSH, a0, b0)) (jQ_X0_landsArrivedTo x1 x2 a0 b0) := by
    intro y1 y2 y3 y4 hm hi0 hi1
    refine jt_eq (bq_X0_landsArrivedTo_46 E d y1 y2 y3 y4 a0 b0) ?_
    refine jt_grd (by omega) ?_
    refine jt_eI (eq_X3_landOf E d (jd_le hd rfl) (a0 59 (y4.toNat)) a0 b0) ?_
    exact hc65 y1 y2 (jxor y3 (jxshl 1 (f_X3_landOf a0 b0 (a0 59 (y4.toNat))))) y4 (show (((300 - y4) * 1) + 0).toNat ≤ n from by omega) (show 0 ≤ y4 from by omega) (show y4 ≤ 299 from by omega)
  have hc34 : ∀ (y1 y2 y3 y4 y5 : Int), (((300 - y4) * 1) + 0).toNat ≤ n → 0 ≤ y4 → y4 ≤ 299 → jt (jxX E d 21 34 [some (.inr (.inr (.inl 58))), some (.inl y1), some (.inl y2), some (.inl y3), some (.inl y4), some (.inl y5)] [] (jxSH, a0, b0)) (jQ_X0_landsArrivedTo x1 x2 a0 b0) := by
    intro y1 y2 y3 y4 y5 hm hi0 hi1
    refine jt_eq (bq_X0_landsArrivedTo_34 E d y1 y2 y3 y4 y5 a0 b0) ?_
    refine jt_ite (fun c93_ => ?_) (fun c93_ => ?_)
    ·
      exact hc46 y1 y2 y3 y4 (show (((300 - y4) * 1) + 0).toNat ≤ n from by omega) (show 0 ≤ y4 from by omega) (show y4 ≤ 299 from by omega)
    ·
      refine jt_ite (fun c94_ => ?_) (fun c94_ => ?_)
      ·
        exact hc46 y1 y2 y3 y4 (show (((300 - y4) * 1) + 0).toNat ≤ n from by omega) (show 0 ≤ y4 from by omega) (show y4 ≤ 299 from by omega)
      ·
        exact hc65 y1 y2 y3 y4 (show (((300 - y4) * 1) + 0).toNat ≤ n from by omega) (show 0 ≤ y4 from by omega) (show y4 ≤ 299 from by omega)
  have hc5 : ∀ (y1 y2 y3 y4 : Int), (((300 - y4) * 1) + 0).toNat ≤ n → 0 ≤ y4 → y4 ≤ 300 → jt (jxX E d 21 5 [some (.inr (.inr (.inl 58))), some (.inl y1), some (.inl y2), some (.inl y3), some (.inl y4), none] [] (jxSH, a0, b0)) (jQ_X0_landsArrivedTo x1 x2 a0 b0) := by
    intro y1 y2 y3 y4 hm hi0 hi1
    refine jt_eq (bq_X0_landsArrivedTo_5 E d y1 y2 y3 y4 a0 b0) ?_
    have h95_ := iv_get hv0 (k := 58) (j := 8) (l := 0) (u := 300) rfl
    refine jt_ite (fun c96_ => ?_) (fun c96_ => ?_)
    ·
      refine jt_eI (eq_X0_stateNow E d (jd_le hd rfl) y4 y2 a0 b0) ?_
      refine jt_grd (by omega) ?_
      refine jt_ite (fun c97_ => ?_) (fun c97_ => ?_)
      ·
        exact hc34 y1 y2 y3 y4 (f_X0_stateNow a0 b0 y4 y2) (show (((300 - y4) * 1) + 0).toNat ≤ n from by omega) (show 0 ≤ y4 from by omega) (show y4 ≤ 299 from by omega)
      ·
        exact hc65 y1 y2 y3 y4 (show (((300 - y4) * 1) + 0).toNat ≤ n from by omega) (show 0 ≤ y4 from by omega) (show y4 ≤ 299 from by omega)
    ·
      exact jt_rI ⟨rfl, rfl⟩
  exact ⟨hc65, hc46, hc34, hc5⟩
theorem sp_X0_landsArrivedTo (E : jxE) (d : Nat) (hd : Nat.ble 4 d = true) (x1 x2 : Int) (a0 b0 : Nat → Nat → Int) (hv0 : iv a0) : jt (jxC E d 21 [.inr (.inr (.inl 58)), .inl x1, .inl x2] (jxSH, a0, b0)) (jQ_X0_landsArrivedTo x1 x2 a0 b0) := by
  obtain ⟨d, rfl⟩ := jd_succ hd
  refine jt_eq (bq_X0_landsArrivedTo E d x1 x2 a0 b0) ?_
  exact (cp_X0_landsArrivedTo_5 E d hd x1 x2 a0 b0 hv0 _).2.2.2 x1 x2 0 0 (Nat.le_refl _) (show 0 ≤ 0 from by omega) (show 0 ≤ 300 from by omega)
abbrev jQ_X0_reachedBy (x1 : Int) (a0 b0 : Nat → Nat → Int) : List jxV → (Nat → Nat → Int) → (Nat → Nat → Int) → Prop := rJ (fun r a b => (a0 = a) ∧ (b0 = b))
theorem cp_X0_reachedBy_5 (E : jxE) (d : Nat) (hd : Nat.ble 3 (d + 1) = true) (x1 : Int) (a0 b0 : Nat → Nat → Int) (hv0 : iv a0) : ∀ n : Nat, (∀ (y1 y2 y4 : Int), (((300 - y4) * 1) + 0).toNat ≤ n → 0 ≤ y4 → y4 ≤ 299 → jt (jxX E d 20 44 [some (.inr (.inr (.inl 58))), some (.inl y1), some (.inr (.inl y2)), none, some (.inl y4)] [] (jxSH, a0, b0)) (jQ_X0_reachedBy x1 a0 b0)) ∧ (∀ (y1 y2 y4 : Int), (((300 - y4) * 1) + 0).toNat ≤ n → 0 ≤ y4 → y4 ≤ 300 → jt (jxX E d 20 5 [some (.inr (.inr (.inl 58))), some (.inl y1), some (.inr (.inl y2)), none, some (.inl y4)] [] (jxSH, a0, b0)) (jQ_X0_reachedBy x1 a0 b0)) := by
  refine jx_ind fun n ih => ?_
  have ih44 : ∀ (y1 y2 y4 : Int), (((300 - y4) * 1) + 0).toNat < n → 0 ≤ y4 → y4 ≤ 299 → jt (jxX E d 20 44 [some (.inr (.inr (.inl 58))), some (.inl y1), some (.inr (.inl y2)), none, some (.inl y4)] [] (jxSH, a0, b0)) (jQ_X0_reachedBy x1 a0 b0) := fun y1 y2 y4 hlt i0 i1 => (ih _ hlt).1 y1 y2 y4 (Nat.le_refl _) i0 i1
  have ih5 : ∀ (y1 y2 y4 : Int), (((300 - y4) * 1) + 0).toNat < n → 0 ≤ y4 → y4 ≤ 300 → jt (jxX E d 20 5 [some (.inr (.inr (.inl 58))), some (.inl y1), some (.inr (.inl y2)), none, some (.inl y4)] [] (jxSH, a0, b0)) (jQ_X0_reachedBy x1 a0 b0) := fun y1 y2 y4 hlt i0 i1 => (ih _ hlt).2 y1 y2 y4 (Nat.le_refl _) i0 i1
  have hc44 : ∀ (y1 y2 y4 : Int), (((300 - y4) * 1) + 0).toNat ≤ n → 0 ≤ y4 → y4 ≤ 299 → jt (jxX E d 20 44 [some (.inr (.inr (.inl 58))), some (.inl y1), some (.inr (.inl y2)), none, some (.inl y4)] [] (jxSH, a0, b0)) (jQ_X0_reachedBy x1 a0 b0) := by
    intro y1 y2 y4 hm hi0 hi1
    refine jt_eq (bq_X0_reachedBy_44 E d y1 y2 y4 a0 b0) ?_
    have h98_ : jxw (y4 + 1) = y4 + 1 := jxw_id (by omega) (by omega)
    exact ih5 y1 y2 (jxw (y4 + 1)) (show (((300 - (jxw (y4 + 1))) * 1) + 0).toNat < n from by omega) (show 0 ≤ jxw (y4 + 1) from by omega) (show jxw (y4 + 1) ≤ 300 from by omega)
  have hc5 : ∀ (y1 y2 y4 : Int), (((300 - y4) * 1) + 0).toNat ≤ n → 0 ≤ y4 → y4 ≤ 300 → jt (jxX E d 20 5 [some (.inr (.inr (.inl 58))), some (.inl y1), some (.inr (.inl y2)), none, some (.inl y4)] [] (jxSH, a0, b0)) (jQ_X0_reachedBy x1 a0 b0) := by
    intro y1 y2 y4 hm hi0 hi1
    refine jt_eq (bq_X0_reachedBy_5 E d y1 y2 y4 a0 b0) ?_
    have h99_ := iv_get hv0 (k := 58) (j := 8) (l := 0) (u := 300) rfl
    refine jt_ite (fun c100_ => ?_) (fun c100_ => ?_)
    ·
      refine jt_grd (by omega) ?_
      refine jt_eI (eq_X3_areKin E d (jd_le hd rfl) y1 (a0 59 (y4.toNat)) a0 b0) ?_
      have h101_ := f_X3_areKin_bool a0 b0 y1 (a0 59 (y4.toNat))
      refine jt_ite (fun c102_ => ?_) (fun c102_ => ?_)
      ·
        exact hc44 y1 y2 y4 (show (((300 - y4) * 1) + 0).toNat ≤ n from by omega) (show 0 ≤ y4 from by omega) (show y4 ≤ 299 from by omega)
      ·
        refine jt_grd (by omega) ?_
        exact hc44 y1 (jxorl y2 (jxshll 1 (a0 60 (y4.toNat)))) y4 (show (((300 - y4) * 1) + 0).toNat ≤ n from by omega) (show 0 ≤ y4 from by omega) (show y4 ≤ 299 from by omega)
    ·
      exact jt_rJ ⟨rfl, rfl⟩
  exact ⟨hc44, hc5⟩
theorem sp_X0_reachedBy (E : jxE) (d : Nat) (hd : Nat.ble 3 d = true) (x1 : Int) (a0 b0 : Nat → Nat → Int) (hv0 : iv a0) : jt (jxC E d 20 [.inr (.inr (.inl 58)), .inl x1] (jxSH, a0, b0)) (jQ_X0_reachedBy x1 a0 b0) := by
  obtain ⟨d, rfl⟩ := jd_succ hd
  refine jt_eq (bq_X0_reachedBy E d x1 a0 b0) ?_
  exact (cp_X0_reachedBy_5 E d hd x1 a0 b0 hv0 _).2 x1 0 0 (Nat.le_refl _) (show 0 ≤ 0 from by omega) (show 0 ≤ 300 from by omega)
abbrev jQ_X0_stateAsKnown (x1 x2 x3 : Int) (a0 b0 : Nat → Nat → Int) : List jxV → (Nat → Nat → Int) → (Nat → Nat → Int) → Prop := rI (fun r a b => (a0 = a) ∧ (b0 = b))
theorem cp_X0_stateAsKnown_6 (E : jxE) (d : Nat) (hd : Nat.ble 3 (d + 1) = true) (x1 x2 x3 : Int) (a0 b0 : Nat → Nat → Int) (hv0 : iv a0) : ∀ n : Nat, (∀ (y1 y2 y3 y4 y5 : Int), (((600 - y5) * 1) + 0).toNat ≤ n → 0 ≤ y5 → y5 ≤ 599 → jt (jxX E d 18 46 [some (.inr (.inr (.inl 58))), some (.inl y1), some (.inl y2), some (.inl y3), some (.inl y4), some (.inl y5)] [] (jxSH, a0, b0)) (jQ_X0_stateAsKnown x1 x2 x3 a0 b0)) ∧ (∀ (y1 y2 y3 y5 : Int), (((600 - y5) * 1) + 0).toNat ≤ n → 0 ≤ y5 → y5 ≤ 599 → jt (jxX E d 18 37 [some (.inr (.inr (.inl 58))), some (.inl y1), some (.inl y2), some (.inl y3), none, some (.inl y5)] [] (jxSH, a0, b0)) (jQ_X0_stateAsKnown x1 x2 x3 a0 b0)) ∧ (∀ (y1 y2 y3 y4 y5 : Int), (((600 - y5) * 1) + 0).toNat ≤ n → 0 ≤ y5 → y5 ≤ 600 → jt (jxX E d 18 6 [some (.inr (.inr (.inl 58))), some (.inl y1), some (.inl y2), some (.inl y3), some (.inl y4), some (.inl y5)] [] (jxSH, a0, b0)) (jQ_X0_stateAsKnown x1 x2 x3 a0 b0)) := by
  refine jx_ind fun n ih => ?_
  have ih46 : ∀ (y1 y2 y3 y4 y5 : Int), (((600 - y5) * 1) + 0).toNat < n → 0 ≤ y5 → y5 ≤ 599 → jt (jxX E d 18 46 [some (.inr (.inr (.inl 58))), some (.inl y1), some (.inl y2), some (.inl y3), some (.inl y4), some (.inl y5)] [] (jxSH, a0, b0)) (jQ_X0_stateAsKnown x1 x2 x3 a0 b0) := fun y1 y2 y3 y4 y5 hlt i0 i1 => (ih _ hlt).1 y1 y2 y3 y4 y5 (Nat.le_refl _) i0 i1
  have ih37 : ∀ (y1 y2 y3 y5 : Int), (((600 - y5) * 1) + 0).toNat < n → 0 ≤ y5 → y5 ≤ 599 → jt (jxX E d 18 37 [some (.inr (.inr (.inl 58))), some (.inl y1), some (.inl y2), some (.inl y3), none, some (.inl y5)] [] (jxSH, a0, b0)) (jQ_X0_stateAsKnown x1 x2 x3 a0 b0) := fun y1 y2 y3 y5 hlt i0 i1 => (ih _ hlt).2.1 y1 y2 y3 y5 (Nat.le_refl _) i0 i1
  have ih6 : ∀ (y1 y2 y3 y4 y5 : Int), (((600 - y5) * 1) + 0).toNat < n → 0 ≤ y5 → y5 ≤ 600 → jt (jxX E d 18 6 [some (.inr (.inr (.inl 58))), some (.inl y1), some (.inl y2), some (.inl y3), some (.inl y4), some (.inl y5)] [] (jxSH, a0, b0)) (jQ_X0_stateAsKnown x1 x2 x3 a0 b0) := fun y1 y2 y3 y4 y5 hlt i0 i1 => (ih _ hlt).2.2 y1 y2 y3 y4 y5 (Nat.le_refl _) i0 i1
  have hc46 : ∀ (y1 y2 y3 y4 y5 : Int), (((600 - y5) * 1) + 0).toNat ≤ n → 0 ≤ y5 → y5 ≤ 599 → jt (jxX E d 18 46 [some (.inr (.inr (.inl 58))), some (.inl y1), some (.inl y2), some (.inl y3), some (.inl y4), some (.inl y5)] [] (jxSH, a0, b0)) (jQ_X0_stateAsKnown x1 x2 x3 a0 b0) := by
    intro y1 y2 y3 y4 y5 hm hi0 hi1
    refine jt_eq (bq_X0_stateAsKnown_46 E d y1 y2 y3 y4 y5 a0 b0) ?_
    have h103_ : jxw (y5 + 1) = y5 + 1 := jxw_id (by omega) (by omega)
    exact ih6 y1 y2 y3 y4 (jxw (y5 + 1)) (show (((600 - (jxw (y5 + 1))) * 1) + 0).toNat < n from by omega) (show 0 ≤ jxw (y5 + 1) from by omega) (show jxw (y5 + 1) ≤ 600 from by omega)
  have hc37 : ∀ (y1 y2 y3 y5 : Int), (((600 - y5) * 1) + 0).toNat ≤ n → 0 ≤ y5 → y5 ≤ 599 → jt (jxX E d 18 37 [some (.inr (.inr (.inl 58))), some (.inl y1), some (.inl y2), some (.inl y3), none, some (.inl y5)] [] (jxSH, a0, b0)) (jQ_X0_stateAsKnown x1 x2 x3 a0 b0) := by
    intro y1 y2 y3 y5 hm hi0 hi1
    refine jt_eq (bq_X0_stateAsKnown_37 E d y1 y2 y3 y5 a0 b0) ?_
    refine jt_grd (by omega) ?_
    exact hc46 y1 y2 y3 (a0 67 (y5.toNat)) y5 (show (((600 - y5) * 1) + 0).toNat ≤ n from by omega) (show 0 ≤ y5 from by omega) (show y5 ≤ 599 from by omega)
  have hc6 : ∀ (y1 y2 y3 y4 y5 : Int), (((600 - y5) * 1) + 0).toNat ≤ n → 0 ≤ y5 → y5 ≤ 600 → jt (jxX E d 18 6 [some (.inr (.inr (.inl 58))), some (.inl y1), some (.inl y2), some (.inl y3), some (.inl y4), some (.inl y5)] [] (jxSH, a0, b0)) (jQ_X0_stateAsKnown x1 x2 x3 a0 b0) := by
    intro y1 y2 y3 y4 y5 hm hi0 hi1
    refine jt_eq (bq_X0_stateAsKnown_6 E d y1 y2 y3 y4 y5 a0 b0) ?_
    have h104_ := iv_get hv0 (k := 58) (j := 12) (l := 0) (u := 600) rfl
    refine jt_ite (fun c105_ => ?_) (fun c105_ => ?_)
    ·
      refine jt_grd (by omega) ?_
      refine jt_ite (fun c106_ => ?_) (fun c106_ => ?_)
      ·
        refine jt_grd (by omega) ?_
        refine jt_ite (fun c107_ => ?_) (fun c107_ => ?_)
        ·
          exact hc46 y1 y2 y3 y4 y5 (show (((600 - y5) * 1) + 0).toNat ≤ n from by omega) (show 0 ≤ y5 from by omega) (show y5 ≤ 599 from by omega)
        ·
          exact hc37 y1 y2 y3 y5 (show (((600 - y5) * 1) + 0).toNat ≤ n from by omega) (show 0 ≤ y5 from by omega) (show y5 ≤ 599 from by omega)
      ·
        exact hc46 y1 y2 y3 y4 y5 (show (((600 - y5) * 1) + 0).toNat ≤ n from by omega) (show 0 ≤ y5 from by omega) (show y5 ≤ 599 from by omega)
    ·
      refine jt_eI (eq_X0_stateOn E d (jd_le hd rfl) y1 y2 y3 y4 a0 b0) ?_
      exact jt_rI ⟨rfl, rfl⟩
  exact ⟨hc46, hc37, hc6⟩
theorem sp_X0_stateAsKnown (E : jxE) (d : Nat) (hd : Nat.ble 3 d = true) (x1 x2 x3 : Int) (a0 b0 : Nat → Nat → Int) (hv0 : iv a0) : jt (jxC E d 18 [.inr (.inr (.inl 58)), .inl x1, .inl x2, .inl x3] (jxSH, a0, b0)) (jQ_X0_stateAsKnown x1 x2 x3 a0 b0) := by
  obtain ⟨d, rfl⟩ := jd_succ hd
  refine jt_eq (bq_X0_stateAsKnown E d x1 x2 x3 a0 b0) ?_
  exact (cp_X0_stateAsKnown_6 E d hd x1 x2 x3 a0 b0 hv0 _).2.2 x1 x2 x3 (-1) 0 (Nat.le_refl _) (show 0 ≤ 0 from by omega) (show 0 ≤ 600 from by omega)
def jW_X0_tell : List (Nat × Nat) := [(58, 12), (65, 9999), (66, 9999), (67, 9999), (68, 9999)]
abbrev jQ_X0_tell (x1 x2 x3 : Int) (a0 b0 : Nat → Nat → Int) : List jxV → (Nat → Nat → Int) → (Nat → Nat → Int) → Prop := rI (fun r a b => (iv a) ∧ (jfr jW_X0_tell a0 a) ∧ (b0 = b) ∧ ((0 ≤ r ∧ r ≤ 1)))
theorem cp_X0_tell_28 (E : jxE) (d : Nat) (hd : Nat.ble 2 (d + 1) = true) (x1 x2 x3 : Int) (a0 b0 : Nat → Nat → Int) (hv0 : iv a0) : ∀ (a : Nat → Nat → Int), iv a → jfr jW_X0_tell a0 a → jt (jxX E d 16 28 [none, none, none, none] [] (jxSH, a, b0)) (jQ_X0_tell x1 x2 x3 a0 b0) := by
  intro a hv hf
  refine jt_eq (bq_X0_tell_28 E d a b0) ?_
  exact jt_rI ⟨hv, hf, rfl, (show (0 ≤ 0 ∧ 0 ≤ 1) from by omega)⟩
theorem cp_X0_tell_60 (E : jxE) (d : Nat) (hd : Nat.ble 2 (d + 1) = true) (x1 x2 x3 : Int) (a0 b0 : Nat → Nat → Int) (hv0 : iv a0) : ∀ (y1 : Int) (a : Nat → Nat → Int), iv a → jfr jW_X0_tell a0 a → 0 ≤ y1 → y1 ≤ 299 → a 58 12 ≤ 599 → jt (jxX E d 16 60 [some (.inr (.inr (.inl 58))), some (.inl y1), none, none] [] (jxSH, a, b0)) (jQ_X0_tell x1 x2 x3 a0 b0) := by
  intro y1 a hv hf hi0 hi1 hi2
  refine jt_eq (bq_X0_tell_60 E d y1 a b0) ?_
  have h108_ := iv_get hv (k := 58) (j := 12) (l := 0) (u := 600) rfl
  refine jt_grd (by omega) ?_
  have hv109_ : iv (jxu a 65 (y1.toNat) (a 58 12)) := iv_putf hv rfl
  have h111_ : jxw ((a 58 12) + 1) = (a 58 12) + 1 := jxw_id (by omega) (by omega)
  have hv110_ : iv (jxu (jxu a 65 (y1.toNat) (a 58 12)) 58 12 (jxw ((a 58 12) + 1))) := iv_put hv109_ (l := 0) (u := 600) rfl (by omega) (by omega)
  have hf112_ : jfr jW_X0_tell a0 (jxu a 65 (y1.toNat) (a 58 12)) := jfr_put hf rfl
  have hf113_ : jfr jW_X0_tell a0 (jxu (jxu a 65 (y1.toNat) (a 58 12)) 58 12 (jxw ((a 58 12) + 1))) := jfr_put hf112_ rfl
  exact jt_rI ⟨hv110_, hf113_, rfl, (show (0 ≤ 1 ∧ 1 ≤ 1) from by omega)⟩
theorem cp_X0_tell_30 (E : jxE) (d : Nat) (hd : Nat.ble 2 (d + 1) = true) (x1 x2 x3 : Int) (a0 b0 : Nat → Nat → Int) (hv0 : iv a0) : ∀ (y1 y2 y3 : Int) (a : Nat → Nat → Int), iv a → jfr jW_X0_tell a0 a → 0 ≤ y1 → y1 ≤ 299 → a 58 12 ≤ 599 → jt (jxX E d 16 30 [some (.inr (.inr (.inl 58))), some (.inl y1), some (.inl y2), some (.inl y3)] [] (jxSH, a, b0)) (jQ_X0_tell x1 x2 x3 a0 b0) := by
  intro y1 y2 y3 a hv hf hi0 hi1 hi2
  refine jt_eq (bq_X0_tell_30 E d y1 y2 y3 a b0) ?_
  have h114_ := iv_get hv (k := 58) (j := 12) (l := 0) (u := 600) rfl
  refine jt_grd (by omega) ?_
  refine jt_grd (by omega) ?_
  refine jt_grd (by omega) ?_
  have hv115_ : iv (jxu a 66 ((a 58 12).toNat) y1) := iv_putf hv rfl
  have hv116_ : iv (jxu (jxu a 66 ((a 58 12).toNat) y1) 67 ((a 58 12).toNat) y2) := iv_putf hv115_ rfl
  have hv117_ : iv (jxu (jxu (jxu a 66 ((a 58 12).toNat) y1) 67 ((a 58 12).toNat) y2) 68 ((a 58 12).toNat) y3) := iv_putf hv116_ rfl
  have hf118_ : jfr jW_X0_tell a0 (jxu a 66 ((a 58 12).toNat) y1) := jfr_put hf rfl
  have hf119_ : jfr jW_X0_tell a0 (jxu (jxu a 66 ((a 58 12).toNat) y1) 67 ((a 58 12).toNat) y2) := jfr_put hf118_ rfl
  have hf120_ : jfr jW_X0_tell a0 (jxu (jxu (jxu a 66 ((a 58 12).toNat) y1) 67 ((a 58 12).toNat) y2) 68 ((a 58 12).toNat) y3) := jfr_put hf119_ rfl
  exact cp_X0_tell_60 E d hd x1 x2 x3 a0 b0 hv0 y1 (jxu (jxu (jxu a 66 ((a 58 12).toNat) y1) 67 ((a 58 12).toNat) y2) 68 ((a 58 12).toNat) y3) hv117_ hf120_ (show 0 ≤ y1 from by omega) (show y1 ≤ 299 from by omega) (show a 58 12 ≤ 599 from by omega)
theorem sp_X0_tell (E : jxE) (d : Nat) (hd : Nat.ble 2 d = true) (x1 x2 x3 : Int) (a0 b0 : Nat → Nat → Int) (hv0 : iv a0) : jt (jxC E d 16 [.inr (.inr (.inl 58)), .inl x1, .inl x2, .inl x3] (jxSH, a0, b0)) (jQ_X0_tell x1 x2 x3 a0 b0) := by
  obtain ⟨d, rfl⟩ := jd_succ hd
  refine jt_eq (bq_X0_tell E d x1 x2 x3 a0 b0) ?_
  refine jt_eI (eq_X0_has E d (jd_le hd rfl) x1 a0 b0) ?_
  have h121_ := f_X0_has_eq a0 b0 x1
  have h122_ := iv_get hv0 (k := 58) (j := 8) (l := 0) (u := 300) rfl
  refine jt_ite (fun c123_ => ?_) (fun c123_ => ?_)
  ·
    exact cp_X0_tell_28 E d hd x1 x2 x3 a0 b0 hv0 a0 hv0 (jfr_rf _ _)
  ·
    refine jt_grd (by omega) ?_
    refine jt_ite (fun c124_ => ?_) (fun c124_ => ?_)
    ·
      have h125_ := iv_get hv0 (k := 58) (j := 12) (l := 0) (u := 600) rfl
      refine jt_ite (fun c126_ => ?_) (fun c126_ => ?_)
      ·
        exact cp_X0_tell_30 E d hd x1 x2 x3 a0 b0 hv0 x1 x2 x3 a0 hv0 (jfr_rf _ _) (show 0 ≤ x1 from by omega) (show x1 ≤ 299 from by omega) (show a0 58 12 ≤ 599 from by omega)
      ·
        exact cp_X0_tell_28 E d hd x1 x2 x3 a0 b0 hv0 a0 hv0 (jfr_rf _ _)
    ·
      exact cp_X0_tell_28 E d hd x1 x2 x3 a0 b0 hv0 a0 hv0 (jfr_rf _ _)
def jW_X0_takeBack : List (Nat × Nat) := [(58, 12), (65, 9999), (66, 9999), (67, 9999), (68, 9999)]
abbrev jQ_X0_takeBack (x1 x2 : Int) (a0 b0 : Nat → Nat → Int) : List jxV → (Nat → Nat → Int) → (Nat → Nat → Int) → Prop := rI (fun r a b => (iv a) ∧ (jfr jW_X0_takeBack a0 a) ∧ (b0 = b) ∧ ((0 ≤ r ∧ r ≤ 1)) ∧ ((a0 58 8 = 0 → r = 0)))
theorem sp_X0_takeBack (E : jxE) (d : Nat) (hd : Nat.ble 3 d = true) (x1 x2 : Int) (a0 b0 : Nat → Nat → Int) (hv0 : iv a0) : jt (jxC E d 15 [.inr (.inr (.inl 58)), .inl x1, .inl x2] (jxSH, a0, b0)) (jQ_X0_takeBack x1 x2 a0 b0) := by
  obtain ⟨d, rfl⟩ := jd_succ hd
  refine jt_eq (bq_X0_takeBack E d x1 x2 a0 b0) ?_
  refine jt_eI (eq_X0_arrivedOnOf E d (jd_le hd rfl) x1 a0 b0) ?_
  have h127_ := f_X0_arrivedOnOf_eq a0 b0 x1
  have h128_ := iv_get hv0 (k := 58) (j := 12) (l := 0) (u := 600) rfl
  have h129_ := iv_get hv0 (k := 58) (j := 8) (l := 0) (u := 300) rfl
  have h130_ := f_X11_entry_r65_eq a0 b0 (a0 58 8) x1
  have h131_ := f_X11_entry_r67_eq a0 b0 (a0 58 12) (f_X11_entry_r65 a0 b0 (a0 58 8) x1)
  refine jt_ite (fun c132_ => ?_) (fun c132_ => ?_)
  ·
    exact jt_rI ⟨hv0, (jfr_rf _ _), rfl, (show (0 ≤ 0 ∧ 0 ≤ 1) from by omega), (show (a0 58 8 = 0 → 0 = 0) from by omega)⟩
  ·
    refine jt_bI (sp_X0_tell E d (jd_le hd rfl) x1 (-1) x2 a0 b0 hv0) (fun r133_ a133_ b133_ h133_ => ?_)
    obtain ⟨hv133_, hf133_, rfl, hq133_0⟩ := h133_
    refine jt_ite (fun c134_ => ?_) (fun c134_ => ?_)
    ·
      have hf135_ : jfr jW_X0_takeBack a0 a133_ := jfr_tr (jfr_rf _ _) hf133_ rfl
      exact jt_rI ⟨hv133_, hf135_, rfl, (show (0 ≤ 0 ∧ 0 ≤ 1) from by omega), (show (a0 58 8 = 0 → 0 = 0) from by omega)⟩
    ·
      have hf136_ : jfr jW_X0_takeBack a0 a133_ := jfr_tr (jfr_rf _ _) hf133_ rfl
      exact jt_rI ⟨hv133_, hf136_, rfl, (show (0 ≤ 1 ∧ 1 ≤ 1) from by omega), (show (a0 58 8 = 0 → 1 = 0) from by omega)⟩
def jW_X0_tellArrival : List (Nat × Nat) := [(58, 12), (65, 9999), (66, 9999), (67, 9999), (68, 9999)]
abbrev jQ_X0_tellArrival (x1 x2 x3 : Int) (a0 b0 : Nat → Nat → Int) : List jxV → (Nat → Nat → Int) → (Nat → Nat → Int) → Prop := rI (fun r a b => (iv a) ∧ (jfr jW_X0_tellArrival a0 a) ∧ (b0 = b) ∧ ((0 ≤ r ∧ r ≤ 1)) ∧ ((a0 58 8 = 0 → r = 0)))
theorem sp_X0_tellArrival (E : jxE) (d : Nat) (hd : Nat.ble 3 d = true) (x1 x2 x3 : Int) (a0 b0 : Nat → Nat → Int) (hv0 : iv a0) : jt (jxC E d 14 [.inr (.inr (.inl 58)), .inl x1, .inl x2, .inl x3] (jxSH, a0, b0)) (jQ_X0_tellArrival x1 x2 x3 a0 b0) := by
  obtain ⟨d, rfl⟩ := jd_succ hd
  refine jt_eq (bq_X0_tellArrival E d x1 x2 x3 a0 b0) ?_
  refine jt_eI (eq_X0_has E d (jd_le hd rfl) x1 a0 b0) ?_
  have h137_ := f_X0_has_eq a0 b0 x1
  have h138_ := iv_get hv0 (k := 58) (j := 8) (l := 0) (u := 300) rfl
  refine jt_ite (fun c139_ => ?_) (fun c139_ => ?_)
  ·
    exact jt_rI ⟨hv0, (jfr_rf _ _), rfl, (show (0 ≤ 0 ∧ 0 ≤ 1) from by omega), (show (a0 58 8 = 0 → 0 = 0) from by omega)⟩
  ·
    refine jt_grd (by omega) ?_
    refine jt_eI (eq_X11_within E d (jd_le hd rfl) x2 (a0 61 (x1.toNat)) x3 a0 b0) ?_
    have h140_ := f_X11_within_eq a0 b0 x2 (a0 61 (x1.toNat)) x3
    refine jt_ite (fun c141_ => ?_) (fun c141_ => ?_)
    ·
      exact jt_rI ⟨hv0, (jfr_rf _ _), rfl, (show (0 ≤ 0 ∧ 0 ≤ 1) from by omega), (show (a0 58 8 = 0 → 0 = 0) from by omega)⟩
    ·
      refine jt_bI (sp_X0_tell E d (jd_le hd rfl) x1 x2 x3 a0 b0 hv0) (fun r142_ a142_ b142_ h142_ => ?_)
      obtain ⟨hv142_, hf142_, rfl, hq142_0⟩ := h142_
      refine jt_grd (by omega) ?_
      have hf143_ : jfr jW_X0_tellArrival a0 a142_ := jfr_tr (jfr_rf _ _) hf142_ rfl
      exact jt_rI ⟨hv142_, hf143_, rfl, (show (0 ≤ r142_ ∧ r142_ ≤ 1) from by omega), (show (a0 58 8 = 0 → r142_ = 0) from by omega)⟩
def jW_X10_addStep : List (Nat × Nat) := [(11, 6), (54, 9999)]
abbrev jQ_X10_addStep (x1 x2 : Int) (a0 b0 : Nat → Nat → Int) : List jxV → (Nat → Nat → Int) → (Nat → Nat → Int) → Prop := rV (fun a b => (iv a) ∧ (jfr jW_X10_addStep a0 a) ∧ (b0 = b))
theorem cp_X10_addStep_35 (E : jxE) (d : Nat) (hd : Nat.ble 1 (d + 1) = true) (x1 x2 : Int) (a0 b0 : Nat → Nat → Int) (hv0 : iv a0) : ∀ (a : Nat → Nat → Int), iv a → jfr jW_X10_addStep a0 a → 1 ≤ a 11 6 → jt (jxX E d 149 35 [none, none, none] [] (jxSH, a, b0)) (jQ_X10_addStep x1 x2 a0 b0) := by
  intro a hv hf hi0
  refine jt_eq (bq_X10_addStep_35 E d a b0) ?_
  have h144_ := iv_get hv (k := 11) (j := 6) (l := 0) (u := 40) rfl
  exact jt_rV ⟨hv, hf, rfl⟩
theorem sp_X10_addStep (E : jxE) (d : Nat) (hd : Nat.ble 1 d = true) (x1 x2 : Int) (a0 b0 : Nat → Nat → Int) (hv0 : iv a0) : jt (jxC E d 149 [.inr (.inr (.inl 11)), .inl x1, .inl x2] (jxSH, a0, b0)) (jQ_X10_addStep x1 x2 a0 b0) := by
  obtain ⟨d, rfl⟩ := jd_succ hd
  refine jt_eq (bq_X10_addStep E d x1 x2 a0 b0) ?_
  have h145_ := iv_get hv0 (k := 11) (j := 6) (l := 0) (u := 40) rfl
  refine jt_ite (fun c146_ => ?_) (fun c146_ => ?_)
  ·
    refine jt_grd (by omega) ?_
    have h148_ : jxw ((a0 11 6) + 1) = (a0 11 6) + 1 := jxw_id (by omega) (by omega)
    have hv147_ : iv (jxu a0 11 6 (jxw ((a0 11 6) + 1))) := iv_put hv0 (l := 0) (u := 40) rfl (by omega) (by omega)
    have hv149_ : iv (jxu (jxu a0 11 6 (jxw ((a0 11 6) + 1))) 54 ((a0 11 6).toNat) (jxw ((jxw (x1 * 1000)) + x2))) := iv_putf hv147_ rfl
    have hf150_ : jfr jW_X10_addStep a0 (jxu a0 11 6 (jxw ((a0 11 6) + 1))) := jfr_put (jfr_rf _ _) rfl
    have hf151_ : jfr jW_X10_addStep a0 (jxu (jxu a0 11 6 (jxw ((a0 11 6) + 1))) 54 ((a0 11 6).toNat) (jxw ((jxw (x1 * 1000)) + x2))) := jfr_put hf150_ rfl
    exact cp_X10_addStep_35 E d hd x1 x2 a0 b0 hv0 (jxu (jxu a0 11 6 (jxw ((a0 11 6) + 1))) 54 ((a0 11 6).toNat) (jxw ((jxw (x1 * 1000)) + x2))) hv149_ hf151_ (show 1 ≤ jxw ((a0 11 6) + 1) from by omega)
  ·
    exact cp_X10_addStep_35 E d hd x1 x2 a0 b0 hv0 a0 hv0 (jfr_rf _ _) (show 1 ≤ a0 11 6 from by omega)
abbrev jQ_X10_isMet (x1 x2 x3 : Int) (a0 b0 : Nat → Nat → Int) : List jxV → (Nat → Nat → Int) → (Nat → Nat → Int) → Prop := rI (fun r a b => (a0 = a) ∧ (b0 = b) ∧ ((0 ≤ r ∧ r ≤ 1)))
theorem cp_X10_isMet_31 (E : jxE) (d : Nat) (hd : Nat.ble 5 (d + 1) = true) (x1 x2 x3 : Int) (a0 b0 : Nat → Nat → Int) (hv0 : iv a0) : jt (jxX E d 150 31 [none, none, none, none, none, none, none, none, none] [] (jxSH, a0, b0)) (jQ_X10_isMet x1 x2 x3 a0 b0) := by
  refine jt_eq (bq_X10_isMet_31 E d a0 b0) ?_
  exact jt_rI ⟨rfl, rfl, (show (0 ≤ 1 ∧ 1 ≤ 1) from by omega)⟩
theorem cp_X10_isMet_182 (E : jxE) (d : Nat) (hd : Nat.ble 5 (d + 1) = true) (x1 x2 x3 : Int) (a0 b0 : Nat → Nat → Int) (hv0 : iv a0) : ∀ (y4 : Int), jt (jxX E d 150 182 [none, none, none, none, some (.inl y4), none, none, none, none] [] (jxSH, a0, b0)) (jQ_X10_isMet x1 x2 x3 a0 b0) := by
  intro y4
  refine jt_eq (bq_X10_isMet_182 E d y4 a0 b0) ?_
  have h152_ := jxand_r y4 1 (by decide) (by decide)
  refine jt_ite (fun c153_ => ?_) (fun c153_ => ?_)
  ·
    exact jt_rI ⟨rfl, rfl, (show (0 ≤ 1 ∧ 1 ≤ 1) from by omega)⟩
  ·
    exact jt_rI ⟨rfl, rfl, (show (0 ≤ 0 ∧ 0 ≤ 1) from by omega)⟩
theorem cp_X10_isMet_39 (E : jxE) (d : Nat) (hd : Nat.ble 5 (d + 1) = true) (x1 x2 x3 : Int) (a0 b0 : Nat → Nat → Int) (hv0 : iv a0) : ∀ n : Nat, (∀ (y1 y2 y3 y4 y5 : Int), (((40 - y5) * 1) + 0).toNat ≤ n → 0 ≤ y1 → y1 ≤ 39 → 0 ≤ y2 → y2 ≤ 39 → 0 ≤ y5 → y5 ≤ 39 → jt (jxX E d 150 113 [some (.inr (.inr (.inl 11))), some (.inl y1), some (.inl y2), some (.inl y3), some (.inl y4), some (.inl y5), none, none, none] [] (jxSH, a0, b0)) (jQ_X10_isMet x1 x2 x3 a0 b0)) ∧ (∀ (y1 y2 y3 y4 y5 : Int), (((40 - y5) * 1) + 0).toNat ≤ n → 0 ≤ y1 → y1 ≤ 39 → 0 ≤ y2 → y2 ≤ 39 → 0 ≤ y5 → y5 ≤ 39 → jt (jxX E d 150 132 [some (.inr (.inr (.inl 11))), some (.inl y1), some (.inl y2), some (.inl y3), some (.inl y4), some (.inl y5), none, none, none] [] (jxSH, a0, b0)) (jQ_X10_isMet x1 x2 x3 a0 b0)) ∧ (∀ (y1 y2 y3 y4 y5 y8 : Int), (((40 - y5) * 1) + 0).toNat ≤ n → 0 ≤ y1 → y1 ≤ 39 → 0 ≤ y2 → y2 ≤ 39 → 0 ≤ y5 → y5 ≤ 39 → 0 ≤ y8 → y8 ≤ 1 → jt (jxX E d 150 159 [some (.inr (.inr (.inl 11))), some (.inl y1), some (.inl y2), some (.inl y3), some (.inl y4), some (.inl y5), none, none, some (.inl y8)] [] (jxSH, a0, b0)) (jQ_X10_isMet x1 x2 x3 a0 b0)) ∧ (∀ (y1 y2 y3 y4 y5 y6 : Int), (((40 - y5) * 1) + 0).toNat ≤ n → 0 ≤ y1 → y1 ≤ 39 → 0 ≤ y2 → y2 ≤ 39 → 0 ≤ y5 → y5 ≤ 39 → jt (jxX E d 150 72 [some (.inr (.inr (.inl 11))), some (.inl y1), some (.inl y2), some (.inl y3), some (.inl y4), some (.inl y5), some (.inl y6), none, none] [] (jxSH, a0, b0)) (jQ_X10_isMet x1 x2 x3 a0 b0)) ∧ (∀ (y1 y2 y3 y4 y5 : Int), (((40 - y5) * 1) + 0).toNat ≤ n → 0 ≤ y1 → y1 ≤ 39 → 0 ≤ y2 → y2 ≤ 39 → 0 ≤ y5 → y5 ≤ 40 → jt (jxX E d 150 39 [some (.inr (.inr (.inl 11))), some (.inl y1), some (.inl y2), some (.inl y3), some (.inl y4), some (.inl y5), none, none, none] [] (jxSH, a0, b0)) (jQ_X10_isMet x1 x2 x3 a0 b0)) := by
  refine jx_ind fun n ih => ?_
  have ih113 : ∀ (y1 y2 y3 y4 y5 : Int), (((40 - y5) * 1) + 0).toNat < n → 0 ≤ y1 → y1 ≤ 39 → 0 ≤ y2 → y2 ≤ 39 → 0 ≤ y5 → y5 ≤ 39 → jt (jxX E d 150 113 [some (.inr (.inr (.inl 11))), some (.inl y1), some (.inl y2), some (.inl y3), some (.inl y4), some (.inl y5), none, none, none] [] (jxSH, a0, b0)) (jQ_X10_isMet x1 x2 x3 a0 b0) := fun y1 y2 y3 y4 y5 hlt i0 i1 i2 i3 i4 i5 => (ih _ hlt).1 y1 y2 y3 y4 y5 (Nat.le_refl _) i0 i1 i2 i3 i4 i5
  have ih132 : ∀ (y1 y2 y3 y4 y5 : Int), (((40 - y5) * 1) + 0).toNat < n → 0 ≤ y1 → y1 ≤ 39 → 0 ≤ y2 → y2 ≤ 39 → 0 ≤ y5 → y5 ≤ 39 → jt (jxX E d 150 132 [some (.inr (.inr (.inl 11))), some (.inl y1), some (.inl y2), some (.inl y3), some (.inl y4), some (.inl y5), none, none, none] [] (jxSH, a0, b0)) (jQ_X10_isMet x1 x2 x3 a0 b0) := fun y1 y2 y3 y4 y5 hlt i0 i1 i2 i3 i4 i5 => (ih _ hlt).2.1 y1 y2 y3 y4 y5 (Nat.le_refl _) i0 i1 i2 i3 i4 i5
  have ih159 : ∀ (y1 y2 y3 y4 y5 y8 : Int), (((40 - y5) * 1) + 0).toNat < n → 0 ≤ y1 → y1 ≤ 39 → 0 ≤ y2 → y2 ≤ 39 → 0 ≤ y5 → y5 ≤ 39 → 0 ≤ y8 → y8 ≤ 1 → jt (jxX E d 150 159 [some (.inr (.inr (.inl 11))), some (.inl y1), some (.inl y2), some (.inl y3), some (.inl y4), some (.inl y5), none, none, some (.inl y8)] [] (jxSH, a0, b0)) (jQ_X10_isMet x1 x2 x3 a0 b0) := fun y1 y2 y3 y4 y5 y8 hlt i0 i1 i2 i3 i4 i5 i6 i7 => (ih _ hlt).2.2.1 y1 y2 y3 y4 y5 y8 (Nat.le_refl _) i0 i1 i2 i3 i4 i5 i6 i7
  have ih72 : ∀ (y1 y2 y3 y4 y5 y6 : Int), (((40 - y5) * 1) + 0).toNat < n → 0 ≤ y1 → y1 ≤ 39 → 0 ≤ y2 → y2 ≤ 39 → 0 ≤ y5 → y5 ≤ 39 → jt (jxX E d 150 72 [some (.inr (.inr (.inl 11))), some (.inl y1), some (.inl y2), some (.inl y3), some (.inl y4), some (.inl y5), some (.inl y6), none, none] [] (jxSH, a0, b0)) (jQ_X10_isMet x1 x2 x3 a0 b0) := fun y1 y2 y3 y4 y5 y6 hlt i0 i1 i2 i3 i4 i5 => (ih _ hlt).2.2.2.1 y1 y2 y3 y4 y5 y6 (Nat.le_refl _) i0 i1 i2 i3 i4 i5
  have ih39 : ∀ (y1 y2 y3 y4 y5 : Int), (((40 - y5) * 1) + 0).toNat < n → 0 ≤ y1 → y1 ≤ 39 → 0 ≤ y2 → y2 ≤ 39 → 0 ≤ y5 → y5 ≤ 40 → jt (jxX E d 150 39 [some (.inr (.inr (.inl 11))), some (.inl y1), some (.inl y2), some (.inl y3), some (.inl y4), some (.inl y5), none, none, none] [] (jxSH, a0, b0)) (jQ_X10_isMet x1 x2 x3 a0 b0) := fun y1 y2 y3 y4 y5 hlt i0 i1 i2 i3 i4 i5 => (ih _ hlt).2.2.2.2 y1 y2 y3 y4 y5 (Nat.le_refl _) i0 i1 i2 i3 i4 i5
  have hc113 : ∀ (y1 y2 y3 y4 y5 : Int), (((40 - y5) * 1) + 0).toNat ≤ n → 0 ≤ y1 → y1 ≤ 39 → 0 ≤ y2 → y2 ≤ 39 → 0 ≤ y5 → y5 ≤ 39 → jt (jxX E d 150 113 [some (.inr (.inr (.inl 11))), some (.inl y1), some (.inl y2), some (.inl y3), some (.inl y4), some (.inl y5), none, none, none] [] (jxSH, a0, b0)) (jQ_X10_isMet x1 x2 x3 a0 b0) := by
    intro y1 y2 y3 y4 y5 hm hi0 hi1 hi2 hi3 hi4 hi5
    refine jt_eq (bq_X10_isMet_113 E d y1 y2 y3 y4 y5 a0 b0) ?_
    have h154_ : jxw (y5 + 1) = y5 + 1 := jxw_id (by omega) (by omega)
    exact ih39 y1 y2 y3 y4 (jxw (y5 + 1)) (show (((40 - (jxw (y5 + 1))) * 1) + 0).toNat < n from by omega) (show 0 ≤ y1 from by omega) (show y1 ≤ 39 from by omega) (show 0 ≤ y2 from by omega) (show y2 ≤ 39 from by omega) (show 0 ≤ jxw (y5 + 1) from by omega) (show jxw (y5 + 1) ≤ 40 from by omega)
  have hc132 : ∀ (y1 y2 y3 y4 y5 : Int), (((40 - y5) * 1) + 0).toNat ≤ n → 0 ≤ y1 → y1 ≤ 39 → 0 ≤ y2 → y2 ≤ 39 → 0 ≤ y5 → y5 ≤ 39 → jt (jxX E d 150 132 [some (.inr (.inr (.inl 11))), some (.inl y1), some (.inl y2), some (.inl y3), some (.inl y4), some (.inl y5), none, none, none] [] (jxSH, a0, b0)) (jQ_X10_isMet x1 x2 x3 a0 b0) := by
    intro y1 y2 y3 y4 y5 hm hi0 hi1 hi2 hi3 hi4 hi5
    refine jt_eq (bq_X10_isMet_132 E d y1 y2 y3 y4 y5 a0 b0) ?_
    have h155_ : jxw (y5 + 1) = y5 + 1 := jxw_id (by omega) (by omega)
    exact ih39 y1 y2 y3 y4 (jxw (y5 + 1)) (show (((40 - (jxw (y5 + 1))) * 1) + 0).toNat < n from by omega) (show 0 ≤ y1 from by omega) (show y1 ≤ 39 from by omega) (show 0 ≤ y2 from by omega) (show y2 ≤ 39 from by omega) (show 0 ≤ jxw (y5 + 1) from by omega) (show jxw (y5 + 1) ≤ 40 from by omega)
  have hc159 : ∀ (y1 y2 y3 y4 y5 y8 : Int), (((40 - y5) * 1) + 0).toNat ≤ n → 0 ≤ y1 → y1 ≤ 39 → 0 ≤ y2 → y2 ≤ 39 → 0 ≤ y5 → y5 ≤ 39 → 0 ≤ y8 → y8 ≤ 1 → jt (jxX E d 150 159 [some (.inr (.inr (.inl 11))), some (.inl y1), some (.inl y2), some (.inl y3), some (.inl y4), some (.inl y5), none, none, some (.inl y8)] [] (jxSH, a0, b0)) (jQ_X10_isMet x1 x2 x3 a0 b0) := by
    intro y1 y2 y3 y4 y5 y8 hm hi0 hi1 hi2 hi3 hi4 hi5 hi6 hi7
    refine jt_eq (bq_X10_isMet_159 E d y1 y2 y3 y4 y5 y8 a0 b0) ?_
    refine jt_ite (fun c156_ => ?_) (fun c156_ => ?_)
    ·
      have h157_ : jxw (y5 + 1) = y5 + 1 := jxw_id (by omega) (by omega)
      exact ih39 y1 y2 y3 (jxor (jxshl y4 1) 0) (jxw (y5 + 1)) (show (((40 - (jxw (y5 + 1))) * 1) + 0).toNat < n from by omega) (show 0 ≤ y1 from by omega) (show y1 ≤ 39 from by omega) (show 0 ≤ y2 from by omega) (show y2 ≤ 39 from by omega) (show 0 ≤ jxw (y5 + 1) from by omega) (show jxw (y5 + 1) ≤ 40 from by omega)
    ·
      have h158_ : jxw (y5 + 1) = y5 + 1 := jxw_id (by omega) (by omega)
      exact ih39 y1 y2 y3 (jxor (jxshl y4 1) 1) (jxw (y5 + 1)) (show (((40 - (jxw (y5 + 1))) * 1) + 0).toNat < n from by omega) (show 0 ≤ y1 from by omega) (show y1 ≤ 39 from by omega) (show 0 ≤ y2 from by omega) (show y2 ≤ 39 from by omega) (show 0 ≤ jxw (y5 + 1) from by omega) (show jxw (y5 + 1) ≤ 40 from by omega)
  have hc72 : ∀ (y1 y2 y3 y4 y5 y6 : Int), (((40 - y5) * 1) + 0).toNat ≤ n → 0 ≤ y1 → y1 ≤ 39 → 0 ≤ y2 → y2 ≤ 39 → 0 ≤ y5 → y5 ≤ 39 → jt (jxX E d 150 72 [some (.inr (.inr (.inl 11))), some (.inl y1), some (.inl y2), some (.inl y3), some (.inl y4), some (.inl y5), some (.inl y6), none, none] [] (jxSH, a0, b0)) (jQ_X10_isMet x1 x2 x3 a0 b0) := by
    intro y1 y2 y3 y4 y5 y6 hm hi0 hi1 hi2 hi3 hi4 hi5
    refine jt_eq (bq_X10_isMet_72 E d y1 y2 y3 y4 y5 y6 a0 b0) ?_
    refine jt_ite (fun c159_ => ?_) (fun c159_ => ?_)
    ·
      have h160_ : jxw (y5 + 1) = y5 + 1 := jxw_id (by omega) (by omega)
      exact ih39 y1 y2 y3 (jxxor y4 1) (jxw (y5 + 1)) (show (((40 - (jxw (y5 + 1))) * 1) + 0).toNat < n from by omega) (show 0 ≤ y1 from by omega) (show y1 ≤ 39 from by omega) (show 0 ≤ y2 from by omega) (show y2 ≤ 39 from by omega) (show 0 ≤ jxw (y5 + 1) from by omega) (show jxw (y5 + 1) ≤ 40 from by omega)
    ·
      refine jt_ite (fun c161_ => ?_) (fun c161_ => ?_)
      ·
        exact hc113 y1 y2 y3 (jxand (jxshr y4 1) (jxor (jxand y4 1) (-2))) y5 (show (((40 - y5) * 1) + 0).toNat ≤ n from by omega) (show 0 ≤ y1 from by omega) (show y1 ≤ 39 from by omega) (show 0 ≤ y2 from by omega) (show y2 ≤ 39 from by omega) (show 0 ≤ y5 from by omega) (show y5 ≤ 39 from by omega)
      ·
        refine jt_ite (fun c162_ => ?_) (fun c162_ => ?_)
        ·
          exact hc132 y1 y2 y3 (jxor (jxshr y4 1) (jxand y4 1)) y5 (show (((40 - y5) * 1) + 0).toNat ≤ n from by omega) (show 0 ≤ y1 from by omega) (show y1 ≤ 39 from by omega) (show 0 ≤ y2 from by omega) (show y2 ≤ 39 from by omega) (show 0 ≤ y5 from by omega) (show y5 ≤ 39 from by omega)
        ·
          refine jt_grd (by omega) ?_
          refine jt_grd (by omega) ?_
          refine jt_grd (by omega) ?_
          refine jt_eI (eq_X10_holdsAtom E d (jd_le hd rfl) y6 (jxw (Int.tmod (a0 12 ((y1.toNat) * 40 + (y5.toNat))) 1000)) y1 y2 y3 a0 b0) ?_
          have h163_ := jx_tm (a0 12 ((y1.toNat) * 40 + (y5.toNat))) 1000
          have h164_ := jx_tmr (a0 12 ((y1.toNat) * 40 + (y5.toNat))) 1000 (by decide)
          have h165_ : jxw (Int.tmod (a0 12 ((y1.toNat) * 40 + (y5.toNat))) 1000) = Int.tmod (a0 12 ((y1.toNat) * 40 + (y5.toNat))) 1000 := jxw_id (by omega) (by omega)
          have h166_ := f_X10_holdsAtom_bool a0 b0 y6 (jxw (Int.tmod (a0 12 ((y1.toNat) * 40 + (y5.toNat))) 1000)) y1 y2 y3
          exact hc159 y1 y2 y3 y4 y5 (f_X10_holdsAtom a0 b0 y6 (jxw (Int.tmod (a0 12 ((y1.toNat) * 40 + (y5.toNat))) 1000)) y1 y2 y3) (show (((40 - y5) * 1) + 0).toNat ≤ n from by omega) (show 0 ≤ y1 from by omega) (show y1 ≤ 39 from by omega) (show 0 ≤ y2 from by omega) (show y2 ≤ 39 from by omega) (show 0 ≤ y5 from by omega) (show y5 ≤ 39 from by omega) (show 0 ≤ f_X10_holdsAtom a0 b0 y6 (jxw (Int.tmod (a0 12 ((y1.toNat) * 40 + (y5.toNat))) 1000)) y1 y2 y3 from by omega) (show f_X10_holdsAtom a0 b0 y6 (jxw (Int.tmod (a0 12 ((y1.toNat) * 40 + (y5.toNat))) 1000)) y1 y2 y3 ≤ 1 from by omega)
  have hc39 : ∀ (y1 y2 y3 y4 y5 : Int), (((40 - y5) * 1) + 0).toNat ≤ n → 0 ≤ y1 → y1 ≤ 39 → 0 ≤ y2 → y2 ≤ 39 → 0 ≤ y5 → y5 ≤ 40 → jt (jxX E d 150 39 [some (.inr (.inr (.inl 11))), some (.inl y1), some (.inl y2), some (.inl y3), some (.inl y4), some (.inl y5), none, none, none] [] (jxSH, a0, b0)) (jQ_X10_isMet x1 x2 x3 a0 b0) := by
    intro y1 y2 y3 y4 y5 hm hi0 hi1 hi2 hi3 hi4 hi5
    refine jt_eq (bq_X10_isMet_39 E d y1 y2 y3 y4 y5 a0 b0) ?_
    refine jt_grd (by omega) ?_
    have h167_ := iv_get hv0 (k := 53) (j := y1.toNat) (l := 0) (u := 40) rfl
    refine jt_ite (fun c168_ => ?_) (fun c168_ => ?_)
    ·
      refine jt_ite (fun c169_ => ?_) (fun c169_ => ?_)
      ·
        refine jt_grd (by omega) ?_
        refine jt_grd (by omega) ?_
        refine jt_grd (by omega) ?_
        exact hc72 y1 y2 y3 y4 y5 (jxw (Int.tdiv (a0 12 ((y1.toNat) * 40 + (y5.toNat))) 1000)) (show (((40 - y5) * 1) + 0).toNat ≤ n from by omega) (show 0 ≤ y1 from by omega) (show y1 ≤ 39 from by omega) (show 0 ≤ y2 from by omega) (show y2 ≤ 39 from by omega) (show 0 ≤ y5 from by omega) (show y5 ≤ 39 from by omega)
      ·
        exact cp_X10_isMet_182 E d hd x1 x2 x3 a0 b0 hv0 y4
    ·
      exact cp_X10_isMet_182 E d hd x1 x2 x3 a0 b0 hv0 y4
  exact ⟨hc113, hc132, hc159, hc72, hc39⟩
theorem cp_X10_isMet_33 (E : jxE) (d : Nat) (hd : Nat.ble 5 (d + 1) = true) (x1 x2 x3 : Int) (a0 b0 : Nat → Nat → Int) (hv0 : iv a0) : ∀ (y1 y2 y3 : Int), 0 ≤ y1 → y1 ≤ 39 → 0 ≤ y2 → y2 ≤ 39 → jt (jxX E d 150 33 [some (.inr (.inr (.inl 11))), some (.inl y1), some (.inl y2), some (.inl y3), none, none, none, none, none] [] (jxSH, a0, b0)) (jQ_X10_isMet x1 x2 x3 a0 b0) := by
  intro y1 y2 y3 hi0 hi1 hi2 hi3
  refine jt_eq (bq_X10_isMet_33 E d y1 y2 y3 a0 b0) ?_
  exact (cp_X10_isMet_39 E d hd x1 x2 x3 a0 b0 hv0 _).2.2.2.2 y1 y2 y3 0 0 (Nat.le_refl _) (show 0 ≤ y1 from by omega) (show y1 ≤ 39 from by omega) (show 0 ≤ y2 from by omega) (show y2 ≤ 39 from by omega) (show 0 ≤ 0 from by omega) (show 0 ≤ 40 from by omega)
theorem sp_X10_isMet (E : jxE) (d : Nat) (hd : Nat.ble 5 d = true) (x1 x2 x3 : Int) (a0 b0 : Nat → Nat → Int) (hv0 : iv a0) : jt (jxC E d 150 [.inr (.inr (.inl 11)), .inl x1, .inl x2, .inl x3] (jxSH, a0, b0)) (jQ_X10_isMet x1 x2 x3 a0 b0) := by
  obtain ⟨d, rfl⟩ := jd_succ hd
  refine jt_eq (bq_X10_isMet E d x1 x2 x3 a0 b0) ?_
  refine jt_eI (eq_X3_has E d (jd_le hd rfl) x1 a0 b0) ?_
  have h170_ := f_X3_has_eq a0 b0 x1
  have h171_ := iv_get hv0 (k := 4) (j := 6) (l := 0) (u := 40) rfl
  refine jt_ite (fun c172_ => ?_) (fun c172_ => ?_)
  ·
    exact cp_X10_isMet_31 E d hd x1 x2 x3 a0 b0 hv0
  ·
    refine jt_eI (eq_X3_has E d (jd_le hd rfl) x2 a0 b0) ?_
    have h173_ := f_X3_has_eq a0 b0 x2
    refine jt_ite (fun c174_ => ?_) (fun c174_ => ?_)
    ·
      exact cp_X10_isMet_31 E d hd x1 x2 x3 a0 b0 hv0
    ·
      refine jt_grd (by omega) ?_
      have h175_ := iv_get hv0 (k := 53) (j := x1.toNat) (l := 0) (u := 40) rfl
      refine jt_ite (fun c176_ => ?_) (fun c176_ => ?_)
      ·
        exact cp_X10_isMet_31 E d hd x1 x2 x3 a0 b0 hv0
      ·
        exact cp_X10_isMet_33 E d hd x1 x2 x3 a0 b0 hv0 x1 x2 x3 (show 0 ≤ x1 from by omega) (show x1 ≤ 39 from by omega) (show 0 ≤ x2 from by omega) (show x2 ≤ 39 from by omega)
def jW_X10_keepDraft : List (Nat × Nat) := [(12, 9999), (53, 9999)]
abbrev jQ_X10_keepDraft (x1 : Int) (a0 b0 : Nat → Nat → Int) : List jxV → (Nat → Nat → Int) → (Nat → Nat → Int) → Prop := rV (fun a b => (iv a) ∧ (jfr jW_X10_keepDraft a0 a) ∧ (b0 = b))
theorem cp_X10_keepDraft_14 (E : jxE) (d : Nat) (hd : Nat.ble 2 (d + 1) = true) (x1 : Int) (a0 b0 : Nat → Nat → Int) (hv0 : iv a0) : ∀ n : Nat, (∀ (y1 y2 : Int) (a : Nat → Nat → Int), (((40 - y2) * 1) + 0).toNat ≤ n → iv a → jfr jW_X10_keepDraft a0 a → 0 ≤ y1 → y1 ≤ 39 → 0 ≤ y2 → y2 ≤ 39 → 1 ≤ a 11 6 → jt (jxX E d 142 36 [some (.inr (.inr (.inl 11))), some (.inl y1), some (.inl y2)] [] (jxSH, a, b0)) (jQ_X10_keepDraft x1 a0 b0)) ∧ (∀ (y1 y2 : Int) (a : Nat → Nat → Int), (((40 - y2) * 1) + 0).toNat ≤ n → iv a → jfr jW_X10_keepDraft a0 a → 0 ≤ y1 → y1 ≤ 39 → 0 ≤ y2 → y2 ≤ 40 → jt (jxX E d 142 14 [some (.inr (.inr (.inl 11))), some (.inl y1), some (.inl y2)] [] (jxSH, a, b0)) (jQ_X10_keepDraft x1 a0 b0)) := by
  refine jx_ind fun n ih => ?_
  have ih36 : ∀ (y1 y2 : Int) (a : Nat → Nat → Int), (((40 - y2) * 1) + 0).toNat < n → iv a → jfr jW_X10_keepDraft a0 a → 0 ≤ y1 → y1 ≤ 39 → 0 ≤ y2 → y2 ≤ 39 → 1 ≤ a 11 6 → jt (jxX E d 142 36 [some (.inr (.inr (.inl 11))), some (.inl y1), some (.inl y2)] [] (jxSH, a, b0)) (jQ_X10_keepDraft x1 a0 b0) := fun y1 y2 a hlt i0 i1 i2 i3 i4 i5 i6 => (ih _ hlt).1 y1 y2 a (Nat.le_refl _) i0 i1 i2 i3 i4 i5 i6
  have ih14 : ∀ (y1 y2 : Int) (a : Nat → Nat → Int), (((40 - y2) * 1) + 0).toNat < n → iv a → jfr jW_X10_keepDraft a0 a → 0 ≤ y1 → y1 ≤ 39 → 0 ≤ y2 → y2 ≤ 40 → jt (jxX E d 142 14 [some (.inr (.inr (.inl 11))), some (.inl y1), some (.inl y2)] [] (jxSH, a, b0)) (jQ_X10_keepDraft x1 a0 b0) := fun y1 y2 a hlt i0 i1 i2 i3 i4 i5 => (ih _ hlt).2 y1 y2 a (Nat.le_refl _) i0 i1 i2 i3 i4 i5
  have hc36 : ∀ (y1 y2 : Int) (a : Nat → Nat → Int), (((40 - y2) * 1) + 0).toNat ≤ n → iv a → jfr jW_X10_keepDraft a0 a → 0 ≤ y1 → y1 ≤ 39 → 0 ≤ y2 → y2 ≤ 39 → 1 ≤ a 11 6 → jt (jxX E d 142 36 [some (.inr (.inr (.inl 11))), some (.inl y1), some (.inl y2)] [] (jxSH, a, b0)) (jQ_X10_keepDraft x1 a0 b0) := by
    intro y1 y2 a hm hv hf hi0 hi1 hi2 hi3 hi4
    refine jt_eq (bq_X10_keepDraft_36 E d y1 y2 a b0) ?_
    have h177_ := iv_get hv (k := 11) (j := 6) (l := 0) (u := 40) rfl
    have h178_ : a 11 6 = a0 11 6 := hf 11 6 rfl
    have h179_ := iv_get hv0 (k := 11) (j := 6) (l := 0) (u := 40) rfl
    have h180_ : jxw (y2 + 1) = y2 + 1 := jxw_id (by omega) (by omega)
    exact ih14 y1 (jxw (y2 + 1)) a (show (((40 - (jxw (y2 + 1))) * 1) + 0).toNat < n from by omega) hv hf (show 0 ≤ y1 from by omega) (show y1 ≤ 39 from by omega) (show 0 ≤ jxw (y2 + 1) from by omega) (show jxw (y2 + 1) ≤ 40 from by omega)
  have hc14 : ∀ (y1 y2 : Int) (a : Nat → Nat → Int), (((40 - y2) * 1) + 0).toNat ≤ n → iv a → jfr jW_X10_keepDraft a0 a → 0 ≤ y1 → y1 ≤ 39 → 0 ≤ y2 → y2 ≤ 40 → jt (jxX E d 142 14 [some (.inr (.inr (.inl 11))), some (.inl y1), some (.inl y2)] [] (jxSH, a, b0)) (jQ_X10_keepDraft x1 a0 b0) := by
    intro y1 y2 a hm hv hf hi0 hi1 hi2 hi3
    refine jt_eq (bq_X10_keepDraft_14 E d y1 y2 a b0) ?_
    have h181_ := iv_get hv (k := 11) (j := 6) (l := 0) (u := 40) rfl
    have h182_ : a 11 6 = a0 11 6 := hf 11 6 rfl
    have h183_ := iv_get hv0 (k := 11) (j := 6) (l := 0) (u := 40) rfl
    refine jt_ite (fun c184_ => ?_) (fun c184_ => ?_)
    ·
      refine jt_grd (by omega) ?_
      refine jt_grd (by omega) ?_
      refine jt_grd (by omega) ?_
      refine jt_grd (by omega) ?_
      have hv185_ : iv (jxu a 12 ((y1.toNat) * 40 + (y2.toNat)) (a 54 (y2.toNat))) := iv_putf hv rfl
      have hf186_ : jfr jW_X10_keepDraft a0 (jxu a 12 ((y1.toNat) * 40 + (y2.toNat)) (a 54 (y2.toNat))) := jfr_put hf rfl
      exact hc36 y1 y2 (jxu a 12 ((y1.toNat) * 40 + (y2.toNat)) (a 54 (y2.toNat))) (show (((40 - y2) * 1) + 0).toNat ≤ n from by omega) hv185_ hf186_ (show 0 ≤ y1 from by omega) (show y1 ≤ 39 from by omega) (show 0 ≤ y2 from by omega) (show y2 ≤ 39 from by omega) (show 1 ≤ a 11 6 from by omega)
    ·
      refine jt_grd (by omega) ?_
      have hv187_ : iv (jxu a 53 (y1.toNat) (a 11 6)) := iv_put hv (l := 0) (u := 40) rfl (by omega) (by omega)
      have hf188_ : jfr jW_X10_keepDraft a0 (jxu a 53 (y1.toNat) (a 11 6)) := jfr_put hf rfl
      exact jt_rV ⟨hv187_, hf188_, rfl⟩
  exact ⟨hc36, hc14⟩
theorem sp_X10_keepDraft (E : jxE) (d : Nat) (hd : Nat.ble 2 d = true) (x1 : Int) (a0 b0 : Nat → Nat → Int) (hv0 : iv a0) : jt (jxC E d 142 [.inr (.inr (.inl 11)), .inl x1] (jxSH, a0, b0)) (jQ_X10_keepDraft x1 a0 b0) := by
  obtain ⟨d, rfl⟩ := jd_succ hd
  refine jt_eq (bq_X10_keepDraft E d x1 a0 b0) ?_
  refine jt_eI (eq_X3_has E d (jd_le hd rfl) x1 a0 b0) ?_
  have h189_ := f_X3_has_eq a0 b0 x1
  have h190_ := iv_get hv0 (k := 4) (j := 6) (l := 0) (u := 40) rfl
  refine jt_ite (fun c191_ => ?_) (fun c191_ => ?_)
  ·
    exact jt_rV ⟨hv0, (jfr_rf _ _), rfl⟩
  ·
    exact (cp_X10_keepDraft_14 E d hd x1 a0 b0 hv0 _).2 x1 0 a0 (Nat.le_refl _) hv0 (jfr_rf _ _) (show 0 ≤ x1 from by omega) (show x1 ≤ 39 from by omega) (show 0 ≤ 0 from by omega) (show 0 ≤ 40 from by omega)
def jW_X10_takeAtomWord : List (Nat × Nat) := [(2, 2)]
abbrev jQ_X10_takeAtomWord (a0 b0 : Nat → Nat → Int) : List jxV → (Nat → Nat → Int) → (Nat → Nat → Int) → Prop := rI (fun r a b => (iv a) ∧ (jfr jW_X10_takeAtomWord a0 a) ∧ (b0 = b))
theorem cp_X10_takeAtomWord_40 (E : jxE) (d : Nat) (hd : Nat.ble 6 (d + 1) = true) (a0 b0 : Nat → Nat → Int) (hv0 : iv a0) : ∀ (a : Nat → Nat → Int), iv a → jfr jW_X10_takeAtomWord a0 a → jt (jxX E d 147 40 [none] [] (jxSH, a, b0)) (jQ_X10_takeAtomWord a0 b0) := by
  intro a hv hf
  refine jt_eq (bq_X10_takeAtomWord_40 E d a b0) ?_
  exact jt_rI ⟨hv, hf, rfl⟩
theorem cp_X10_takeAtomWord_82 (E : jxE) (d : Nat) (hd : Nat.ble 6 (d + 1) = true) (a0 b0 : Nat → Nat → Int) (hv0 : iv a0) : ∀ (a : Nat → Nat → Int), iv a → jfr jW_X10_takeAtomWord a0 a → jt (jxX E d 147 82 [none] [] (jxSH, a, b0)) (jQ_X10_takeAtomWord a0 b0) := by
  intro a hv hf
  refine jt_eq (bq_X10_takeAtomWord_82 E d a b0) ?_
  exact jt_rI ⟨hv, hf, rfl⟩
theorem cp_X10_takeAtomWord_84 (E : jxE) (d : Nat) (hd : Nat.ble 6 (d + 1) = true) (a0 b0 : Nat → Nat → Int) (hv0 : iv a0) : ∀ (a : Nat → Nat → Int), iv a → jfr jW_X10_takeAtomWord a0 a → jt (jxX E d 147 84 [some (.inr (.inr (.inl 11)))] [] (jxSH, a, b0)) (jQ_X10_takeAtomWord a0 b0) := by
  intro a hv hf
  refine jt_eq (bq_X10_takeAtomWord_84 E d a b0) ?_
  refine jt_bI (sp_X8_takesWord_r1007 E d (jd_le hd rfl) a b0 hv) (fun r192_ a192_ b192_ h192_ => ?_)
  obtain ⟨hv192_, hf192_, rfl, hq192_0, hq192_1, hq192_2, hq192_3, hq192_4⟩ := h192_
  have h193_ : a 2 3 = a0 2 3 := hf 2 3 rfl
  have h194_ := iv_get hv (k := 2) (j := 1) (l := 0) (u := 200) rfl
  have h195_ : a 2 1 = a0 2 1 := hf 2 1 rfl
  have h196_ := iv_get hv0 (k := 2) (j := 1) (l := 0) (u := 200) rfl
  have h197_ := iv_get hv (k := 2) (j := 2) (l := 0) (u := 200) rfl
  have h198_ := iv_get hv192_ (k := 2) (j := 2) (l := 0) (u := 200) rfl
  refine jt_ite (fun c199_ => ?_) (fun c199_ => ?_)
  ·
    have hf200_ : jfr jW_X10_takeAtomWord a0 a192_ := jfr_tr hf hf192_ rfl
    exact jt_rI ⟨hv192_, hf200_, rfl⟩
  ·
    have hf201_ : jfr jW_X10_takeAtomWord a0 a192_ := jfr_tr hf hf192_ rfl
    exact jt_rI ⟨hv192_, hf201_, rfl⟩
theorem cp_X10_takeAtomWord_42 (E : jxE) (d : Nat) (hd : Nat.ble 6 (d + 1) = true) (a0 b0 : Nat → Nat → Int) (hv0 : iv a0) : ∀ (a : Nat → Nat → Int), iv a → jfr jW_X10_takeAtomWord a0 a → jt (jxX E d 147 42 [some (.inr (.inr (.inl 11)))] [] (jxSH, a, b0)) (jQ_X10_takeAtomWord a0 b0) := by
  intro a hv hf
  refine jt_eq (bq_X10_takeAtomWord_42 E d a b0) ?_
  refine jt_bI (sp_X8_takesWord_r1004 E d (jd_le hd rfl) a b0 hv) (fun r202_ a202_ b202_ h202_ => ?_)
  obtain ⟨hv202_, hf202_, rfl, hq202_0, hq202_1, hq202_2, hq202_3, hq202_4⟩ := h202_
  have h203_ : a 2 3 = a0 2 3 := hf 2 3 rfl
  have h204_ := iv_get hv (k := 2) (j := 1) (l := 0) (u := 200) rfl
  have h205_ : a 2 1 = a0 2 1 := hf 2 1 rfl
  have h206_ := iv_get hv0 (k := 2) (j := 1) (l := 0) (u := 200) rfl
  have h207_ := iv_get hv (k := 2) (j := 2) (l := 0) (u := 200) rfl
  have h208_ := iv_get hv202_ (k := 2) (j := 2) (l := 0) (u := 200) rfl
  refine jt_ite (fun c209_ => ?_) (fun c209_ => ?_)
  ·
    refine jt_bI (sp_X8_takesWord_r1005 E d (jd_le hd rfl) a202_ b0 hv202_) (fun r210_ a210_ b210_ h210_ => ?_)
    obtain ⟨hv210_, hf210_, rfl, hq210_0, hq210_1, hq210_2, hq210_3, hq210_4⟩ := h210_
    have h211_ : a202_ 2 3 = a 2 3 := hf202_ 2 3 rfl
    have h212_ := iv_get hv202_ (k := 2) (j := 1) (l := 0) (u := 200) rfl
    have h213_ : a202_ 2 1 = a 2 1 := hf202_ 2 1 rfl
    have h214_ := iv_get hv210_ (k := 2) (j := 2) (l := 0) (u := 200) rfl
    refine jt_ite (fun c215_ => ?_) (fun c215_ => ?_)
    ·
      refine jt_bI (sp_X8_takesWord_r1006 E d (jd_le hd rfl) a210_ b0 hv210_) (fun r216_ a216_ b216_ h216_ => ?_)
      obtain ⟨hv216_, hf216_, rfl, hq216_0, hq216_1, hq216_2, hq216_3, hq216_4⟩ := h216_
      have h217_ : a210_ 2 3 = a202_ 2 3 := hf210_ 2 3 rfl
      have h218_ := iv_get hv210_ (k := 2) (j := 1) (l := 0) (u := 200) rfl
      have h219_ : a210_ 2 1 = a202_ 2 1 := hf210_ 2 1 rfl
      have h220_ := iv_get hv216_ (k := 2) (j := 2) (l := 0) (u := 200) rfl
      refine jt_ite (fun c221_ => ?_) (fun c221_ => ?_)
      ·
        have hf222_ : jfr jW_X10_takeAtomWord a0 a202_ := jfr_tr hf hf202_ rfl
        have hf223_ : jfr jW_X10_takeAtomWord a0 a210_ := jfr_tr hf222_ hf210_ rfl
        have hf224_ : jfr jW_X10_takeAtomWord a0 a216_ := jfr_tr hf223_ hf216_ rfl
        exact cp_X10_takeAtomWord_84 E d hd a0 b0 hv0 a216_ hv216_ hf224_
      ·
        have hf225_ : jfr jW_X10_takeAtomWord a0 a202_ := jfr_tr hf hf202_ rfl
        have hf226_ : jfr jW_X10_takeAtomWord a0 a210_ := jfr_tr hf225_ hf210_ rfl
        have hf227_ : jfr jW_X10_takeAtomWord a0 a216_ := jfr_tr hf226_ hf216_ rfl
        exact cp_X10_takeAtomWord_82 E d hd a0 b0 hv0 a216_ hv216_ hf227_
    ·
      have hf228_ : jfr jW_X10_takeAtomWord a0 a202_ := jfr_tr hf hf202_ rfl
      have hf229_ : jfr jW_X10_takeAtomWord a0 a210_ := jfr_tr hf228_ hf210_ rfl
      exact jt_rI ⟨hv210_, hf229_, rfl⟩
  ·
    have hf230_ : jfr jW_X10_takeAtomWord a0 a202_ := jfr_tr hf hf202_ rfl
    exact jt_rI ⟨hv202_, hf230_, rfl⟩
theorem sp_X10_takeAtomWord (E : jxE) (d : Nat) (hd : Nat.ble 6 d = true) (a0 b0 : Nat → Nat → Int) (hv0 : iv a0) : jt (jxC E d 147 [.inr (.inr (.inl 11))] (jxSH, a0, b0)) (jQ_X10_takeAtomWord a0 b0) := by
  obtain ⟨d, rfl⟩ := jd_succ hd
  refine jt_eq (bq_X10_takeAtomWord E d a0 b0) ?_
  refine jt_bI (sp_X8_takesWord_r1001 E d (jd_le hd rfl) a0 b0 hv0) (fun r231_ a231_ b231_ h231_ => ?_)
  obtain ⟨hv231_, hf231_, rfl, hq231_0, hq231_1, hq231_2, hq231_3, hq231_4⟩ := h231_
  have h232_ := iv_get hv0 (k := 2) (j := 1) (l := 0) (u := 200) rfl
  have h233_ := iv_get hv0 (k := 2) (j := 2) (l := 0) (u := 200) rfl
  have h234_ := iv_get hv231_ (k := 2) (j := 2) (l := 0) (u := 200) rfl
  refine jt_ite (fun c235_ => ?_) (fun c235_ => ?_)
  ·
    refine jt_bI (sp_X8_takesWord_r1002 E d (jd_le hd rfl) a231_ b0 hv231_) (fun r236_ a236_ b236_ h236_ => ?_)
    obtain ⟨hv236_, hf236_, rfl, hq236_0, hq236_1, hq236_2, hq236_3, hq236_4⟩ := h236_
    have h237_ : a231_ 2 3 = a0 2 3 := hf231_ 2 3 rfl
    have h238_ := iv_get hv231_ (k := 2) (j := 1) (l := 0) (u := 200) rfl
    have h239_ : a231_ 2 1 = a0 2 1 := hf231_ 2 1 rfl
    have h240_ := iv_get hv236_ (k := 2) (j := 2) (l := 0) (u := 200) rfl
    refine jt_ite (fun c241_ => ?_) (fun c241_ => ?_)
    ·
      refine jt_bI (sp_X8_takesWord_r1003 E d (jd_le hd rfl) a236_ b0 hv236_) (fun r242_ a242_ b242_ h242_ => ?_)
      obtain ⟨hv242_, hf242_, rfl, hq242_0, hq242_1, hq242_2, hq242_3, hq242_4⟩ := h242_
      have h243_ : a236_ 2 3 = a231_ 2 3 := hf236_ 2 3 rfl
      have h244_ := iv_get hv236_ (k := 2) (j := 1) (l := 0) (u := 200) rfl
      have h245_ : a236_ 2 1 = a231_ 2 1 := hf236_ 2 1 rfl
      have h246_ := iv_get hv242_ (k := 2) (j := 2) (l := 0) (u := 200) rfl
      refine jt_ite (fun c247_ => ?_) (fun c247_ => ?_)
      ·
        have hf248_ : jfr jW_X10_takeAtomWord a0 a231_ := jfr_tr (jfr_rf _ _) hf231_ rfl
        have hf249_ : jfr jW_X10_takeAtomWord a0 a236_ := jfr_tr hf248_ hf236_ rfl
        have hf250_ : jfr jW_X10_takeAtomWord a0 a242_ := jfr_tr hf249_ hf242_ rfl
        exact cp_X10_takeAtomWord_42 E d hd a0 b0 hv0 a242_ hv242_ hf250_
      ·
        have hf251_ : jfr jW_X10_takeAtomWord a0 a231_ := jfr_tr (jfr_rf _ _) hf231_ rfl
        have hf252_ : jfr jW_X10_takeAtomWord a0 a236_ := jfr_tr hf251_ hf236_ rfl
        have hf253_ : jfr jW_X10_takeAtomWord a0 a242_ := jfr_tr hf252_ hf242_ rfl
        exact cp_X10_takeAtomWord_40 E d hd a0 b0 hv0 a242_ hv242_ hf253_
    ·
      have hf254_ : jfr jW_X10_takeAtomWord a0 a231_ := jfr_tr (jfr_rf _ _) hf231_ rfl
      have hf255_ : jfr jW_X10_takeAtomWord a0 a236_ := jfr_tr hf254_ hf236_ rfl
      exact jt_rI ⟨hv236_, hf255_, rfl⟩
  ·
    have hf256_ : jfr jW_X10_takeAtomWord a0 a231_ := jfr_tr (jfr_rf _ _) hf231_ rfl
    exact jt_rI ⟨hv231_, hf256_, rfl⟩
def jW_X10_readAtom : List (Nat × Nat) := [(2, 2), (2, 3), (11, 6), (11, 7), (54, 9999)]
abbrev jQ_X10_readAtom (x1 : Int) (a0 b0 : Nat → Nat → Int) : List jxV → (Nat → Nat → Int) → (Nat → Nat → Int) → Prop := rV (fun a b => (iv a) ∧ (jfr jW_X10_readAtom a0 a) ∧ (b0 = b))
theorem cp_X10_readAtom_36 (E : jxE) (d : Nat) (hd : Nat.ble 7 (d + 1) = true) (x1 : Int) (a0 b0 : Nat → Nat → Int) (hv0 : iv a0) : ∀ (a : Nat → Nat → Int), iv a → jfr jW_X10_readAtom a0 a → 12 ≤ a 11 7 → jt (jxX E d 146 36 [none, none, none, none] [] (jxSH, a, b0)) (jQ_X10_readAtom x1 a0 b0) := by
  intro a hv hf hi0
  refine jt_eq (bq_X10_readAtom_36 E d a b0) ?_
  have h257_ := iv_get hv (k := 11) (j := 7) (l := 0) (u := 12) rfl
  exact jt_rV ⟨hv, hf, rfl⟩
theorem cp_X10_readAtom_75 (E : jxE) (d : Nat) (hd : Nat.ble 7 (d + 1) = true) (x1 : Int) (a0 b0 : Nat → Nat → Int) (hv0 : iv a0) : ∀ (a : Nat → Nat → Int), iv a → jfr jW_X10_readAtom a0 a → 1 ≤ a 11 7 → jt (jxX E d 146 75 [none, none, none, none] [] (jxSH, a, b0)) (jQ_X10_readAtom x1 a0 b0) := by
  intro a hv hf hi0
  refine jt_eq (bq_X10_readAtom_75 E d a b0) ?_
  have h258_ := iv_get hv (k := 11) (j := 7) (l := 0) (u := 12) rfl
  exact jt_rV ⟨hv, hf, rfl⟩
theorem cp_X10_readAtom_47 (E : jxE) (d : Nat) (hd : Nat.ble 7 (d + 1) = true) (x1 : Int) (a0 b0 : Nat → Nat → Int) (hv0 : iv a0) : ∀ (y2 : Int) (a : Nat → Nat → Int), iv a → jfr jW_X10_readAtom a0 a → 1 ≤ a 11 7 → jt (jxX E d 146 47 [some (.inr (.inr (.inl 11))), none, some (.inl y2), none] [] (jxSH, a, b0)) (jQ_X10_readAtom x1 a0 b0) := by
  intro y2 a hv hf hi0
  refine jt_eq (bq_X10_readAtom_47 E d y2 a b0) ?_
  have h259_ := iv_get hv (k := 11) (j := 7) (l := 0) (u := 12) rfl
  refine jt_eI (eq_X10_greatestNumber E d (jd_le hd rfl) y2 a b0) ?_
  refine jt_ite (fun c260_ => ?_) (fun c260_ => ?_)
  ·
    refine jt_bV (sp_X10_addStep E d (jd_le hd rfl) y2 0 a b0 hv) (fun a261_ b261_ h261_ => ?_)
    obtain ⟨hv261_, hf261_, rfl⟩ := h261_
    have hf262_ : jfr jW_X10_readAtom a0 a261_ := jfr_tr hf hf261_ rfl
    have h263_ := iv_get hv261_ (k := 11) (j := 7) (l := 0) (u := 12) rfl
    have h264_ : a261_ 11 7 = a 11 7 := hf261_ 11 7 rfl
    exact cp_X10_readAtom_75 E d hd x1 a0 b0 hv0 a261_ hv261_ hf262_ (show 1 ≤ a261_ 11 7 from by omega)
  ·
    refine jt_bI (sp_X8_takeNumber E d (jd_le hd rfl) 0 (f_X10_greatestNumber a b0 y2) a b0 hv) (fun r265_ a265_ b265_ h265_ => ?_)
    obtain ⟨hv265_, hf265_, rfl, hq265_0, hq265_1, hq265_2, hq265_3⟩ := h265_
    refine jt_bV (sp_X10_addStep E d (jd_le hd rfl) y2 r265_ a265_ b0 hv265_) (fun a266_ b266_ h266_ => ?_)
    obtain ⟨hv266_, hf266_, rfl⟩ := h266_
    have hf267_ : jfr jW_X10_readAtom a0 a265_ := jfr_tr hf hf265_ rfl
    have hf268_ : jfr jW_X10_readAtom a0 a266_ := jfr_tr hf267_ hf266_ rfl
    have h269_ := iv_get hv266_ (k := 11) (j := 7) (l := 0) (u := 12) rfl
    have h270_ : a266_ 11 7 = a265_ 11 7 := hf266_ 11 7 rfl
    have h271_ := iv_get hv265_ (k := 11) (j := 7) (l := 0) (u := 12) rfl
    have h272_ : a265_ 11 7 = a 11 7 := hf265_ 11 7 rfl
    exact cp_X10_readAtom_75 E d hd x1 a0 b0 hv0 a266_ hv266_ hf268_ (show 1 ≤ a266_ 11 7 from by omega)
theorem sp_X10_readAtom (E : jxE) (d : Nat) (hd : Nat.ble 7 d = true) (x1 : Int) (a0 b0 : Nat → Nat → Int) (hv0 : iv a0) : jt (jxC E d 146 [.inr (.inr (.inl 11)), .inl x1] (jxSH, a0, b0)) (jQ_X10_readAtom x1 a0 b0) := by
  obtain ⟨d, rfl⟩ := jd_succ hd
  refine jt_eq (bq_X10_readAtom E d x1 a0 b0) ?_
  refine jt_bI (sp_X10_takeAtomWord E d (jd_le hd rfl) a0 b0 hv0) (fun r273_ a273_ b273_ h273_ => ?_)
  obtain ⟨hv273_, hf273_, rfl⟩ := h273_
  refine jt_ite (fun c274_ => ?_) (fun c274_ => ?_)
  ·
    refine jt_bV (sp_X8_noteCannotStand E d (jd_le hd rfl) a273_ b0 hv273_) (fun a275_ b275_ h275_ => ?_)
    obtain ⟨hv275_, hf275_, rfl, hq275_0, hq275_1⟩ := h275_
    have h276_ : a273_ 2 3 = a0 2 3 := hf273_ 2 3 rfl
    have h277_ := iv_get hv273_ (k := 2) (j := 2) (l := 0) (u := 200) rfl
    have hf278_ : jfr jW_X10_readAtom a0 a273_ := jfr_tr (jfr_rf _ _) hf273_ rfl
    have hf279_ : jfr jW_X10_readAtom a0 a275_ := jfr_tr hf278_ hf275_ rfl
    exact jt_rV ⟨hv275_, hf279_, rfl⟩
  ·
    have h280_ := iv_get hv273_ (k := 11) (j := 7) (l := 0) (u := 12) rfl
    have h281_ : a273_ 11 7 = a0 11 7 := hf273_ 11 7 rfl
    have h282_ := iv_get hv0 (k := 11) (j := 7) (l := 0) (u := 12) rfl
    refine jt_ite (fun c283_ => ?_) (fun c283_ => ?_)
    ·
      have h285_ : jxw ((a273_ 11 7) + 1) = (a273_ 11 7) + 1 := jxw_id (by omega) (by omega)
      have hv284_ : iv (jxu a273_ 11 7 (jxw ((a273_ 11 7) + 1))) := iv_put hv273_ (l := 0) (u := 12) rfl (by omega) (by omega)
      have hf286_ : jfr jW_X10_readAtom a0 a273_ := jfr_tr (jfr_rf _ _) hf273_ rfl
      have hf287_ : jfr jW_X10_readAtom a0 (jxu a273_ 11 7 (jxw ((a273_ 11 7) + 1))) := jfr_put hf286_ rfl
      exact cp_X10_readAtom_47 E d hd x1 a0 b0 hv0 r273_ (jxu a273_ 11 7 (jxw ((a273_ 11 7) + 1))) hv284_ hf287_ (show 1 ≤ jxw ((a273_ 11 7) + 1) from by omega)
    ·
      refine jt_bV (sp_X8_noteFault E d (jd_le hd rfl) x1 2 a273_ b0 hv273_) (fun a288_ b288_ h288_ => ?_)
      obtain ⟨hv288_, hf288_, rfl, hq288_0, hq288_1⟩ := h288_
      have h289_ : a273_ 2 3 = a0 2 3 := hf273_ 2 3 rfl
      have hf290_ : jfr jW_X10_readAtom a0 a273_ := jfr_tr (jfr_rf _ _) hf273_ rfl
      have hf291_ : jfr jW_X10_readAtom a0 a288_ := jfr_tr hf290_ hf288_ rfl
      have h292_ := iv_get hv288_ (k := 11) (j := 7) (l := 0) (u := 12) rfl
      have h293_ : a288_ 11 7 = a273_ 11 7 := hf288_ 11 7 rfl
      exact cp_X10_readAtom_36 E d hd x1 a0 b0 hv0 a288_ hv288_ hf291_ (show 12 ≤ a288_ 11 7 from by omega)
def jW_X8_takesSign : List (Nat × Nat) := [(2, 2)]
abbrev jQ_X8_takesSign (x1 : Int) (a0 b0 : Nat → Nat → Int) : List jxV → (Nat → Nat → Int) → (Nat → Nat → Int) → Prop := rI (fun r a b => (iv a) ∧ (jfr jW_X8_takesSign a0 a) ∧ (b0 = b) ∧ ((0 ≤ r ∧ r ≤ 1)) ∧ (((¬ a0 2 3 = 0 ∨ a0 2 1 ≤ a0 2 2) → (r = 0 ∧ a 2 2 = a0 2 2))) ∧ (r = 1 → a0 2 3 = 0 ∧ (a0 2 2).toNat < (a0 2 1).toNat ∧ (a0 3) (a0 2 2).toNat = x1 ∧ a 2 2 = ((SK (a0 3) (a0 2 1).toNat ((a0 2 2).toNat + 1) : Nat) : Int)) ∧ (r = 0 → ¬ a0 2 3 = 0 ∨ (a0 2 1).toNat ≤ (a0 2 2).toNat ∨ ¬ (a0 3) (a0 2 2).toNat = x1) ∧ ((r = 0 → a 2 2 = a0 2 2)))
theorem cp_X8_takesSign_31 (E : jxE) (d : Nat) (hd : Nat.ble 2 (d + 1) = true) (x1 : Int) (a0 b0 : Nat → Nat → Int) (hv0 : iv a0) : ∀ (a : Nat → Nat → Int), iv a → jfr jW_X8_takesSign a0 a → a 2 2 = a0 2 2 → (¬ a0 2 3 = 0 ∨ (a0 2 1).toNat ≤ (a0 2 2).toNat ∨ ¬ (a0 3) (a0 2 2).toNat = x1) → jt (jxX E d 129 31 [none, none] [] (jxSH, a, b0)) (jQ_X8_takesSign x1 a0 b0) := by
  intro a hv hf hi0 hno
  refine jt_eq (bq_X8_takesSign_31 E d a b0) ?_
  have h294_ := iv_get hv (k := 2) (j := 2) (l := 0) (u := 200) rfl
  have h295_ := iv_get hv0 (k := 2) (j := 2) (l := 0) (u := 200) rfl
  have h296_ := iv_get hv0 (k := 2) (j := 1) (l := 0) (u := 200) rfl
  exact jt_rI ⟨hv, hf, rfl, (show (0 ≤ 0 ∧ 0 ≤ 1) from by omega), (show ((¬ a0 2 3 = 0 ∨ a0 2 1 ≤ a0 2 2) → (0 = 0 ∧ a 2 2 = a0 2 2)) from by omega), (by first | exact (fun h => absurd h (by decide)) | exact (fun _ => ⟨by omega, by omega, hyes, by have h := hq0_1; rw [show (a0 2 2).toNat + 1 = (jxw ((a 2 2) + 1)).toNat from by omega, ← h3, ← h21]; exact h⟩)), (by first | exact (fun _ => hno) | exact (fun h => absurd h (by decide))), (show (0 = 0 → a 2 2 = a0 2 2) from by omega)⟩
theorem cp_X8_takesSign_33 (E : jxE) (d : Nat) (hd : Nat.ble 2 (d + 1) = true) (x1 : Int) (a0 b0 : Nat → Nat → Int) (hv0 : iv a0) : ∀ (a : Nat → Nat → Int), iv a → jfr jW_X8_takesSign a0 a → 1 ≤ a 2 1 → a 2 2 ≤ 199 → a0 2 3 = 0 → a0 2 2 < a0 2 1 → a 2 2 = a0 2 2 → ((a0 3) (a0 2 2).toNat = x1) → jt (jxX E d 129 33 [some (.inr (.inr (.inl 2))), none] [] (jxSH, a, b0)) (jQ_X8_takesSign x1 a0 b0) := by
  intro a hv hf hi0 hi1 hi2 hi3 hi4 hyes
  refine jt_eq (bq_X8_takesSign_33 E d a b0) ?_
  have h297_ := iv_get hv (k := 2) (j := 1) (l := 0) (u := 200) rfl
  have h298_ : a 2 1 = a0 2 1 := hf 2 1 rfl
  have h299_ := iv_get hv0 (k := 2) (j := 1) (l := 0) (u := 200) rfl
  have h300_ := iv_get hv (k := 2) (j := 2) (l := 0) (u := 200) rfl
  have h301_ := iv_get hv0 (k := 2) (j := 2) (l := 0) (u := 200) rfl
  have h3 : a 3 = a0 3 := funext fun j => hf 3 j rfl
  have h21 := hf 2 1 rfl
  have h303_ : jxw ((a 2 2) + 1) = (a 2 2) + 1 := jxw_id (by omega) (by omega)
  have hv302_ : iv (jxu a 2 2 (jxw ((a 2 2) + 1))) := iv_put hv (l := 0) (u := 200) rfl (by omega) (by omega)
  refine jt_bV (sp_X8_skipBlanks E d (jd_le hd rfl) (jxu a 2 2 (jxw ((a 2 2) + 1))) b0 hv302_) (fun a304_ b304_ h304_ => ?_)
  obtain ⟨hv304_, hf304_, rfl, hq304_0, hq304_1⟩ := h304_
  have h305_ := iv_get hv304_ (k := 2) (j := 2) (l := 0) (u := 200) rfl
  have h306_ : (a 2 1 ≤ jxw ((a 2 2) + 1) → a304_ 2 2 = jxw ((a 2 2) + 1)) := hq304_0
  have hf307_ : jfr jW_X8_takesSign a0 (jxu a 2 2 (jxw ((a 2 2) + 1))) := jfr_put hf rfl
  have hf308_ : jfr jW_X8_takesSign a0 a304_ := jfr_tr hf307_ hf304_ rfl
  exact jt_rI ⟨hv304_, hf308_, rfl, (show (0 ≤ 1 ∧ 1 ≤ 1) from by omega), (show ((¬ a0 2 3 = 0 ∨ a0 2 1 ≤ a0 2 2) → (1 = 0 ∧ a304_ 2 2 = a0 2 2)) from by omega), (by first | exact (fun h => absurd h (by decide)) | exact (fun _ => ⟨by omega, by omega, hyes, by have h := hq304_1; rw [show (a0 2 2).toNat + 1 = (jxw ((a 2 2) + 1)).toNat from by omega, ← h3, ← h21]; exact h⟩)), (by first | exact (fun _ => hno) | exact (fun h => absurd h (by decide))), (show (1 = 0 → a304_ 2 2 = a0 2 2) from by omega)⟩
theorem sp_X8_takesSign (E : jxE) (d : Nat) (hd : Nat.ble 2 d = true) (x1 : Int) (a0 b0 : Nat → Nat → Int) (hv0 : iv a0) : jt (jxC E d 129 [.inr (.inr (.inl 2)), .inl x1] (jxSH, a0, b0)) (jQ_X8_takesSign x1 a0 b0) := by
  obtain ⟨d, rfl⟩ := jd_succ hd
  refine jt_eq (bq_X8_takesSign E d x1 a0 b0) ?_
  refine jt_eI (eq_X8_isFaulty E d (jd_le hd rfl) a0 b0) ?_
  have h309_ := f_X8_isFaulty_eq a0 b0
  refine jt_ite (fun c310_ => ?_) (fun c310_ => ?_)
  ·
    have h311_ := iv_get hv0 (k := 2) (j := 2) (l := 0) (u := 200) rfl
    have h312_ := iv_get hv0 (k := 2) (j := 1) (l := 0) (u := 200) rfl
    refine jt_ite (fun c313_ => ?_) (fun c313_ => ?_)
    ·
      refine jt_grd (by omega) ?_
      have h314_ := iv_get hv0 (k := 3) (j := (a0 2 2).toNat) (l := 0) (u := 255) rfl
      refine jt_ite (fun c315_ => ?_) (fun c315_ => ?_)
      ·
        exact cp_X8_takesSign_33 E d hd x1 a0 b0 hv0 a0 hv0 (jfr_rf _ _) (show 1 ≤ a0 2 1 from by omega) (show a0 2 2 ≤ 199 from by omega) (show a0 2 3 = 0 from by omega) (show a0 2 2 < a0 2 1 from by omega) (show a0 2 2 = a0 2 2 from by omega) (by assumption)
      ·
        exact cp_X8_takesSign_31 E d hd x1 a0 b0 hv0 a0 hv0 (jfr_rf _ _) (show a0 2 2 = a0 2 2 from by omega) (by first | exact Or.inl (by omega) | exact Or.inr (Or.inl (by omega)) | exact Or.inr (Or.inr (by assumption)))
    ·
      exact cp_X8_takesSign_31 E d hd x1 a0 b0 hv0 a0 hv0 (jfr_rf _ _) (show a0 2 2 = a0 2 2 from by omega) (by first | exact Or.inl (by omega) | exact Or.inr (Or.inl (by omega)) | exact Or.inr (Or.inr (by assumption)))
  ·
    have h316_ := iv_get hv0 (k := 2) (j := 2) (l := 0) (u := 200) rfl
    exact cp_X8_takesSign_31 E d hd x1 a0 b0 hv0 a0 hv0 (jfr_rf _ _) (show a0 2 2 = a0 2 2 from by omega) (by first | exact Or.inl (by omega) | exact Or.inr (Or.inl (by omega)) | exact Or.inr (Or.inr (by assumption)))
def jW_X8_startReading : List (Nat × Nat) := [(2, 2), (2, 3)]
abbrev jQ_X8_startReading (a0 b0 : Nat → Nat → Int) : List jxV → (Nat → Nat → Int) → (Nat → Nat → Int) → Prop := rV (fun a b => (iv a) ∧ (jfr jW_X8_startReading a0 a) ∧ (b0 = b) ∧ (a 2 3 = 0) ∧ ((a0 2 1 = 0 → a 2 2 = 0)) ∧ (a 2 2 = ((SK (a0 3) (a0 2 1).toNat 0 : Nat) : Int)))
theorem sp_X8_startReading (E : jxE) (d : Nat) (hd : Nat.ble 2 d = true) (a0 b0 : Nat → Nat → Int) (hv0 : iv a0) : jt (jxC E d 121 [.inr (.inr (.inl 2))] (jxSH, a0, b0)) (jQ_X8_startReading a0 b0) := by
  obtain ⟨d, rfl⟩ := jd_succ hd
  refine jt_eq (bq_X8_startReading E d a0 b0) ?_
  have hv317_ : iv (jxu a0 2 2 0) := iv_put hv0 (l := 0) (u := 200) rfl (by omega) (by omega)
  have hv318_ : iv (jxu (jxu a0 2 2 0) 2 3 0) := iv_putf hv317_ rfl
  refine jt_bV (sp_X8_skipBlanks E d (jd_le hd rfl) (jxu (jxu a0 2 2 0) 2 3 0) b0 hv318_) (fun a319_ b319_ h319_ => ?_)
  obtain ⟨hv319_, hf319_, rfl, hq319_0, hq319_1⟩ := h319_
  have h320_ := iv_get hv0 (k := 2) (j := 1) (l := 0) (u := 200) rfl
  have h321_ := iv_get hv319_ (k := 2) (j := 2) (l := 0) (u := 200) rfl
  have h322_ : (a0 2 1 ≤ 0 → a319_ 2 2 = 0) := hq319_0
  have hf323_ : jfr jW_X8_startReading a0 (jxu a0 2 2 0) := jfr_put (jfr_rf _ _) rfl
  have hf324_ : jfr jW_X8_startReading a0 (jxu (jxu a0 2 2 0) 2 3 0) := jfr_put hf323_ rfl
  have hf325_ : jfr jW_X8_startReading a0 a319_ := jfr_tr hf324_ hf319_ rfl
  have h326_ : a319_ 2 3 = 0 := hf319_ 2 3 rfl
  exact jt_rV ⟨hv319_, hf325_, rfl, (show a319_ 2 3 = 0 from by omega), (show (a0 2 1 = 0 → a319_ 2 2 = 0) from by omega), hq319_1⟩
def jW_X7_add : List (Nat × Nat) := [(70, 9999), (71, 9999), (72, 9999), (73, 9999), (74, 9999), (75, 9999)]
abbrev jQ_X7_add (x1 x2 x3 x4 : Int) (a0 b0 : Nat → Nat → Int) : List jxV → (Nat → Nat → Int) → (Nat → Nat → Int) → Prop := rV (fun a b => (iv a) ∧ (jfr jW_X7_add a0 a) ∧ (b0 = b))
theorem cp_X7_add_104 (E : jxE) (d : Nat) (hd : Nat.ble 2 (d + 1) = true) (x1 x2 x3 x4 : Int) (a0 b0 : Nat → Nat → Int) (hv0 : iv a0) : ∀ (a : Nat → Nat → Int), iv a → jfr jW_X7_add a0 a → jt (jxX E d 109 104 [none, none, none, none, none] [] (jxSH, a, b0)) (jQ_X7_add x1 x2 x3 x4 a0 b0) := by
  intro a hv hf
  refine jt_eq (bq_X7_add_104 E d a b0) ?_
  exact jt_rV ⟨hv, hf, rfl⟩
theorem cp_X7_add_76 (E : jxE) (d : Nat) (hd : Nat.ble 2 (d + 1) = true) (x1 x2 x3 x4 : Int) (a0 b0 : Nat → Nat → Int) (hv0 : iv a0) : ∀ (y2 : Int) (a : Nat → Nat → Int), iv a → jfr jW_X7_add a0 a → 0 ≤ y2 → y2 ≤ 39 → jt (jxX E d 109 76 [some (.inr (.inr (.inl 69))), none, some (.inl y2), none, none] [] (jxSH, a, b0)) (jQ_X7_add x1 x2 x3 x4 a0 b0) := by
  intro y2 a hv hf hi0 hi1
  refine jt_eq (bq_X7_add_76 E d y2 a b0) ?_
  refine jt_grd (by omega) ?_
  refine jt_grd (by omega) ?_
  have hv327_ : iv (jxu a 72 (y2.toNat) (jxw ((a 72 (y2.toNat)) + 1))) := iv_putf hv rfl
  have hf328_ : jfr jW_X7_add a0 (jxu a 72 (y2.toNat) (jxw ((a 72 (y2.toNat)) + 1))) := jfr_put hf rfl
  exact cp_X7_add_104 E d hd x1 x2 x3 x4 a0 b0 hv0 (jxu a 72 (y2.toNat) (jxw ((a 72 (y2.toNat)) + 1))) hv327_ hf328_
theorem cp_X7_add_59 (E : jxE) (d : Nat) (hd : Nat.ble 2 (d + 1) = true) (x1 x2 x3 x4 : Int) (a0 b0 : Nat → Nat → Int) (hv0 : iv a0) : ∀ (a : Nat → Nat → Int), iv a → jfr jW_X7_add a0 a → jt (jxX E d 109 59 [none, none, none, none, none] [] (jxSH, a, b0)) (jQ_X7_add x1 x2 x3 x4 a0 b0) := by
  intro a hv hf
  refine jt_eq (bq_X7_add_59 E d a b0) ?_
  exact cp_X7_add_104 E d hd x1 x2 x3 x4 a0 b0 hv0 a hv hf
theorem cp_X7_add_39 (E : jxE) (d : Nat) (hd : Nat.ble 2 (d + 1) = true) (x1 x2 x3 x4 : Int) (a0 b0 : Nat → Nat → Int) (hv0 : iv a0) : ∀ (y1 y2 : Int) (a : Nat → Nat → Int), iv a → jfr jW_X7_add a0 a → 0 ≤ y1 → y1 ≤ 39 → 0 ≤ y2 → y2 ≤ 39 → jt (jxX E d 109 39 [some (.inr (.inr (.inl 69))), some (.inl y1), some (.inl y2), none, none] [] (jxSH, a, b0)) (jQ_X7_add x1 x2 x3 x4 a0 b0) := by
  intro y1 y2 a hv hf hi0 hi1 hi2 hi3
  refine jt_eq (bq_X7_add_39 E d y1 y2 a b0) ?_
  refine jt_grd (by omega) ?_
  refine jt_grd (by omega) ?_
  refine jt_grd (by omega) ?_
  refine jt_grd (by omega) ?_
  have hv329_ : iv (jxu a 70 (y1.toNat) (jxw ((a 70 (y1.toNat)) + 1))) := iv_putf hv rfl
  have hv330_ : iv (jxu (jxu a 70 (y1.toNat) (jxw ((a 70 (y1.toNat)) + 1))) 71 (y2.toNat) (jxw ((a 71 (y2.toNat)) + 1))) := iv_putf hv329_ rfl
  have hf331_ : jfr jW_X7_add a0 (jxu a 70 (y1.toNat) (jxw ((a 70 (y1.toNat)) + 1))) := jfr_put hf rfl
  have hf332_ : jfr jW_X7_add a0 (jxu (jxu a 70 (y1.toNat) (jxw ((a 70 (y1.toNat)) + 1))) 71 (y2.toNat) (jxw ((a 71 (y2.toNat)) + 1))) := jfr_put hf331_ rfl
  exact cp_X7_add_59 E d hd x1 x2 x3 x4 a0 b0 hv0 (jxu (jxu a 70 (y1.toNat) (jxw ((a 70 (y1.toNat)) + 1))) 71 (y2.toNat) (jxw ((a 71 (y2.toNat)) + 1))) hv330_ hf332_
theorem cp_X7_add_29 (E : jxE) (d : Nat) (hd : Nat.ble 2 (d + 1) = true) (x1 x2 x3 x4 : Int) (a0 b0 : Nat → Nat → Int) (hv0 : iv a0) : ∀ (y1 y2 y3 : Int) (a : Nat → Nat → Int), iv a → jfr jW_X7_add a0 a → 0 ≤ y1 → y1 ≤ 39 → 0 ≤ y2 → y2 ≤ 39 → jt (jxX E d 109 29 [some (.inr (.inr (.inl 69))), some (.inl y1), some (.inl y2), some (.inl y3), none] [] (jxSH, a, b0)) (jQ_X7_add x1 x2 x3 x4 a0 b0) := by
  intro y1 y2 y3 a hv hf hi0 hi1 hi2 hi3
  refine jt_eq (bq_X7_add_29 E d y1 y2 y3 a b0) ?_
  refine jt_ite (fun c333_ => ?_) (fun c333_ => ?_)
  ·
    exact cp_X7_add_39 E d hd x1 x2 x3 x4 a0 b0 hv0 y1 y2 a hv hf (show 0 ≤ y1 from by omega) (show y1 ≤ 39 from by omega) (show 0 ≤ y2 from by omega) (show y2 ≤ 39 from by omega)
  ·
    refine jt_ite (fun c334_ => ?_) (fun c334_ => ?_)
    ·
      exact cp_X7_add_39 E d hd x1 x2 x3 x4 a0 b0 hv0 y1 y2 a hv hf (show 0 ≤ y1 from by omega) (show y1 ≤ 39 from by omega) (show 0 ≤ y2 from by omega) (show y2 ≤ 39 from by omega)
    ·
      refine jt_ite (fun c335_ => ?_) (fun c335_ => ?_)
      ·
        refine jt_grd (by omega) ?_
        refine jt_grd (by omega) ?_
        have hv336_ : iv (jxu a 73 (y1.toNat) (jxw ((a 73 (y1.toNat)) + 1))) := iv_putf hv rfl
        have hf337_ : jfr jW_X7_add a0 (jxu a 73 (y1.toNat) (jxw ((a 73 (y1.toNat)) + 1))) := jfr_put hf rfl
        exact cp_X7_add_76 E d hd x1 x2 x3 x4 a0 b0 hv0 y2 (jxu a 73 (y1.toNat) (jxw ((a 73 (y1.toNat)) + 1))) hv336_ hf337_ (show 0 ≤ y2 from by omega) (show y2 ≤ 39 from by omega)
      ·
        refine jt_ite (fun c338_ => ?_) (fun c338_ => ?_)
        ·
          refine jt_grd (by omega) ?_
          refine jt_grd (by omega) ?_
          have hv339_ : iv (jxu a 74 (y1.toNat) (jxw ((a 74 (y1.toNat)) + 1))) := iv_putf hv rfl
          have hf340_ : jfr jW_X7_add a0 (jxu a 74 (y1.toNat) (jxw ((a 74 (y1.toNat)) + 1))) := jfr_put hf rfl
          exact cp_X7_add_104 E d hd x1 x2 x3 x4 a0 b0 hv0 (jxu a 74 (y1.toNat) (jxw ((a 74 (y1.toNat)) + 1))) hv339_ hf340_
        ·
          exact cp_X7_add_104 E d hd x1 x2 x3 x4 a0 b0 hv0 a hv hf
theorem sp_X7_add (E : jxE) (d : Nat) (hd : Nat.ble 2 d = true) (x1 x2 x3 x4 : Int) (a0 b0 : Nat → Nat → Int) (hv0 : iv a0) : jt (jxC E d 109 [.inr (.inr (.inl 69)), .inl x1, .inl x2, .inl x3, .inl x4] (jxSH, a0, b0)) (jQ_X7_add x1 x2 x3 x4 a0 b0) := by
  obtain ⟨d, rfl⟩ := jd_succ hd
  refine jt_eq (bq_X7_add E d x1 x2 x3 x4 a0 b0) ?_
  refine jt_eI (eq_X11_within E d (jd_le hd rfl) x1 0 39 a0 b0) ?_
  have h341_ := f_X11_within_eq a0 b0 x1 0 39
  refine jt_ite (fun c342_ => ?_) (fun c342_ => ?_)
  ·
    exact jt_rV ⟨hv0, (jfr_rf _ _), rfl⟩
  ·
    refine jt_eI (eq_X11_within E d (jd_le hd rfl) x2 0 39 a0 b0) ?_
    have h343_ := f_X11_within_eq a0 b0 x2 0 39
    refine jt_ite (fun c344_ => ?_) (fun c344_ => ?_)
    ·
      exact jt_rV ⟨hv0, (jfr_rf _ _), rfl⟩
    ·
      refine jt_grd (by omega) ?_
      have hv345_ : iv (jxu a0 75 (x2.toNat) x4) := iv_putf hv0 rfl
      have hf346_ : jfr jW_X7_add a0 (jxu a0 75 (x2.toNat) x4) := jfr_put (jfr_rf _ _) rfl
      exact cp_X7_add_29 E d hd x1 x2 x3 x4 a0 b0 hv0 x1 x2 x3 (jxu a0 75 (x2.toNat) x4) hv345_ hf346_ (show 0 ≤ x1 from by omega) (show x1 ≤ 39 from by omega) (show 0 ≤ x2 from by omega) (show x2 ≤ 39 from by omega)
def jW_X7_take_r58 : List (Nat × Nat) := [(70, 9999), (71, 9999), (72, 9999), (73, 9999), (74, 9999), (75, 9999)]
abbrev jQ_X7_take_r58 (x2 : Int) (a0 b0 : Nat → Nat → Int) : List jxV → (Nat → Nat → Int) → (Nat → Nat → Int) → Prop := rV (fun a b => (iv a) ∧ (jfr jW_X7_take_r58 a0 a) ∧ (b0 = b))
theorem cp_X7_take_r58_58 (E : jxE) (d : Nat) (hd : Nat.ble 4 (d + 1) = true) (x2 : Int) (a0 b0 : Nat → Nat → Int) (hv0 : iv a0) : ∀ n : Nat, (∀ (y2 y3 : Int) (a : Nat → Nat → Int), (((300 - y3) * 1) + 0).toNat ≤ n → iv a → jfr jW_X7_take_r58 a0 a → 0 ≤ y3 → y3 ≤ 299 → jt (jxX E d 108 91 [some (.inr (.inr (.inl 69))), some (.inr (.inr (.inl 58))), some (.inl y2), some (.inl y3)] [] (jxSH, a, b0)) (jQ_X7_take_r58 x2 a0 b0)) ∧ (∀ (y2 y3 : Int) (a : Nat → Nat → Int), (((300 - y3) * 1) + 0).toNat ≤ n → iv a → jfr jW_X7_take_r58 a0 a → 0 ≤ y3 → y3 ≤ 300 → jt (jxX E d 108 58 [some (.inr (.inr (.inl 69))), some (.inr (.inr (.inl 58))), some (.inl y2), some (.inl y3)] [] (jxSH, a, b0)) (jQ_X7_take_r58 x2 a0 b0)) := by
  refine jx_ind fun n ih => ?_
  have ih91 : ∀ (y2 y3 : Int) (a : Nat → Nat → Int), (((300 - y3) * 1) + 0).toNat < n → iv a → jfr jW_X7_take_r58 a0 a → 0 ≤ y3 → y3 ≤ 299 → jt (jxX E d 108 91 [some (.inr (.inr (.inl 69))), some (.inr (.inr (.inl 58))), some (.inl y2), some (.inl y3)] [] (jxSH, a, b0)) (jQ_X7_take_r58 x2 a0 b0) := fun y2 y3 a hlt i0 i1 i2 i3 => (ih _ hlt).1 y2 y3 a (Nat.le_refl _) i0 i1 i2 i3
  have ih58 : ∀ (y2 y3 : Int) (a : Nat → Nat → Int), (((300 - y3) * 1) + 0).toNat < n → iv a → jfr jW_X7_take_r58 a0 a → 0 ≤ y3 → y3 ≤ 300 → jt (jxX E d 108 58 [some (.inr (.inr (.inl 69))), some (.inr (.inr (.inl 58))), some (.inl y2), some (.inl y3)] [] (jxSH, a, b0)) (jQ_X7_take_r58 x2 a0 b0) := fun y2 y3 a hlt i0 i1 i2 i3 => (ih _ hlt).2 y2 y3 a (Nat.le_refl _) i0 i1 i2 i3
  have hc91 : ∀ (y2 y3 : Int) (a : Nat → Nat → Int), (((300 - y3) * 1) + 0).toNat ≤ n → iv a → jfr jW_X7_take_r58 a0 a → 0 ≤ y3 → y3 ≤ 299 → jt (jxX E d 108 91 [some (.inr (.inr (.inl 69))), some (.inr (.inr (.inl 58))), some (.inl y2), some (.inl y3)] [] (jxSH, a, b0)) (jQ_X7_take_r58 x2 a0 b0) := by
    intro y2 y3 a hm hv hf hi0 hi1
    refine jt_eq (bq_X7_take_r58_91 E d y2 y3 a b0) ?_
    have h347_ : jxw (y3 + 1) = y3 + 1 := jxw_id (by omega) (by omega)
    exact ih58 y2 (jxw (y3 + 1)) a (show (((300 - (jxw (y3 + 1))) * 1) + 0).toNat < n from by omega) hv hf (show 0 ≤ jxw (y3 + 1) from by omega) (show jxw (y3 + 1) ≤ 300 from by omega)
  have hc58 : ∀ (y2 y3 : Int) (a : Nat → Nat → Int), (((300 - y3) * 1) + 0).toNat ≤ n → iv a → jfr jW_X7_take_r58 a0 a → 0 ≤ y3 → y3 ≤ 300 → jt (jxX E d 108 58 [some (.inr (.inr (.inl 69))), some (.inr (.inr (.inl 58))), some (.inl y2), some (.inl y3)] [] (jxSH, a, b0)) (jQ_X7_take_r58 x2 a0 b0) := by
    intro y2 y3 a hm hv hf hi0 hi1
    refine jt_eq (bq_X7_take_r58_58 E d y2 y3 a b0) ?_
    refine jt_eI (eq_X0_size E d (jd_le hd rfl) a b0) ?_
    have h348_ := f_X0_size_eq a b0
    have h349_ := iv_get hv (k := 58) (j := 8) (l := 0) (u := 300) rfl
    have h350_ : a 58 8 = a0 58 8 := hf 58 8 rfl
    have h351_ := iv_get hv0 (k := 58) (j := 8) (l := 0) (u := 300) rfl
    refine jt_ite (fun c352_ => ?_) (fun c352_ => ?_)
    ·
      refine jt_eI (eq_X0_fromOf E d (jd_le hd rfl) y3 a b0) ?_
      refine jt_eI (eq_X0_toOf E d (jd_le hd rfl) y3 a b0) ?_
      refine jt_eI (eq_X0_stateNow E d (jd_le hd rfl) y3 y2 a b0) ?_
      refine jt_eI (eq_X0_sentOnOf E d (jd_le hd rfl) y3 a b0) ?_
      refine jt_bV (sp_X7_add E d (jd_le hd rfl) (f_X0_fromOf a b0 y3) (f_X0_toOf a b0 y3) (f_X0_stateNow a b0 y3 y2) (f_X0_sentOnOf a b0 y3) a b0 hv) (fun a353_ b353_ h353_ => ?_)
      obtain ⟨hv353_, hf353_, rfl⟩ := h353_
      have hf354_ : jfr jW_X7_take_r58 a0 a353_ := jfr_tr hf hf353_ rfl
      exact hc91 y2 y3 a353_ (show (((300 - y3) * 1) + 0).toNat ≤ n from by omega) hv353_ hf354_ (show 0 ≤ y3 from by omega) (show y3 ≤ 299 from by omega)
    ·
      exact jt_rV ⟨hv, hf, rfl⟩
  exact ⟨hc91, hc58⟩
theorem cp_X7_take_r58_2 (E : jxE) (d : Nat) (hd : Nat.ble 4 (d + 1) = true) (x2 : Int) (a0 b0 : Nat → Nat → Int) (hv0 : iv a0) : ∀ n : Nat, (∀ (y2 y3 : Int) (a : Nat → Nat → Int), (((40 - y3) * 1) + 0).toNat ≤ n → iv a → jfr jW_X7_take_r58 a0 a → 0 ≤ y3 → y3 ≤ 39 → jt (jxX E d 108 50 [some (.inr (.inr (.inl 69))), some (.inr (.inr (.inl 58))), some (.inl y2), some (.inl y3)] [] (jxSH, a, b0)) (jQ_X7_take_r58 x2 a0 b0)) ∧ (∀ (y2 y3 : Int) (a : Nat → Nat → Int), (((40 - y3) * 1) + 0).toNat ≤ n → iv a → jfr jW_X7_take_r58 a0 a → 0 ≤ y3 → y3 ≤ 39 → jt (jxX E d 108 29 [some (.inr (.inr (.inl 69))), some (.inr (.inr (.inl 58))), some (.inl y2), some (.inl y3)] [] (jxSH, a, b0)) (jQ_X7_take_r58 x2 a0 b0)) ∧ (∀ (y2 y3 : Int) (a : Nat → Nat → Int), (((40 - y3) * 1) + 0).toNat ≤ n → iv a → jfr jW_X7_take_r58 a0 a → 0 ≤ y3 → y3 ≤ 40 → jt (jxX E d 108 2 [some (.inr (.inr (.inl 69))), some (.inr (.inr (.inl 58))), some (.inl y2), some (.inl y3)] [] (jxSH, a, b0)) (jQ_X7_take_r58 x2 a0 b0)) := by
  refine jx_ind fun n ih => ?_
  have ih50 : ∀ (y2 y3 : Int) (a : Nat → Nat → Int), (((40 - y3) * 1) + 0).toNat < n → iv a → jfr jW_X7_take_r58 a0 a → 0 ≤ y3 → y3 ≤ 39 → jt (jxX E d 108 50 [some (.inr (.inr (.inl 69))), some (.inr (.inr (.inl 58))), some (.inl y2), some (.inl y3)] [] (jxSH, a, b0)) (jQ_X7_take_r58 x2 a0 b0) := fun y2 y3 a hlt i0 i1 i2 i3 => (ih _ hlt).1 y2 y3 a (Nat.le_refl _) i0 i1 i2 i3
  have ih29 : ∀ (y2 y3 : Int) (a : Nat → Nat → Int), (((40 - y3) * 1) + 0).toNat < n → iv a → jfr jW_X7_take_r58 a0 a → 0 ≤ y3 → y3 ≤ 39 → jt (jxX E d 108 29 [some (.inr (.inr (.inl 69))), some (.inr (.inr (.inl 58))), some (.inl y2), some (.inl y3)] [] (jxSH, a, b0)) (jQ_X7_take_r58 x2 a0 b0) := fun y2 y3 a hlt i0 i1 i2 i3 => (ih _ hlt).2.1 y2 y3 a (Nat.le_refl _) i0 i1 i2 i3
  have ih2 : ∀ (y2 y3 : Int) (a : Nat → Nat → Int), (((40 - y3) * 1) + 0).toNat < n → iv a → jfr jW_X7_take_r58 a0 a → 0 ≤ y3 → y3 ≤ 40 → jt (jxX E d 108 2 [some (.inr (.inr (.inl 69))), some (.inr (.inr (.inl 58))), some (.inl y2), some (.inl y3)] [] (jxSH, a, b0)) (jQ_X7_take_r58 x2 a0 b0) := fun y2 y3 a hlt i0 i1 i2 i3 => (ih _ hlt).2.2 y2 y3 a (Nat.le_refl _) i0 i1 i2 i3
  have hc50 : ∀ (y2 y3 : Int) (a : Nat → Nat → Int), (((40 - y3) * 1) + 0).toNat ≤ n → iv a → jfr jW_X7_take_r58 a0 a → 0 ≤ y3 → y3 ≤ 39 → jt (jxX E d 108 50 [some (.inr (.inr (.inl 69))), some (.inr (.inr (.inl 58))), some (.inl y2), some (.inl y3)] [] (jxSH, a, b0)) (jQ_X7_take_r58 x2 a0 b0) := by
    intro y2 y3 a hm hv hf hi0 hi1
    refine jt_eq (bq_X7_take_r58_50 E d y2 y3 a b0) ?_
    have h355_ : jxw (y3 + 1) = y3 + 1 := jxw_id (by omega) (by omega)
    exact ih2 y2 (jxw (y3 + 1)) a (show (((40 - (jxw (y3 + 1))) * 1) + 0).toNat < n from by omega) hv hf (show 0 ≤ jxw (y3 + 1) from by omega) (show jxw (y3 + 1) ≤ 40 from by omega)
  have hc29 : ∀ (y2 y3 : Int) (a : Nat → Nat → Int), (((40 - y3) * 1) + 0).toNat ≤ n → iv a → jfr jW_X7_take_r58 a0 a → 0 ≤ y3 → y3 ≤ 39 → jt (jxX E d 108 29 [some (.inr (.inr (.inl 69))), some (.inr (.inr (.inl 58))), some (.inl y2), some (.inl y3)] [] (jxSH, a, b0)) (jQ_X7_take_r58 x2 a0 b0) := by
    intro y2 y3 a hm hv hf hi0 hi1
    refine jt_eq (bq_X7_take_r58_29 E d y2 y3 a b0) ?_
    refine jt_grd (by omega) ?_
    refine jt_grd (by omega) ?_
    refine jt_grd (by omega) ?_
    have hv356_ : iv (jxu a 73 (y3.toNat) 0) := iv_putf hv rfl
    have hv357_ : iv (jxu (jxu a 73 (y3.toNat) 0) 74 (y3.toNat) 0) := iv_putf hv356_ rfl
    have hv358_ : iv (jxu (jxu (jxu a 73 (y3.toNat) 0) 74 (y3.toNat) 0) 75 (y3.toNat) (-1)) := iv_putf hv357_ rfl
    have hf359_ : jfr jW_X7_take_r58 a0 (jxu a 73 (y3.toNat) 0) := jfr_put hf rfl
    have hf360_ : jfr jW_X7_take_r58 a0 (jxu (jxu a 73 (y3.toNat) 0) 74 (y3.toNat) 0) := jfr_put hf359_ rfl
    have hf361_ : jfr jW_X7_take_r58 a0 (jxu (jxu (jxu a 73 (y3.toNat) 0) 74 (y3.toNat) 0) 75 (y3.toNat) (-1)) := jfr_put hf360_ rfl
    exact hc50 y2 y3 (jxu (jxu (jxu a 73 (y3.toNat) 0) 74 (y3.toNat) 0) 75 (y3.toNat) (-1)) (show (((40 - y3) * 1) + 0).toNat ≤ n from by omega) hv358_ hf361_ (show 0 ≤ y3 from by omega) (show y3 ≤ 39 from by omega)
  have hc2 : ∀ (y2 y3 : Int) (a : Nat → Nat → Int), (((40 - y3) * 1) + 0).toNat ≤ n → iv a → jfr jW_X7_take_r58 a0 a → 0 ≤ y3 → y3 ≤ 40 → jt (jxX E d 108 2 [some (.inr (.inr (.inl 69))), some (.inr (.inr (.inl 58))), some (.inl y2), some (.inl y3)] [] (jxSH, a, b0)) (jQ_X7_take_r58 x2 a0 b0) := by
    intro y2 y3 a hm hv hf hi0 hi1
    refine jt_eq (bq_X7_take_r58_2 E d y2 y3 a b0) ?_
    refine jt_ite (fun c362_ => ?_) (fun c362_ => ?_)
    ·
      refine jt_grd (by omega) ?_
      refine jt_grd (by omega) ?_
      refine jt_grd (by omega) ?_
      have hv363_ : iv (jxu a 70 (y3.toNat) 0) := iv_putf hv rfl
      have hv364_ : iv (jxu (jxu a 70 (y3.toNat) 0) 71 (y3.toNat) 0) := iv_putf hv363_ rfl
      have hv365_ : iv (jxu (jxu (jxu a 70 (y3.toNat) 0) 71 (y3.toNat) 0) 72 (y3.toNat) 0) := iv_putf hv364_ rfl
      have hf366_ : jfr jW_X7_take_r58 a0 (jxu a 70 (y3.toNat) 0) := jfr_put hf rfl
      have hf367_ : jfr jW_X7_take_r58 a0 (jxu (jxu a 70 (y3.toNat) 0) 71 (y3.toNat) 0) := jfr_put hf366_ rfl
      have hf368_ : jfr jW_X7_take_r58 a0 (jxu (jxu (jxu a 70 (y3.toNat) 0) 71 (y3.toNat) 0) 72 (y3.toNat) 0) := jfr_put hf367_ rfl
      exact hc29 y2 y3 (jxu (jxu (jxu a 70 (y3.toNat) 0) 71 (y3.toNat) 0) 72 (y3.toNat) 0) (show (((40 - y3) * 1) + 0).toNat ≤ n from by omega) hv365_ hf368_ (show 0 ≤ y3 from by omega) (show y3 ≤ 39 from by omega)
    ·
      exact (cp_X7_take_r58_58 E d hd x2 a0 b0 hv0 _).2 y2 0 a (Nat.le_refl _) hv hf (show 0 ≤ 0 from by omega) (show 0 ≤ 300 from by omega)
  exact ⟨hc50, hc29, hc2⟩
theorem sp_X7_take_r58 (E : jxE) (d : Nat) (hd : Nat.ble 4 d = true) (x2 : Int) (a0 b0 : Nat → Nat → Int) (hv0 : iv a0) : jt (jxC E d 108 [.inr (.inr (.inl 69)), .inr (.inr (.inl 58)), .inl x2] (jxSH, a0, b0)) (jQ_X7_take_r58 x2 a0 b0) := by
  obtain ⟨d, rfl⟩ := jd_succ hd
  refine jt_eq (bq_X7_take_r58 E d x2 a0 b0) ?_
  exact (cp_X7_take_r58_2 E d hd x2 a0 b0 hv0 _).2.2 x2 0 a0 (Nat.le_refl _) hv0 (jfr_rf _ _) (show 0 ≤ 0 from by omega) (show 0 ≤ 40 from by omega)
def jW_X11_about : List (Nat × Nat) := [(70, 9999), (71, 9999), (72, 9999), (73, 9999), (74, 9999), (75, 9999)]
abbrev jQ_X11_about (x1 x2 : Int) (a0 b0 : Nat → Nat → Int) : List jxV → (Nat → Nat → Int) → (Nat → Nat → Int) → Prop := rI (fun r a b => (iv a) ∧ (jfr jW_X11_about a0 a) ∧ (b0 = b) ∧ ((a0 4 6 = 0 → ((x2 = 5 ∧ r = 0 - 1000) ∨ (¬ x2 = 5 ∧ r = 0 - 1)))))
theorem cp_X11_about_100 (E : jxE) (d : Nat) (hd : Nat.ble 5 (d + 1) = true) (x1 x2 : Int) (a0 b0 : Nat → Nat → Int) (hv0 : iv a0) : ∀ (y1 : Int) (a : Nat → Nat → Int), iv a → jfr jW_X11_about a0 a → 0 ≤ y1 → y1 ≤ 39 → 1 ≤ a0 4 6 → jt (jxX E d 181 100 [some (.inr (.inr (.inl 0))), some (.inl y1), none] [] (jxSH, a, b0)) (jQ_X11_about x1 x2 a0 b0) := by
  intro y1 a hv hf hi0 hi1 hi2
  refine jt_eq (bq_X11_about_100 E d y1 a b0) ?_
  have h369_ := iv_get hv0 (k := 4) (j := 6) (l := 0) (u := 40) rfl
  refine jt_eI (eq_X7_givenBy E d (jd_le hd rfl) y1 a b0) ?_
  have h370_ := f_X7_givenBy_eq a b0 y1
  have h371_ := f_X11_entry_r70_eq a b0 40 y1
  exact jt_rI ⟨hv, hf, rfl, (show (a0 4 6 = 0 → ((x2 = 5 ∧ f_X7_givenBy a b0 y1 = 0 - 1000) ∨ (¬ x2 = 5 ∧ f_X7_givenBy a b0 y1 = 0 - 1))) from by omega)⟩
theorem cp_X11_about_109 (E : jxE) (d : Nat) (hd : Nat.ble 5 (d + 1) = true) (x1 x2 : Int) (a0 b0 : Nat → Nat → Int) (hv0 : iv a0) : ∀ (y1 : Int) (a : Nat → Nat → Int), iv a → jfr jW_X11_about a0 a → 0 ≤ y1 → y1 ≤ 39 → 1 ≤ a0 4 6 → jt (jxX E d 181 109 [some (.inr (.inr (.inl 0))), some (.inl y1), none] [] (jxSH, a, b0)) (jQ_X11_about x1 x2 a0 b0) := by
  intro y1 a hv hf hi0 hi1 hi2
  refine jt_eq (bq_X11_about_109 E d y1 a b0) ?_
  have h372_ := iv_get hv0 (k := 4) (j := 6) (l := 0) (u := 40) rfl
  refine jt_eI (eq_X7_gotBy E d (jd_le hd rfl) y1 a b0) ?_
  have h373_ := f_X7_gotBy_eq a b0 y1
  have h374_ := f_X11_entry_r71_eq a b0 40 y1
  exact jt_rI ⟨hv, hf, rfl, (show (a0 4 6 = 0 → ((x2 = 5 ∧ f_X7_gotBy a b0 y1 = 0 - 1000) ∨ (¬ x2 = 5 ∧ f_X7_gotBy a b0 y1 = 0 - 1))) from by omega)⟩
theorem cp_X11_about_118 (E : jxE) (d : Nat) (hd : Nat.ble 5 (d + 1) = true) (x1 x2 : Int) (a0 b0 : Nat → Nat → Int) (hv0 : iv a0) : ∀ (y1 : Int) (a : Nat → Nat → Int), iv a → jfr jW_X11_about a0 a → 0 ≤ y1 → y1 ≤ 39 → 1 ≤ a0 4 6 → jt (jxX E d 181 118 [some (.inr (.inr (.inl 0))), some (.inl y1), none] [] (jxSH, a, b0)) (jQ_X11_about x1 x2 a0 b0) := by
  intro y1 a hv hf hi0 hi1 hi2
  refine jt_eq (bq_X11_about_118 E d y1 a b0) ?_
  have h375_ := iv_get hv0 (k := 4) (j := 6) (l := 0) (u := 40) rfl
  refine jt_eI (eq_X7_comingTo E d (jd_le hd rfl) y1 a b0) ?_
  have h376_ := f_X7_comingTo_eq a b0 y1
  have h377_ := f_X11_entry_r72_eq a b0 40 y1
  exact jt_rI ⟨hv, hf, rfl, (show (a0 4 6 = 0 → ((x2 = 5 ∧ f_X7_comingTo a b0 y1 = 0 - 1000) ∨ (¬ x2 = 5 ∧ f_X7_comingTo a b0 y1 = 0 - 1))) from by omega)⟩
theorem cp_X11_about_127 (E : jxE) (d : Nat) (hd : Nat.ble 5 (d + 1) = true) (x1 x2 : Int) (a0 b0 : Nat → Nat → Int) (hv0 : iv a0) : ∀ (y1 : Int) (a : Nat → Nat → Int), iv a → jfr jW_X11_about a0 a → 0 ≤ y1 → y1 ≤ 39 → 1 ≤ a0 4 6 → jt (jxX E d 181 127 [some (.inr (.inr (.inl 0))), some (.inl y1), none] [] (jxSH, a, b0)) (jQ_X11_about x1 x2 a0 b0) := by
  intro y1 a hv hf hi0 hi1 hi2
  refine jt_eq (bq_X11_about_127 E d y1 a b0) ?_
  have h378_ := iv_get hv0 (k := 4) (j := 6) (l := 0) (u := 40) rfl
  refine jt_eI (eq_X7_outOf E d (jd_le hd rfl) y1 a b0) ?_
  have h379_ := f_X7_outOf_eq a b0 y1
  have h380_ := f_X11_entry_r73_eq a b0 40 y1
  exact jt_rI ⟨hv, hf, rfl, (show (a0 4 6 = 0 → ((x2 = 5 ∧ f_X7_outOf a b0 y1 = 0 - 1000) ∨ (¬ x2 = 5 ∧ f_X7_outOf a b0 y1 = 0 - 1))) from by omega)⟩
theorem cp_X11_about_136 (E : jxE) (d : Nat) (hd : Nat.ble 5 (d + 1) = true) (x1 x2 : Int) (a0 b0 : Nat → Nat → Int) (hv0 : iv a0) : ∀ (y1 : Int) (a : Nat → Nat → Int), iv a → jfr jW_X11_about a0 a → 0 ≤ y1 → y1 ≤ 39 → 1 ≤ a0 4 6 → jt (jxX E d 181 136 [some (.inr (.inr (.inl 0))), some (.inl y1), none] [] (jxSH, a, b0)) (jQ_X11_about x1 x2 a0 b0) := by
  intro y1 a hv hf hi0 hi1 hi2
  refine jt_eq (bq_X11_about_136 E d y1 a b0) ?_
  have h381_ := iv_get hv0 (k := 4) (j := 6) (l := 0) (u := 40) rfl
  refine jt_eI (eq_X3_creditOf E d (jd_le hd rfl) y1 a b0) ?_
  have h382_ := f_X3_creditOf_eq a b0 y1
  have h383_ := f_X3_has_eq a b0 y1
  have h384_ := iv_get hv (k := 4) (j := 6) (l := 0) (u := 40) rfl
  have h385_ : a 4 6 = a0 4 6 := hf 4 6 rfl
  have h386_ : a 9 (y1.toNat) = a0 9 (y1.toNat) := hf 9 (y1.toNat) rfl
  exact jt_rI ⟨hv, hf, rfl, (show (a0 4 6 = 0 → ((x2 = 5 ∧ f_X3_creditOf a b0 y1 = 0 - 1000) ∨ (¬ x2 = 5 ∧ f_X3_creditOf a b0 y1 = 0 - 1))) from by omega)⟩
theorem cp_X11_about_145 (E : jxE) (d : Nat) (hd : Nat.ble 5 (d + 1) = true) (x1 x2 : Int) (a0 b0 : Nat → Nat → Int) (hv0 : iv a0) : ∀ (y1 : Int) (a : Nat → Nat → Int), iv a → jfr jW_X11_about a0 a → 0 ≤ y1 → y1 ≤ 39 → 1 ≤ a0 4 6 → jt (jxX E d 181 145 [some (.inr (.inr (.inl 0))), some (.inl y1), none] [] (jxSH, a, b0)) (jQ_X11_about x1 x2 a0 b0) := by
  intro y1 a hv hf hi0 hi1 hi2
  refine jt_eq (bq_X11_about_145 E d y1 a b0) ?_
  have h387_ := iv_get hv0 (k := 4) (j := 6) (l := 0) (u := 40) rfl
  refine jt_eI (eq_X11_owed E d (jd_le hd rfl) y1 a b0) ?_
  have h388_ := f_X11_owed_eq a b0 y1
  have h389_ := f_X7_givenBy_eq a b0 y1
  have h390_ := f_X11_entry_r70_eq a b0 40 y1
  have h391_ := f_X3_creditOf_eq a b0 y1
  have h392_ := f_X3_has_eq a b0 y1
  have h393_ := iv_get hv (k := 4) (j := 6) (l := 0) (u := 40) rfl
  have h394_ : a 4 6 = a0 4 6 := hf 4 6 rfl
  have h395_ : a 9 (y1.toNat) = a0 9 (y1.toNat) := hf 9 (y1.toNat) rfl
  have h396_ := jxw_im ((f_X7_givenBy a b0 y1) + (f_X3_creditOf a b0 y1))
  have h397_ := jxw_rg ((f_X7_givenBy a b0 y1) + (f_X3_creditOf a b0 y1))
  have h398_ := f_X7_gotBy_eq a b0 y1
  have h399_ := f_X11_entry_r71_eq a b0 40 y1
  have h400_ := jxw_im ((jxw ((f_X7_givenBy a b0 y1) + (f_X3_creditOf a b0 y1))) - (f_X7_gotBy a b0 y1))
  have h401_ := jxw_rg ((jxw ((f_X7_givenBy a b0 y1) + (f_X3_creditOf a b0 y1))) - (f_X7_gotBy a b0 y1))
  have h402_ := f_X7_comingTo_eq a b0 y1
  have h403_ := f_X11_entry_r72_eq a b0 40 y1
  have h404_ := jxw_im ((jxw ((jxw ((f_X7_givenBy a b0 y1) + (f_X3_creditOf a b0 y1))) - (f_X7_gotBy a b0 y1))) - (f_X7_comingTo a b0 y1))
  have h405_ := jxw_rg ((jxw ((jxw ((f_X7_givenBy a b0 y1) + (f_X3_creditOf a b0 y1))) - (f_X7_gotBy a b0 y1))) - (f_X7_comingTo a b0 y1))
  exact jt_rI ⟨hv, hf, rfl, (show (a0 4 6 = 0 → ((x2 = 5 ∧ f_X11_owed a b0 y1 = 0 - 1000) ∨ (¬ x2 = 5 ∧ f_X11_owed a b0 y1 = 0 - 1))) from by omega)⟩
theorem cp_X11_about_151 (E : jxE) (d : Nat) (hd : Nat.ble 5 (d + 1) = true) (x1 x2 : Int) (a0 b0 : Nat → Nat → Int) (hv0 : iv a0) : ∀ (y1 : Int) (a : Nat → Nat → Int), iv a → jfr jW_X11_about a0 a → 0 ≤ y1 → y1 ≤ 39 → 1 ≤ a0 4 6 → jt (jxX E d 181 151 [some (.inr (.inr (.inl 0))), some (.inl y1), none] [] (jxSH, a, b0)) (jQ_X11_about x1 x2 a0 b0) := by
  intro y1 a hv hf hi0 hi1 hi2
  refine jt_eq (bq_X11_about_151 E d y1 a b0) ?_
  have h406_ := iv_get hv0 (k := 4) (j := 6) (l := 0) (u := 40) rfl
  refine jt_eI (eq_X11_mayAsk E d (jd_le hd rfl) y1 a b0) ?_
  have h407_ := f_X11_mayAsk_bool a b0 y1
  refine jt_ite (fun c408_ => ?_) (fun c408_ => ?_)
  ·
    exact jt_rI ⟨hv, hf, rfl, (show (a0 4 6 = 0 → ((x2 = 5 ∧ 0 = 0 - 1000) ∨ (¬ x2 = 5 ∧ 0 = 0 - 1))) from by omega)⟩
  ·
    exact jt_rI ⟨hv, hf, rfl, (show (a0 4 6 = 0 → ((x2 = 5 ∧ 1 = 0 - 1000) ∨ (¬ x2 = 5 ∧ 1 = 0 - 1))) from by omega)⟩
theorem cp_X11_about_165 (E : jxE) (d : Nat) (hd : Nat.ble 5 (d + 1) = true) (x1 x2 : Int) (a0 b0 : Nat → Nat → Int) (hv0 : iv a0) : ∀ (y1 : Int) (a : Nat → Nat → Int), iv a → jfr jW_X11_about a0 a → 0 ≤ y1 → y1 ≤ 39 → 1 ≤ a0 4 6 → jt (jxX E d 181 165 [some (.inr (.inr (.inl 0))), some (.inl y1), none] [] (jxSH, a, b0)) (jQ_X11_about x1 x2 a0 b0) := by
  intro y1 a hv hf hi0 hi1 hi2
  refine jt_eq (bq_X11_about_165 E d y1 a b0) ?_
  have h409_ := iv_get hv0 (k := 4) (j := 6) (l := 0) (u := 40) rfl
  refine jt_eI (eq_X3_landOf E d (jd_le hd rfl) y1 a b0) ?_
  have h410_ := f_X3_landOf_eq a b0 y1
  have h411_ := iv_get hv (k := 4) (j := 6) (l := 0) (u := 40) rfl
  have h412_ : a 4 6 = a0 4 6 := hf 4 6 rfl
  have h413_ := f_X11_entry_r5_eq a b0 (a 4 6) y1
  have h414_ : a 5 (y1.toNat) = a0 5 (y1.toNat) := hf 5 (y1.toNat) rfl
  exact jt_rI ⟨hv, hf, rfl, (show (a0 4 6 = 0 → ((x2 = 5 ∧ f_X3_landOf a b0 y1 = 0 - 1000) ∨ (¬ x2 = 5 ∧ f_X3_landOf a b0 y1 = 0 - 1))) from by omega)⟩
theorem cp_X11_about_174 (E : jxE) (d : Nat) (hd : Nat.ble 5 (d + 1) = true) (x1 x2 : Int) (a0 b0 : Nat → Nat → Int) (hv0 : iv a0) : ∀ (y1 : Int) (a : Nat → Nat → Int), iv a → jfr jW_X11_about a0 a → 0 ≤ y1 → y1 ≤ 39 → 1 ≤ a0 4 6 → jt (jxX E d 181 174 [some (.inr (.inr (.inl 0))), some (.inl y1), none] [] (jxSH, a, b0)) (jQ_X11_about x1 x2 a0 b0) := by
  intro y1 a hv hf hi0 hi1 hi2
  refine jt_eq (bq_X11_about_174 E d y1 a b0) ?_
  have h415_ := iv_get hv0 (k := 4) (j := 6) (l := 0) (u := 40) rfl
  refine jt_eI (eq_X3_isThere E d (jd_le hd rfl) y1 a b0) ?_
  have h416_ := f_X3_isThere_eq a b0 y1
  have h417_ := f_X3_has_eq a b0 y1
  have h418_ := iv_get hv (k := 4) (j := 6) (l := 0) (u := 40) rfl
  have h419_ : a 4 6 = a0 4 6 := hf 4 6 rfl
  have h420_ : a 10 (y1.toNat) = a0 10 (y1.toNat) := hf 10 (y1.toNat) rfl
  refine jt_ite (fun c421_ => ?_) (fun c421_ => ?_)
  ·
    exact jt_rI ⟨hv, hf, rfl, (show (a0 4 6 = 0 → ((x2 = 5 ∧ 0 = 0 - 1000) ∨ (¬ x2 = 5 ∧ 0 = 0 - 1))) from by omega)⟩
  ·
    exact jt_rI ⟨hv, hf, rfl, (show (a0 4 6 = 0 → ((x2 = 5 ∧ 1 = 0 - 1000) ∨ (¬ x2 = 5 ∧ 1 = 0 - 1))) from by omega)⟩
theorem cp_X11_about_191 (E : jxE) (d : Nat) (hd : Nat.ble 5 (d + 1) = true) (x1 x2 : Int) (a0 b0 : Nat → Nat → Int) (hv0 : iv a0) : ∀ (y1 : Int) (a : Nat → Nat → Int), iv a → jfr jW_X11_about a0 a → 0 ≤ y1 → y1 ≤ 39 → 1 ≤ a0 4 6 → jt (jxX E d 181 191 [some (.inr (.inr (.inl 0))), some (.inl y1), none] [] (jxSH, a, b0)) (jQ_X11_about x1 x2 a0 b0) := by
  intro y1 a hv hf hi0 hi1 hi2
  refine jt_eq (bq_X11_about_191 E d y1 a b0) ?_
  have h422_ := iv_get hv0 (k := 4) (j := 6) (l := 0) (u := 40) rfl
  refine jt_eI (eq_X3_cameOnOf E d (jd_le hd rfl) y1 a b0) ?_
  have h423_ := f_X3_cameOnOf_eq a b0 y1
  have h424_ := iv_get hv (k := 4) (j := 6) (l := 0) (u := 40) rfl
  have h425_ : a 4 6 = a0 4 6 := hf 4 6 rfl
  have h426_ := f_X11_entry_r8_eq a b0 (a 4 6) y1
  have h427_ : a 8 (y1.toNat) = a0 8 (y1.toNat) := hf 8 (y1.toNat) rfl
  exact jt_rI ⟨hv, hf, rfl, (show (a0 4 6 = 0 → ((x2 = 5 ∧ f_X3_cameOnOf a b0 y1 = 0 - 1000) ∨ (¬ x2 = 5 ∧ f_X3_cameOnOf a b0 y1 = 0 - 1))) from by omega)⟩
theorem cp_X11_about_200 (E : jxE) (d : Nat) (hd : Nat.ble 5 (d + 1) = true) (x1 x2 : Int) (a0 b0 : Nat → Nat → Int) (hv0 : iv a0) : ∀ (y1 : Int) (a : Nat → Nat → Int), iv a → jfr jW_X11_about a0 a → 0 ≤ y1 → y1 ≤ 39 → 1 ≤ a0 4 6 → jt (jxX E d 181 200 [some (.inr (.inr (.inl 0))), some (.inl y1), none] [] (jxSH, a, b0)) (jQ_X11_about x1 x2 a0 b0) := by
  intro y1 a hv hf hi0 hi1 hi2
  refine jt_eq (bq_X11_about_200 E d y1 a b0) ?_
  have h428_ := iv_get hv0 (k := 4) (j := 6) (l := 0) (u := 40) rfl
  refine jt_eI (eq_X7_lostOf E d (jd_le hd rfl) y1 a b0) ?_
  have h429_ := f_X7_lostOf_eq a b0 y1
  have h430_ := f_X11_entry_r74_eq a b0 40 y1
  exact jt_rI ⟨hv, hf, rfl, (show (a0 4 6 = 0 → ((x2 = 5 ∧ f_X7_lostOf a b0 y1 = 0 - 1000) ∨ (¬ x2 = 5 ∧ f_X7_lostOf a b0 y1 = 0 - 1))) from by omega)⟩
theorem cp_X11_about_209 (E : jxE) (d : Nat) (hd : Nat.ble 5 (d + 1) = true) (x1 x2 : Int) (a0 b0 : Nat → Nat → Int) (hv0 : iv a0) : ∀ (a : Nat → Nat → Int), iv a → jfr jW_X11_about a0 a → 1 ≤ a0 4 6 → jt (jxX E d 181 209 [none, none, none] [] (jxSH, a, b0)) (jQ_X11_about x1 x2 a0 b0) := by
  intro a hv hf hi0
  refine jt_eq (bq_X11_about_209 E d a b0) ?_
  have h431_ := iv_get hv0 (k := 4) (j := 6) (l := 0) (u := 40) rfl
  exact jt_rI ⟨hv, hf, rfl, (show (a0 4 6 = 0 → ((x2 = 5 ∧ (-1) = 0 - 1000) ∨ (¬ x2 = 5 ∧ (-1) = 0 - 1))) from by omega)⟩
theorem sp_X11_about (E : jxE) (d : Nat) (hd : Nat.ble 5 d = true) (x1 x2 : Int) (a0 b0 : Nat → Nat → Int) (hv0 : iv a0) : jt (jxC E d 181 [.inr (.inr (.inl 0)), .inl x1, .inl x2] (jxSH, a0, b0)) (jQ_X11_about x1 x2 a0 b0) := by
  obtain ⟨d, rfl⟩ := jd_succ hd
  refine jt_eq (bq_X11_about E d x1 x2 a0 b0) ?_
  refine jt_eI (eq_X3_has E d (jd_le hd rfl) x1 a0 b0) ?_
  have h432_ := f_X3_has_eq a0 b0 x1
  have h433_ := iv_get hv0 (k := 4) (j := 6) (l := 0) (u := 40) rfl
  refine jt_ite (fun c434_ => ?_) (fun c434_ => ?_)
  ·
    refine jt_ite (fun c435_ => ?_) (fun c435_ => ?_)
    ·
      exact jt_rI ⟨hv0, (jfr_rf _ _), rfl, (show (a0 4 6 = 0 → ((x2 = 5 ∧ (-1000) = 0 - 1000) ∨ (¬ x2 = 5 ∧ (-1000) = 0 - 1))) from by omega)⟩
    ·
      exact jt_rI ⟨hv0, (jfr_rf _ _), rfl, (show (a0 4 6 = 0 → ((x2 = 5 ∧ (-1) = 0 - 1000) ∨ (¬ x2 = 5 ∧ (-1) = 0 - 1))) from by omega)⟩
  ·
    refine jt_bV (sp_X7_take_r58 E d (jd_le hd rfl) (a0 0 0) a0 b0 hv0) (fun a436_ b436_ h436_ => ?_)
    obtain ⟨hv436_, hf436_, rfl⟩ := h436_
    refine jt_ite (fun c437_ => ?_) (fun c437_ => ?_)
    ·
      have hf438_ : jfr jW_X11_about a0 a436_ := jfr_tr (jfr_rf _ _) hf436_ rfl
      exact cp_X11_about_209 E d hd x1 x2 a0 b0 hv0 a436_ hv436_ hf438_ (show 1 ≤ a0 4 6 from by omega)
    ·
      refine jt_ite (fun c439_ => ?_) (fun c439_ => ?_)
      ·
        have hf440_ : jfr jW_X11_about a0 a436_ := jfr_tr (jfr_rf _ _) hf436_ rfl
        exact cp_X11_about_100 E d hd x1 x2 a0 b0 hv0 x1 a436_ hv436_ hf440_ (show 0 ≤ x1 from by omega) (show x1 ≤ 39 from by omega) (show 1 ≤ a0 4 6 from by omega)
      ·
        refine jt_ite (fun c441_ => ?_) (fun c441_ => ?_)
        ·
          have hf442_ : jfr jW_X11_about a0 a436_ := jfr_tr (jfr_rf _ _) hf436_ rfl
          exact cp_X11_about_109 E d hd x1 x2 a0 b0 hv0 x1 a436_ hv436_ hf442_ (show 0 ≤ x1 from by omega) (show x1 ≤ 39 from by omega) (show 1 ≤ a0 4 6 from by omega)
        ·
          refine jt_ite (fun c443_ => ?_) (fun c443_ => ?_)
          ·
            have hf444_ : jfr jW_X11_about a0 a436_ := jfr_tr (jfr_rf _ _) hf436_ rfl
            exact cp_X11_about_118 E d hd x1 x2 a0 b0 hv0 x1 a436_ hv436_ hf444_ (show 0 ≤ x1 from by omega) (show x1 ≤ 39 from by omega) (show 1 ≤ a0 4 6 from by omega)
          ·
            refine jt_ite (fun c445_ => ?_) (fun c445_ => ?_)
            ·
              have hf446_ : jfr jW_X11_about a0 a436_ := jfr_tr (jfr_rf _ _) hf436_ rfl
              exact cp_X11_about_127 E d hd x1 x2 a0 b0 hv0 x1 a436_ hv436_ hf446_ (show 0 ≤ x1 from by omega) (show x1 ≤ 39 from by omega) (show 1 ≤ a0 4 6 from by omega)
            ·
              refine jt_ite (fun c447_ => ?_) (fun c447_ => ?_)
              ·
                have hf448_ : jfr jW_X11_about a0 a436_ := jfr_tr (jfr_rf _ _) hf436_ rfl
                exact cp_X11_about_136 E d hd x1 x2 a0 b0 hv0 x1 a436_ hv436_ hf448_ (show 0 ≤ x1 from by omega) (show x1 ≤ 39 from by omega) (show 1 ≤ a0 4 6 from by omega)
              ·
                refine jt_ite (fun c449_ => ?_) (fun c449_ => ?_)
                ·
                  have hf450_ : jfr jW_X11_about a0 a436_ := jfr_tr (jfr_rf _ _) hf436_ rfl
                  exact cp_X11_about_145 E d hd x1 x2 a0 b0 hv0 x1 a436_ hv436_ hf450_ (show 0 ≤ x1 from by omega) (show x1 ≤ 39 from by omega) (show 1 ≤ a0 4 6 from by omega)
                ·
                  refine jt_ite (fun c451_ => ?_) (fun c451_ => ?_)
                  ·
                    have hf452_ : jfr jW_X11_about a0 a436_ := jfr_tr (jfr_rf _ _) hf436_ rfl
                    exact cp_X11_about_151 E d hd x1 x2 a0 b0 hv0 x1 a436_ hv436_ hf452_ (show 0 ≤ x1 from by omega) (show x1 ≤ 39 from by omega) (show 1 ≤ a0 4 6 from by omega)
                  ·
                    refine jt_ite (fun c453_ => ?_) (fun c453_ => ?_)
                    ·
                      have hf454_ : jfr jW_X11_about a0 a436_ := jfr_tr (jfr_rf _ _) hf436_ rfl
                      exact cp_X11_about_165 E d hd x1 x2 a0 b0 hv0 x1 a436_ hv436_ hf454_ (show 0 ≤ x1 from by omega) (show x1 ≤ 39 from by omega) (show 1 ≤ a0 4 6 from by omega)
                    ·
                      refine jt_ite (fun c455_ => ?_) (fun c455_ => ?_)
                      ·
                        have hf456_ : jfr jW_X11_about a0 a436_ := jfr_tr (jfr_rf _ _) hf436_ rfl
                        exact cp_X11_about_174 E d hd x1 x2 a0 b0 hv0 x1 a436_ hv436_ hf456_ (show 0 ≤ x1 from by omega) (show x1 ≤ 39 from by omega) (show 1 ≤ a0 4 6 from by omega)
                      ·
                        refine jt_ite (fun c457_ => ?_) (fun c457_ => ?_)
                        ·
                          have hf458_ : jfr jW_X11_about a0 a436_ := jfr_tr (jfr_rf _ _) hf436_ rfl
                          exact cp_X11_about_191 E d hd x1 x2 a0 b0 hv0 x1 a436_ hv436_ hf458_ (show 0 ≤ x1 from by omega) (show x1 ≤ 39 from by omega) (show 1 ≤ a0 4 6 from by omega)
                        ·
                          refine jt_ite (fun c459_ => ?_) (fun c459_ => ?_)
                          ·
                            have hf460_ : jfr jW_X11_about a0 a436_ := jfr_tr (jfr_rf _ _) hf436_ rfl
                            exact cp_X11_about_200 E d hd x1 x2 a0 b0 hv0 x1 a436_ hv436_ hf460_ (show 0 ≤ x1 from by omega) (show x1 ≤ 39 from by omega) (show 1 ≤ a0 4 6 from by omega)
                          ·
                            exact absurd (by omega : False) id
abbrev jQ_X11_album (x1 : Int) (a0 b0 : Nat → Nat → Int) : List jxV → (Nat → Nat → Int) → (Nat → Nat → Int) → Prop := rI (fun r a b => (a0 = a) ∧ (b0 = b) ∧ ((a0 4 6 = 0 → r = 0 - 1)))
theorem sp_X11_album (E : jxE) (d : Nat) (hd : Nat.ble 5 d = true) (x1 : Int) (a0 b0 : Nat → Nat → Int) (hv0 : iv a0) : jt (jxC E d 182 [.inr (.inr (.inl 0)), .inl x1] (jxSH, a0, b0)) (jQ_X11_album x1 a0 b0) := by
  obtain ⟨d, rfl⟩ := jd_succ hd
  refine jt_eq (bq_X11_album E d x1 a0 b0) ?_
  refine jt_eI (eq_X3_has E d (jd_le hd rfl) x1 a0 b0) ?_
  have h461_ := f_X3_has_eq a0 b0 x1
  have h462_ := iv_get hv0 (k := 4) (j := 6) (l := 0) (u := 40) rfl
  refine jt_ite (fun c463_ => ?_) (fun c463_ => ?_)
  ·
    exact jt_rI ⟨rfl, rfl, (show (a0 4 6 = 0 → (-1) = 0 - 1) from by omega)⟩
  ·
    refine jt_bI (sp_X0_landsArrivedTo E d (jd_le hd rfl) x1 (a0 0 0) a0 b0 hv0) (fun r464_ a464_ b464_ h464_ => ?_)
    obtain ⟨rfl, rfl⟩ := h464_
    exact jt_rI ⟨rfl, rfl, (show (a0 4 6 = 0 → r464_ = 0 - 1) from by omega)⟩
def jW_X11_arrive : List (Nat × Nat) := [(58, 12), (65, 9999), (66, 9999), (67, 9999), (68, 9999)]
abbrev jQ_X11_arrive (x1 x2 : Int) (a0 b0 : Nat → Nat → Int) : List jxV → (Nat → Nat → Int) → (Nat → Nat → Int) → Prop := rI (fun r a b => (iv a) ∧ (jfr jW_X11_arrive a0 a) ∧ (b0 = b) ∧ ((0 ≤ r ∧ r ≤ 1)) ∧ ((a0 58 8 = 0 → r = 0)))
theorem sp_X11_arrive (E : jxE) (d : Nat) (hd : Nat.ble 4 d = true) (x1 x2 : Int) (a0 b0 : Nat → Nat → Int) (hv0 : iv a0) : jt (jxC E d 177 [.inr (.inr (.inl 0)), .inl x1, .inl x2] (jxSH, a0, b0)) (jQ_X11_arrive x1 x2 a0 b0) := by
  obtain ⟨d, rfl⟩ := jd_succ hd
  refine jt_eq (bq_X11_arrive E d x1 x2 a0 b0) ?_
  refine jt_bI (sp_X0_tellArrival E d (jd_le hd rfl) x1 x2 (a0 0 0) a0 b0 hv0) (fun r465_ a465_ b465_ h465_ => ?_)
  obtain ⟨hv465_, hf465_, rfl, hq465_0, hq465_1⟩ := h465_
  have h466_ := iv_get hv0 (k := 58) (j := 8) (l := 0) (u := 300) rfl
  refine jt_grd (by omega) ?_
  have hf467_ : jfr jW_X11_arrive a0 a465_ := jfr_tr (jfr_rf _ _) hf465_ rfl
  exact jt_rI ⟨hv465_, hf467_, rfl, (show (0 ≤ r465_ ∧ r465_ ≤ 1) from by omega), (show (a0 58 8 = 0 → r465_ = 0) from by omega)⟩
abbrev jQ_X11_unhappy (x1 x2 : Int) (a0 b0 : Nat → Nat → Int) : List jxV → (Nat → Nat → Int) → (Nat → Nat → Int) → Prop := rI (fun r a b => (a0 = a) ∧ (b0 = b))
theorem cp_X11_unhappy_21 (E : jxE) (d : Nat) (hd : Nat.ble 6 (d + 1) = true) (x1 x2 : Int) (a0 b0 : Nat → Nat → Int) (hv0 : iv a0) : ∀ (y1 y2 s0 : Int), 0 ≤ s0 → s0 ≤ 1 → jt (jxX E d 173 21 [some (.inr (.inr (.inl 0))), some (.inl y1), some (.inl y2)] [.inl s0] (jxSH, a0, b0)) (jQ_X11_unhappy x1 x2 a0 b0) := by
  intro y1 y2 s0 hi0 hi1
  refine jt_eq (bq_X11_unhappy_21 E d y1 y2 s0 a0 b0) ?_
  refine jt_bI (sp_X10_isMet E d (jd_le hd rfl) y2 y1 (a0 0 0) a0 b0 hv0) (fun r468_ a468_ b468_ h468_ => ?_)
  obtain ⟨rfl, rfl, hq468_0⟩ := h468_
  refine jt_ite (fun c469_ => ?_) (fun c469_ => ?_)
  ·
    exact jt_rI ⟨rfl, rfl⟩
  ·
    exact jt_rI ⟨rfl, rfl⟩
theorem sp_X11_unhappy (E : jxE) (d : Nat) (hd : Nat.ble 6 d = true) (x1 x2 : Int) (a0 b0 : Nat → Nat → Int) (hv0 : iv a0) : jt (jxC E d 173 [.inr (.inr (.inl 0)), .inl x1, .inl x2] (jxSH, a0, b0)) (jQ_X11_unhappy x1 x2 a0 b0) := by
  obtain ⟨d, rfl⟩ := jd_succ hd
  refine jt_eq (bq_X11_unhappy E d x1 x2 a0 b0) ?_
  refine jt_bI (sp_X10_isMet E d (jd_le hd rfl) x1 x2 (a0 0 0) a0 b0 hv0) (fun r470_ a470_ b470_ h470_ => ?_)
  obtain ⟨rfl, rfl, hq470_0⟩ := h470_
  refine jt_ite (fun c471_ => ?_) (fun c471_ => ?_)
  ·
    exact cp_X11_unhappy_21 E d hd x1 x2 a0 b0 hv0 x1 x2 1 (show 0 ≤ 1 from by omega) (show 1 ≤ 1 from by omega)
  ·
    exact cp_X11_unhappy_21 E d hd x1 x2 a0 b0 hv0 x1 x2 0 (show 0 ≤ 0 from by omega) (show 0 ≤ 1 from by omega)
abbrev jQ_X11_isAhead (x1 x2 x3 : Int) (a0 b0 : Nat → Nat → Int) : List jxV → (Nat → Nat → Int) → (Nat → Nat → Int) → Prop := rI (fun r a b => (a0 = a) ∧ (b0 = b) ∧ ((0 ≤ r ∧ r ≤ 1)))
theorem cp_X11_isAhead_26 (E : jxE) (d : Nat) (hd : Nat.ble 7 (d + 1) = true) (x1 x2 x3 : Int) (a0 b0 : Nat → Nat → Int) (hv0 : iv a0) : jt (jxX E d 175 26 [none, none, none, none, none, none] [] (jxSH, a0, b0)) (jQ_X11_isAhead x1 x2 x3 a0 b0) := by
  refine jt_eq (bq_X11_isAhead_26 E d a0 b0) ?_
  exact jt_rI ⟨rfl, rfl, (show (0 ≤ 1 ∧ 1 ≤ 1) from by omega)⟩
theorem cp_X11_isAhead_30 (E : jxE) (d : Nat) (hd : Nat.ble 7 (d + 1) = true) (x1 x2 x3 : Int) (a0 b0 : Nat → Nat → Int) (hv0 : iv a0) : jt (jxX E d 175 30 [none, none, none, none, none, none] [] (jxSH, a0, b0)) (jQ_X11_isAhead x1 x2 x3 a0 b0) := by
  refine jt_eq (bq_X11_isAhead_30 E d a0 b0) ?_
  exact jt_rI ⟨rfl, rfl, (show (0 ≤ 0 ∧ 0 ≤ 1) from by omega)⟩
theorem cp_X11_isAhead_48 (E : jxE) (d : Nat) (hd : Nat.ble 7 (d + 1) = true) (x1 x2 x3 : Int) (a0 b0 : Nat → Nat → Int) (hv0 : iv a0) : ∀ (y2 y3 y4 y5 : Int), jt (jxX E d 175 48 [some (.inr (.inr (.inl 0))), none, some (.inl y2), some (.inl y3), some (.inl y4), some (.inl y5)] [] (jxSH, a0, b0)) (jQ_X11_isAhead x1 x2 x3 a0 b0) := by
  intro y2 y3 y4 y5
  refine jt_eq (bq_X11_isAhead_48 E d y2 y3 y4 y5 a0 b0) ?_
  refine jt_ite (fun c472_ => ?_) (fun c472_ => ?_)
  ·
    refine jt_eI (eq_X7_lastSentTo E d (jd_le hd rfl) y2 a0 b0) ?_
    refine jt_eI (eq_X7_lastSentTo E d (jd_le hd rfl) y3 a0 b0) ?_
    have h473_ := f_X7_lastSentTo_eq a0 b0 y2
    have h474_ := f_X11_entry_r75_eq a0 b0 40 y2
    have h475_ := f_X7_lastSentTo_eq a0 b0 y3
    have h476_ := f_X11_entry_r75_eq a0 b0 40 y3
    refine jt_ite (fun c477_ => ?_) (fun c477_ => ?_)
    ·
      exact jt_rI ⟨rfl, rfl, (show (0 ≤ 1 ∧ 1 ≤ 1) from by omega)⟩
    ·
      exact jt_rI ⟨rfl, rfl, (show (0 ≤ 0 ∧ 0 ≤ 1) from by omega)⟩
  ·
    refine jt_ite (fun c478_ => ?_) (fun c478_ => ?_)
    ·
      exact jt_rI ⟨rfl, rfl, (show (0 ≤ 1 ∧ 1 ≤ 1) from by omega)⟩
    ·
      exact jt_rI ⟨rfl, rfl, (show (0 ≤ 0 ∧ 0 ≤ 1) from by omega)⟩
theorem sp_X11_isAhead (E : jxE) (d : Nat) (hd : Nat.ble 7 d = true) (x1 x2 x3 : Int) (a0 b0 : Nat → Nat → Int) (hv0 : iv a0) : jt (jxC E d 175 [.inr (.inr (.inl 0)), .inl x1, .inl x2, .inl x3] (jxSH, a0, b0)) (jQ_X11_isAhead x1 x2 x3 a0 b0) := by
  obtain ⟨d, rfl⟩ := jd_succ hd
  refine jt_eq (bq_X11_isAhead E d x1 x2 x3 a0 b0) ?_
  refine jt_eI (eq_X11_owed E d (jd_le hd rfl) x2 a0 b0) ?_
  refine jt_eI (eq_X11_owed E d (jd_le hd rfl) x3 a0 b0) ?_
  have h479_ := f_X11_owed_eq a0 b0 x2
  have h480_ := f_X7_givenBy_eq a0 b0 x2
  have h481_ := f_X11_entry_r70_eq a0 b0 40 x2
  have h482_ := f_X3_creditOf_eq a0 b0 x2
  have h483_ := f_X3_has_eq a0 b0 x2
  have h484_ := iv_get hv0 (k := 4) (j := 6) (l := 0) (u := 40) rfl
  have h485_ := jxw_im ((f_X7_givenBy a0 b0 x2) + (f_X3_creditOf a0 b0 x2))
  have h486_ := jxw_rg ((f_X7_givenBy a0 b0 x2) + (f_X3_creditOf a0 b0 x2))
  have h487_ := f_X7_gotBy_eq a0 b0 x2
  have h488_ := f_X11_entry_r71_eq a0 b0 40 x2
  have h489_ := jxw_im ((jxw ((f_X7_givenBy a0 b0 x2) + (f_X3_creditOf a0 b0 x2))) - (f_X7_gotBy a0 b0 x2))
  have h490_ := jxw_rg ((jxw ((f_X7_givenBy a0 b0 x2) + (f_X3_creditOf a0 b0 x2))) - (f_X7_gotBy a0 b0 x2))
  have h491_ := f_X7_comingTo_eq a0 b0 x2
  have h492_ := f_X11_entry_r72_eq a0 b0 40 x2
  have h493_ := jxw_im ((jxw ((jxw ((f_X7_givenBy a0 b0 x2) + (f_X3_creditOf a0 b0 x2))) - (f_X7_gotBy a0 b0 x2))) - (f_X7_comingTo a0 b0 x2))
  have h494_ := jxw_rg ((jxw ((jxw ((f_X7_givenBy a0 b0 x2) + (f_X3_creditOf a0 b0 x2))) - (f_X7_gotBy a0 b0 x2))) - (f_X7_comingTo a0 b0 x2))
  have h495_ := f_X11_owed_eq a0 b0 x3
  have h496_ := f_X7_givenBy_eq a0 b0 x3
  have h497_ := f_X11_entry_r70_eq a0 b0 40 x3
  have h498_ := f_X3_creditOf_eq a0 b0 x3
  have h499_ := f_X3_has_eq a0 b0 x3
  have h500_ := jxw_im ((f_X7_givenBy a0 b0 x3) + (f_X3_creditOf a0 b0 x3))
  have h501_ := jxw_rg ((f_X7_givenBy a0 b0 x3) + (f_X3_creditOf a0 b0 x3))
  have h502_ := f_X7_gotBy_eq a0 b0 x3
  have h503_ := f_X11_entry_r71_eq a0 b0 40 x3
  have h504_ := jxw_im ((jxw ((f_X7_givenBy a0 b0 x3) + (f_X3_creditOf a0 b0 x3))) - (f_X7_gotBy a0 b0 x3))
  have h505_ := jxw_rg ((jxw ((f_X7_givenBy a0 b0 x3) + (f_X3_creditOf a0 b0 x3))) - (f_X7_gotBy a0 b0 x3))
  have h506_ := f_X7_comingTo_eq a0 b0 x3
  have h507_ := f_X11_entry_r72_eq a0 b0 40 x3
  have h508_ := jxw_im ((jxw ((jxw ((f_X7_givenBy a0 b0 x3) + (f_X3_creditOf a0 b0 x3))) - (f_X7_gotBy a0 b0 x3))) - (f_X7_comingTo a0 b0 x3))
  have h509_ := jxw_rg ((jxw ((jxw ((f_X7_givenBy a0 b0 x3) + (f_X3_creditOf a0 b0 x3))) - (f_X7_gotBy a0 b0 x3))) - (f_X7_comingTo a0 b0 x3))
  refine jt_ite (fun c510_ => ?_) (fun c510_ => ?_)
  ·
    refine jt_bI (sp_X11_unhappy E d (jd_le hd rfl) x1 x2 a0 b0 hv0) (fun r511_ a511_ b511_ h511_ => ?_)
    obtain ⟨rfl, rfl⟩ := h511_
    refine jt_bI (sp_X11_unhappy E d (jd_le hd rfl) x1 x3 a0 b0 hv0) (fun r512_ a512_ b512_ h512_ => ?_)
    obtain ⟨rfl, rfl⟩ := h512_
    exact cp_X11_isAhead_48 E d hd x1 x2 x3 a0 b0 hv0 x2 x3 r511_ r512_
  ·
    refine jt_eI (eq_X11_owed E d (jd_le hd rfl) x2 a0 b0) ?_
    refine jt_eI (eq_X11_owed E d (jd_le hd rfl) x3 a0 b0) ?_
    refine jt_ite (fun c513_ => ?_) (fun c513_ => ?_)
    ·
      exact cp_X11_isAhead_26 E d hd x1 x2 x3 a0 b0 hv0
    ·
      exact cp_X11_isAhead_30 E d hd x1 x2 x3 a0 b0 hv0
abbrev jQ_X11_mayGet (x1 x2 x3 : Int) (a0 b0 : Nat → Nat → Int) : List jxV → (Nat → Nat → Int) → (Nat → Nat → Int) → Prop := rI (fun r a b => (a0 = a) ∧ (b0 = b) ∧ ((0 ≤ r ∧ r ≤ 1)))
theorem cp_X11_mayGet_65 (E : jxE) (d : Nat) (hd : Nat.ble 7 (d + 1) = true) (x1 x2 x3 : Int) (a0 b0 : Nat → Nat → Int) (hv0 : iv a0) : jt (jxX E d 172 65 [none, none, none, none, none] [] (jxSH, a0, b0)) (jQ_X11_mayGet x1 x2 x3 a0 b0) := by
  refine jt_eq (bq_X11_mayGet_65 E d a0 b0) ?_
  exact jt_rI ⟨rfl, rfl, (show (0 ≤ 1 ∧ 1 ≤ 1) from by omega)⟩
theorem cp_X11_mayGet_69 (E : jxE) (d : Nat) (hd : Nat.ble 7 (d + 1) = true) (x1 x2 x3 : Int) (a0 b0 : Nat → Nat → Int) (hv0 : iv a0) : jt (jxX E d 172 69 [none, none, none, none, none] [] (jxSH, a0, b0)) (jQ_X11_mayGet x1 x2 x3 a0 b0) := by
  refine jt_eq (bq_X11_mayGet_69 E d a0 b0) ?_
  exact jt_rI ⟨rfl, rfl, (show (0 ≤ 0 ∧ 0 ≤ 1) from by omega)⟩
theorem cp_X11_mayGet_33 (E : jxE) (d : Nat) (hd : Nat.ble 7 (d + 1) = true) (x1 x2 x3 : Int) (a0 b0 : Nat → Nat → Int) (hv0 : iv a0) : ∀ (y1 y2 : Int), 0 ≤ y2 → y2 ≤ 39 → jt (jxX E d 172 33 [some (.inr (.inr (.inl 0))), some (.inl y1), some (.inl y2), none, none] [] (jxSH, a0, b0)) (jQ_X11_mayGet x1 x2 x3 a0 b0) := by
  intro y1 y2 hi0 hi1
  refine jt_eq (bq_X11_mayGet_33 E d y1 y2 a0 b0) ?_
  refine jt_eI (eq_X11_owed E d (jd_le hd rfl) y2 a0 b0) ?_
  refine jt_eI (eq_X6_slack E d (jd_le hd rfl) a0 b0) ?_
  have h514_ := f_X11_owed_eq a0 b0 y2
  have h515_ := f_X7_givenBy_eq a0 b0 y2
  have h516_ := f_X11_entry_r70_eq a0 b0 40 y2
  have h517_ := f_X3_creditOf_eq a0 b0 y2
  have h518_ := f_X3_has_eq a0 b0 y2
  have h519_ := iv_get hv0 (k := 4) (j := 6) (l := 0) (u := 40) rfl
  have h520_ := jxw_im ((f_X7_givenBy a0 b0 y2) + (f_X3_creditOf a0 b0 y2))
  have h521_ := jxw_rg ((f_X7_givenBy a0 b0 y2) + (f_X3_creditOf a0 b0 y2))
  have h522_ := f_X7_gotBy_eq a0 b0 y2
  have h523_ := f_X11_entry_r71_eq a0 b0 40 y2
  have h524_ := jxw_im ((jxw ((f_X7_givenBy a0 b0 y2) + (f_X3_creditOf a0 b0 y2))) - (f_X7_gotBy a0 b0 y2))
  have h525_ := jxw_rg ((jxw ((f_X7_givenBy a0 b0 y2) + (f_X3_creditOf a0 b0 y2))) - (f_X7_gotBy a0 b0 y2))
  have h526_ := f_X7_comingTo_eq a0 b0 y2
  have h527_ := f_X11_entry_r72_eq a0 b0 40 y2
  have h528_ := jxw_im ((jxw ((jxw ((f_X7_givenBy a0 b0 y2) + (f_X3_creditOf a0 b0 y2))) - (f_X7_gotBy a0 b0 y2))) - (f_X7_comingTo a0 b0 y2))
  have h529_ := jxw_rg ((jxw ((jxw ((f_X7_givenBy a0 b0 y2) + (f_X3_creditOf a0 b0 y2))) - (f_X7_gotBy a0 b0 y2))) - (f_X7_comingTo a0 b0 y2))
  have h530_ := f_X6_slack_eq a0 b0
  have h531_ := jxw_im ((f_X11_owed a0 b0 y2) + (f_X6_slack a0 b0))
  have h532_ := jxw_rg ((f_X11_owed a0 b0 y2) + (f_X6_slack a0 b0))
  refine jt_ite (fun c533_ => ?_) (fun c533_ => ?_)
  ·
    refine jt_bI (sp_X11_unhappy E d (jd_le hd rfl) y1 y2 a0 b0 hv0) (fun r534_ a534_ b534_ h534_ => ?_)
    obtain ⟨rfl, rfl⟩ := h534_
    refine jt_eI (eq_X6_strict E d (jd_le hd rfl) a0 b0) ?_
    have h535_ := f_X6_strict_eq a0 b0
    refine jt_ite (fun c536_ => ?_) (fun c536_ => ?_)
    ·
      exact cp_X11_mayGet_69 E d hd x1 x2 x3 a0 b0 hv0
    ·
      exact cp_X11_mayGet_65 E d hd x1 x2 x3 a0 b0 hv0
  ·
    exact cp_X11_mayGet_69 E d hd x1 x2 x3 a0 b0 hv0
theorem sp_X11_mayGet (E : jxE) (d : Nat) (hd : Nat.ble 7 d = true) (x1 x2 x3 : Int) (a0 b0 : Nat → Nat → Int) (hv0 : iv a0) : jt (jxC E d 172 [.inr (.inr (.inl 0)), .inl x1, .inl x2, .inr (.inl x3)] (jxSH, a0, b0)) (jQ_X11_mayGet x1 x2 x3 a0 b0) := by
  obtain ⟨d, rfl⟩ := jd_succ hd
  refine jt_eq (bq_X11_mayGet E d x1 x2 x3 a0 b0) ?_
  refine jt_eI (eq_X3_isThere E d (jd_le hd rfl) x2 a0 b0) ?_
  have h537_ := f_X3_isThere_eq a0 b0 x2
  have h538_ := f_X3_has_eq a0 b0 x2
  have h539_ := iv_get hv0 (k := 4) (j := 6) (l := 0) (u := 40) rfl
  refine jt_ite (fun c540_ => ?_) (fun c540_ => ?_)
  ·
    exact cp_X11_mayGet_69 E d hd x1 x2 x3 a0 b0 hv0
  ·
    refine jt_eI (eq_X3_areKin E d (jd_le hd rfl) x1 x2 a0 b0) ?_
    have h541_ := f_X3_areKin_bool a0 b0 x1 x2
    refine jt_ite (fun c542_ => ?_) (fun c542_ => ?_)
    ·
      have h543_ := jxlcmp_b (jxandl (jxshrl x3 x2) 1) 0
      refine jt_ite (fun c544_ => ?_) (fun c544_ => ?_)
      ·
        exact cp_X11_mayGet_33 E d hd x1 x2 x3 a0 b0 hv0 x1 x2 (show 0 ≤ x2 from by omega) (show x2 ≤ 39 from by omega)
      ·
        exact cp_X11_mayGet_69 E d hd x1 x2 x3 a0 b0 hv0
    ·
      exact cp_X11_mayGet_69 E d hd x1 x2 x3 a0 b0 hv0
abbrev jQ_X11_firstReceiver (x1 : Int) (a0 b0 : Nat → Nat → Int) : List jxV → (Nat → Nat → Int) → (Nat → Nat → Int) → Prop := rI (fun r a b => (a0 = a) ∧ (b0 = b))
theorem cp_X11_firstReceiver_15 (E : jxE) (d : Nat) (hd : Nat.ble 8 (d + 1) = true) (x1 : Int) (a0 b0 : Nat → Nat → Int) (hv0 : iv a0) : ∀ n : Nat, (∀ (y1 y2 y5 : Int), (((40 - y5) * 1) + 0).toNat ≤ n → 0 ≤ y5 → y5 ≤ 39 → jt (jxX E d 174 56 [some (.inr (.inr (.inl 0))), some (.inl y1), some (.inr (.inl y2)), none, none, some (.inl y5)] [] (jxSH, a0, b0)) (jQ_X11_firstReceiver x1 a0 b0)) ∧ (∀ (y1 y2 y4 y5 : Int), (((40 - y5) * 1) + 0).toNat ≤ n → 0 ≤ y4 → y4 ≤ 39 → 0 ≤ y5 → y5 ≤ 39 → jt (jxX E d 174 44 [some (.inr (.inr (.inl 0))), some (.inl y1), some (.inr (.inl y2)), none, some (.inl y4), some (.inl y5)] [] (jxSH, a0, b0)) (jQ_X11_firstReceiver x1 a0 b0)) ∧ (∀ (y1 y2 y4 y5 : Int), (((40 - y5) * 1) + 0).toNat ≤ n → 0 - 1 ≤ y4 → y4 ≤ 39 → 0 ≤ y5 → y5 ≤ 40 → jt (jxX E d 174 15 [some (.inr (.inr (.inl 0))), some (.inl y1), some (.inr (.inl y2)), none, some (.inl y4), some (.inl y5)] [] (jxSH, a0, b0)) (jQ_X11_firstReceiver x1 a0 b0)) := by
  refine jx_ind fun n ih => ?_
  have ih56 : ∀ (y1 y2 y5 : Int), (((40 - y5) * 1) + 0).toNat < n → 0 ≤ y5 → y5 ≤ 39 → jt (jxX E d 174 56 [some (.inr (.inr (.inl 0))), some (.inl y1), some (.inr (.inl y2)), none, none, some (.inl y5)] [] (jxSH, a0, b0)) (jQ_X11_firstReceiver x1 a0 b0) := fun y1 y2 y5 hlt i0 i1 => (ih _ hlt).1 y1 y2 y5 (Nat.le_refl _) i0 i1
  have ih44 : ∀ (y1 y2 y4 y5 : Int), (((40 - y5) * 1) + 0).toNat < n → 0 ≤ y4 → y4 ≤ 39 → 0 ≤ y5 → y5 ≤ 39 → jt (jxX E d 174 44 [some (.inr (.inr (.inl 0))), some (.inl y1), some (.inr (.inl y2)), none, some (.inl y4), some (.inl y5)] [] (jxSH, a0, b0)) (jQ_X11_firstReceiver x1 a0 b0) := fun y1 y2 y4 y5 hlt i0 i1 i2 i3 => (ih _ hlt).2.1 y1 y2 y4 y5 (Nat.le_refl _) i0 i1 i2 i3
  have ih15 : ∀ (y1 y2 y4 y5 : Int), (((40 - y5) * 1) + 0).toNat < n → 0 - 1 ≤ y4 → y4 ≤ 39 → 0 ≤ y5 → y5 ≤ 40 → jt (jxX E d 174 15 [some (.inr (.inr (.inl 0))), some (.inl y1), some (.inr (.inl y2)), none, some (.inl y4), some (.inl y5)] [] (jxSH, a0, b0)) (jQ_X11_firstReceiver x1 a0 b0) := fun y1 y2 y4 y5 hlt i0 i1 i2 i3 => (ih _ hlt).2.2 y1 y2 y4 y5 (Nat.le_refl _) i0 i1 i2 i3
  have hc56 : ∀ (y1 y2 y5 : Int), (((40 - y5) * 1) + 0).toNat ≤ n → 0 ≤ y5 → y5 ≤ 39 → jt (jxX E d 174 56 [some (.inr (.inr (.inl 0))), some (.inl y1), some (.inr (.inl y2)), none, none, some (.inl y5)] [] (jxSH, a0, b0)) (jQ_X11_firstReceiver x1 a0 b0) := by
    intro y1 y2 y5 hm hi0 hi1
    refine jt_eq (bq_X11_firstReceiver_56 E d y1 y2 y5 a0 b0) ?_
    have h545_ : jxw (y5 + 1) = y5 + 1 := jxw_id (by omega) (by omega)
    exact ih15 y1 y2 y5 (jxw (y5 + 1)) (show (((40 - (jxw (y5 + 1))) * 1) + 0).toNat < n from by omega) (show 0 - 1 ≤ y5 from by omega) (show y5 ≤ 39 from by omega) (show 0 ≤ jxw (y5 + 1) from by omega) (show jxw (y5 + 1) ≤ 40 from by omega)
  have hc44 : ∀ (y1 y2 y4 y5 : Int), (((40 - y5) * 1) + 0).toNat ≤ n → 0 ≤ y4 → y4 ≤ 39 → 0 ≤ y5 → y5 ≤ 39 → jt (jxX E d 174 44 [some (.inr (.inr (.inl 0))), some (.inl y1), some (.inr (.inl y2)), none, some (.inl y4), some (.inl y5)] [] (jxSH, a0, b0)) (jQ_X11_firstReceiver x1 a0 b0) := by
    intro y1 y2 y4 y5 hm hi0 hi1 hi2 hi3
    refine jt_eq (bq_X11_firstReceiver_44 E d y1 y2 y4 y5 a0 b0) ?_
    refine jt_bI (sp_X11_isAhead E d (jd_le hd rfl) y1 y5 y4 a0 b0 hv0) (fun r546_ a546_ b546_ h546_ => ?_)
    obtain ⟨rfl, rfl, hq546_0⟩ := h546_
    refine jt_ite (fun c547_ => ?_) (fun c547_ => ?_)
    ·
      have h548_ : jxw (y5 + 1) = y5 + 1 := jxw_id (by omega) (by omega)
      exact ih15 y1 y2 y4 (jxw (y5 + 1)) (show (((40 - (jxw (y5 + 1))) * 1) + 0).toNat < n from by omega) (show 0 - 1 ≤ y4 from by omega) (show y4 ≤ 39 from by omega) (show 0 ≤ jxw (y5 + 1) from by omega) (show jxw (y5 + 1) ≤ 40 from by omega)
    ·
      exact hc56 y1 y2 y5 (show (((40 - y5) * 1) + 0).toNat ≤ n from by omega) (show 0 ≤ y5 from by omega) (show y5 ≤ 39 from by omega)
  have hc15 : ∀ (y1 y2 y4 y5 : Int), (((40 - y5) * 1) + 0).toNat ≤ n → 0 - 1 ≤ y4 → y4 ≤ 39 → 0 ≤ y5 → y5 ≤ 40 → jt (jxX E d 174 15 [some (.inr (.inr (.inl 0))), some (.inl y1), some (.inr (.inl y2)), none, some (.inl y4), some (.inl y5)] [] (jxSH, a0, b0)) (jQ_X11_firstReceiver x1 a0 b0) := by
    intro y1 y2 y4 y5 hm hi0 hi1 hi2 hi3
    refine jt_eq (bq_X11_firstReceiver_15 E d y1 y2 y4 y5 a0 b0) ?_
    refine jt_eI (eq_X3_size E d (jd_le hd rfl) a0 b0) ?_
    have h549_ := f_X3_size_eq a0 b0
    have h550_ := iv_get hv0 (k := 4) (j := 6) (l := 0) (u := 40) rfl
    refine jt_ite (fun c551_ => ?_) (fun c551_ => ?_)
    ·
      refine jt_bI (sp_X11_mayGet E d (jd_le hd rfl) y1 y5 y2 a0 b0 hv0) (fun r552_ a552_ b552_ h552_ => ?_)
      obtain ⟨rfl, rfl, hq552_0⟩ := h552_
      refine jt_ite (fun c553_ => ?_) (fun c553_ => ?_)
      ·
        have h554_ : jxw (y5 + 1) = y5 + 1 := jxw_id (by omega) (by omega)
        exact ih15 y1 y2 y4 (jxw (y5 + 1)) (show (((40 - (jxw (y5 + 1))) * 1) + 0).toNat < n from by omega) (show 0 - 1 ≤ y4 from by omega) (show y4 ≤ 39 from by omega) (show 0 ≤ jxw (y5 + 1) from by omega) (show jxw (y5 + 1) ≤ 40 from by omega)
      ·
        refine jt_ite (fun c555_ => ?_) (fun c555_ => ?_)
        ·
          exact hc56 y1 y2 y5 (show (((40 - y5) * 1) + 0).toNat ≤ n from by omega) (show 0 ≤ y5 from by omega) (show y5 ≤ 39 from by omega)
        ·
          exact hc44 y1 y2 y4 y5 (show (((40 - y5) * 1) + 0).toNat ≤ n from by omega) (show 0 ≤ y4 from by omega) (show y4 ≤ 39 from by omega) (show 0 ≤ y5 from by omega) (show y5 ≤ 39 from by omega)
    ·
      exact jt_rI ⟨rfl, rfl⟩
  exact ⟨hc56, hc44, hc15⟩
theorem sp_X11_firstReceiver (E : jxE) (d : Nat) (hd : Nat.ble 8 d = true) (x1 : Int) (a0 b0 : Nat → Nat → Int) (hv0 : iv a0) : jt (jxC E d 174 [.inr (.inr (.inl 0)), .inl x1] (jxSH, a0, b0)) (jQ_X11_firstReceiver x1 a0 b0) := by
  obtain ⟨d, rfl⟩ := jd_succ hd
  refine jt_eq (bq_X11_firstReceiver E d x1 a0 b0) ?_
  refine jt_bJ (sp_X0_reachedBy E d (jd_le hd rfl) x1 a0 b0 hv0) (fun r556_ a556_ b556_ h556_ => ?_)
  obtain ⟨rfl, rfl⟩ := h556_
  exact (cp_X11_firstReceiver_15 E d hd x1 a0 b0 hv0 _).2.2 x1 r556_ (-1) 0 (Nat.le_refl _) (show 0 - 1 ≤ (-1) from by omega) (show (-1) ≤ 39 from by omega) (show 0 ≤ 0 from by omega) (show 0 ≤ 40 from by omega)
def jW_X11_send : List (Nat × Nat) := [(58, 8), (58, 13), (58, 14), (58, 15), (59, 9999), (60, 9999), (61, 9999), (62, 9999), (63, 9999), (64, 9999), (65, 9999)]
abbrev jQ_X11_send (x1 x2 x3 : Int) (a0 b0 : Nat → Nat → Int) : List jxV → (Nat → Nat → Int) → (Nat → Nat → Int) → Prop := rI (fun r a b => (iv a) ∧ (jfr jW_X11_send a0 a) ∧ (b0 = b))
theorem cp_X11_send_32 (E : jxE) (d : Nat) (hd : Nat.ble 5 (d + 1) = true) (x1 x2 x3 : Int) (a0 b0 : Nat → Nat → Int) (hv0 : iv a0) : ∀ (y1 y2 y3 y4 : Int) (a : Nat → Nat → Int), iv a → jfr jW_X11_send a0 a → jt (jxX E d 176 32 [some (.inr (.inr (.inl 0))), some (.inl y1), some (.inl y2), some (.inl y3), some (.inl y4)] [] (jxSH, a, b0)) (jQ_X11_send x1 x2 x3 a0 b0) := by
  intro y1 y2 y3 y4 a hv hf
  refine jt_eq (bq_X11_send_32 E d y1 y2 y3 y4 a b0) ?_
  refine jt_bI (sp_X0_add E d (jd_le hd rfl) y1 y2 (a 0 0) y4 y3 a b0 hv) (fun r557_ a557_ b557_ h557_ => ?_)
  obtain ⟨hv557_, hf557_, rfl⟩ := h557_
  have hf558_ : jfr jW_X11_send a0 a557_ := jfr_tr hf hf557_ rfl
  exact jt_rI ⟨hv557_, hf558_, rfl⟩
theorem sp_X11_send (E : jxE) (d : Nat) (hd : Nat.ble 5 d = true) (x1 x2 x3 : Int) (a0 b0 : Nat → Nat → Int) (hv0 : iv a0) : jt (jxC E d 176 [.inr (.inr (.inl 0)), .inl x1, .inl x2, .inl x3] (jxSH, a0, b0)) (jQ_X11_send x1 x2 x3 a0 b0) := by
  obtain ⟨d, rfl⟩ := jd_succ hd
  refine jt_eq (bq_X11_send E d x1 x2 x3 a0 b0) ?_
  refine jt_eI (eq_X3_landOf E d (jd_le hd rfl) x1 a0 b0) ?_
  refine jt_eI (eq_X3_landOf E d (jd_le hd rfl) x2 a0 b0) ?_
  refine jt_eI (eq_X6_lost E d (jd_le hd rfl) a0 b0) ?_
  refine jt_bI (sp_X0_boundBetween E d (jd_le hd rfl) (f_X3_landOf a0 b0 x1) (f_X3_landOf a0 b0 x2) (f_X6_lost a0 b0) a0 b0 hv0) (fun r559_ a559_ b559_ h559_ => ?_)
  obtain ⟨hv559_, hf559_, rfl⟩ := h559_
  have hf560_ : jfr jW_X11_send a0 a559_ := jfr_tr (jfr_rf _ _) hf559_ rfl
  exact cp_X11_send_32 E d hd x1 x2 x3 a0 b0 hv0 x1 x2 x3 r559_ a559_ hv559_ hf560_
def jW_X11_ask : List (Nat × Nat) := [(58, 8), (58, 13), (58, 14), (58, 15), (59, 9999), (60, 9999), (61, 9999), (62, 9999), (63, 9999), (64, 9999), (65, 9999), (70, 9999), (71, 9999), (72, 9999), (73, 9999), (74, 9999), (75, 9999)]
abbrev jQ_X11_ask (x1 : Int) (a0 b0 : Nat → Nat → Int) : List jxV → (Nat → Nat → Int) → (Nat → Nat → Int) → Prop := rI (fun r a b => (iv a) ∧ (jfr jW_X11_ask a0 a) ∧ (b0 = b) ∧ ((a0 4 6 = 0 → r = 0 - 1)))
theorem cp_X11_ask_39 (E : jxE) (d : Nat) (hd : Nat.ble 9 (d + 1) = true) (x1 : Int) (a0 b0 : Nat → Nat → Int) (hv0 : iv a0) : ∀ (y1 : Int) (a : Nat → Nat → Int), iv a → jfr jW_X11_ask a0 a → 0 ≤ y1 → y1 ≤ 39 → 1 ≤ a0 4 6 → jt (jxX E d 165 39 [some (.inr (.inr (.inl 0))), some (.inl y1), none] [] (jxSH, a, b0)) (jQ_X11_ask x1 a0 b0) := by
  intro y1 a hv hf hi0 hi1 hi2
  refine jt_eq (bq_X11_ask_39 E d y1 a b0) ?_
  have h561_ := iv_get hv0 (k := 4) (j := 6) (l := 0) (u := 40) rfl
  refine jt_eI (eq_X11_mayAsk E d (jd_le hd rfl) y1 a b0) ?_
  have h562_ := f_X11_mayAsk_bool a b0 y1
  refine jt_ite (fun c563_ => ?_) (fun c563_ => ?_)
  ·
    exact jt_rI ⟨hv, hf, rfl, (show (a0 4 6 = 0 → (-2) = 0 - 1) from by omega)⟩
  ·
    refine jt_bI (sp_X11_firstReceiver E d (jd_le hd rfl) y1 a b0 hv) (fun r564_ a564_ b564_ h564_ => ?_)
    obtain ⟨rfl, rfl⟩ := h564_
    refine jt_ite (fun c565_ => ?_) (fun c565_ => ?_)
    ·
      exact jt_rI ⟨hv, hf, rfl, (show (a0 4 6 = 0 → (-3) = 0 - 1) from by omega)⟩
    ·
      refine jt_bI (sp_X11_send E d (jd_le hd rfl) y1 r564_ (-1) a b0 hv) (fun r566_ a566_ b566_ h566_ => ?_)
      obtain ⟨hv566_, hf566_, rfl⟩ := h566_
      have hf567_ : jfr jW_X11_ask a0 a566_ := jfr_tr hf hf566_ rfl
      exact jt_rI ⟨hv566_, hf567_, rfl, (show (a0 4 6 = 0 → r566_ = 0 - 1) from by omega)⟩
theorem sp_X11_ask (E : jxE) (d : Nat) (hd : Nat.ble 9 d = true) (x1 : Int) (a0 b0 : Nat → Nat → Int) (hv0 : iv a0) : jt (jxC E d 165 [.inr (.inr (.inl 0)), .inl x1] (jxSH, a0, b0)) (jQ_X11_ask x1 a0 b0) := by
  obtain ⟨d, rfl⟩ := jd_succ hd
  refine jt_eq (bq_X11_ask E d x1 a0 b0) ?_
  refine jt_eI (eq_X3_has E d (jd_le hd rfl) x1 a0 b0) ?_
  have h568_ := f_X3_has_eq a0 b0 x1
  have h569_ := iv_get hv0 (k := 4) (j := 6) (l := 0) (u := 40) rfl
  refine jt_ite (fun c570_ => ?_) (fun c570_ => ?_)
  ·
    exact jt_rI ⟨hv0, (jfr_rf _ _), rfl, (show (a0 4 6 = 0 → (-1) = 0 - 1) from by omega)⟩
  ·
    refine jt_eI (eq_X0_hasRoom E d (jd_le hd rfl) 1 a0 b0) ?_
    have h571_ := f_X0_hasRoom_eq a0 b0 1
    have h572_ := iv_get hv0 (k := 58) (j := 8) (l := 0) (u := 300) rfl
    have h573_ : jxw (300 - (a0 58 8)) = 300 - (a0 58 8) := jxw_id (by omega) (by omega)
    refine jt_ite (fun c574_ => ?_) (fun c574_ => ?_)
    ·
      exact jt_rI ⟨hv0, (jfr_rf _ _), rfl, (show (a0 4 6 = 0 → (-1) = 0 - 1) from by omega)⟩
    ·
      refine jt_bV (sp_X7_take_r58 E d (jd_le hd rfl) (a0 0 0) a0 b0 hv0) (fun a575_ b575_ h575_ => ?_)
      obtain ⟨hv575_, hf575_, rfl⟩ := h575_
      have hf576_ : jfr jW_X11_ask a0 a575_ := jfr_tr (jfr_rf _ _) hf575_ rfl
      exact cp_X11_ask_39 E d hd x1 a0 b0 hv0 x1 a575_ hv575_ hf576_ (show 0 ≤ x1 from by omega) (show x1 ≤ 39 from by omega) (show 1 ≤ a0 4 6 from by omega)
def jW_X4_takeAway : List (Nat × Nat) := [(87, 9999), (88, 9999), (89, 9999)]
abbrev jQ_X4_takeAway (x1 : Int) (a0 b0 : Nat → Nat → Int) : List jxV → (Nat → Nat → Int) → (Nat → Nat → Int) → Prop := rV (fun a b => (iv a) ∧ (jfr jW_X4_takeAway a0 a) ∧ (b0 = b))
theorem cp_X4_takeAway_22 (E : jxE) (d : Nat) (hd : Nat.ble 2 (d + 1) = true) (x1 : Int) (a0 b0 : Nat → Nat → Int) (hv0 : iv a0) : ∀ (y1 : Int) (a : Nat → Nat → Int), iv a → jfr jW_X4_takeAway a0 a → 0 ≤ y1 → y1 ≤ 19 → jt (jxX E d 69 22 [some (.inr (.inr (.inl 83))), some (.inl y1)] [] (jxSH, a, b0)) (jQ_X4_takeAway x1 a0 b0) := by
  intro y1 a hv hf hi0 hi1
  refine jt_eq (bq_X4_takeAway_22 E d y1 a b0) ?_
  refine jt_grd (by omega) ?_
  have hv577_ : iv (jxu a 89 (y1.toNat) (-1)) := iv_putf hv rfl
  have hf578_ : jfr jW_X4_takeAway a0 (jxu a 89 (y1.toNat) (-1)) := jfr_put hf rfl
  exact jt_rV ⟨hv577_, hf578_, rfl⟩
theorem sp_X4_takeAway (E : jxE) (d : Nat) (hd : Nat.ble 2 d = true) (x1 : Int) (a0 b0 : Nat → Nat → Int) (hv0 : iv a0) : jt (jxC E d 69 [.inr (.inr (.inl 83)), .inl x1] (jxSH, a0, b0)) (jQ_X4_takeAway x1 a0 b0) := by
  obtain ⟨d, rfl⟩ := jd_succ hd
  refine jt_eq (bq_X4_takeAway E d x1 a0 b0) ?_
  refine jt_eI (eq_X4_has E d (jd_le hd rfl) x1 a0 b0) ?_
  have h579_ := f_X4_has_eq a0 b0 x1
  have h580_ := iv_get hv0 (k := 83) (j := 6) (l := 0) (u := 20) rfl
  refine jt_ite (fun c581_ => ?_) (fun c581_ => ?_)
  ·
    exact jt_rV ⟨hv0, (jfr_rf _ _), rfl⟩
  ·
    refine jt_grd (by omega) ?_
    refine jt_grd (by omega) ?_
    have hv582_ : iv (jxu a0 87 (x1.toNat) 2) := iv_putf hv0 rfl
    have hv583_ : iv (jxu (jxu a0 87 (x1.toNat) 2) 88 (x1.toNat) (-1)) := iv_putf hv582_ rfl
    have hf584_ : jfr jW_X4_takeAway a0 (jxu a0 87 (x1.toNat) 2) := jfr_put (jfr_rf _ _) rfl
    have hf585_ : jfr jW_X4_takeAway a0 (jxu (jxu a0 87 (x1.toNat) 2) 88 (x1.toNat) (-1)) := jfr_put hf584_ rfl
    exact cp_X4_takeAway_22 E d hd x1 a0 b0 hv0 x1 (jxu (jxu a0 87 (x1.toNat) 2) 88 (x1.toNat) (-1)) hv583_ hf585_ (show 0 ≤ x1 from by omega) (show x1 ≤ 19 from by omega)
def jW_X11_away : List (Nat × Nat) := [(87, 9999), (88, 9999), (89, 9999)]
abbrev jQ_X11_away (x1 : Int) (a0 b0 : Nat → Nat → Int) : List jxV → (Nat → Nat → Int) → (Nat → Nat → Int) → Prop := rI (fun r a b => (iv a) ∧ (jfr jW_X11_away a0 a) ∧ (b0 = b) ∧ ((0 ≤ r ∧ r ≤ 1)) ∧ ((a0 83 6 = 0 → r = 0)))
theorem sp_X11_away (E : jxE) (d : Nat) (hd : Nat.ble 3 d = true) (x1 : Int) (a0 b0 : Nat → Nat → Int) (hv0 : iv a0) : jt (jxC E d 185 [.inr (.inr (.inl 0)), .inl x1] (jxSH, a0, b0)) (jQ_X11_away x1 a0 b0) := by
  obtain ⟨d, rfl⟩ := jd_succ hd
  refine jt_eq (bq_X11_away E d x1 a0 b0) ?_
  refine jt_eI (eq_X4_isOpen E d (jd_le hd rfl) x1 a0 b0) ?_
  have h586_ := f_X4_isOpen_eq a0 b0 x1
  have h587_ := f_X4_has_eq a0 b0 x1
  have h588_ := iv_get hv0 (k := 83) (j := 6) (l := 0) (u := 20) rfl
  refine jt_ite (fun c589_ => ?_) (fun c589_ => ?_)
  ·
    exact jt_rI ⟨hv0, (jfr_rf _ _), rfl, (show (0 ≤ 0 ∧ 0 ≤ 1) from by omega), (show (a0 83 6 = 0 → 0 = 0) from by omega)⟩
  ·
    refine jt_bV (sp_X4_takeAway E d (jd_le hd rfl) x1 a0 b0 hv0) (fun a590_ b590_ h590_ => ?_)
    obtain ⟨hv590_, hf590_, rfl⟩ := h590_
    have hf591_ : jfr jW_X11_away a0 a590_ := jfr_tr (jfr_rf _ _) hf590_ rfl
    exact jt_rI ⟨hv590_, hf591_, rfl, (show (0 ≤ 1 ∧ 1 ≤ 1) from by omega), (show (a0 83 6 = 0 → 1 = 0) from by omega)⟩
def jW_X11_back : List (Nat × Nat) := [(58, 12), (65, 9999), (66, 9999), (67, 9999), (68, 9999)]
abbrev jQ_X11_back (x1 : Int) (a0 b0 : Nat → Nat → Int) : List jxV → (Nat → Nat → Int) → (Nat → Nat → Int) → Prop := rI (fun r a b => (iv a) ∧ (jfr jW_X11_back a0 a) ∧ (b0 = b) ∧ ((0 ≤ r ∧ r ≤ 1)) ∧ ((a0 58 8 = 0 → r = 0)))
theorem sp_X11_back (E : jxE) (d : Nat) (hd : Nat.ble 4 d = true) (x1 : Int) (a0 b0 : Nat → Nat → Int) (hv0 : iv a0) : jt (jxC E d 178 [.inr (.inr (.inl 0)), .inl x1] (jxSH, a0, b0)) (jQ_X11_back x1 a0 b0) := by
  obtain ⟨d, rfl⟩ := jd_succ hd
  refine jt_eq (bq_X11_back E d x1 a0 b0) ?_
  refine jt_bI (sp_X0_takeBack E d (jd_le hd rfl) x1 (a0 0 0) a0 b0 hv0) (fun r592_ a592_ b592_ h592_ => ?_)
  obtain ⟨hv592_, hf592_, rfl, hq592_0, hq592_1⟩ := h592_
  have h593_ := iv_get hv0 (k := 58) (j := 8) (l := 0) (u := 300) rfl
  refine jt_grd (by omega) ?_
  have hf594_ : jfr jW_X11_back a0 a592_ := jfr_tr (jfr_rf _ _) hf592_ rfl
  exact jt_rI ⟨hv592_, hf594_, rfl, (show (0 ≤ r592_ ∧ r592_ ≤ 1) from by omega), (show (a0 58 8 = 0 → r592_ = 0) from by omega)⟩
def jW_X3_addCredit : List (Nat × Nat) := [(9, 9999)]
abbrev jQ_X3_addCredit (x1 : Int) (a0 b0 : Nat → Nat → Int) : List jxV → (Nat → Nat → Int) → (Nat → Nat → Int) → Prop := rV (fun a b => (iv a) ∧ (jfr jW_X3_addCredit a0 a) ∧ (b0 = b))
theorem sp_X3_addCredit (E : jxE) (d : Nat) (hd : Nat.ble 2 d = true) (x1 : Int) (a0 b0 : Nat → Nat → Int) (hv0 : iv a0) : jt (jxC E d 56 [.inr (.inr (.inl 4)), .inl x1] (jxSH, a0, b0)) (jQ_X3_addCredit x1 a0 b0) := by
  obtain ⟨d, rfl⟩ := jd_succ hd
  refine jt_eq (bq_X3_addCredit E d x1 a0 b0) ?_
  refine jt_eI (eq_X3_has E d (jd_le hd rfl) x1 a0 b0) ?_
  have h595_ := f_X3_has_eq a0 b0 x1
  have h596_ := iv_get hv0 (k := 4) (j := 6) (l := 0) (u := 40) rfl
  refine jt_ite (fun c597_ => ?_) (fun c597_ => ?_)
  ·
    exact jt_rV ⟨hv0, (jfr_rf _ _), rfl⟩
  ·
    refine jt_grd (by omega) ?_
    refine jt_grd (by omega) ?_
    have hv598_ : iv (jxu a0 9 (x1.toNat) (jxw ((a0 9 (x1.toNat)) + 1))) := iv_putf hv0 rfl
    have hf599_ : jfr jW_X3_addCredit a0 (jxu a0 9 (x1.toNat) (jxw ((a0 9 (x1.toNat)) + 1))) := jfr_put (jfr_rf _ _) rfl
    exact jt_rV ⟨hv598_, hf599_, rfl⟩
def jW_X11_cancelCardsTo : List (Nat × Nat) := [(9, 9999), (64, 9999)]
abbrev jQ_X11_cancelCardsTo (x1 : Int) (a0 b0 : Nat → Nat → Int) : List jxV → (Nat → Nat → Int) → (Nat → Nat → Int) → Prop := rI (fun r a b => (iv a) ∧ (jfr jW_X11_cancelCardsTo a0 a) ∧ (b0 = b))
theorem cp_X11_cancelCardsTo_4 (E : jxE) (d : Nat) (hd : Nat.ble 4 (d + 1) = true) (x1 : Int) (a0 b0 : Nat → Nat → Int) (hv0 : iv a0) : ∀ n : Nat, (∀ (y1 y2 y3 : Int) (a : Nat → Nat → Int), (((300 - y3) * 1) + 0).toNat ≤ n → iv a → jfr jW_X11_cancelCardsTo a0 a → 0 ≤ y3 → y3 ≤ 299 → jt (jxX E d 158 72 [some (.inr (.inr (.inl 0))), some (.inl y1), some (.inl y2), some (.inl y3)] [] (jxSH, a, b0)) (jQ_X11_cancelCardsTo x1 a0 b0)) ∧ (∀ (y1 y2 y3 : Int) (a : Nat → Nat → Int), (((300 - y3) * 1) + 0).toNat ≤ n → iv a → jfr jW_X11_cancelCardsTo a0 a → 0 ≤ y3 → y3 ≤ 299 → jt (jxX E d 158 42 [some (.inr (.inr (.inl 0))), some (.inl y1), some (.inl y2), some (.inl y3)] [] (jxSH, a, b0)) (jQ_X11_cancelCardsTo x1 a0 b0)) ∧ (∀ (y1 y2 y3 : Int) (a : Nat → Nat → Int), (((300 - y3) * 1) + 0).toNat ≤ n → iv a → jfr jW_X11_cancelCardsTo a0 a → 0 ≤ y3 → y3 ≤ 300 → jt (jxX E d 158 4 [some (.inr (.inr (.inl 0))), some (.inl y1), some (.inl y2), some (.inl y3)] [] (jxSH, a, b0)) (jQ_X11_cancelCardsTo x1 a0 b0)) := by
  refine jx_ind fun n ih => ?_
  have ih72 : ∀ (y1 y2 y3 : Int) (a : Nat → Nat → Int), (((300 - y3) * 1) + 0).toNat < n → iv a → jfr jW_X11_cancelCardsTo a0 a → 0 ≤ y3 → y3 ≤ 299 → jt (jxX E d 158 72 [some (.inr (.inr (.inl 0))), some (.inl y1), some (.inl y2), some (.inl y3)] [] (jxSH, a, b0)) (jQ_X11_cancelCardsTo x1 a0 b0) := fun y1 y2 y3 a hlt i0 i1 i2 i3 => (ih _ hlt).1 y1 y2 y3 a (Nat.le_refl _) i0 i1 i2 i3
  have ih42 : ∀ (y1 y2 y3 : Int) (a : Nat → Nat → Int), (((300 - y3) * 1) + 0).toNat < n → iv a → jfr jW_X11_cancelCardsTo a0 a → 0 ≤ y3 → y3 ≤ 299 → jt (jxX E d 158 42 [some (.inr (.inr (.inl 0))), some (.inl y1), some (.inl y2), some (.inl y3)] [] (jxSH, a, b0)) (jQ_X11_cancelCardsTo x1 a0 b0) := fun y1 y2 y3 a hlt i0 i1 i2 i3 => (ih _ hlt).2.1 y1 y2 y3 a (Nat.le_refl _) i0 i1 i2 i3
  have ih4 : ∀ (y1 y2 y3 : Int) (a : Nat → Nat → Int), (((300 - y3) * 1) + 0).toNat < n → iv a → jfr jW_X11_cancelCardsTo a0 a → 0 ≤ y3 → y3 ≤ 300 → jt (jxX E d 158 4 [some (.inr (.inr (.inl 0))), some (.inl y1), some (.inl y2), some (.inl y3)] [] (jxSH, a, b0)) (jQ_X11_cancelCardsTo x1 a0 b0) := fun y1 y2 y3 a hlt i0 i1 i2 i3 => (ih _ hlt).2.2 y1 y2 y3 a (Nat.le_refl _) i0 i1 i2 i3
  have hc72 : ∀ (y1 y2 y3 : Int) (a : Nat → Nat → Int), (((300 - y3) * 1) + 0).toNat ≤ n → iv a → jfr jW_X11_cancelCardsTo a0 a → 0 ≤ y3 → y3 ≤ 299 → jt (jxX E d 158 72 [some (.inr (.inr (.inl 0))), some (.inl y1), some (.inl y2), some (.inl y3)] [] (jxSH, a, b0)) (jQ_X11_cancelCardsTo x1 a0 b0) := by
    intro y1 y2 y3 a hm hv hf hi0 hi1
    refine jt_eq (bq_X11_cancelCardsTo_72 E d y1 y2 y3 a b0) ?_
    have h600_ : jxw (y3 + 1) = y3 + 1 := jxw_id (by omega) (by omega)
    exact ih4 y1 y2 (jxw (y3 + 1)) a (show (((300 - (jxw (y3 + 1))) * 1) + 0).toNat < n from by omega) hv hf (show 0 ≤ jxw (y3 + 1) from by omega) (show jxw (y3 + 1) ≤ 300 from by omega)
  have hc42 : ∀ (y1 y2 y3 : Int) (a : Nat → Nat → Int), (((300 - y3) * 1) + 0).toNat ≤ n → iv a → jfr jW_X11_cancelCardsTo a0 a → 0 ≤ y3 → y3 ≤ 299 → jt (jxX E d 158 42 [some (.inr (.inr (.inl 0))), some (.inl y1), some (.inl y2), some (.inl y3)] [] (jxSH, a, b0)) (jQ_X11_cancelCardsTo x1 a0 b0) := by
    intro y1 y2 y3 a hm hv hf hi0 hi1
    refine jt_eq (bq_X11_cancelCardsTo_42 E d y1 y2 y3 a b0) ?_
    refine jt_bV (sp_X0_cancel E d (jd_le hd rfl) y3 (a 0 0) a b0 hv) (fun a601_ b601_ h601_ => ?_)
    obtain ⟨hv601_, hf601_, rfl⟩ := h601_
    refine jt_eI (eq_X0_fromOf E d (jd_le hd rfl) y3 a601_ b0) ?_
    refine jt_bV (sp_X3_addCredit E d (jd_le hd rfl) (f_X0_fromOf a601_ b0 y3) a601_ b0 hv601_) (fun a602_ b602_ h602_ => ?_)
    obtain ⟨hv602_, hf602_, rfl⟩ := h602_
    have hf603_ : jfr jW_X11_cancelCardsTo a0 a601_ := jfr_tr hf hf601_ rfl
    have hf604_ : jfr jW_X11_cancelCardsTo a0 a602_ := jfr_tr hf603_ hf602_ rfl
    exact hc72 y1 (jxw (y2 + 1)) y3 a602_ (show (((300 - y3) * 1) + 0).toNat ≤ n from by omega) hv602_ hf604_ (show 0 ≤ y3 from by omega) (show y3 ≤ 299 from by omega)
  have hc4 : ∀ (y1 y2 y3 : Int) (a : Nat → Nat → Int), (((300 - y3) * 1) + 0).toNat ≤ n → iv a → jfr jW_X11_cancelCardsTo a0 a → 0 ≤ y3 → y3 ≤ 300 → jt (jxX E d 158 4 [some (.inr (.inr (.inl 0))), some (.inl y1), some (.inl y2), some (.inl y3)] [] (jxSH, a, b0)) (jQ_X11_cancelCardsTo x1 a0 b0) := by
    intro y1 y2 y3 a hm hv hf hi0 hi1
    refine jt_eq (bq_X11_cancelCardsTo_4 E d y1 y2 y3 a b0) ?_
    refine jt_eI (eq_X0_size E d (jd_le hd rfl) a b0) ?_
    have h605_ := f_X0_size_eq a b0
    have h606_ := iv_get hv (k := 58) (j := 8) (l := 0) (u := 300) rfl
    have h607_ : a 58 8 = a0 58 8 := hf 58 8 rfl
    have h608_ := iv_get hv0 (k := 58) (j := 8) (l := 0) (u := 300) rfl
    refine jt_ite (fun c609_ => ?_) (fun c609_ => ?_)
    ·
      refine jt_eI (eq_X0_toOf E d (jd_le hd rfl) y3 a b0) ?_
      have h610_ := f_X0_toOf_eq a b0 y3
      have h611_ := f_X11_entry_r60_eq a b0 (a 58 8) y3
      have h612_ : a 60 (y3.toNat) = a0 60 (y3.toNat) := hf 60 (y3.toNat) rfl
      refine jt_ite (fun c613_ => ?_) (fun c613_ => ?_)
      ·
        refine jt_eI (eq_X0_stateNow E d (jd_le hd rfl) y3 (a 0 0) a b0) ?_
        have h614_ := iv_get hv (k := 0) (j := 0) (l := 0) (u := 1999) rfl
        have h615_ : a 0 0 = a0 0 0 := hf 0 0 rfl
        have h616_ := iv_get hv0 (k := 0) (j := 0) (l := 0) (u := 1999) rfl
        have h617_ := f_X0_stateNow_eq a b0 y3 (a 0 0)
        have h618_ := f_X0_arrivedOnOf_eq a b0 y3
        have h619_ := iv_get hv (k := 58) (j := 12) (l := 0) (u := 600) rfl
        have h620_ : a 58 12 = a0 58 12 := hf 58 12 rfl
        have h621_ := iv_get hv0 (k := 58) (j := 12) (l := 0) (u := 600) rfl
        have h622_ := f_X11_entry_r65_eq a b0 (a 58 8) y3
        have h623_ : a 65 (y3.toNat) = a0 65 (y3.toNat) := hf 65 (y3.toNat) rfl
        have h624_ := f_X11_entry_r67_eq a b0 (a 58 12) (f_X11_entry_r65 a b0 (a 58 8) y3)
        have h625_ : a 67 ((f_X11_entry_r65 a b0 (a 58 8) y3).toNat) = a0 67 ((f_X11_entry_r65 a b0 (a 58 8) y3).toNat) := hf 67 ((f_X11_entry_r65 a b0 (a 58 8) y3).toNat) rfl
        refine jt_ite (fun c626_ => ?_) (fun c626_ => ?_)
        ·
          exact hc42 y1 y2 y3 a (show (((300 - y3) * 1) + 0).toNat ≤ n from by omega) hv hf (show 0 ≤ y3 from by omega) (show y3 ≤ 299 from by omega)
        ·
          exact hc72 y1 y2 y3 a (show (((300 - y3) * 1) + 0).toNat ≤ n from by omega) hv hf (show 0 ≤ y3 from by omega) (show y3 ≤ 299 from by omega)
      ·
        exact hc72 y1 y2 y3 a (show (((300 - y3) * 1) + 0).toNat ≤ n from by omega) hv hf (show 0 ≤ y3 from by omega) (show y3 ≤ 299 from by omega)
    ·
      exact jt_rI ⟨hv, hf, rfl⟩
  exact ⟨hc72, hc42, hc4⟩
theorem sp_X11_cancelCardsTo (E : jxE) (d : Nat) (hd : Nat.ble 4 d = true) (x1 : Int) (a0 b0 : Nat → Nat → Int) (hv0 : iv a0) : jt (jxC E d 158 [.inr (.inr (.inl 0)), .inl x1] (jxSH, a0, b0)) (jQ_X11_cancelCardsTo x1 a0 b0) := by
  obtain ⟨d, rfl⟩ := jd_succ hd
  refine jt_eq (bq_X11_cancelCardsTo E d x1 a0 b0) ?_
  exact (cp_X11_cancelCardsTo_4 E d hd x1 a0 b0 hv0 _).2.2 x1 0 0 a0 (Nat.le_refl _) hv0 (jfr_rf _ _) (show 0 ≤ 0 from by omega) (show 0 ≤ 300 from by omega)
def jW_X11_clock : List (Nat × Nat) := [(0, 0)]
abbrev jQ_X11_clock (x1 : Int) (a0 b0 : Nat → Nat → Int) : List jxV → (Nat → Nat → Int) → (Nat → Nat → Int) → Prop := rI (fun r a b => (iv a) ∧ (jfr jW_X11_clock a0 a) ∧ (b0 = b) ∧ ((0 ≤ r ∧ r ≤ 1)) ∧ (((((r = 1 ∧ a0 0 0 ≤ x1) ∧ x1 ≤ 1999) ∧ a 0 0 = x1) ∨ ((r = 0 ∧ (x1 < a0 0 0 ∨ 1999 < x1)) ∧ a 0 0 = a0 0 0))))
theorem sp_X11_clock (E : jxE) (d : Nat) (hd : Nat.ble 3 d = true) (x1 : Int) (a0 b0 : Nat → Nat → Int) (hv0 : iv a0) : jt (jxC E d 154 [.inr (.inr (.inl 0)), .inl x1] (jxSH, a0, b0)) (jQ_X11_clock x1 a0 b0) := by
  obtain ⟨d, rfl⟩ := jd_succ hd
  refine jt_eq (bq_X11_clock E d x1 a0 b0) ?_
  refine jt_eI (eq_X11_isDay E d (jd_le hd rfl) x1 a0 b0) ?_
  have h627_ := f_X11_isDay_eq a0 b0 x1
  have h628_ := f_X11_within_eq a0 b0 x1 0 1999
  refine jt_ite (fun c629_ => ?_) (fun c629_ => ?_)
  ·
    have h630_ := iv_get hv0 (k := 0) (j := 0) (l := 0) (u := 1999) rfl
    exact jt_rI ⟨hv0, (jfr_rf _ _), rfl, (show (0 ≤ 0 ∧ 0 ≤ 1) from by omega), (show ((((0 = 1 ∧ a0 0 0 ≤ x1) ∧ x1 ≤ 1999) ∧ a0 0 0 = x1) ∨ ((0 = 0 ∧ (x1 < a0 0 0 ∨ 1999 < x1)) ∧ a0 0 0 = a0 0 0)) from by omega)⟩
  ·
    have h631_ := iv_get hv0 (k := 0) (j := 0) (l := 0) (u := 1999) rfl
    refine jt_ite (fun c632_ => ?_) (fun c632_ => ?_)
    ·
      exact jt_rI ⟨hv0, (jfr_rf _ _), rfl, (show (0 ≤ 0 ∧ 0 ≤ 1) from by omega), (show ((((0 = 1 ∧ a0 0 0 ≤ x1) ∧ x1 ≤ 1999) ∧ a0 0 0 = x1) ∨ ((0 = 0 ∧ (x1 < a0 0 0 ∨ 1999 < x1)) ∧ a0 0 0 = a0 0 0)) from by omega)⟩
    ·
      have hv633_ : iv (jxu a0 0 0 x1) := iv_put hv0 (l := 0) (u := 1999) rfl (by omega) (by omega)
      have hf634_ : jfr jW_X11_clock a0 (jxu a0 0 0 x1) := jfr_put (jfr_rf _ _) rfl
      exact jt_rI ⟨hv633_, hf634_, rfl, (show (0 ≤ 1 ∧ 1 ≤ 1) from by omega), (show ((((1 = 1 ∧ a0 0 0 ≤ x1) ∧ x1 ≤ 1999) ∧ x1 = x1) ∨ ((1 = 0 ∧ (x1 < a0 0 0 ∨ 1999 < x1)) ∧ x1 = a0 0 0)) from by omega)⟩
def jW_X4_addRing : List (Nat × Nat) := [(83, 7)]
abbrev jQ_X4_addRing (a0 b0 : Nat → Nat → Int) : List jxV → (Nat → Nat → Int) → (Nat → Nat → Int) → Prop := rI (fun r a b => (iv a) ∧ (jfr jW_X4_addRing a0 a) ∧ (b0 = b))
theorem sp_X4_addRing (E : jxE) (d : Nat) (hd : Nat.ble 1 d = true) (a0 b0 : Nat → Nat → Int) (hv0 : iv a0) : jt (jxC E d 67 [.inr (.inr (.inl 83))] (jxSH, a0, b0)) (jQ_X4_addRing a0 b0) := by
  obtain ⟨d, rfl⟩ := jd_succ hd
  refine jt_eq (bq_X4_addRing E d a0 b0) ?_
  have hv635_ : iv (jxu a0 83 7 (jxw ((a0 83 7) + 1))) := iv_putf hv0 rfl
  have hf636_ : jfr jW_X4_addRing a0 (jxu a0 83 7 (jxw ((a0 83 7) + 1))) := jfr_put (jfr_rf _ _) rfl
  exact jt_rI ⟨hv635_, hf636_, rfl⟩
def jW_X4_joinRing : List (Nat × Nat) := [(87, 9999), (88, 9999), (89, 9999)]
abbrev jQ_X4_joinRing (x1 x2 x3 : Int) (a0 b0 : Nat → Nat → Int) : List jxV → (Nat → Nat → Int) → (Nat → Nat → Int) → Prop := rV (fun a b => (iv a) ∧ (jfr jW_X4_joinRing a0 a) ∧ (b0 = b))
theorem cp_X4_joinRing_22 (E : jxE) (d : Nat) (hd : Nat.ble 2 (d + 1) = true) (x1 x2 x3 : Int) (a0 b0 : Nat → Nat → Int) (hv0 : iv a0) : ∀ (y1 y3 : Int) (a : Nat → Nat → Int), iv a → jfr jW_X4_joinRing a0 a → 0 ≤ y1 → y1 ≤ 19 → jt (jxX E d 68 22 [some (.inr (.inr (.inl 83))), some (.inl y1), none, some (.inl y3)] [] (jxSH, a, b0)) (jQ_X4_joinRing x1 x2 x3 a0 b0) := by
  intro y1 y3 a hv hf hi0 hi1
  refine jt_eq (bq_X4_joinRing_22 E d y1 y3 a b0) ?_
  refine jt_grd (by omega) ?_
  have hv637_ : iv (jxu a 89 (y1.toNat) y3) := iv_putf hv rfl
  have hf638_ : jfr jW_X4_joinRing a0 (jxu a 89 (y1.toNat) y3) := jfr_put hf rfl
  exact jt_rV ⟨hv637_, hf638_, rfl⟩
theorem sp_X4_joinRing (E : jxE) (d : Nat) (hd : Nat.ble 2 d = true) (x1 x2 x3 : Int) (a0 b0 : Nat → Nat → Int) (hv0 : iv a0) : jt (jxC E d 68 [.inr (.inr (.inl 83)), .inl x1, .inl x2, .inl x3] (jxSH, a0, b0)) (jQ_X4_joinRing x1 x2 x3 a0 b0) := by
  obtain ⟨d, rfl⟩ := jd_succ hd
  refine jt_eq (bq_X4_joinRing E d x1 x2 x3 a0 b0) ?_
  refine jt_eI (eq_X4_has E d (jd_le hd rfl) x1 a0 b0) ?_
  have h639_ := f_X4_has_eq a0 b0 x1
  have h640_ := iv_get hv0 (k := 83) (j := 6) (l := 0) (u := 20) rfl
  refine jt_ite (fun c641_ => ?_) (fun c641_ => ?_)
  ·
    exact jt_rV ⟨hv0, (jfr_rf _ _), rfl⟩
  ·
    refine jt_grd (by omega) ?_
    refine jt_grd (by omega) ?_
    have hv642_ : iv (jxu a0 87 (x1.toNat) 1) := iv_putf hv0 rfl
    have hv643_ : iv (jxu (jxu a0 87 (x1.toNat) 1) 88 (x1.toNat) x2) := iv_putf hv642_ rfl
    have hf644_ : jfr jW_X4_joinRing a0 (jxu a0 87 (x1.toNat) 1) := jfr_put (jfr_rf _ _) rfl
    have hf645_ : jfr jW_X4_joinRing a0 (jxu (jxu a0 87 (x1.toNat) 1) 88 (x1.toNat) x2) := jfr_put hf644_ rfl
    exact cp_X4_joinRing_22 E d hd x1 x2 x3 a0 b0 hv0 x1 x3 (jxu (jxu a0 87 (x1.toNat) 1) 88 (x1.toNat) x2) hv643_ hf645_ (show 0 ≤ x1 from by omega) (show x1 ≤ 19 from by omega)
def jW_X11_close : List (Nat × Nat) := [(58, 8), (58, 13), (58, 14), (58, 15), (59, 9999), (60, 9999), (61, 9999), (62, 9999), (63, 9999), (64, 9999), (65, 9999), (83, 7), (87, 9999), (88, 9999), (89, 9999)]
abbrev jQ_X11_close (x1 : Int) (a0 b0 : Nat → Nat → Int) : List jxV → (Nat → Nat → Int) → (Nat → Nat → Int) → Prop := rI (fun r a b => (iv a) ∧ (jfr jW_X11_close a0 a) ∧ (b0 = b) ∧ ((a0 90 12 = 0 → r = 0 - 1)))
theorem cp_X11_close_71 (E : jxE) (d : Nat) (hd : Nat.ble 6 (d + 1) = true) (x1 : Int) (a0 b0 : Nat → Nat → Int) (hv0 : iv a0) : ∀ n : Nat, (∀ (y1 y2 y3 y4 y5 y7 : Int) (a : Nat → Nat → Int), (((5 - y4) * 1) + 0).toNat ≤ n → iv a → jfr jW_X11_close a0 a → 0 ≤ y1 → y1 ≤ 5 → 1 ≤ y2 → y2 ≤ 5 → 0 ≤ y4 → y4 ≤ 4 → 1 ≤ a0 90 12 → jt (jxX E d 188 140 [some (.inr (.inr (.inl 0))), some (.inl y1), some (.inl y2), some (.inl y3), some (.inl y4), some (.inl y5), none, some (.inl y7)] [] (jxSH, a, b0)) (jQ_X11_close x1 a0 b0)) ∧ (∀ (y1 y2 y3 y4 y5 s1 s2 : Int) (a : Nat → Nat → Int), (((5 - y4) * 1) + 0).toNat ≤ n → iv a → jfr jW_X11_close a0 a → 0 ≤ y1 → y1 ≤ 5 → 1 ≤ y2 → y2 ≤ 5 → 0 ≤ y4 → y4 ≤ 4 → 0 ≤ s1 → s1 ≤ 5 → 0 ≤ s2 → s2 ≤ 4 → 1 ≤ a0 90 12 → jt (jxX E d 188 110 [some (.inr (.inr (.inl 0))), some (.inl y1), some (.inl y2), some (.inl y3), some (.inl y4), some (.inl y5), none, none] [.inl s2, .inl s1, .inr (.inr (.inl 90))] (jxSH, a, b0)) (jQ_X11_close x1 a0 b0)) ∧ (∀ (y1 y2 y3 y4 : Int) (a : Nat → Nat → Int), (((5 - y4) * 1) + 0).toNat ≤ n → iv a → jfr jW_X11_close a0 a → 0 ≤ y1 → y1 ≤ 5 → 0 ≤ y2 → y2 ≤ 5 → 0 ≤ y4 → y4 ≤ 5 → 1 ≤ a0 90 12 → jt (jxX E d 188 71 [some (.inr (.inr (.inl 0))), some (.inl y1), some (.inl y2), some (.inl y3), some (.inl y4), none, none, none] [] (jxSH, a, b0)) (jQ_X11_close x1 a0 b0)) := by
  refine jx_ind fun n ih => ?_
  have ih140 : ∀ (y1 y2 y3 y4 y5 y7 : Int) (a : Nat → Nat → Int), (((5 - y4) * 1) + 0).toNat < n → iv a → jfr jW_X11_close a0 a → 0 ≤ y1 → y1 ≤ 5 → 1 ≤ y2 → y2 ≤ 5 → 0 ≤ y4 → y4 ≤ 4 → 1 ≤ a0 90 12 → jt (jxX E d 188 140 [some (.inr (.inr (.inl 0))), some (.inl y1), some (.inl y2), some (.inl y3), some (.inl y4), some (.inl y5), none, some (.inl y7)] [] (jxSH, a, b0)) (jQ_X11_close x1 a0 b0) := fun y1 y2 y3 y4 y5 y7 a hlt i0 i1 i2 i3 i4 i5 i6 i7 i8 => (ih _ hlt).1 y1 y2 y3 y4 y5 y7 a (Nat.le_refl _) i0 i1 i2 i3 i4 i5 i6 i7 i8
  have ih110 : ∀ (y1 y2 y3 y4 y5 s1 s2 : Int) (a : Nat → Nat → Int), (((5 - y4) * 1) + 0).toNat < n → iv a → jfr jW_X11_close a0 a → 0 ≤ y1 → y1 ≤ 5 → 1 ≤ y2 → y2 ≤ 5 → 0 ≤ y4 → y4 ≤ 4 → 0 ≤ s1 → s1 ≤ 5 → 0 ≤ s2 → s2 ≤ 4 → 1 ≤ a0 90 12 → jt (jxX E d 188 110 [some (.inr (.inr (.inl 0))), some (.inl y1), some (.inl y2), some (.inl y3), some (.inl y4), some (.inl y5), none, none] [.inl s2, .inl s1, .inr (.inr (.inl 90))] (jxSH, a, b0)) (jQ_X11_close x1 a0 b0) := fun y1 y2 y3 y4 y5 s1 s2 a hlt i0 i1 i2 i3 i4 i5 i6 i7 i8 i9 i10 i11 i12 => (ih _ hlt).2.1 y1 y2 y3 y4 y5 s1 s2 a (Nat.le_refl _) i0 i1 i2 i3 i4 i5 i6 i7 i8 i9 i10 i11 i12
  have ih71 : ∀ (y1 y2 y3 y4 : Int) (a : Nat → Nat → Int), (((5 - y4) * 1) + 0).toNat < n → iv a → jfr jW_X11_close a0 a → 0 ≤ y1 → y1 ≤ 5 → 0 ≤ y2 → y2 ≤ 5 → 0 ≤ y4 → y4 ≤ 5 → 1 ≤ a0 90 12 → jt (jxX E d 188 71 [some (.inr (.inr (.inl 0))), some (.inl y1), some (.inl y2), some (.inl y3), some (.inl y4), none, none, none] [] (jxSH, a, b0)) (jQ_X11_close x1 a0 b0) := fun y1 y2 y3 y4 a hlt i0 i1 i2 i3 i4 i5 i6 i7 i8 => (ih _ hlt).2.2 y1 y2 y3 y4 a (Nat.le_refl _) i0 i1 i2 i3 i4 i5 i6 i7 i8
  have hc140 : ∀ (y1 y2 y3 y4 y5 y7 : Int) (a : Nat → Nat → Int), (((5 - y4) * 1) + 0).toNat ≤ n → iv a → jfr jW_X11_close a0 a → 0 ≤ y1 → y1 ≤ 5 → 1 ≤ y2 → y2 ≤ 5 → 0 ≤ y4 → y4 ≤ 4 → 1 ≤ a0 90 12 → jt (jxX E d 188 140 [some (.inr (.inr (.inl 0))), some (.inl y1), some (.inl y2), some (.inl y3), some (.inl y4), some (.inl y5), none, some (.inl y7)] [] (jxSH, a, b0)) (jQ_X11_close x1 a0 b0) := by
    intro y1 y2 y3 y4 y5 y7 a hm hv hf hi0 hi1 hi2 hi3 hi4 hi5 hi6
    refine jt_eq (bq_X11_close_140 E d y1 y2 y3 y4 y5 y7 a b0) ?_
    have h646_ := iv_get hv0 (k := 90) (j := 12) (l := 0) (u := 6) rfl
    refine jt_bV (sp_X4_joinRing E d (jd_le hd rfl) y5 y3 y7 a b0 hv) (fun a647_ b647_ h647_ => ?_)
    obtain ⟨hv647_, hf647_, rfl⟩ := h647_
    have hf648_ : jfr jW_X11_close a0 a647_ := jfr_tr hf hf647_ rfl
    have h649_ : jxw (y4 + 1) = y4 + 1 := jxw_id (by omega) (by omega)
    exact ih71 y1 y2 y3 (jxw (y4 + 1)) a647_ (show (((5 - (jxw (y4 + 1))) * 1) + 0).toNat < n from by omega) hv647_ hf648_ (show 0 ≤ y1 from by omega) (show y1 ≤ 5 from by omega) (show 0 ≤ y2 from by omega) (show y2 ≤ 5 from by omega) (show 0 ≤ jxw (y4 + 1) from by omega) (show jxw (y4 + 1) ≤ 5 from by omega) (show 1 ≤ a0 90 12 from by omega)
  have hc110 : ∀ (y1 y2 y3 y4 y5 s1 s2 : Int) (a : Nat → Nat → Int), (((5 - y4) * 1) + 0).toNat ≤ n → iv a → jfr jW_X11_close a0 a → 0 ≤ y1 → y1 ≤ 5 → 1 ≤ y2 → y2 ≤ 5 → 0 ≤ y4 → y4 ≤ 4 → 0 ≤ s1 → s1 ≤ 5 → 0 ≤ s2 → s2 ≤ 4 → 1 ≤ a0 90 12 → jt (jxX E d 188 110 [some (.inr (.inr (.inl 0))), some (.inl y1), some (.inl y2), some (.inl y3), some (.inl y4), some (.inl y5), none, none] [.inl s2, .inl s1, .inr (.inr (.inl 90))] (jxSH, a, b0)) (jQ_X11_close x1 a0 b0) := by
    intro y1 y2 y3 y4 y5 s1 s2 a hm hv hf hi0 hi1 hi2 hi3 hi4 hi5 hi6 hi7 hi8 hi9 hi10
    refine jt_eq (bq_X11_close_110 E d y1 y2 y3 y4 y5 s1 s2 a b0) ?_
    have h650_ := iv_get hv0 (k := 90) (j := 12) (l := 0) (u := 6) rfl
    refine jt_eI (eq_X5_offerAt E d (jd_le hd rfl) s1 s2 a b0) ?_
    refine jt_eI (eq_X4_memberOf E d (jd_le hd rfl) y5 a b0) ?_
    refine jt_eI (eq_X4_memberOf E d (jd_le hd rfl) (f_X5_offerAt a b0 s1 s2) a b0) ?_
    refine jt_bI (sp_X11_send E d (jd_le hd rfl) (f_X4_memberOf a b0 y5) (f_X4_memberOf a b0 (f_X5_offerAt a b0 s1 s2)) y3 a b0 hv) (fun r651_ a651_ b651_ h651_ => ?_)
    obtain ⟨hv651_, hf651_, rfl⟩ := h651_
    have hf652_ : jfr jW_X11_close a0 a651_ := jfr_tr hf hf651_ rfl
    exact hc140 y1 y2 y3 y4 y5 r651_ a651_ (show (((5 - y4) * 1) + 0).toNat ≤ n from by omega) hv651_ hf652_ (show 0 ≤ y1 from by omega) (show y1 ≤ 5 from by omega) (show 1 ≤ y2 from by omega) (show y2 ≤ 5 from by omega) (show 0 ≤ y4 from by omega) (show y4 ≤ 4 from by omega) (show 1 ≤ a0 90 12 from by omega)
  have hc71 : ∀ (y1 y2 y3 y4 : Int) (a : Nat → Nat → Int), (((5 - y4) * 1) + 0).toNat ≤ n → iv a → jfr jW_X11_close a0 a → 0 ≤ y1 → y1 ≤ 5 → 0 ≤ y2 → y2 ≤ 5 → 0 ≤ y4 → y4 ≤ 5 → 1 ≤ a0 90 12 → jt (jxX E d 188 71 [some (.inr (.inr (.inl 0))), some (.inl y1), some (.inl y2), some (.inl y3), some (.inl y4), none, none, none] [] (jxSH, a, b0)) (jQ_X11_close x1 a0 b0) := by
    intro y1 y2 y3 y4 a hm hv hf hi0 hi1 hi2 hi3 hi4 hi5 hi6
    refine jt_eq (bq_X11_close_71 E d y1 y2 y3 y4 a b0) ?_
    have h653_ := iv_get hv0 (k := 90) (j := 12) (l := 0) (u := 6) rfl
    refine jt_ite (fun c654_ => ?_) (fun c654_ => ?_)
    ·
      refine jt_eI (eq_X5_offerAt E d (jd_le hd rfl) y1 y4 a b0) ?_
      have h655_ : jxw (y4 + 1) = y4 + 1 := jxw_id (by omega) (by omega)
      refine jt_ite (fun c656_ => ?_) (fun c656_ => ?_)
      ·
        exact hc110 y1 y2 y3 y4 (f_X5_offerAt a b0 y1 y4) y1 (jxw (y4 + 1)) a (show (((5 - y4) * 1) + 0).toNat ≤ n from by omega) hv hf (show 0 ≤ y1 from by omega) (show y1 ≤ 5 from by omega) (show 1 ≤ y2 from by omega) (show y2 ≤ 5 from by omega) (show 0 ≤ y4 from by omega) (show y4 ≤ 4 from by omega) (show 0 ≤ y1 from by omega) (show y1 ≤ 5 from by omega) (show 0 ≤ jxw (y4 + 1) from by omega) (show jxw (y4 + 1) ≤ 4 from by omega) (show 1 ≤ a0 90 12 from by omega)
      ·
        exact hc110 y1 y2 y3 y4 (f_X5_offerAt a b0 y1 y4) y1 0 a (show (((5 - y4) * 1) + 0).toNat ≤ n from by omega) hv hf (show 0 ≤ y1 from by omega) (show y1 ≤ 5 from by omega) (show 1 ≤ y2 from by omega) (show y2 ≤ 5 from by omega) (show 0 ≤ y4 from by omega) (show y4 ≤ 4 from by omega) (show 0 ≤ y1 from by omega) (show y1 ≤ 5 from by omega) (show 0 ≤ 0 from by omega) (show 0 ≤ 4 from by omega) (show 1 ≤ a0 90 12 from by omega)
    ·
      exact jt_rI ⟨hv, hf, rfl, (show (a0 90 12 = 0 → y3 = 0 - 1) from by omega)⟩
  exact ⟨hc140, hc110, hc71⟩
theorem cp_X11_close_28 (E : jxE) (d : Nat) (hd : Nat.ble 6 (d + 1) = true) (x1 : Int) (a0 b0 : Nat → Nat → Int) (hv0 : iv a0) : ∀ n : Nat, (∀ (y1 y2 y3 : Int) (a : Nat → Nat → Int), (((5 - y3) * 1) + 0).toNat ≤ n → iv a → jfr jW_X11_close a0 a → 0 ≤ y1 → y1 ≤ 5 → 0 ≤ y2 → y2 ≤ 5 → 0 ≤ y3 → y3 ≤ 5 → 1 ≤ a0 90 12 → jt (jxX E d 188 28 [some (.inr (.inr (.inl 0))), some (.inl y1), some (.inl y2), some (.inl y3), none, none, none, none] [] (jxSH, a, b0)) (jQ_X11_close x1 a0 b0)) := by
  refine jx_ind fun n ih => ?_
  have ih28 : ∀ (y1 y2 y3 : Int) (a : Nat → Nat → Int), (((5 - y3) * 1) + 0).toNat < n → iv a → jfr jW_X11_close a0 a → 0 ≤ y1 → y1 ≤ 5 → 0 ≤ y2 → y2 ≤ 5 → 0 ≤ y3 → y3 ≤ 5 → 1 ≤ a0 90 12 → jt (jxX E d 188 28 [some (.inr (.inr (.inl 0))), some (.inl y1), some (.inl y2), some (.inl y3), none, none, none, none] [] (jxSH, a, b0)) (jQ_X11_close x1 a0 b0) := fun y1 y2 y3 a hlt i0 i1 i2 i3 i4 i5 i6 i7 i8 => (ih _ hlt) y1 y2 y3 a (Nat.le_refl _) i0 i1 i2 i3 i4 i5 i6 i7 i8
  have hc28 : ∀ (y1 y2 y3 : Int) (a : Nat → Nat → Int), (((5 - y3) * 1) + 0).toNat ≤ n → iv a → jfr jW_X11_close a0 a → 0 ≤ y1 → y1 ≤ 5 → 0 ≤ y2 → y2 ≤ 5 → 0 ≤ y3 → y3 ≤ 5 → 1 ≤ a0 90 12 → jt (jxX E d 188 28 [some (.inr (.inr (.inl 0))), some (.inl y1), some (.inl y2), some (.inl y3), none, none, none, none] [] (jxSH, a, b0)) (jQ_X11_close x1 a0 b0) := by
    intro y1 y2 y3 a hm hv hf hi0 hi1 hi2 hi3 hi4 hi5 hi6
    refine jt_eq (bq_X11_close_28 E d y1 y2 y3 a b0) ?_
    have h657_ := iv_get hv0 (k := 90) (j := 12) (l := 0) (u := 6) rfl
    refine jt_ite (fun c658_ => ?_) (fun c658_ => ?_)
    ·
      refine jt_eI (eq_X5_offerAt E d (jd_le hd rfl) y1 y3 a b0) ?_
      refine jt_eI (eq_X4_isOpen E d (jd_le hd rfl) (f_X5_offerAt a b0 y1 y3) a b0) ?_
      have h659_ := f_X5_offerAt_eq a b0 y1 y3
      have h660_ := f_X5_lengthOf_eq a b0 y1
      have h661_ := iv_get hv (k := 90) (j := 12) (l := 0) (u := 6) rfl
      have h662_ : a 90 12 = a0 90 12 := hf 90 12 rfl
      have h663_ := iv_get hv (k := 104) (j := y1.toNat) (l := 0) (u := 5) rfl
      have h664_ : a 104 (y1.toNat) = a0 104 (y1.toNat) := hf 104 (y1.toNat) rfl
      have h665_ := iv_get hv0 (k := 104) (j := y1.toNat) (l := 0) (u := 5) rfl
      have h666_ : a 97 ((y1.toNat) * 5 + (y3.toNat)) = a0 97 ((y1.toNat) * 5 + (y3.toNat)) := hf 97 ((y1.toNat) * 5 + (y3.toNat)) rfl
      have h667_ := f_X4_isOpen_eq a b0 (f_X5_offerAt a b0 y1 y3)
      have h668_ := f_X4_has_eq a b0 (f_X5_offerAt a b0 y1 y3)
      have h669_ := iv_get hv (k := 83) (j := 6) (l := 0) (u := 20) rfl
      have h670_ : a 83 6 = a0 83 6 := hf 83 6 rfl
      have h671_ := iv_get hv0 (k := 83) (j := 6) (l := 0) (u := 20) rfl
      refine jt_ite (fun c672_ => ?_) (fun c672_ => ?_)
      ·
        exact jt_rI ⟨hv, hf, rfl, (show (a0 90 12 = 0 → (-1) = 0 - 1) from by omega)⟩
      ·
        have h673_ : jxw (y3 + 1) = y3 + 1 := jxw_id (by omega) (by omega)
        exact ih28 y1 y2 (jxw (y3 + 1)) a (show (((5 - (jxw (y3 + 1))) * 1) + 0).toNat < n from by omega) hv hf (show 0 ≤ y1 from by omega) (show y1 ≤ 5 from by omega) (show 0 ≤ y2 from by omega) (show y2 ≤ 5 from by omega) (show 0 ≤ jxw (y3 + 1) from by omega) (show jxw (y3 + 1) ≤ 5 from by omega) (show 1 ≤ a0 90 12 from by omega)
    ·
      refine jt_bI (sp_X4_addRing E d (jd_le hd rfl) a b0 hv) (fun r674_ a674_ b674_ h674_ => ?_)
      obtain ⟨hv674_, hf674_, rfl⟩ := h674_
      have hf675_ : jfr jW_X11_close a0 a674_ := jfr_tr hf hf674_ rfl
      exact (cp_X11_close_71 E d hd x1 a0 b0 hv0 _).2.2 y1 y2 r674_ 0 a674_ (Nat.le_refl _) hv674_ hf675_ (show 0 ≤ y1 from by omega) (show y1 ≤ 5 from by omega) (show 0 ≤ y2 from by omega) (show y2 ≤ 5 from by omega) (show 0 ≤ 0 from by omega) (show 0 ≤ 5 from by omega) (show 1 ≤ a0 90 12 from by omega)
  exact hc28
theorem sp_X11_close (E : jxE) (d : Nat) (hd : Nat.ble 6 d = true) (x1 : Int) (a0 b0 : Nat → Nat → Int) (hv0 : iv a0) : jt (jxC E d 188 [.inr (.inr (.inl 0)), .inl x1] (jxSH, a0, b0)) (jQ_X11_close x1 a0 b0) := by
  obtain ⟨d, rfl⟩ := jd_succ hd
  refine jt_eq (bq_X11_close E d x1 a0 b0) ?_
  refine jt_eI (eq_X5_lengthOf E d (jd_le hd rfl) x1 a0 b0) ?_
  have h676_ := f_X5_lengthOf_eq a0 b0 x1
  have h677_ := iv_get hv0 (k := 90) (j := 12) (l := 0) (u := 6) rfl
  have h678_ := iv_get hv0 (k := 104) (j := x1.toNat) (l := 0) (u := 5) rfl
  refine jt_ite (fun c679_ => ?_) (fun c679_ => ?_)
  ·
    exact jt_rI ⟨hv0, (jfr_rf _ _), rfl, (show (a0 90 12 = 0 → (-1) = 0 - 1) from by omega)⟩
  ·
    refine jt_eI (eq_X0_hasRoom E d (jd_le hd rfl) (f_X5_lengthOf a0 b0 x1) a0 b0) ?_
    have h680_ := f_X0_hasRoom_eq a0 b0 (f_X5_lengthOf a0 b0 x1)
    have h681_ := iv_get hv0 (k := 58) (j := 8) (l := 0) (u := 300) rfl
    have h682_ : jxw (300 - (a0 58 8)) = 300 - (a0 58 8) := jxw_id (by omega) (by omega)
    refine jt_ite (fun c683_ => ?_) (fun c683_ => ?_)
    ·
      exact jt_rI ⟨hv0, (jfr_rf _ _), rfl, (show (a0 90 12 = 0 → (-1) = 0 - 1) from by omega)⟩
    ·
      exact (cp_X11_close_28 E d hd x1 a0 b0 hv0 _) x1 (f_X5_lengthOf a0 b0 x1) 0 a0 (Nat.le_refl _) hv0 (jfr_rf _ _) (show 0 ≤ x1 from by omega) (show x1 ≤ 5 from by omega) (show 0 ≤ f_X5_lengthOf a0 b0 x1 from by omega) (show f_X5_lengthOf a0 b0 x1 ≤ 5 from by omega) (show 0 ≤ 0 from by omega) (show 0 ≤ 5 from by omega) (show 1 ≤ a0 90 12 from by omega)
abbrev jQ_X3_howManyThere (a0 b0 : Nat → Nat → Int) : List jxV → (Nat → Nat → Int) → (Nat → Nat → Int) → Prop := rI (fun r a b => (a0 = a) ∧ (b0 = b) ∧ ((a0 4 6 = 0 → r = 0)))
theorem cp_X3_howManyThere_4 (E : jxE) (d : Nat) (hd : Nat.ble 3 (d + 1) = true) (a0 b0 : Nat → Nat → Int) (hv0 : iv a0) : ∀ n : Nat, (∀ (y1 y2 : Int), (((40 - y2) * 1) + 0).toNat ≤ n → 0 ≤ y2 → y2 ≤ 40 → (a0 4 6 = 0 → y1 = 0) → jt (jxX E d 53 4 [some (.inr (.inr (.inl 4))), some (.inl y1), some (.inl y2)] [] (jxSH, a0, b0)) (jQ_X3_howManyThere a0 b0)) := by
  refine jx_ind fun n ih => ?_
  have ih4 : ∀ (y1 y2 : Int), (((40 - y2) * 1) + 0).toNat < n → 0 ≤ y2 → y2 ≤ 40 → (a0 4 6 = 0 → y1 = 0) → jt (jxX E d 53 4 [some (.inr (.inr (.inl 4))), some (.inl y1), some (.inl y2)] [] (jxSH, a0, b0)) (jQ_X3_howManyThere a0 b0) := fun y1 y2 hlt i0 i1 i2 => (ih _ hlt) y1 y2 (Nat.le_refl _) i0 i1 i2
  have hc4 : ∀ (y1 y2 : Int), (((40 - y2) * 1) + 0).toNat ≤ n → 0 ≤ y2 → y2 ≤ 40 → (a0 4 6 = 0 → y1 = 0) → jt (jxX E d 53 4 [some (.inr (.inr (.inl 4))), some (.inl y1), some (.inl y2)] [] (jxSH, a0, b0)) (jQ_X3_howManyThere a0 b0) := by
    intro y1 y2 hm hi0 hi1 hi2
    refine jt_eq (bq_X3_howManyThere_4 E d y1 y2 a0 b0) ?_
    have h684_ := iv_get hv0 (k := 4) (j := 6) (l := 0) (u := 40) rfl
    refine jt_ite (fun c685_ => ?_) (fun c685_ => ?_)
    ·
      refine jt_eI (eq_X3_isThere E d (jd_le hd rfl) y2 a0 b0) ?_
      have h686_ := f_X3_isThere_eq a0 b0 y2
      have h687_ := f_X3_has_eq a0 b0 y2
      refine jt_ite (fun c688_ => ?_) (fun c688_ => ?_)
      ·
        have h689_ : jxw (y2 + 1) = y2 + 1 := jxw_id (by omega) (by omega)
        exact ih4 y1 (jxw (y2 + 1)) (show (((40 - (jxw (y2 + 1))) * 1) + 0).toNat < n from by omega) (show 0 ≤ jxw (y2 + 1) from by omega) (show jxw (y2 + 1) ≤ 40 from by omega) (show (a0 4 6 = 0 → y1 = 0) from by omega)
      ·
        have h690_ : jxw (y2 + 1) = y2 + 1 := jxw_id (by omega) (by omega)
        have h691_ := jxw_im (y1 + 1)
        have h692_ := jxw_rg (y1 + 1)
        exact ih4 (jxw (y1 + 1)) (jxw (y2 + 1)) (show (((40 - (jxw (y2 + 1))) * 1) + 0).toNat < n from by omega) (show 0 ≤ jxw (y2 + 1) from by omega) (show jxw (y2 + 1) ≤ 40 from by omega) (show (a0 4 6 = 0 → jxw (y1 + 1) = 0) from by omega)
    ·
      exact jt_rI ⟨rfl, rfl, (show (a0 4 6 = 0 → y1 = 0) from by omega)⟩
  exact hc4
theorem sp_X3_howManyThere (E : jxE) (d : Nat) (hd : Nat.ble 3 d = true) (a0 b0 : Nat → Nat → Int) (hv0 : iv a0) : jt (jxC E d 53 [.inr (.inr (.inl 4))] (jxSH, a0, b0)) (jQ_X3_howManyThere a0 b0) := by
  obtain ⟨d, rfl⟩ := jd_succ hd
  refine jt_eq (bq_X3_howManyThere E d a0 b0) ?_
  have h693_ := iv_get hv0 (k := 4) (j := 6) (l := 0) (u := 40) rfl
  exact (cp_X3_howManyThere_4 E d hd a0 b0 hv0 _) 0 0 (Nat.le_refl _) (show 0 ≤ 0 from by omega) (show 0 ≤ 40 from by omega) (show (a0 4 6 = 0 → 0 = 0) from by omega)
abbrev jQ_X11_count (x1 : Int) (a0 b0 : Nat → Nat → Int) : List jxV → (Nat → Nat → Int) → (Nat → Nat → Int) → Prop := rI (fun r a b => (a0 = a) ∧ (b0 = b) ∧ ((x1 = 0 → r = a0 0 0)) ∧ ((x1 = 1 → r = a0 4 6)) ∧ ((x1 = 3 → r = a0 58 8)) ∧ ((x1 = 4 → r = a0 58 12)) ∧ ((x1 = 5 → r = a0 83 6)) ∧ ((x1 = 6 → r = a0 83 7)) ∧ ((x1 = 7 → r = a0 105 5)) ∧ ((x1 = 8 → r = a0 2 1)) ∧ ((x1 = 9 → r = a0 0 9)) ∧ (((x1 = 2 ∧ a0 4 6 = 0) → r = 0)) ∧ ((x1 = 10 → r = a0 56 0)) ∧ ((x1 = 11 → r = a0 56 1)) ∧ ((x1 = 12 → r = a0 56 2)) ∧ ((x1 = 13 → r = a0 56 3)) ∧ ((x1 = 14 → r = a0 56 4)) ∧ (20 ≤ x1 ∧ x1 ≤ 27 → r = a0 143 (jxw (x1 - 20)).toNat) ∧ (30 ≤ x1 ∧ x1 ≤ 37 → r = a0 142 (jxw (x1 - 30)).toNat) ∧ (((((x1 < 0 ∨ (14 < x1 ∧ x1 < 20)) ∨ (27 < x1 ∧ x1 < 30)) ∨ 37 < x1) → r = 0 - 1)))
theorem sp_X11_count (E : jxE) (d : Nat) (hd : Nat.ble 4 d = true) (x1 : Int) (a0 b0 : Nat → Nat → Int) (hv0 : iv a0) : jt (jxC E d 197 [.inr (.inr (.inl 0)), .inl x1] (jxSH, a0, b0)) (jQ_X11_count x1 a0 b0) := by
  obtain ⟨d, rfl⟩ := jd_succ hd
  refine jt_eq (bq_X11_count E d x1 a0 b0) ?_
  refine jt_ite (fun c694_ => ?_) (fun c694_ => ?_)
  ·
    refine jt_eI (eq_X11_countOfDrawer E d (jd_le hd rfl) x1 a0 b0) ?_
    have h695_ := f_X11_countOfDrawer_eq a0 b0 x1
    have h696_ := f_X11_within_eq a0 b0 x1 20 27
    have h697_ := f_X11_within_eq a0 b0 x1 30 37
    have h698_ := jxw_im (x1 - 30)
    have h699_ := jxw_rg (x1 - 30)
    have h700_ := f_X1_valueOf_eq a0 b0 (jxw (x1 - 30))
    have h701_ := f_X11_entry_r142_eq a0 b0 8 (jxw (x1 - 30))
    have h702_ := jxw_im (x1 - 20)
    have h703_ := jxw_rg (x1 - 20)
    have h704_ := f_X1_manyOf_eq a0 b0 (jxw (x1 - 20))
    have h705_ := f_X11_entry_r143_eq a0 b0 8 (jxw (x1 - 20))
    have h706_ := iv_get hv0 (k := 0) (j := 0) (l := 0) (u := 1999) rfl
    have h707_ := iv_get hv0 (k := 4) (j := 6) (l := 0) (u := 40) rfl
    have h708_ := iv_get hv0 (k := 58) (j := 8) (l := 0) (u := 300) rfl
    have h709_ := iv_get hv0 (k := 58) (j := 12) (l := 0) (u := 600) rfl
    have h710_ := iv_get hv0 (k := 83) (j := 6) (l := 0) (u := 20) rfl
    have h711_ := iv_get hv0 (k := 105) (j := 5) (l := 0) (u := 10) rfl
    have h712_ := iv_get hv0 (k := 2) (j := 1) (l := 0) (u := 200) rfl
    have h713_ := iv_get hv0 (k := 0) (j := 9) (l := 0) (u := 8) rfl
    exact jt_rI ⟨rfl, rfl, (show (x1 = 0 → f_X11_countOfDrawer a0 b0 x1 = a0 0 0) from by omega), (show (x1 = 1 → f_X11_countOfDrawer a0 b0 x1 = a0 4 6) from by omega), (show (x1 = 3 → f_X11_countOfDrawer a0 b0 x1 = a0 58 8) from by omega), (show (x1 = 4 → f_X11_countOfDrawer a0 b0 x1 = a0 58 12) from by omega), (show (x1 = 5 → f_X11_countOfDrawer a0 b0 x1 = a0 83 6) from by omega), (show (x1 = 6 → f_X11_countOfDrawer a0 b0 x1 = a0 83 7) from by omega), (show (x1 = 7 → f_X11_countOfDrawer a0 b0 x1 = a0 105 5) from by omega), (show (x1 = 8 → f_X11_countOfDrawer a0 b0 x1 = a0 2 1) from by omega), (show (x1 = 9 → f_X11_countOfDrawer a0 b0 x1 = a0 0 9) from by omega), (show ((x1 = 2 ∧ a0 4 6 = 0) → f_X11_countOfDrawer a0 b0 x1 = 0) from by omega), (show (x1 = 10 → f_X11_countOfDrawer a0 b0 x1 = a0 56 0) from by omega), (show (x1 = 11 → f_X11_countOfDrawer a0 b0 x1 = a0 56 1) from by omega), (show (x1 = 12 → f_X11_countOfDrawer a0 b0 x1 = a0 56 2) from by omega), (show (x1 = 13 → f_X11_countOfDrawer a0 b0 x1 = a0 56 3) from by omega), (show (x1 = 14 → f_X11_countOfDrawer a0 b0 x1 = a0 56 4) from by omega), (by omega), (by omega), (show ((((x1 < 0 ∨ (14 < x1 ∧ x1 < 20)) ∨ (27 < x1 ∧ x1 < 30)) ∨ 37 < x1) → f_X11_countOfDrawer a0 b0 x1 = 0 - 1) from by omega)⟩
  ·
    refine jt_ite (fun c714_ => ?_) (fun c714_ => ?_)
    ·
      have h715_ := iv_get hv0 (k := 0) (j := 0) (l := 0) (u := 1999) rfl
      have h716_ := iv_get hv0 (k := 4) (j := 6) (l := 0) (u := 40) rfl
      have h717_ := iv_get hv0 (k := 58) (j := 8) (l := 0) (u := 300) rfl
      have h718_ := iv_get hv0 (k := 58) (j := 12) (l := 0) (u := 600) rfl
      have h719_ := iv_get hv0 (k := 83) (j := 6) (l := 0) (u := 20) rfl
      have h720_ := iv_get hv0 (k := 105) (j := 5) (l := 0) (u := 10) rfl
      have h721_ := iv_get hv0 (k := 2) (j := 1) (l := 0) (u := 200) rfl
      have h722_ := iv_get hv0 (k := 0) (j := 9) (l := 0) (u := 8) rfl
      exact jt_rI ⟨rfl, rfl, (show (x1 = 0 → a0 0 0 = a0 0 0) from by omega), (show (x1 = 1 → a0 0 0 = a0 4 6) from by omega), (show (x1 = 3 → a0 0 0 = a0 58 8) from by omega), (show (x1 = 4 → a0 0 0 = a0 58 12) from by omega), (show (x1 = 5 → a0 0 0 = a0 83 6) from by omega), (show (x1 = 6 → a0 0 0 = a0 83 7) from by omega), (show (x1 = 7 → a0 0 0 = a0 105 5) from by omega), (show (x1 = 8 → a0 0 0 = a0 2 1) from by omega), (show (x1 = 9 → a0 0 0 = a0 0 9) from by omega), (show ((x1 = 2 ∧ a0 4 6 = 0) → a0 0 0 = 0) from by omega), (show (x1 = 10 → a0 0 0 = a0 56 0) from by omega), (show (x1 = 11 → a0 0 0 = a0 56 1) from by omega), (show (x1 = 12 → a0 0 0 = a0 56 2) from by omega), (show (x1 = 13 → a0 0 0 = a0 56 3) from by omega), (show (x1 = 14 → a0 0 0 = a0 56 4) from by omega), (by omega), (by omega), (show ((((x1 < 0 ∨ (14 < x1 ∧ x1 < 20)) ∨ (27 < x1 ∧ x1 < 30)) ∨ 37 < x1) → a0 0 0 = 0 - 1) from by omega)⟩
    ·
      refine jt_ite (fun c723_ => ?_) (fun c723_ => ?_)
      ·
        refine jt_eI (eq_X3_size E d (jd_le hd rfl) a0 b0) ?_
        have h724_ := f_X3_size_eq a0 b0
        have h725_ := iv_get hv0 (k := 4) (j := 6) (l := 0) (u := 40) rfl
        have h726_ := iv_get hv0 (k := 0) (j := 0) (l := 0) (u := 1999) rfl
        have h727_ := iv_get hv0 (k := 58) (j := 8) (l := 0) (u := 300) rfl
        have h728_ := iv_get hv0 (k := 58) (j := 12) (l := 0) (u := 600) rfl
        have h729_ := iv_get hv0 (k := 83) (j := 6) (l := 0) (u := 20) rfl
        have h730_ := iv_get hv0 (k := 105) (j := 5) (l := 0) (u := 10) rfl
        have h731_ := iv_get hv0 (k := 2) (j := 1) (l := 0) (u := 200) rfl
        have h732_ := iv_get hv0 (k := 0) (j := 9) (l := 0) (u := 8) rfl
        exact jt_rI ⟨rfl, rfl, (show (x1 = 0 → f_X3_size a0 b0 = a0 0 0) from by omega), (show (x1 = 1 → f_X3_size a0 b0 = a0 4 6) from by omega), (show (x1 = 3 → f_X3_size a0 b0 = a0 58 8) from by omega), (show (x1 = 4 → f_X3_size a0 b0 = a0 58 12) from by omega), (show (x1 = 5 → f_X3_size a0 b0 = a0 83 6) from by omega), (show (x1 = 6 → f_X3_size a0 b0 = a0 83 7) from by omega), (show (x1 = 7 → f_X3_size a0 b0 = a0 105 5) from by omega), (show (x1 = 8 → f_X3_size a0 b0 = a0 2 1) from by omega), (show (x1 = 9 → f_X3_size a0 b0 = a0 0 9) from by omega), (show ((x1 = 2 ∧ a0 4 6 = 0) → f_X3_size a0 b0 = 0) from by omega), (show (x1 = 10 → f_X3_size a0 b0 = a0 56 0) from by omega), (show (x1 = 11 → f_X3_size a0 b0 = a0 56 1) from by omega), (show (x1 = 12 → f_X3_size a0 b0 = a0 56 2) from by omega), (show (x1 = 13 → f_X3_size a0 b0 = a0 56 3) from by omega), (show (x1 = 14 → f_X3_size a0 b0 = a0 56 4) from by omega), (by omega), (by omega), (show ((((x1 < 0 ∨ (14 < x1 ∧ x1 < 20)) ∨ (27 < x1 ∧ x1 < 30)) ∨ 37 < x1) → f_X3_size a0 b0 = 0 - 1) from by omega)⟩
      ·
        refine jt_ite (fun c733_ => ?_) (fun c733_ => ?_)
        ·
          refine jt_bI (sp_X3_howManyThere E d (jd_le hd rfl) a0 b0 hv0) (fun r734_ a734_ b734_ h734_ => ?_)
          obtain ⟨rfl, rfl, hq734_0⟩ := h734_
          have h735_ := iv_get hv0 (k := 4) (j := 6) (l := 0) (u := 40) rfl
          have h736_ := iv_get hv0 (k := 0) (j := 0) (l := 0) (u := 1999) rfl
          have h737_ := iv_get hv0 (k := 58) (j := 8) (l := 0) (u := 300) rfl
          have h738_ := iv_get hv0 (k := 58) (j := 12) (l := 0) (u := 600) rfl
          have h739_ := iv_get hv0 (k := 83) (j := 6) (l := 0) (u := 20) rfl
          have h740_ := iv_get hv0 (k := 105) (j := 5) (l := 0) (u := 10) rfl
          have h741_ := iv_get hv0 (k := 2) (j := 1) (l := 0) (u := 200) rfl
          have h742_ := iv_get hv0 (k := 0) (j := 9) (l := 0) (u := 8) rfl
          exact jt_rI ⟨rfl, rfl, (show (x1 = 0 → r734_ = a0 0 0) from by omega), (show (x1 = 1 → r734_ = a0 4 6) from by omega), (show (x1 = 3 → r734_ = a0 58 8) from by omega), (show (x1 = 4 → r734_ = a0 58 12) from by omega), (show (x1 = 5 → r734_ = a0 83 6) from by omega), (show (x1 = 6 → r734_ = a0 83 7) from by omega), (show (x1 = 7 → r734_ = a0 105 5) from by omega), (show (x1 = 8 → r734_ = a0 2 1) from by omega), (show (x1 = 9 → r734_ = a0 0 9) from by omega), (show ((x1 = 2 ∧ a0 4 6 = 0) → r734_ = 0) from by omega), (show (x1 = 10 → r734_ = a0 56 0) from by omega), (show (x1 = 11 → r734_ = a0 56 1) from by omega), (show (x1 = 12 → r734_ = a0 56 2) from by omega), (show (x1 = 13 → r734_ = a0 56 3) from by omega), (show (x1 = 14 → r734_ = a0 56 4) from by omega), (by omega), (by omega), (show ((((x1 < 0 ∨ (14 < x1 ∧ x1 < 20)) ∨ (27 < x1 ∧ x1 < 30)) ∨ 37 < x1) → r734_ = 0 - 1) from by omega)⟩
        ·
          refine jt_ite (fun c743_ => ?_) (fun c743_ => ?_)
          ·
            refine jt_eI (eq_X0_size E d (jd_le hd rfl) a0 b0) ?_
            have h744_ := f_X0_size_eq a0 b0
            have h745_ := iv_get hv0 (k := 58) (j := 8) (l := 0) (u := 300) rfl
            have h746_ := iv_get hv0 (k := 0) (j := 0) (l := 0) (u := 1999) rfl
            have h747_ := iv_get hv0 (k := 4) (j := 6) (l := 0) (u := 40) rfl
            have h748_ := iv_get hv0 (k := 58) (j := 12) (l := 0) (u := 600) rfl
            have h749_ := iv_get hv0 (k := 83) (j := 6) (l := 0) (u := 20) rfl
            have h750_ := iv_get hv0 (k := 105) (j := 5) (l := 0) (u := 10) rfl
            have h751_ := iv_get hv0 (k := 2) (j := 1) (l := 0) (u := 200) rfl
            have h752_ := iv_get hv0 (k := 0) (j := 9) (l := 0) (u := 8) rfl
            exact jt_rI ⟨rfl, rfl, (show (x1 = 0 → f_X0_size a0 b0 = a0 0 0) from by omega), (show (x1 = 1 → f_X0_size a0 b0 = a0 4 6) from by omega), (show (x1 = 3 → f_X0_size a0 b0 = a0 58 8) from by omega), (show (x1 = 4 → f_X0_size a0 b0 = a0 58 12) from by omega), (show (x1 = 5 → f_X0_size a0 b0 = a0 83 6) from by omega), (show (x1 = 6 → f_X0_size a0 b0 = a0 83 7) from by omega), (show (x1 = 7 → f_X0_size a0 b0 = a0 105 5) from by omega), (show (x1 = 8 → f_X0_size a0 b0 = a0 2 1) from by omega), (show (x1 = 9 → f_X0_size a0 b0 = a0 0 9) from by omega), (show ((x1 = 2 ∧ a0 4 6 = 0) → f_X0_size a0 b0 = 0) from by omega), (show (x1 = 10 → f_X0_size a0 b0 = a0 56 0) from by omega), (show (x1 = 11 → f_X0_size a0 b0 = a0 56 1) from by omega), (show (x1 = 12 → f_X0_size a0 b0 = a0 56 2) from by omega), (show (x1 = 13 → f_X0_size a0 b0 = a0 56 3) from by omega), (show (x1 = 14 → f_X0_size a0 b0 = a0 56 4) from by omega), (by omega), (by omega), (show ((((x1 < 0 ∨ (14 < x1 ∧ x1 < 20)) ∨ (27 < x1 ∧ x1 < 30)) ∨ 37 < x1) → f_X0_size a0 b0 = 0 - 1) from by omega)⟩
          ·
            refine jt_ite (fun c753_ => ?_) (fun c753_ => ?_)
            ·
              refine jt_eI (eq_X0_tellings E d (jd_le hd rfl) a0 b0) ?_
              have h754_ := f_X0_tellings_eq a0 b0
              have h755_ := iv_get hv0 (k := 58) (j := 12) (l := 0) (u := 600) rfl
              have h756_ := iv_get hv0 (k := 0) (j := 0) (l := 0) (u := 1999) rfl
              have h757_ := iv_get hv0 (k := 4) (j := 6) (l := 0) (u := 40) rfl
              have h758_ := iv_get hv0 (k := 58) (j := 8) (l := 0) (u := 300) rfl
              have h759_ := iv_get hv0 (k := 83) (j := 6) (l := 0) (u := 20) rfl
              have h760_ := iv_get hv0 (k := 105) (j := 5) (l := 0) (u := 10) rfl
              have h761_ := iv_get hv0 (k := 2) (j := 1) (l := 0) (u := 200) rfl
              have h762_ := iv_get hv0 (k := 0) (j := 9) (l := 0) (u := 8) rfl
              exact jt_rI ⟨rfl, rfl, (show (x1 = 0 → f_X0_tellings a0 b0 = a0 0 0) from by omega), (show (x1 = 1 → f_X0_tellings a0 b0 = a0 4 6) from by omega), (show (x1 = 3 → f_X0_tellings a0 b0 = a0 58 8) from by omega), (show (x1 = 4 → f_X0_tellings a0 b0 = a0 58 12) from by omega), (show (x1 = 5 → f_X0_tellings a0 b0 = a0 83 6) from by omega), (show (x1 = 6 → f_X0_tellings a0 b0 = a0 83 7) from by omega), (show (x1 = 7 → f_X0_tellings a0 b0 = a0 105 5) from by omega), (show (x1 = 8 → f_X0_tellings a0 b0 = a0 2 1) from by omega), (show (x1 = 9 → f_X0_tellings a0 b0 = a0 0 9) from by omega), (show ((x1 = 2 ∧ a0 4 6 = 0) → f_X0_tellings a0 b0 = 0) from by omega), (show (x1 = 10 → f_X0_tellings a0 b0 = a0 56 0) from by omega), (show (x1 = 11 → f_X0_tellings a0 b0 = a0 56 1) from by omega), (show (x1 = 12 → f_X0_tellings a0 b0 = a0 56 2) from by omega), (show (x1 = 13 → f_X0_tellings a0 b0 = a0 56 3) from by omega), (show (x1 = 14 → f_X0_tellings a0 b0 = a0 56 4) from by omega), (by omega), (by omega), (show ((((x1 < 0 ∨ (14 < x1 ∧ x1 < 20)) ∨ (27 < x1 ∧ x1 < 30)) ∨ 37 < x1) → f_X0_tellings a0 b0 = 0 - 1) from by omega)⟩
            ·
              refine jt_ite (fun c763_ => ?_) (fun c763_ => ?_)
              ·
                refine jt_eI (eq_X4_size E d (jd_le hd rfl) a0 b0) ?_
                have h764_ := f_X4_size_eq a0 b0
                have h765_ := iv_get hv0 (k := 83) (j := 6) (l := 0) (u := 20) rfl
                have h766_ := iv_get hv0 (k := 0) (j := 0) (l := 0) (u := 1999) rfl
                have h767_ := iv_get hv0 (k := 4) (j := 6) (l := 0) (u := 40) rfl
                have h768_ := iv_get hv0 (k := 58) (j := 8) (l := 0) (u := 300) rfl
                have h769_ := iv_get hv0 (k := 58) (j := 12) (l := 0) (u := 600) rfl
                have h770_ := iv_get hv0 (k := 105) (j := 5) (l := 0) (u := 10) rfl
                have h771_ := iv_get hv0 (k := 2) (j := 1) (l := 0) (u := 200) rfl
                have h772_ := iv_get hv0 (k := 0) (j := 9) (l := 0) (u := 8) rfl
                exact jt_rI ⟨rfl, rfl, (show (x1 = 0 → f_X4_size a0 b0 = a0 0 0) from by omega), (show (x1 = 1 → f_X4_size a0 b0 = a0 4 6) from by omega), (show (x1 = 3 → f_X4_size a0 b0 = a0 58 8) from by omega), (show (x1 = 4 → f_X4_size a0 b0 = a0 58 12) from by omega), (show (x1 = 5 → f_X4_size a0 b0 = a0 83 6) from by omega), (show (x1 = 6 → f_X4_size a0 b0 = a0 83 7) from by omega), (show (x1 = 7 → f_X4_size a0 b0 = a0 105 5) from by omega), (show (x1 = 8 → f_X4_size a0 b0 = a0 2 1) from by omega), (show (x1 = 9 → f_X4_size a0 b0 = a0 0 9) from by omega), (show ((x1 = 2 ∧ a0 4 6 = 0) → f_X4_size a0 b0 = 0) from by omega), (show (x1 = 10 → f_X4_size a0 b0 = a0 56 0) from by omega), (show (x1 = 11 → f_X4_size a0 b0 = a0 56 1) from by omega), (show (x1 = 12 → f_X4_size a0 b0 = a0 56 2) from by omega), (show (x1 = 13 → f_X4_size a0 b0 = a0 56 3) from by omega), (show (x1 = 14 → f_X4_size a0 b0 = a0 56 4) from by omega), (by omega), (by omega), (show ((((x1 < 0 ∨ (14 < x1 ∧ x1 < 20)) ∨ (27 < x1 ∧ x1 < 30)) ∨ 37 < x1) → f_X4_size a0 b0 = 0 - 1) from by omega)⟩
              ·
                refine jt_ite (fun c773_ => ?_) (fun c773_ => ?_)
                ·
                  refine jt_eI (eq_X4_ringsClosed E d (jd_le hd rfl) a0 b0) ?_
                  have h774_ := f_X4_ringsClosed_eq a0 b0
                  have h775_ := iv_get hv0 (k := 0) (j := 0) (l := 0) (u := 1999) rfl
                  have h776_ := iv_get hv0 (k := 4) (j := 6) (l := 0) (u := 40) rfl
                  have h777_ := iv_get hv0 (k := 58) (j := 8) (l := 0) (u := 300) rfl
                  have h778_ := iv_get hv0 (k := 58) (j := 12) (l := 0) (u := 600) rfl
                  have h779_ := iv_get hv0 (k := 83) (j := 6) (l := 0) (u := 20) rfl
                  have h780_ := iv_get hv0 (k := 105) (j := 5) (l := 0) (u := 10) rfl
                  have h781_ := iv_get hv0 (k := 2) (j := 1) (l := 0) (u := 200) rfl
                  have h782_ := iv_get hv0 (k := 0) (j := 9) (l := 0) (u := 8) rfl
                  exact jt_rI ⟨rfl, rfl, (show (x1 = 0 → f_X4_ringsClosed a0 b0 = a0 0 0) from by omega), (show (x1 = 1 → f_X4_ringsClosed a0 b0 = a0 4 6) from by omega), (show (x1 = 3 → f_X4_ringsClosed a0 b0 = a0 58 8) from by omega), (show (x1 = 4 → f_X4_ringsClosed a0 b0 = a0 58 12) from by omega), (show (x1 = 5 → f_X4_ringsClosed a0 b0 = a0 83 6) from by omega), (show (x1 = 6 → f_X4_ringsClosed a0 b0 = a0 83 7) from by omega), (show (x1 = 7 → f_X4_ringsClosed a0 b0 = a0 105 5) from by omega), (show (x1 = 8 → f_X4_ringsClosed a0 b0 = a0 2 1) from by omega), (show (x1 = 9 → f_X4_ringsClosed a0 b0 = a0 0 9) from by omega), (show ((x1 = 2 ∧ a0 4 6 = 0) → f_X4_ringsClosed a0 b0 = 0) from by omega), (show (x1 = 10 → f_X4_ringsClosed a0 b0 = a0 56 0) from by omega), (show (x1 = 11 → f_X4_ringsClosed a0 b0 = a0 56 1) from by omega), (show (x1 = 12 → f_X4_ringsClosed a0 b0 = a0 56 2) from by omega), (show (x1 = 13 → f_X4_ringsClosed a0 b0 = a0 56 3) from by omega), (show (x1 = 14 → f_X4_ringsClosed a0 b0 = a0 56 4) from by omega), (by omega), (by omega), (show ((((x1 < 0 ∨ (14 < x1 ∧ x1 < 20)) ∨ (27 < x1 ∧ x1 < 30)) ∨ 37 < x1) → f_X4_ringsClosed a0 b0 = 0 - 1) from by omega)⟩
                ·
                  refine jt_ite (fun c783_ => ?_) (fun c783_ => ?_)
                  ·
                    refine jt_eI (eq_X9_size E d (jd_le hd rfl) a0 b0) ?_
                    have h784_ := f_X9_size_eq a0 b0
                    have h785_ := iv_get hv0 (k := 105) (j := 5) (l := 0) (u := 10) rfl
                    have h786_ := iv_get hv0 (k := 0) (j := 0) (l := 0) (u := 1999) rfl
                    have h787_ := iv_get hv0 (k := 4) (j := 6) (l := 0) (u := 40) rfl
                    have h788_ := iv_get hv0 (k := 58) (j := 8) (l := 0) (u := 300) rfl
                    have h789_ := iv_get hv0 (k := 58) (j := 12) (l := 0) (u := 600) rfl
                    have h790_ := iv_get hv0 (k := 83) (j := 6) (l := 0) (u := 20) rfl
                    have h791_ := iv_get hv0 (k := 2) (j := 1) (l := 0) (u := 200) rfl
                    have h792_ := iv_get hv0 (k := 0) (j := 9) (l := 0) (u := 8) rfl
                    exact jt_rI ⟨rfl, rfl, (show (x1 = 0 → f_X9_size a0 b0 = a0 0 0) from by omega), (show (x1 = 1 → f_X9_size a0 b0 = a0 4 6) from by omega), (show (x1 = 3 → f_X9_size a0 b0 = a0 58 8) from by omega), (show (x1 = 4 → f_X9_size a0 b0 = a0 58 12) from by omega), (show (x1 = 5 → f_X9_size a0 b0 = a0 83 6) from by omega), (show (x1 = 6 → f_X9_size a0 b0 = a0 83 7) from by omega), (show (x1 = 7 → f_X9_size a0 b0 = a0 105 5) from by omega), (show (x1 = 8 → f_X9_size a0 b0 = a0 2 1) from by omega), (show (x1 = 9 → f_X9_size a0 b0 = a0 0 9) from by omega), (show ((x1 = 2 ∧ a0 4 6 = 0) → f_X9_size a0 b0 = 0) from by omega), (show (x1 = 10 → f_X9_size a0 b0 = a0 56 0) from by omega), (show (x1 = 11 → f_X9_size a0 b0 = a0 56 1) from by omega), (show (x1 = 12 → f_X9_size a0 b0 = a0 56 2) from by omega), (show (x1 = 13 → f_X9_size a0 b0 = a0 56 3) from by omega), (show (x1 = 14 → f_X9_size a0 b0 = a0 56 4) from by omega), (by omega), (by omega), (show ((((x1 < 0 ∨ (14 < x1 ∧ x1 < 20)) ∨ (27 < x1 ∧ x1 < 30)) ∨ 37 < x1) → f_X9_size a0 b0 = 0 - 1) from by omega)⟩
                  ·
                    refine jt_ite (fun c793_ => ?_) (fun c793_ => ?_)
                    ·
                      refine jt_eI (eq_X8_length E d (jd_le hd rfl) a0 b0) ?_
                      have h794_ := f_X8_length_eq a0 b0
                      have h795_ := iv_get hv0 (k := 2) (j := 1) (l := 0) (u := 200) rfl
                      have h796_ := iv_get hv0 (k := 0) (j := 0) (l := 0) (u := 1999) rfl
                      have h797_ := iv_get hv0 (k := 4) (j := 6) (l := 0) (u := 40) rfl
                      have h798_ := iv_get hv0 (k := 58) (j := 8) (l := 0) (u := 300) rfl
                      have h799_ := iv_get hv0 (k := 58) (j := 12) (l := 0) (u := 600) rfl
                      have h800_ := iv_get hv0 (k := 83) (j := 6) (l := 0) (u := 20) rfl
                      have h801_ := iv_get hv0 (k := 105) (j := 5) (l := 0) (u := 10) rfl
                      have h802_ := iv_get hv0 (k := 0) (j := 9) (l := 0) (u := 8) rfl
                      exact jt_rI ⟨rfl, rfl, (show (x1 = 0 → f_X8_length a0 b0 = a0 0 0) from by omega), (show (x1 = 1 → f_X8_length a0 b0 = a0 4 6) from by omega), (show (x1 = 3 → f_X8_length a0 b0 = a0 58 8) from by omega), (show (x1 = 4 → f_X8_length a0 b0 = a0 58 12) from by omega), (show (x1 = 5 → f_X8_length a0 b0 = a0 83 6) from by omega), (show (x1 = 6 → f_X8_length a0 b0 = a0 83 7) from by omega), (show (x1 = 7 → f_X8_length a0 b0 = a0 105 5) from by omega), (show (x1 = 8 → f_X8_length a0 b0 = a0 2 1) from by omega), (show (x1 = 9 → f_X8_length a0 b0 = a0 0 9) from by omega), (show ((x1 = 2 ∧ a0 4 6 = 0) → f_X8_length a0 b0 = 0) from by omega), (show (x1 = 10 → f_X8_length a0 b0 = a0 56 0) from by omega), (show (x1 = 11 → f_X8_length a0 b0 = a0 56 1) from by omega), (show (x1 = 12 → f_X8_length a0 b0 = a0 56 2) from by omega), (show (x1 = 13 → f_X8_length a0 b0 = a0 56 3) from by omega), (show (x1 = 14 → f_X8_length a0 b0 = a0 56 4) from by omega), (by omega), (by omega), (show ((((x1 < 0 ∨ (14 < x1 ∧ x1 < 20)) ∨ (27 < x1 ∧ x1 < 30)) ∨ 37 < x1) → f_X8_length a0 b0 = 0 - 1) from by omega)⟩
                    ·
                      refine jt_ite (fun c803_ => ?_) (fun c803_ => ?_)
                      ·
                        have h804_ := iv_get hv0 (k := 0) (j := 9) (l := 0) (u := 8) rfl
                        have h805_ := iv_get hv0 (k := 0) (j := 0) (l := 0) (u := 1999) rfl
                        have h806_ := iv_get hv0 (k := 4) (j := 6) (l := 0) (u := 40) rfl
                        have h807_ := iv_get hv0 (k := 58) (j := 8) (l := 0) (u := 300) rfl
                        have h808_ := iv_get hv0 (k := 58) (j := 12) (l := 0) (u := 600) rfl
                        have h809_ := iv_get hv0 (k := 83) (j := 6) (l := 0) (u := 20) rfl
                        have h810_ := iv_get hv0 (k := 105) (j := 5) (l := 0) (u := 10) rfl
                        have h811_ := iv_get hv0 (k := 2) (j := 1) (l := 0) (u := 200) rfl
                        exact jt_rI ⟨rfl, rfl, (show (x1 = 0 → a0 0 9 = a0 0 0) from by omega), (show (x1 = 1 → a0 0 9 = a0 4 6) from by omega), (show (x1 = 3 → a0 0 9 = a0 58 8) from by omega), (show (x1 = 4 → a0 0 9 = a0 58 12) from by omega), (show (x1 = 5 → a0 0 9 = a0 83 6) from by omega), (show (x1 = 6 → a0 0 9 = a0 83 7) from by omega), (show (x1 = 7 → a0 0 9 = a0 105 5) from by omega), (show (x1 = 8 → a0 0 9 = a0 2 1) from by omega), (show (x1 = 9 → a0 0 9 = a0 0 9) from by omega), (show ((x1 = 2 ∧ a0 4 6 = 0) → a0 0 9 = 0) from by omega), (show (x1 = 10 → a0 0 9 = a0 56 0) from by omega), (show (x1 = 11 → a0 0 9 = a0 56 1) from by omega), (show (x1 = 12 → a0 0 9 = a0 56 2) from by omega), (show (x1 = 13 → a0 0 9 = a0 56 3) from by omega), (show (x1 = 14 → a0 0 9 = a0 56 4) from by omega), (by omega), (by omega), (show ((((x1 < 0 ∨ (14 < x1 ∧ x1 < 20)) ∨ (27 < x1 ∧ x1 < 30)) ∨ 37 < x1) → a0 0 9 = 0 - 1) from by omega)⟩
                      ·
                        refine jt_ite (fun c812_ => ?_) (fun c812_ => ?_)
                        ·
                          refine jt_eI (eq_X6_under E d (jd_le hd rfl) a0 b0) ?_
                          have h813_ := f_X6_under_eq a0 b0
                          have h814_ := iv_get hv0 (k := 0) (j := 0) (l := 0) (u := 1999) rfl
                          have h815_ := iv_get hv0 (k := 4) (j := 6) (l := 0) (u := 40) rfl
                          have h816_ := iv_get hv0 (k := 58) (j := 8) (l := 0) (u := 300) rfl
                          have h817_ := iv_get hv0 (k := 58) (j := 12) (l := 0) (u := 600) rfl
                          have h818_ := iv_get hv0 (k := 83) (j := 6) (l := 0) (u := 20) rfl
                          have h819_ := iv_get hv0 (k := 105) (j := 5) (l := 0) (u := 10) rfl
                          have h820_ := iv_get hv0 (k := 2) (j := 1) (l := 0) (u := 200) rfl
                          have h821_ := iv_get hv0 (k := 0) (j := 9) (l := 0) (u := 8) rfl
                          exact jt_rI ⟨rfl, rfl, (show (x1 = 0 → f_X6_under a0 b0 = a0 0 0) from by omega), (show (x1 = 1 → f_X6_under a0 b0 = a0 4 6) from by omega), (show (x1 = 3 → f_X6_under a0 b0 = a0 58 8) from by omega), (show (x1 = 4 → f_X6_under a0 b0 = a0 58 12) from by omega), (show (x1 = 5 → f_X6_under a0 b0 = a0 83 6) from by omega), (show (x1 = 6 → f_X6_under a0 b0 = a0 83 7) from by omega), (show (x1 = 7 → f_X6_under a0 b0 = a0 105 5) from by omega), (show (x1 = 8 → f_X6_under a0 b0 = a0 2 1) from by omega), (show (x1 = 9 → f_X6_under a0 b0 = a0 0 9) from by omega), (show ((x1 = 2 ∧ a0 4 6 = 0) → f_X6_under a0 b0 = 0) from by omega), (show (x1 = 10 → f_X6_under a0 b0 = a0 56 0) from by omega), (show (x1 = 11 → f_X6_under a0 b0 = a0 56 1) from by omega), (show (x1 = 12 → f_X6_under a0 b0 = a0 56 2) from by omega), (show (x1 = 13 → f_X6_under a0 b0 = a0 56 3) from by omega), (show (x1 = 14 → f_X6_under a0 b0 = a0 56 4) from by omega), (by omega), (by omega), (show ((((x1 < 0 ∨ (14 < x1 ∧ x1 < 20)) ∨ (27 < x1 ∧ x1 < 30)) ∨ 37 < x1) → f_X6_under a0 b0 = 0 - 1) from by omega)⟩
                        ·
                          refine jt_ite (fun c822_ => ?_) (fun c822_ => ?_)
                          ·
                            refine jt_eI (eq_X6_more E d (jd_le hd rfl) a0 b0) ?_
                            have h823_ := f_X6_more_eq a0 b0
                            have h824_ := iv_get hv0 (k := 0) (j := 0) (l := 0) (u := 1999) rfl
                            have h825_ := iv_get hv0 (k := 4) (j := 6) (l := 0) (u := 40) rfl
                            have h826_ := iv_get hv0 (k := 58) (j := 8) (l := 0) (u := 300) rfl
                            have h827_ := iv_get hv0 (k := 58) (j := 12) (l := 0) (u := 600) rfl
                            have h828_ := iv_get hv0 (k := 83) (j := 6) (l := 0) (u := 20) rfl
                            have h829_ := iv_get hv0 (k := 105) (j := 5) (l := 0) (u := 10) rfl
                            have h830_ := iv_get hv0 (k := 2) (j := 1) (l := 0) (u := 200) rfl
                            have h831_ := iv_get hv0 (k := 0) (j := 9) (l := 0) (u := 8) rfl
                            exact jt_rI ⟨rfl, rfl, (show (x1 = 0 → f_X6_more a0 b0 = a0 0 0) from by omega), (show (x1 = 1 → f_X6_more a0 b0 = a0 4 6) from by omega), (show (x1 = 3 → f_X6_more a0 b0 = a0 58 8) from by omega), (show (x1 = 4 → f_X6_more a0 b0 = a0 58 12) from by omega), (show (x1 = 5 → f_X6_more a0 b0 = a0 83 6) from by omega), (show (x1 = 6 → f_X6_more a0 b0 = a0 83 7) from by omega), (show (x1 = 7 → f_X6_more a0 b0 = a0 105 5) from by omega), (show (x1 = 8 → f_X6_more a0 b0 = a0 2 1) from by omega), (show (x1 = 9 → f_X6_more a0 b0 = a0 0 9) from by omega), (show ((x1 = 2 ∧ a0 4 6 = 0) → f_X6_more a0 b0 = 0) from by omega), (show (x1 = 10 → f_X6_more a0 b0 = a0 56 0) from by omega), (show (x1 = 11 → f_X6_more a0 b0 = a0 56 1) from by omega), (show (x1 = 12 → f_X6_more a0 b0 = a0 56 2) from by omega), (show (x1 = 13 → f_X6_more a0 b0 = a0 56 3) from by omega), (show (x1 = 14 → f_X6_more a0 b0 = a0 56 4) from by omega), (by omega), (by omega), (show ((((x1 < 0 ∨ (14 < x1 ∧ x1 < 20)) ∨ (27 < x1 ∧ x1 < 30)) ∨ 37 < x1) → f_X6_more a0 b0 = 0 - 1) from by omega)⟩
                          ·
                            refine jt_ite (fun c832_ => ?_) (fun c832_ => ?_)
                            ·
                              refine jt_eI (eq_X6_slack E d (jd_le hd rfl) a0 b0) ?_
                              have h833_ := f_X6_slack_eq a0 b0
                              have h834_ := iv_get hv0 (k := 0) (j := 0) (l := 0) (u := 1999) rfl
                              have h835_ := iv_get hv0 (k := 4) (j := 6) (l := 0) (u := 40) rfl
                              have h836_ := iv_get hv0 (k := 58) (j := 8) (l := 0) (u := 300) rfl
                              have h837_ := iv_get hv0 (k := 58) (j := 12) (l := 0) (u := 600) rfl
                              have h838_ := iv_get hv0 (k := 83) (j := 6) (l := 0) (u := 20) rfl
                              have h839_ := iv_get hv0 (k := 105) (j := 5) (l := 0) (u := 10) rfl
                              have h840_ := iv_get hv0 (k := 2) (j := 1) (l := 0) (u := 200) rfl
                              have h841_ := iv_get hv0 (k := 0) (j := 9) (l := 0) (u := 8) rfl
                              exact jt_rI ⟨rfl, rfl, (show (x1 = 0 → f_X6_slack a0 b0 = a0 0 0) from by omega), (show (x1 = 1 → f_X6_slack a0 b0 = a0 4 6) from by omega), (show (x1 = 3 → f_X6_slack a0 b0 = a0 58 8) from by omega), (show (x1 = 4 → f_X6_slack a0 b0 = a0 58 12) from by omega), (show (x1 = 5 → f_X6_slack a0 b0 = a0 83 6) from by omega), (show (x1 = 6 → f_X6_slack a0 b0 = a0 83 7) from by omega), (show (x1 = 7 → f_X6_slack a0 b0 = a0 105 5) from by omega), (show (x1 = 8 → f_X6_slack a0 b0 = a0 2 1) from by omega), (show (x1 = 9 → f_X6_slack a0 b0 = a0 0 9) from by omega), (show ((x1 = 2 ∧ a0 4 6 = 0) → f_X6_slack a0 b0 = 0) from by omega), (show (x1 = 10 → f_X6_slack a0 b0 = a0 56 0) from by omega), (show (x1 = 11 → f_X6_slack a0 b0 = a0 56 1) from by omega), (show (x1 = 12 → f_X6_slack a0 b0 = a0 56 2) from by omega), (show (x1 = 13 → f_X6_slack a0 b0 = a0 56 3) from by omega), (show (x1 = 14 → f_X6_slack a0 b0 = a0 56 4) from by omega), (by omega), (by omega), (show ((((x1 < 0 ∨ (14 < x1 ∧ x1 < 20)) ∨ (27 < x1 ∧ x1 < 30)) ∨ 37 < x1) → f_X6_slack a0 b0 = 0 - 1) from by omega)⟩
                            ·
                              refine jt_ite (fun c842_ => ?_) (fun c842_ => ?_)
                              ·
                                refine jt_eI (eq_X6_lost E d (jd_le hd rfl) a0 b0) ?_
                                have h843_ := f_X6_lost_eq a0 b0
                                have h844_ := iv_get hv0 (k := 0) (j := 0) (l := 0) (u := 1999) rfl
                                have h845_ := iv_get hv0 (k := 4) (j := 6) (l := 0) (u := 40) rfl
                                have h846_ := iv_get hv0 (k := 58) (j := 8) (l := 0) (u := 300) rfl
                                have h847_ := iv_get hv0 (k := 58) (j := 12) (l := 0) (u := 600) rfl
                                have h848_ := iv_get hv0 (k := 83) (j := 6) (l := 0) (u := 20) rfl
                                have h849_ := iv_get hv0 (k := 105) (j := 5) (l := 0) (u := 10) rfl
                                have h850_ := iv_get hv0 (k := 2) (j := 1) (l := 0) (u := 200) rfl
                                have h851_ := iv_get hv0 (k := 0) (j := 9) (l := 0) (u := 8) rfl
                                exact jt_rI ⟨rfl, rfl, (show (x1 = 0 → f_X6_lost a0 b0 = a0 0 0) from by omega), (show (x1 = 1 → f_X6_lost a0 b0 = a0 4 6) from by omega), (show (x1 = 3 → f_X6_lost a0 b0 = a0 58 8) from by omega), (show (x1 = 4 → f_X6_lost a0 b0 = a0 58 12) from by omega), (show (x1 = 5 → f_X6_lost a0 b0 = a0 83 6) from by omega), (show (x1 = 6 → f_X6_lost a0 b0 = a0 83 7) from by omega), (show (x1 = 7 → f_X6_lost a0 b0 = a0 105 5) from by omega), (show (x1 = 8 → f_X6_lost a0 b0 = a0 2 1) from by omega), (show (x1 = 9 → f_X6_lost a0 b0 = a0 0 9) from by omega), (show ((x1 = 2 ∧ a0 4 6 = 0) → f_X6_lost a0 b0 = 0) from by omega), (show (x1 = 10 → f_X6_lost a0 b0 = a0 56 0) from by omega), (show (x1 = 11 → f_X6_lost a0 b0 = a0 56 1) from by omega), (show (x1 = 12 → f_X6_lost a0 b0 = a0 56 2) from by omega), (show (x1 = 13 → f_X6_lost a0 b0 = a0 56 3) from by omega), (show (x1 = 14 → f_X6_lost a0 b0 = a0 56 4) from by omega), (by omega), (by omega), (show ((((x1 < 0 ∨ (14 < x1 ∧ x1 < 20)) ∨ (27 < x1 ∧ x1 < 30)) ∨ 37 < x1) → f_X6_lost a0 b0 = 0 - 1) from by omega)⟩
                              ·
                                refine jt_ite (fun c852_ => ?_) (fun c852_ => ?_)
                                ·
                                  refine jt_eI (eq_X6_strict E d (jd_le hd rfl) a0 b0) ?_
                                  have h853_ := f_X6_strict_eq a0 b0
                                  have h854_ := iv_get hv0 (k := 0) (j := 0) (l := 0) (u := 1999) rfl
                                  have h855_ := iv_get hv0 (k := 4) (j := 6) (l := 0) (u := 40) rfl
                                  have h856_ := iv_get hv0 (k := 58) (j := 8) (l := 0) (u := 300) rfl
                                  have h857_ := iv_get hv0 (k := 58) (j := 12) (l := 0) (u := 600) rfl
                                  have h858_ := iv_get hv0 (k := 83) (j := 6) (l := 0) (u := 20) rfl
                                  have h859_ := iv_get hv0 (k := 105) (j := 5) (l := 0) (u := 10) rfl
                                  have h860_ := iv_get hv0 (k := 2) (j := 1) (l := 0) (u := 200) rfl
                                  have h861_ := iv_get hv0 (k := 0) (j := 9) (l := 0) (u := 8) rfl
                                  exact jt_rI ⟨rfl, rfl, (show (x1 = 0 → f_X6_strict a0 b0 = a0 0 0) from by omega), (show (x1 = 1 → f_X6_strict a0 b0 = a0 4 6) from by omega), (show (x1 = 3 → f_X6_strict a0 b0 = a0 58 8) from by omega), (show (x1 = 4 → f_X6_strict a0 b0 = a0 58 12) from by omega), (show (x1 = 5 → f_X6_strict a0 b0 = a0 83 6) from by omega), (show (x1 = 6 → f_X6_strict a0 b0 = a0 83 7) from by omega), (show (x1 = 7 → f_X6_strict a0 b0 = a0 105 5) from by omega), (show (x1 = 8 → f_X6_strict a0 b0 = a0 2 1) from by omega), (show (x1 = 9 → f_X6_strict a0 b0 = a0 0 9) from by omega), (show ((x1 = 2 ∧ a0 4 6 = 0) → f_X6_strict a0 b0 = 0) from by omega), (show (x1 = 10 → f_X6_strict a0 b0 = a0 56 0) from by omega), (show (x1 = 11 → f_X6_strict a0 b0 = a0 56 1) from by omega), (show (x1 = 12 → f_X6_strict a0 b0 = a0 56 2) from by omega), (show (x1 = 13 → f_X6_strict a0 b0 = a0 56 3) from by omega), (show (x1 = 14 → f_X6_strict a0 b0 = a0 56 4) from by omega), (by omega), (by omega), (show ((((x1 < 0 ∨ (14 < x1 ∧ x1 < 20)) ∨ (27 < x1 ∧ x1 < 30)) ∨ 37 < x1) → f_X6_strict a0 b0 = 0 - 1) from by omega)⟩
                                ·
                                  exact absurd (by omega : False) id
def jW_X11_withdraw : List (Nat × Nat) := [(9, 9999), (64, 9999), (87, 9999), (88, 9999), (89, 9999)]
abbrev jQ_X11_withdraw (x1 : Int) (a0 b0 : Nat → Nat → Int) : List jxV → (Nat → Nat → Int) → (Nat → Nat → Int) → Prop := rI (fun r a b => (iv a) ∧ (jfr jW_X11_withdraw a0 a) ∧ (b0 = b))
theorem cp_X11_withdraw_58 (E : jxE) (d : Nat) (hd : Nat.ble 4 (d + 1) = true) (x1 : Int) (a0 b0 : Nat → Nat → Int) (hv0 : iv a0) : ∀ (a : Nat → Nat → Int), iv a → jfr jW_X11_withdraw a0 a → jt (jxX E d 159 58 [none, none, none] [] (jxSH, a, b0)) (jQ_X11_withdraw x1 a0 b0) := by
  intro a hv hf
  refine jt_eq (bq_X11_withdraw_58 E d a b0) ?_
  exact jt_rI ⟨hv, hf, rfl⟩
theorem cp_X11_withdraw_105 (E : jxE) (d : Nat) (hd : Nat.ble 4 (d + 1) = true) (x1 : Int) (a0 b0 : Nat → Nat → Int) (hv0 : iv a0) : ∀ (a : Nat → Nat → Int), iv a → jfr jW_X11_withdraw a0 a → jt (jxX E d 159 105 [none, none, none] [] (jxSH, a, b0)) (jQ_X11_withdraw x1 a0 b0) := by
  intro a hv hf
  refine jt_eq (bq_X11_withdraw_105 E d a b0) ?_
  exact jt_rI ⟨hv, hf, rfl⟩
theorem cp_X11_withdraw_90 (E : jxE) (d : Nat) (hd : Nat.ble 4 (d + 1) = true) (x1 : Int) (a0 b0 : Nat → Nat → Int) (hv0 : iv a0) : ∀ (y2 : Int) (a : Nat → Nat → Int), iv a → jfr jW_X11_withdraw a0 a → 0 ≤ y2 → y2 ≤ 299 → jt (jxX E d 159 90 [some (.inr (.inr (.inl 0))), none, some (.inl y2)] [] (jxSH, a, b0)) (jQ_X11_withdraw x1 a0 b0) := by
  intro y2 a hv hf hi0 hi1
  refine jt_eq (bq_X11_withdraw_90 E d y2 a b0) ?_
  refine jt_eI (eq_X0_toOf E d (jd_le hd rfl) y2 a b0) ?_
  refine jt_bV (sp_X3_addCredit E d (jd_le hd rfl) (f_X0_toOf a b0 y2) a b0 hv) (fun a862_ b862_ h862_ => ?_)
  obtain ⟨hv862_, hf862_, rfl⟩ := h862_
  have hf863_ : jfr jW_X11_withdraw a0 a862_ := jfr_tr hf hf862_ rfl
  exact cp_X11_withdraw_105 E d hd x1 a0 b0 hv0 a862_ hv862_ hf863_
theorem cp_X11_withdraw_60 (E : jxE) (d : Nat) (hd : Nat.ble 4 (d + 1) = true) (x1 : Int) (a0 b0 : Nat → Nat → Int) (hv0 : iv a0) : ∀ (y2 : Int) (a : Nat → Nat → Int), iv a → jfr jW_X11_withdraw a0 a → 0 ≤ y2 → y2 ≤ 299 → jt (jxX E d 159 60 [some (.inr (.inr (.inl 0))), none, some (.inl y2)] [] (jxSH, a, b0)) (jQ_X11_withdraw x1 a0 b0) := by
  intro y2 a hv hf hi0 hi1
  refine jt_eq (bq_X11_withdraw_60 E d y2 a b0) ?_
  refine jt_bV (sp_X0_cancel E d (jd_le hd rfl) y2 (a 0 0) a b0 hv) (fun a864_ b864_ h864_ => ?_)
  obtain ⟨hv864_, hf864_, rfl⟩ := h864_
  refine jt_eI (eq_X0_toOf E d (jd_le hd rfl) y2 a864_ b0) ?_
  refine jt_eI (eq_X3_isThere E d (jd_le hd rfl) (f_X0_toOf a864_ b0 y2) a864_ b0) ?_
  have h865_ := f_X0_toOf_eq a864_ b0 y2
  have h866_ := iv_get hv864_ (k := 58) (j := 8) (l := 0) (u := 300) rfl
  have h867_ : a864_ 58 8 = a 58 8 := hf864_ 58 8 rfl
  have h868_ := iv_get hv (k := 58) (j := 8) (l := 0) (u := 300) rfl
  have h869_ : a 58 8 = a0 58 8 := hf 58 8 rfl
  have h870_ := iv_get hv0 (k := 58) (j := 8) (l := 0) (u := 300) rfl
  have h871_ := f_X11_entry_r60_eq a864_ b0 (a864_ 58 8) y2
  have h872_ : a864_ 60 (y2.toNat) = a 60 (y2.toNat) := hf864_ 60 (y2.toNat) rfl
  have h873_ : a 60 (y2.toNat) = a0 60 (y2.toNat) := hf 60 (y2.toNat) rfl
  have h874_ := f_X3_isThere_eq a864_ b0 (f_X0_toOf a864_ b0 y2)
  have h875_ := f_X3_has_eq a864_ b0 (f_X0_toOf a864_ b0 y2)
  have h876_ := iv_get hv864_ (k := 4) (j := 6) (l := 0) (u := 40) rfl
  have h877_ : a864_ 4 6 = a 4 6 := hf864_ 4 6 rfl
  have h878_ := iv_get hv (k := 4) (j := 6) (l := 0) (u := 40) rfl
  have h879_ : a 4 6 = a0 4 6 := hf 4 6 rfl
  have h880_ := iv_get hv0 (k := 4) (j := 6) (l := 0) (u := 40) rfl
  have h881_ : a864_ 10 ((f_X0_toOf a864_ b0 y2).toNat) = a 10 ((f_X0_toOf a864_ b0 y2).toNat) := hf864_ 10 ((f_X0_toOf a864_ b0 y2).toNat) rfl
  have h882_ : a 10 ((f_X0_toOf a864_ b0 y2).toNat) = a0 10 ((f_X0_toOf a864_ b0 y2).toNat) := hf 10 ((f_X0_toOf a864_ b0 y2).toNat) rfl
  refine jt_ite (fun c883_ => ?_) (fun c883_ => ?_)
  ·
    have hf884_ : jfr jW_X11_withdraw a0 a864_ := jfr_tr hf hf864_ rfl
    exact cp_X11_withdraw_105 E d hd x1 a0 b0 hv0 a864_ hv864_ hf884_
  ·
    have hf885_ : jfr jW_X11_withdraw a0 a864_ := jfr_tr hf hf864_ rfl
    exact cp_X11_withdraw_90 E d hd x1 a0 b0 hv0 y2 a864_ hv864_ hf885_ (show 0 ≤ y2 from by omega) (show y2 ≤ 299 from by omega)
theorem cp_X11_withdraw_23 (E : jxE) (d : Nat) (hd : Nat.ble 4 (d + 1) = true) (x1 : Int) (a0 b0 : Nat → Nat → Int) (hv0 : iv a0) : ∀ (y1 s0 : Int) (a : Nat → Nat → Int), iv a → jfr jW_X11_withdraw a0 a → jt (jxX E d 159 23 [some (.inr (.inr (.inl 0))), some (.inl y1), none] [.inl s0] (jxSH, a, b0)) (jQ_X11_withdraw x1 a0 b0) := by
  intro y1 s0 a hv hf
  refine jt_eq (bq_X11_withdraw_23 E d y1 s0 a b0) ?_
  refine jt_bV (sp_X4_takeAway E d (jd_le hd rfl) y1 a b0 hv) (fun a886_ b886_ h886_ => ?_)
  obtain ⟨hv886_, hf886_, rfl⟩ := h886_
  refine jt_eI (eq_X0_has E d (jd_le hd rfl) s0 a886_ b0) ?_
  have h887_ := f_X0_has_eq a886_ b0 s0
  have h888_ := iv_get hv886_ (k := 58) (j := 8) (l := 0) (u := 300) rfl
  have h889_ : a886_ 58 8 = a 58 8 := hf886_ 58 8 rfl
  have h890_ := iv_get hv (k := 58) (j := 8) (l := 0) (u := 300) rfl
  have h891_ : a 58 8 = a0 58 8 := hf 58 8 rfl
  have h892_ := iv_get hv0 (k := 58) (j := 8) (l := 0) (u := 300) rfl
  refine jt_ite (fun c893_ => ?_) (fun c893_ => ?_)
  ·
    have hf894_ : jfr jW_X11_withdraw a0 a886_ := jfr_tr hf hf886_ rfl
    exact cp_X11_withdraw_58 E d hd x1 a0 b0 hv0 a886_ hv886_ hf894_
  ·
    refine jt_eI (eq_X0_stateNow E d (jd_le hd rfl) s0 (a886_ 0 0) a886_ b0) ?_
    have h895_ := iv_get hv886_ (k := 0) (j := 0) (l := 0) (u := 1999) rfl
    have h896_ : a886_ 0 0 = a 0 0 := hf886_ 0 0 rfl
    have h897_ := iv_get hv (k := 0) (j := 0) (l := 0) (u := 1999) rfl
    have h898_ : a 0 0 = a0 0 0 := hf 0 0 rfl
    have h899_ := iv_get hv0 (k := 0) (j := 0) (l := 0) (u := 1999) rfl
    have h900_ := f_X0_stateNow_eq a886_ b0 s0 (a886_ 0 0)
    have h901_ := f_X0_arrivedOnOf_eq a886_ b0 s0
    have h902_ := iv_get hv886_ (k := 58) (j := 12) (l := 0) (u := 600) rfl
    have h903_ : a886_ 58 12 = a 58 12 := hf886_ 58 12 rfl
    have h904_ := iv_get hv (k := 58) (j := 12) (l := 0) (u := 600) rfl
    have h905_ : a 58 12 = a0 58 12 := hf 58 12 rfl
    have h906_ := iv_get hv0 (k := 58) (j := 12) (l := 0) (u := 600) rfl
    have h907_ := f_X11_entry_r65_eq a886_ b0 (a886_ 58 8) s0
    have h908_ : a886_ 65 (s0.toNat) = a 65 (s0.toNat) := hf886_ 65 (s0.toNat) rfl
    have h909_ : a 65 (s0.toNat) = a0 65 (s0.toNat) := hf 65 (s0.toNat) rfl
    have h910_ := f_X11_entry_r67_eq a886_ b0 (a886_ 58 12) (f_X11_entry_r65 a886_ b0 (a886_ 58 8) s0)
    have h911_ : a886_ 67 ((f_X11_entry_r65 a886_ b0 (a886_ 58 8) s0).toNat) = a 67 ((f_X11_entry_r65 a886_ b0 (a886_ 58 8) s0).toNat) := hf886_ 67 ((f_X11_entry_r65 a886_ b0 (a886_ 58 8) s0).toNat) rfl
    have h912_ : a 67 ((f_X11_entry_r65 a886_ b0 (a886_ 58 8) s0).toNat) = a0 67 ((f_X11_entry_r65 a886_ b0 (a886_ 58 8) s0).toNat) := hf 67 ((f_X11_entry_r65 a886_ b0 (a886_ 58 8) s0).toNat) rfl
    refine jt_ite (fun c913_ => ?_) (fun c913_ => ?_)
    ·
      have hf914_ : jfr jW_X11_withdraw a0 a886_ := jfr_tr hf hf886_ rfl
      exact cp_X11_withdraw_60 E d hd x1 a0 b0 hv0 s0 a886_ hv886_ hf914_ (show 0 ≤ s0 from by omega) (show s0 ≤ 299 from by omega)
    ·
      have hf915_ : jfr jW_X11_withdraw a0 a886_ := jfr_tr hf hf886_ rfl
      exact cp_X11_withdraw_58 E d hd x1 a0 b0 hv0 a886_ hv886_ hf915_
theorem sp_X11_withdraw (E : jxE) (d : Nat) (hd : Nat.ble 4 d = true) (x1 : Int) (a0 b0 : Nat → Nat → Int) (hv0 : iv a0) : jt (jxC E d 159 [.inr (.inr (.inl 0)), .inl x1] (jxSH, a0, b0)) (jQ_X11_withdraw x1 a0 b0) := by
  obtain ⟨d, rfl⟩ := jd_succ hd
  refine jt_eq (bq_X11_withdraw E d x1 a0 b0) ?_
  refine jt_eI (eq_X4_isInRing E d (jd_le hd rfl) x1 a0 b0) ?_
  have h916_ := f_X4_isInRing_eq a0 b0 x1
  have h917_ := f_X4_has_eq a0 b0 x1
  have h918_ := iv_get hv0 (k := 83) (j := 6) (l := 0) (u := 20) rfl
  refine jt_ite (fun c919_ => ?_) (fun c919_ => ?_)
  ·
    exact cp_X11_withdraw_23 E d hd x1 a0 b0 hv0 x1 (-1) a0 hv0 (jfr_rf _ _)
  ·
    refine jt_eI (eq_X4_cardOf E d (jd_le hd rfl) x1 a0 b0) ?_
    exact cp_X11_withdraw_23 E d hd x1 a0 b0 hv0 x1 (f_X4_cardOf a0 b0 x1) a0 hv0 (jfr_rf _ _)
abbrev jQ_X4_offerInRing (x1 x2 : Int) (a0 b0 : Nat → Nat → Int) : List jxV → (Nat → Nat → Int) → (Nat → Nat → Int) → Prop := rI (fun r a b => (a0 = a) ∧ (b0 = b) ∧ ((a0 83 6 = 0 → r = 0 - 1)))
theorem cp_X4_offerInRing_2 (E : jxE) (d : Nat) (hd : Nat.ble 3 (d + 1) = true) (x1 x2 : Int) (a0 b0 : Nat → Nat → Int) (hv0 : iv a0) : ∀ n : Nat, (∀ (y1 y2 y3 : Int), (((20 - y3) * 1) + 0).toNat ≤ n → 0 ≤ y3 → y3 ≤ 19 → jt (jxX E d 72 40 [some (.inr (.inr (.inl 83))), some (.inl y1), some (.inl y2), some (.inl y3)] [] (jxSH, a0, b0)) (jQ_X4_offerInRing x1 x2 a0 b0)) ∧ (∀ (y1 y2 y3 : Int), (((20 - y3) * 1) + 0).toNat ≤ n → 0 ≤ y3 → y3 ≤ 19 → 1 ≤ a0 83 6 → jt (jxX E d 72 28 [some (.inr (.inr (.inl 83))), some (.inl y1), some (.inl y2), some (.inl y3)] [] (jxSH, a0, b0)) (jQ_X4_offerInRing x1 x2 a0 b0)) ∧ (∀ (y1 y2 y3 : Int), (((20 - y3) * 1) + 0).toNat ≤ n → 0 ≤ y3 → y3 ≤ 20 → jt (jxX E d 72 2 [some (.inr (.inr (.inl 83))), some (.inl y1), some (.inl y2), some (.inl y3)] [] (jxSH, a0, b0)) (jQ_X4_offerInRing x1 x2 a0 b0)) := by
  refine jx_ind fun n ih => ?_
  have ih40 : ∀ (y1 y2 y3 : Int), (((20 - y3) * 1) + 0).toNat < n → 0 ≤ y3 → y3 ≤ 19 → jt (jxX E d 72 40 [some (.inr (.inr (.inl 83))), some (.inl y1), some (.inl y2), some (.inl y3)] [] (jxSH, a0, b0)) (jQ_X4_offerInRing x1 x2 a0 b0) := fun y1 y2 y3 hlt i0 i1 => (ih _ hlt).1 y1 y2 y3 (Nat.le_refl _) i0 i1
  have ih28 : ∀ (y1 y2 y3 : Int), (((20 - y3) * 1) + 0).toNat < n → 0 ≤ y3 → y3 ≤ 19 → 1 ≤ a0 83 6 → jt (jxX E d 72 28 [some (.inr (.inr (.inl 83))), some (.inl y1), some (.inl y2), some (.inl y3)] [] (jxSH, a0, b0)) (jQ_X4_offerInRing x1 x2 a0 b0) := fun y1 y2 y3 hlt i0 i1 i2 => (ih _ hlt).2.1 y1 y2 y3 (Nat.le_refl _) i0 i1 i2
  have ih2 : ∀ (y1 y2 y3 : Int), (((20 - y3) * 1) + 0).toNat < n → 0 ≤ y3 → y3 ≤ 20 → jt (jxX E d 72 2 [some (.inr (.inr (.inl 83))), some (.inl y1), some (.inl y2), some (.inl y3)] [] (jxSH, a0, b0)) (jQ_X4_offerInRing x1 x2 a0 b0) := fun y1 y2 y3 hlt i0 i1 => (ih _ hlt).2.2 y1 y2 y3 (Nat.le_refl _) i0 i1
  have hc40 : ∀ (y1 y2 y3 : Int), (((20 - y3) * 1) + 0).toNat ≤ n → 0 ≤ y3 → y3 ≤ 19 → jt (jxX E d 72 40 [some (.inr (.inr (.inl 83))), some (.inl y1), some (.inl y2), some (.inl y3)] [] (jxSH, a0, b0)) (jQ_X4_offerInRing x1 x2 a0 b0) := by
    intro y1 y2 y3 hm hi0 hi1
    refine jt_eq (bq_X4_offerInRing_40 E d y1 y2 y3 a0 b0) ?_
    have h920_ : jxw (y3 + 1) = y3 + 1 := jxw_id (by omega) (by omega)
    exact ih2 y1 y2 (jxw (y3 + 1)) (show (((20 - (jxw (y3 + 1))) * 1) + 0).toNat < n from by omega) (show 0 ≤ jxw (y3 + 1) from by omega) (show jxw (y3 + 1) ≤ 20 from by omega)
  have hc28 : ∀ (y1 y2 y3 : Int), (((20 - y3) * 1) + 0).toNat ≤ n → 0 ≤ y3 → y3 ≤ 19 → 1 ≤ a0 83 6 → jt (jxX E d 72 28 [some (.inr (.inr (.inl 83))), some (.inl y1), some (.inl y2), some (.inl y3)] [] (jxSH, a0, b0)) (jQ_X4_offerInRing x1 x2 a0 b0) := by
    intro y1 y2 y3 hm hi0 hi1 hi2
    refine jt_eq (bq_X4_offerInRing_28 E d y1 y2 y3 a0 b0) ?_
    have h921_ := iv_get hv0 (k := 83) (j := 6) (l := 0) (u := 20) rfl
    refine jt_grd (by omega) ?_
    refine jt_ite (fun c922_ => ?_) (fun c922_ => ?_)
    ·
      exact jt_rI ⟨rfl, rfl, (show (a0 83 6 = 0 → y3 = 0 - 1) from by omega)⟩
    ·
      exact hc40 y1 y2 y3 (show (((20 - y3) * 1) + 0).toNat ≤ n from by omega) (show 0 ≤ y3 from by omega) (show y3 ≤ 19 from by omega)
  have hc2 : ∀ (y1 y2 y3 : Int), (((20 - y3) * 1) + 0).toNat ≤ n → 0 ≤ y3 → y3 ≤ 20 → jt (jxX E d 72 2 [some (.inr (.inr (.inl 83))), some (.inl y1), some (.inl y2), some (.inl y3)] [] (jxSH, a0, b0)) (jQ_X4_offerInRing x1 x2 a0 b0) := by
    intro y1 y2 y3 hm hi0 hi1
    refine jt_eq (bq_X4_offerInRing_2 E d y1 y2 y3 a0 b0) ?_
    have h923_ := iv_get hv0 (k := 83) (j := 6) (l := 0) (u := 20) rfl
    refine jt_ite (fun c924_ => ?_) (fun c924_ => ?_)
    ·
      refine jt_eI (eq_X4_isInRing E d (jd_le hd rfl) y3 a0 b0) ?_
      have h925_ := f_X4_isInRing_eq a0 b0 y3
      have h926_ := f_X4_has_eq a0 b0 y3
      refine jt_ite (fun c927_ => ?_) (fun c927_ => ?_)
      ·
        exact hc40 y1 y2 y3 (show (((20 - y3) * 1) + 0).toNat ≤ n from by omega) (show 0 ≤ y3 from by omega) (show y3 ≤ 19 from by omega)
      ·
        refine jt_grd (by omega) ?_
        refine jt_ite (fun c928_ => ?_) (fun c928_ => ?_)
        ·
          exact hc28 y1 y2 y3 (show (((20 - y3) * 1) + 0).toNat ≤ n from by omega) (show 0 ≤ y3 from by omega) (show y3 ≤ 19 from by omega) (show 1 ≤ a0 83 6 from by omega)
        ·
          exact hc40 y1 y2 y3 (show (((20 - y3) * 1) + 0).toNat ≤ n from by omega) (show 0 ≤ y3 from by omega) (show y3 ≤ 19 from by omega)
    ·
      exact jt_rI ⟨rfl, rfl, (show (a0 83 6 = 0 → (-1) = 0 - 1) from by omega)⟩
  exact ⟨hc40, hc28, hc2⟩
theorem sp_X4_offerInRing (E : jxE) (d : Nat) (hd : Nat.ble 3 d = true) (x1 x2 : Int) (a0 b0 : Nat → Nat → Int) (hv0 : iv a0) : jt (jxC E d 72 [.inr (.inr (.inl 83)), .inl x1, .inl x2] (jxSH, a0, b0)) (jQ_X4_offerInRing x1 x2 a0 b0) := by
  obtain ⟨d, rfl⟩ := jd_succ hd
  refine jt_eq (bq_X4_offerInRing E d x1 x2 a0 b0) ?_
  exact (cp_X4_offerInRing_2 E d hd x1 x2 a0 b0 hv0 _).2.2 x1 x2 0 (Nat.le_refl _) (show 0 ≤ 0 from by omega) (show 0 ≤ 20 from by omega)
def jW_X11_drop : List (Nat × Nat) := [(9, 9999), (64, 9999), (87, 9999), (88, 9999), (89, 9999)]
abbrev jQ_X11_drop (x1 x2 : Int) (a0 b0 : Nat → Nat → Int) : List jxV → (Nat → Nat → Int) → (Nat → Nat → Int) → Prop := rI (fun r a b => (iv a) ∧ (jfr jW_X11_drop a0 a) ∧ (b0 = b) ∧ ((a0 83 6 = 0 → r = 0 - 1)))
theorem sp_X11_drop (E : jxE) (d : Nat) (hd : Nat.ble 5 d = true) (x1 x2 : Int) (a0 b0 : Nat → Nat → Int) (hv0 : iv a0) : jt (jxC E d 189 [.inr (.inr (.inl 0)), .inl x1, .inl x2] (jxSH, a0, b0)) (jQ_X11_drop x1 x2 a0 b0) := by
  obtain ⟨d, rfl⟩ := jd_succ hd
  refine jt_eq (bq_X11_drop E d x1 x2 a0 b0) ?_
  refine jt_bI (sp_X4_offerInRing E d (jd_le hd rfl) x1 x2 a0 b0 hv0) (fun r929_ a929_ b929_ h929_ => ?_)
  obtain ⟨rfl, rfl, hq929_0⟩ := h929_
  have h930_ := iv_get hv0 (k := 83) (j := 6) (l := 0) (u := 20) rfl
  refine jt_ite (fun c931_ => ?_) (fun c931_ => ?_)
  ·
    exact jt_rI ⟨hv0, (jfr_rf _ _), rfl, (show (a0 83 6 = 0 → (-1) = 0 - 1) from by omega)⟩
  ·
    refine jt_bI (sp_X11_withdraw E d (jd_le hd rfl) r929_ a0 b0 hv0) (fun r932_ a932_ b932_ h932_ => ?_)
    obtain ⟨hv932_, hf932_, rfl⟩ := h932_
    have hf933_ : jfr jW_X11_drop a0 a932_ := jfr_tr (jfr_rf _ _) hf932_ rfl
    exact jt_rI ⟨hv932_, hf933_, rfl, (show (a0 83 6 = 0 → r932_ = 0 - 1) from by omega)⟩
def jW_X8_cut : List (Nat × Nat) := [(2, 1)]
abbrev jQ_X8_cut (x1 : Int) (a0 b0 : Nat → Nat → Int) : List jxV → (Nat → Nat → Int) → (Nat → Nat → Int) → Prop := rV (fun a b => (iv a) ∧ (jfr jW_X8_cut a0 a) ∧ (b0 = b) ∧ ((((0 ≤ x1 ∧ x1 ≤ a0 2 1) ∧ a 2 1 = x1) ∨ ((x1 < 0 ∨ a0 2 1 < x1) ∧ a 2 1 = a0 2 1))))
theorem sp_X8_cut (E : jxE) (d : Nat) (hd : Nat.ble 1 d = true) (x1 : Int) (a0 b0 : Nat → Nat → Int) (hv0 : iv a0) : jt (jxC E d 120 [.inr (.inr (.inl 2)), .inl x1] (jxSH, a0, b0)) (jQ_X8_cut x1 a0 b0) := by
  obtain ⟨d, rfl⟩ := jd_succ hd
  refine jt_eq (bq_X8_cut E d x1 a0 b0) ?_
  refine jt_ite (fun c934_ => ?_) (fun c934_ => ?_)
  ·
    have h935_ := iv_get hv0 (k := 2) (j := 1) (l := 0) (u := 200) rfl
    exact jt_rV ⟨hv0, (jfr_rf _ _), rfl, (show (((0 ≤ x1 ∧ x1 ≤ a0 2 1) ∧ a0 2 1 = x1) ∨ ((x1 < 0 ∨ a0 2 1 < x1) ∧ a0 2 1 = a0 2 1)) from by omega)⟩
  ·
    have h936_ := iv_get hv0 (k := 2) (j := 1) (l := 0) (u := 200) rfl
    refine jt_ite (fun c937_ => ?_) (fun c937_ => ?_)
    ·
      exact jt_rV ⟨hv0, (jfr_rf _ _), rfl, (show (((0 ≤ x1 ∧ x1 ≤ a0 2 1) ∧ a0 2 1 = x1) ∨ ((x1 < 0 ∨ a0 2 1 < x1) ∧ a0 2 1 = a0 2 1)) from by omega)⟩
    ·
      have hv938_ : iv (jxu a0 2 1 x1) := iv_put hv0 (l := 0) (u := 200) rfl (by omega) (by omega)
      have hf939_ : jfr jW_X8_cut a0 (jxu a0 2 1 x1) := jfr_put (jfr_rf _ _) rfl
      exact jt_rV ⟨hv938_, hf939_, rfl, (show (((0 ≤ x1 ∧ x1 ≤ a0 2 1) ∧ x1 = x1) ∨ ((x1 < 0 ∨ a0 2 1 < x1) ∧ x1 = a0 2 1)) from by omega)⟩
def jW_X11_end : List (Nat × Nat) := [(2, 1)]
abbrev jQ_X11_end (x1 : Int) (a0 b0 : Nat → Nat → Int) : List jxV → (Nat → Nat → Int) → (Nat → Nat → Int) → Prop := rI (fun r a b => (iv a) ∧ (jfr jW_X11_end a0 a) ∧ (b0 = b) ∧ (((((0 ≤ x1 ∧ x1 ≤ a0 2 1) ∧ r = x1) ∧ a 2 1 = x1) ∨ (((x1 < 0 ∨ a0 2 1 < x1) ∧ r = 0 - 1) ∧ a 2 1 = a0 2 1))))
theorem sp_X11_end (E : jxE) (d : Nat) (hd : Nat.ble 2 d = true) (x1 : Int) (a0 b0 : Nat → Nat → Int) (hv0 : iv a0) : jt (jxC E d 161 [.inr (.inr (.inl 0)), .inl x1] (jxSH, a0, b0)) (jQ_X11_end x1 a0 b0) := by
  obtain ⟨d, rfl⟩ := jd_succ hd
  refine jt_eq (bq_X11_end E d x1 a0 b0) ?_
  refine jt_eI (eq_X8_length E d (jd_le hd rfl) a0 b0) ?_
  refine jt_eI (eq_X11_within E d (jd_le hd rfl) x1 0 (f_X8_length a0 b0) a0 b0) ?_
  have h940_ := f_X8_length_eq a0 b0
  have h941_ := iv_get hv0 (k := 2) (j := 1) (l := 0) (u := 200) rfl
  have h942_ := f_X11_within_eq a0 b0 x1 0 (f_X8_length a0 b0)
  refine jt_ite (fun c943_ => ?_) (fun c943_ => ?_)
  ·
    exact jt_rI ⟨hv0, (jfr_rf _ _), rfl, (show ((((0 ≤ x1 ∧ x1 ≤ a0 2 1) ∧ (-1) = x1) ∧ a0 2 1 = x1) ∨ (((x1 < 0 ∨ a0 2 1 < x1) ∧ (-1) = 0 - 1) ∧ a0 2 1 = a0 2 1)) from by omega)⟩
  ·
    refine jt_bV (sp_X8_cut E d (jd_le hd rfl) x1 a0 b0 hv0) (fun a944_ b944_ h944_ => ?_)
    obtain ⟨hv944_, hf944_, rfl, hq944_0⟩ := h944_
    have h945_ := iv_get hv944_ (k := 2) (j := 1) (l := 0) (u := 200) rfl
    have hf946_ : jfr jW_X11_end a0 a944_ := jfr_tr (jfr_rf _ _) hf944_ rfl
    exact jt_rI ⟨hv944_, hf946_, rfl, (show ((((0 ≤ x1 ∧ x1 ≤ a0 2 1) ∧ x1 = x1) ∧ a944_ 2 1 = x1) ∨ (((x1 < 0 ∨ a0 2 1 < x1) ∧ x1 = 0 - 1) ∧ a944_ 2 1 = a0 2 1)) from by omega)⟩
def jWe_X11_far : List (Nat × Nat) := []
def jW_X11_far : List (Nat × Nat) := [(1, 9999)]
abbrev jQ_X11_far (x1 x2 x3 : Int) (a0 b0 : Nat → Nat → Int) : List jxV → (Nat → Nat → Int) → (Nat → Nat → Int) → Prop := rI (fun r a b => (iv a) ∧ (jfr jW_X11_far a0 a) ∧ (b0 = b) ∧ (FarP (a0 1) (a 1) x1 x2 x3 r))
theorem cp_X11_far_29 (E : jxE) (d : Nat) (hd : Nat.ble 3 (d + 1) = true) (x1 x2 x3 : Int) (a0 b0 : Nat → Nat → Int) (hv0 : iv a0) : ∀ (a : Nat → Nat → Int), iv a → jfr jW_X11_far a0 a → ((((((x1 < 0 ∨ 15 < x1) ∨ x2 < 0) ∨ 15 < x2) ∨ x1 = x2) ∨ x3 < 0) ∨ 99 < x3) → (jfr jWe_X11_far a0 a) → jt (jxX E d 155 29 [none, none, none, none, none] [] (jxSH, a, b0)) (jQ_X11_far x1 x2 x3 a0 b0) := by
  intro a hv hf hi0 hfe
  refine jt_eq (bq_X11_far_29 E d a b0) ?_
  exact jt_rI ⟨hv, hf, rfl, (Or.inr ⟨by omega, rfl, fun j => hfe 1 j rfl⟩)⟩
theorem cp_X11_far_56 (E : jxE) (d : Nat) (hd : Nat.ble 3 (d + 1) = true) (x1 x2 x3 : Int) (a0 b0 : Nat → Nat → Int) (hv0 : iv a0) : ∀ (y1 y2 y3 y4 : Int) (a : Nat → Nat → Int), iv a → jfr jW_X11_far a0 a → 0 ≤ y1 → y1 ≤ 15 → 0 ≤ y2 → y2 ≤ 15 → 0 ≤ y3 → y3 ≤ 99 → 0 ≤ y4 → y4 ≤ 99 → y1 = x1 → y2 = x2 → y3 = x3 → ((((((0 ≤ x1 ∧ x1 ≤ 15) ∧ 0 ≤ x2) ∧ x2 ≤ 15) ∧ ¬ x1 = x2) ∧ 0 ≤ x3) ∧ x3 ≤ 99) → (∀ j, a 1 j = if j = (16 * x1 + x2).toNat then x3 else a0 1 j) → (y4 = a0 1 (16 * x1 + x2).toNat) → jt (jxX E d 155 56 [some (.inr (.inr (.inl 0))), some (.inl y1), some (.inl y2), some (.inl y3), some (.inl y4)] [] (jxSH, a, b0)) (jQ_X11_far x1 x2 x3 a0 b0) := by
  intro y1 y2 y3 y4 a hv hf hi0 hi1 hi2 hi3 hi4 hi5 hi6 hi7 hi8 hi9 hi10 hi11 hf56 hy4
  refine jt_eq (bq_X11_far_56 E d y1 y2 y3 y4 a b0) ?_
  have hix2 : (jxw ((jxw (y2 * 16)) + y1)).toNat = (16 * x2 + x1).toNat := by rw [jxw_id (x := y2 * 16) (by omega) (by omega), jxw_id (by omega) (by omega)]; omega
  have h947_ : jxw (y2 * 16) = y2 * 16 := jxw_id (by omega) (by omega)
  have h948_ : jxw ((jxw (y2 * 16)) + y1) = (jxw (y2 * 16)) + y1 := jxw_id (by omega) (by omega)
  refine jt_grd (by omega) ?_
  have hv949_ : iv (jxu a 1 ((jxw ((jxw (y2 * 16)) + y1)).toNat) y3) := iv_put hv (l := 0) (u := 99) rfl (by omega) (by omega)
  have hf950_ : jfr jW_X11_far a0 (jxu a 1 ((jxw ((jxw (y2 * 16)) + y1)).toNat) y3) := jfr_put hf rfl
  exact jt_rI ⟨hv949_, hf950_, rfl, (Or.inl ⟨by omega, by omega, by omega, by omega, by omega, by omega, by omega, hy4, fun j => by rw [hix2]; simp only [jxu]; rw [hf56 j, show y3 = x3 from (by omega)]; simp⟩)⟩
theorem cp_X11_far_31 (E : jxE) (d : Nat) (hd : Nat.ble 3 (d + 1) = true) (x1 x2 x3 : Int) (a0 b0 : Nat → Nat → Int) (hv0 : iv a0) : ∀ (y1 y2 y3 : Int) (a : Nat → Nat → Int), iv a → jfr jW_X11_far a0 a → 0 ≤ y1 → y1 ≤ 15 → 0 ≤ y2 → y2 ≤ 15 → 0 ≤ y3 → y3 ≤ 99 → y1 = x1 → y2 = x2 → y3 = x3 → ((((((0 ≤ x1 ∧ x1 ≤ 15) ∧ 0 ≤ x2) ∧ x2 ≤ 15) ∧ ¬ x1 = x2) ∧ 0 ≤ x3) ∧ x3 ≤ 99) → (jfr jWe_X11_far a0 a) → jt (jxX E d 155 31 [some (.inr (.inr (.inl 0))), some (.inl y1), some (.inl y2), some (.inl y3), none] [] (jxSH, a, b0)) (jQ_X11_far x1 x2 x3 a0 b0) := by
  intro y1 y2 y3 a hv hf hi0 hi1 hi2 hi3 hi4 hi5 hi6 hi7 hi8 hi9 hfe
  refine jt_eq (bq_X11_far_31 E d y1 y2 y3 a b0) ?_
  have hix : (jxw ((jxw (y1 * 16)) + y2)).toNat = (16 * x1 + x2).toNat := by rw [jxw_id (x := y1 * 16) (by omega) (by omega), jxw_id (by omega) (by omega)]; omega
  have h951_ : jxw (y1 * 16) = y1 * 16 := jxw_id (by omega) (by omega)
  have h952_ : jxw ((jxw (y1 * 16)) + y2) = (jxw (y1 * 16)) + y2 := jxw_id (by omega) (by omega)
  refine jt_grd (by omega) ?_
  refine jt_grd (by omega) ?_
  have hv953_ : iv (jxu a 1 ((jxw ((jxw (y1 * 16)) + y2)).toNat) y3) := iv_put hv (l := 0) (u := 99) rfl (by omega) (by omega)
  have hf954_ : jfr jW_X11_far a0 (jxu a 1 ((jxw ((jxw (y1 * 16)) + y2)).toNat) y3) := jfr_put hf rfl
  have h955_ := iv_get hv (k := 1) (j := (jxw ((jxw (y1 * 16)) + y2)).toNat) (l := 0) (u := 99) rfl
  exact cp_X11_far_56 E d hd x1 x2 x3 a0 b0 hv0 y1 y2 y3 (a 1 ((jxw ((jxw (y1 * 16)) + y2)).toNat)) (jxu a 1 ((jxw ((jxw (y1 * 16)) + y2)).toNat) y3) hv953_ hf954_ (show 0 ≤ y1 from by omega) (show y1 ≤ 15 from by omega) (show 0 ≤ y2 from by omega) (show y2 ≤ 15 from by omega) (show 0 ≤ y3 from by omega) (show y3 ≤ 99 from by omega) (show 0 ≤ a 1 ((jxw ((jxw (y1 * 16)) + y2)).toNat) from by omega) (show a 1 ((jxw ((jxw (y1 * 16)) + y2)).toNat) ≤ 99 from by omega) (show y1 = x1 from by omega) (show y2 = x2 from by omega) (show y3 = x3 from by omega) (show ((((((0 ≤ x1 ∧ x1 ≤ 15) ∧ 0 ≤ x2) ∧ x2 ≤ 15) ∧ ¬ x1 = x2) ∧ 0 ≤ x3) ∧ x3 ≤ 99) from by omega) (by intro j; rw [hix]; simp only [jxu]; rw [hfe 1 j rfl, show y3 = x3 from (by omega)]; simp) (by rw [hix]; exact hfe 1 _ rfl)
theorem sp_X11_far (E : jxE) (d : Nat) (hd : Nat.ble 3 d = true) (x1 x2 x3 : Int) (a0 b0 : Nat → Nat → Int) (hv0 : iv a0) : jt (jxC E d 155 [.inr (.inr (.inl 0)), .inl x1, .inl x2, .inl x3] (jxSH, a0, b0)) (jQ_X11_far x1 x2 x3 a0 b0) := by
  obtain ⟨d, rfl⟩ := jd_succ hd
  refine jt_eq (bq_X11_far E d x1 x2 x3 a0 b0) ?_
  refine jt_eI (eq_X11_isLand E d (jd_le hd rfl) x1 a0 b0) ?_
  have h956_ := f_X11_isLand_eq a0 b0 x1
  have h957_ := f_X11_within_eq a0 b0 x1 0 15
  refine jt_ite (fun c958_ => ?_) (fun c958_ => ?_)
  ·
    exact cp_X11_far_29 E d hd x1 x2 x3 a0 b0 hv0 a0 hv0 (jfr_rf _ _) (show ((((((x1 < 0 ∨ 15 < x1) ∨ x2 < 0) ∨ 15 < x2) ∨ x1 = x2) ∨ x3 < 0) ∨ 99 < x3) from by omega) (jfr_rf _ _)
  ·
    refine jt_eI (eq_X11_isLand E d (jd_le hd rfl) x2 a0 b0) ?_
    have h959_ := f_X11_isLand_eq a0 b0 x2
    have h960_ := f_X11_within_eq a0 b0 x2 0 15
    refine jt_ite (fun c961_ => ?_) (fun c961_ => ?_)
    ·
      exact cp_X11_far_29 E d hd x1 x2 x3 a0 b0 hv0 a0 hv0 (jfr_rf _ _) (show ((((((x1 < 0 ∨ 15 < x1) ∨ x2 < 0) ∨ 15 < x2) ∨ x1 = x2) ∨ x3 < 0) ∨ 99 < x3) from by omega) (jfr_rf _ _)
    ·
      refine jt_ite (fun c962_ => ?_) (fun c962_ => ?_)
      ·
        exact cp_X11_far_29 E d hd x1 x2 x3 a0 b0 hv0 a0 hv0 (jfr_rf _ _) (show ((((((x1 < 0 ∨ 15 < x1) ∨ x2 < 0) ∨ 15 < x2) ∨ x1 = x2) ∨ x3 < 0) ∨ 99 < x3) from by omega) (jfr_rf _ _)
      ·
        refine jt_eI (eq_X11_within E d (jd_le hd rfl) x3 0 99 a0 b0) ?_
        have h963_ := f_X11_within_eq a0 b0 x3 0 99
        refine jt_ite (fun c964_ => ?_) (fun c964_ => ?_)
        ·
          exact cp_X11_far_29 E d hd x1 x2 x3 a0 b0 hv0 a0 hv0 (jfr_rf _ _) (show ((((((x1 < 0 ∨ 15 < x1) ∨ x2 < 0) ∨ 15 < x2) ∨ x1 = x2) ∨ x3 < 0) ∨ 99 < x3) from by omega) (jfr_rf _ _)
        ·
          exact cp_X11_far_31 E d hd x1 x2 x3 a0 b0 hv0 x1 x2 x3 a0 hv0 (jfr_rf _ _) (show 0 ≤ x1 from by omega) (show x1 ≤ 15 from by omega) (show 0 ≤ x2 from by omega) (show x2 ≤ 15 from by omega) (show 0 ≤ x3 from by omega) (show x3 ≤ 99 from by omega) (show x1 = x1 from by omega) (show x2 = x2 from by omega) (show x3 = x3 from by omega) (show ((((((0 ≤ x1 ∧ x1 ≤ 15) ∧ 0 ≤ x2) ∧ x2 ≤ 15) ∧ ¬ x1 = x2) ∧ 0 ≤ x3) ∧ x3 ≤ 99) from by omega) (jfr_rf _ _)
def jW_X8_append : List (Nat × Nat) := [(2, 1), (3, 9999)]
abbrev jQ_X8_append (x1 : Int) (a0 b0 : Nat → Nat → Int) : List jxV → (Nat → Nat → Int) → (Nat → Nat → Int) → Prop := rV (fun a b => (iv a) ∧ (jfr jW_X8_append a0 a) ∧ (b0 = b) ∧ ((a0 2 1 ≤ 196 → a 2 1 = (a0 2 1) + 4)) ∧ (a0 2 1 ≤ 196 → APP (a0 3) (a 3) (a0 2 1) x1 (a0 2 1 + 4)))
theorem cp_X8_append_3 (E : jxE) (d : Nat) (hd : Nat.ble 1 (d + 1) = true) (x1 : Int) (a0 b0 : Nat → Nat → Int) (hv0 : iv a0) : ∀ n : Nat, (∀ (y1 y2 : Int) (a : Nat → Nat → Int), (((y2 + 8) * 1) + 0).toNat ≤ n → iv a → jfr jW_X8_append a0 a → 0 ≤ y2 → y2 ≤ 24 → 1 ≤ a 2 1 → (a0 2 1 ≤ 196 → (8 * (a 2 1)) + y2 = (8 * (a0 2 1)) + 32) → 0 ≤ y2 → (y1 = x1) → (a0 2 1 ≤ 196 → APP (a0 3) (a 3) (a0 2 1) x1 (a 2 1)) → jt (jxX E d 119 42 [some (.inr (.inr (.inl 2))), some (.inl y1), some (.inl y2)] [] (jxSH, a, b0)) (jQ_X8_append x1 a0 b0)) ∧ (∀ (y1 y2 : Int) (a : Nat → Nat → Int), (((y2 + 8) * 1) + 0).toNat ≤ n → iv a → jfr jW_X8_append a0 a → 0 - 8 ≤ y2 → y2 ≤ 24 → (a0 2 1 ≤ 196 → (8 * (a 2 1)) + y2 = (8 * (a0 2 1)) + 24) → (y1 = x1) → (a0 2 1 ≤ 196 → APP (a0 3) (a 3) (a0 2 1) x1 (a 2 1)) → jt (jxX E d 119 3 [some (.inr (.inr (.inl 2))), some (.inl y1), some (.inl y2)] [] (jxSH, a, b0)) (jQ_X8_append x1 a0 b0)) := by
  refine jx_ind fun n ih => ?_
  have ih42 : ∀ (y1 y2 : Int) (a : Nat → Nat → Int), (((y2 + 8) * 1) + 0).toNat < n → iv a → jfr jW_X8_append a0 a → 0 ≤ y2 → y2 ≤ 24 → 1 ≤ a 2 1 → (a0 2 1 ≤ 196 → (8 * (a 2 1)) + y2 = (8 * (a0 2 1)) + 32) → 0 ≤ y2 → (y1 = x1) → (a0 2 1 ≤ 196 → APP (a0 3) (a 3) (a0 2 1) x1 (a 2 1)) → jt (jxX E d 119 42 [some (.inr (.inr (.inl 2))), some (.inl y1), some (.inl y2)] [] (jxSH, a, b0)) (jQ_X8_append x1 a0 b0) := fun y1 y2 a hlt i0 i1 i2 i3 i4 i5 i6 i7 i8 => (ih _ hlt).1 y1 y2 a (Nat.le_refl _) i0 i1 i2 i3 i4 i5 i6 i7 i8
  have ih3 : ∀ (y1 y2 : Int) (a : Nat → Nat → Int), (((y2 + 8) * 1) + 0).toNat < n → iv a → jfr jW_X8_append a0 a → 0 - 8 ≤ y2 → y2 ≤ 24 → (a0 2 1 ≤ 196 → (8 * (a 2 1)) + y2 = (8 * (a0 2 1)) + 24) → (y1 = x1) → (a0 2 1 ≤ 196 → APP (a0 3) (a 3) (a0 2 1) x1 (a 2 1)) → jt (jxX E d 119 3 [some (.inr (.inr (.inl 2))), some (.inl y1), some (.inl y2)] [] (jxSH, a, b0)) (jQ_X8_append x1 a0 b0) := fun y1 y2 a hlt i0 i1 i2 i3 i4 i5 i6 => (ih _ hlt).2 y1 y2 a (Nat.le_refl _) i0 i1 i2 i3 i4 i5 i6
  have hc42 : ∀ (y1 y2 : Int) (a : Nat → Nat → Int), (((y2 + 8) * 1) + 0).toNat ≤ n → iv a → jfr jW_X8_append a0 a → 0 ≤ y2 → y2 ≤ 24 → 1 ≤ a 2 1 → (a0 2 1 ≤ 196 → (8 * (a 2 1)) + y2 = (8 * (a0 2 1)) + 32) → 0 ≤ y2 → (y1 = x1) → (a0 2 1 ≤ 196 → APP (a0 3) (a 3) (a0 2 1) x1 (a 2 1)) → jt (jxX E d 119 42 [some (.inr (.inr (.inl 2))), some (.inl y1), some (.inl y2)] [] (jxSH, a, b0)) (jQ_X8_append x1 a0 b0) := by
    intro y1 y2 a hm hv hf hi0 hi1 hi2 hi3 hi4 hy1 hap
    refine jt_eq (bq_X8_append_42 E d y1 y2 a b0) ?_
    have h965_ := iv_get hv (k := 2) (j := 1) (l := 0) (u := 200) rfl
    have h966_ := iv_get hv0 (k := 2) (j := 1) (l := 0) (u := 200) rfl
    have h967_ : jxw (y2 + (-8)) = y2 + (-8) := jxw_id (by omega) (by omega)
    exact ih3 y1 (jxw (y2 + (-8))) a (show ((((jxw (y2 + (-8))) + 8) * 1) + 0).toNat < n from by omega) hv hf (show 0 - 8 ≤ jxw (y2 + (-8)) from by omega) (show jxw (y2 + (-8)) ≤ 24 from by omega) (show (a0 2 1 ≤ 196 → (8 * (a 2 1)) + (jxw (y2 + (-8))) = (8 * (a0 2 1)) + 24) from by omega) (by first | rfl | assumption) hap
  have hc3 : ∀ (y1 y2 : Int) (a : Nat → Nat → Int), (((y2 + 8) * 1) + 0).toNat ≤ n → iv a → jfr jW_X8_append a0 a → 0 - 8 ≤ y2 → y2 ≤ 24 → (a0 2 1 ≤ 196 → (8 * (a 2 1)) + y2 = (8 * (a0 2 1)) + 24) → (y1 = x1) → (a0 2 1 ≤ 196 → APP (a0 3) (a 3) (a0 2 1) x1 (a 2 1)) → jt (jxX E d 119 3 [some (.inr (.inr (.inl 2))), some (.inl y1), some (.inl y2)] [] (jxSH, a, b0)) (jQ_X8_append x1 a0 b0) := by
    intro y1 y2 a hm hv hf hi0 hi1 hi2 hy1 hap
    refine jt_eq (bq_X8_append_3 E d y1 y2 a b0) ?_
    have h968_ := iv_get hv0 (k := 2) (j := 1) (l := 0) (u := 200) rfl
    have h969_ := iv_get hv (k := 2) (j := 1) (l := 0) (u := 200) rfl
    refine jt_ite (fun c970_ => ?_) (fun c970_ => ?_)
    ·
      exact jt_rV ⟨hv, hf, rfl, (show (a0 2 1 ≤ 196 → a 2 1 = (a0 2 1) + 4) from by omega), (fun h => by rw [show a0 2 1 + 4 = a 2 1 from by omega]; exact hap h)⟩
    ·
      refine jt_ite (fun c971_ => ?_) (fun c971_ => ?_)
      ·
        refine jt_grd (by omega) ?_
        have h973_ : jxw ((a 2 1) + 1) = (a 2 1) + 1 := jxw_id (by omega) (by omega)
        have hv972_ : iv (jxu a 2 1 (jxw ((a 2 1) + 1))) := iv_put hv (l := 0) (u := 200) rfl (by omega) (by omega)
        have h975_ := jxshr_b y1 y2
        have h976_ := jxand_r (jxshr y1 y2) 255 (by decide) (by decide)
        have hv974_ : iv (jxu (jxu a 2 1 (jxw ((a 2 1) + 1))) 3 ((a 2 1).toNat) (jxand (jxshr y1 y2) 255)) := iv_put hv972_ (l := 0) (u := 255) rfl (by omega) (by omega)
        have hf977_ : jfr jW_X8_append a0 (jxu a 2 1 (jxw ((a 2 1) + 1))) := jfr_put hf rfl
        have hf978_ : jfr jW_X8_append a0 (jxu (jxu a 2 1 (jxw ((a 2 1) + 1))) 3 ((a 2 1).toNat) (jxand (jxshr y1 y2) 255)) := jfr_put hf977_ rfl
        exact hc42 y1 y2 (jxu (jxu a 2 1 (jxw ((a 2 1) + 1))) 3 ((a 2 1).toNat) (jxand (jxshr y1 y2) 255)) (show (((y2 + 8) * 1) + 0).toNat ≤ n from by omega) hv974_ hf978_ (show 0 ≤ y2 from by omega) (show y2 ≤ 24 from by omega) (show 1 ≤ jxw ((a 2 1) + 1) from by omega) (show (a0 2 1 ≤ 196 → (8 * (jxw ((a 2 1) + 1))) + y2 = (8 * (a0 2 1)) + 32) from by omega) (show 0 ≤ y2 from by omega) (by first | rfl | assumption) (fun h => by rw [show jxu (jxu a 2 1 (jxw ((a 2 1) + 1))) 3 ((a 2 1).toNat) (jxand (jxshr y1 y2) 255) 2 1 = a 2 1 + 1 from (show jxw ((a 2 1) + 1) = _ from by omega)]; exact APP_s (s := y2) (hap h) (UP_put (fun _ => rfl)) (by omega) (by omega) (by omega) (by rw [← hy1]))
      ·
        exact hc42 y1 y2 a (show (((y2 + 8) * 1) + 0).toNat ≤ n from by omega) hv hf (show 0 ≤ y2 from by omega) (show y2 ≤ 24 from by omega) (show 1 ≤ a 2 1 from by omega) (show (a0 2 1 ≤ 196 → (8 * (a 2 1)) + y2 = (8 * (a0 2 1)) + 32) from by omega) (show 0 ≤ y2 from by omega) (by first | rfl | assumption) (fun h => absurd h (by omega))
  exact ⟨hc42, hc3⟩
theorem sp_X8_append (E : jxE) (d : Nat) (hd : Nat.ble 1 d = true) (x1 : Int) (a0 b0 : Nat → Nat → Int) (hv0 : iv a0) : jt (jxC E d 119 [.inr (.inr (.inl 2)), .inl x1] (jxSH, a0, b0)) (jQ_X8_append x1 a0 b0) := by
  obtain ⟨d, rfl⟩ := jd_succ hd
  refine jt_eq (bq_X8_append E d x1 a0 b0) ?_
  have h979_ := iv_get hv0 (k := 2) (j := 1) (l := 0) (u := 200) rfl
  exact (cp_X8_append_3 E d hd x1 a0 b0 hv0 _).2 x1 24 a0 (Nat.le_refl _) hv0 (jfr_rf _ _) (show 0 - 8 ≤ 24 from by omega) (show 24 ≤ 24 from by omega) (show (a0 2 1 ≤ 196 → (8 * (a0 2 1)) + 24 = (8 * (a0 2 1)) + 24) from by omega) (by first | rfl | assumption) (fun _ => APP_0 _ _ _)
def jW_X11_feed : List (Nat × Nat) := [(2, 1), (3, 9999)]
abbrev jQ_X11_feed (x1 x2 x3 x4 x5 : Int) (a0 b0 : Nat → Nat → Int) : List jxV → (Nat → Nat → Int) → (Nat → Nat → Int) → Prop := rI (fun r a b => (iv a) ∧ (jfr jW_X11_feed a0 a) ∧ (b0 = b) ∧ ((((a0 2 1 ≤ 180 ∧ r = (a0 2 1) + 20) ∧ a 2 1 = (a0 2 1) + 20) ∨ ((180 < a0 2 1 ∧ r = 0 - 1) ∧ a 2 1 = a0 2 1))) ∧ (a0 2 1 ≤ 180 → FED (a0 3) (a 3) (a0 2 1) x1 x2 x3 x4 x5) ∧ (180 < a0 2 1 → ∀ j, a 3 j = a0 3 j))
theorem cp_X11_feed_38 (E : jxE) (d : Nat) (hd : Nat.ble 2 (d + 1) = true) (x1 x2 x3 x4 x5 : Int) (a0 b0 : Nat → Nat → Int) (hv0 : iv a0) : ∀ (y4 y5 : Int) (a : Nat → Nat → Int), iv a → jfr jW_X11_feed a0 a → a 2 1 = (a0 2 1) + 12 → a0 2 1 ≤ 180 → (∃ g1 g2 : Nat → Int, APP (a0 3) g1 (a0 2 1) x1 ((a0 2 1) + 4) ∧ APP g1 g2 ((a0 2 1) + 4) x2 ((a0 2 1) + 8) ∧ APP g2 (a 3) ((a0 2 1) + 8) x3 ((a0 2 1) + 12)) → (y4 = x4) → (y5 = x5) → jt (jxX E d 160 38 [some (.inr (.inr (.inl 0))), none, none, none, some (.inl y4), some (.inl y5)] [] (jxSH, a, b0)) (jQ_X11_feed x1 x2 x3 x4 x5 a0 b0) := by
  intro y4 y5 a hv hf hi0 hi1 hfd hy4 hy5
  refine jt_eq (bq_X11_feed_38 E d y4 y5 a b0) ?_
  have h980_ := iv_get hv (k := 2) (j := 1) (l := 0) (u := 200) rfl
  have h981_ := iv_get hv0 (k := 2) (j := 1) (l := 0) (u := 200) rfl
  refine jt_bV (sp_X8_append E d (jd_le hd rfl) y4 a b0 hv) (fun a982_ b982_ h982_ => ?_)
  obtain ⟨hv982_, hf982_, rfl, hq982_0, hq982_1⟩ := h982_
  have h983_ := iv_get hv982_ (k := 2) (j := 1) (l := 0) (u := 200) rfl
  refine jt_bV (sp_X8_append E d (jd_le hd rfl) y5 a982_ b0 hv982_) (fun a984_ b984_ h984_ => ?_)
  obtain ⟨hv984_, hf984_, rfl, hq984_0, hq984_1⟩ := h984_
  have h985_ := iv_get hv984_ (k := 2) (j := 1) (l := 0) (u := 200) rfl
  refine jt_eI (eq_X8_length E d (jd_le hd rfl) a984_ b0) ?_
  have hf986_ : jfr jW_X11_feed a0 a982_ := jfr_tr hf hf982_ rfl
  have hf987_ : jfr jW_X11_feed a0 a984_ := jfr_tr hf986_ hf984_ rfl
  have h988_ := f_X8_length_eq a984_ b0
  exact jt_rI ⟨hv984_, hf987_, rfl, (show (((a0 2 1 ≤ 180 ∧ f_X8_length a984_ b0 = (a0 2 1) + 20) ∧ a984_ 2 1 = (a0 2 1) + 20) ∨ ((180 < a0 2 1 ∧ f_X8_length a984_ b0 = 0 - 1) ∧ a984_ 2 1 = a0 2 1)) from by omega), (fun _ => by obtain ⟨g1, g2, p1, p2, p3⟩ := hfd; subst hy4; subst hy5; exact ⟨g1, g2, (a 3), (a982_ 3), p1, p2, p3, APP_c (hq982_1 (by omega)) (by omega) (by omega), APP_c (hq984_1 (by omega)) (by omega) (by omega)⟩), (fun h => absurd h (by omega))⟩
theorem sp_X11_feed (E : jxE) (d : Nat) (hd : Nat.ble 2 d = true) (x1 x2 x3 x4 x5 : Int) (a0 b0 : Nat → Nat → Int) (hv0 : iv a0) : jt (jxC E d 160 [.inr (.inr (.inl 0)), .inl x1, .inl x2, .inl x3, .inl x4, .inl x5] (jxSH, a0, b0)) (jQ_X11_feed x1 x2 x3 x4 x5 a0 b0) := by
  obtain ⟨d, rfl⟩ := jd_succ hd
  refine jt_eq (bq_X11_feed E d x1 x2 x3 x4 x5 a0 b0) ?_
  refine jt_eI (eq_X8_hasRoom E d (jd_le hd rfl) 20 a0 b0) ?_
  have h989_ := f_X8_hasRoom_eq a0 b0 20
  have h990_ := iv_get hv0 (k := 2) (j := 1) (l := 0) (u := 200) rfl
  have h991_ : jxw (200 - (a0 2 1)) = 200 - (a0 2 1) := jxw_id (by omega) (by omega)
  refine jt_ite (fun c992_ => ?_) (fun c992_ => ?_)
  ·
    exact jt_rI ⟨hv0, (jfr_rf _ _), rfl, (show (((a0 2 1 ≤ 180 ∧ (-1) = (a0 2 1) + 20) ∧ a0 2 1 = (a0 2 1) + 20) ∨ ((180 < a0 2 1 ∧ (-1) = 0 - 1) ∧ a0 2 1 = a0 2 1)) from by omega), (fun h => absurd h (by omega)), (fun _ _ => rfl)⟩
  ·
    refine jt_bV (sp_X8_append E d (jd_le hd rfl) x1 a0 b0 hv0) (fun a993_ b993_ h993_ => ?_)
    obtain ⟨hv993_, hf993_, rfl, hq993_0, hq993_1⟩ := h993_
    have h994_ := iv_get hv993_ (k := 2) (j := 1) (l := 0) (u := 200) rfl
    refine jt_bV (sp_X8_append E d (jd_le hd rfl) x2 a993_ b0 hv993_) (fun a995_ b995_ h995_ => ?_)
    obtain ⟨hv995_, hf995_, rfl, hq995_0, hq995_1⟩ := h995_
    have h996_ := iv_get hv995_ (k := 2) (j := 1) (l := 0) (u := 200) rfl
    refine jt_bV (sp_X8_append E d (jd_le hd rfl) x3 a995_ b0 hv995_) (fun a997_ b997_ h997_ => ?_)
    obtain ⟨hv997_, hf997_, rfl, hq997_0, hq997_1⟩ := h997_
    have h998_ := iv_get hv997_ (k := 2) (j := 1) (l := 0) (u := 200) rfl
    have hf999_ : jfr jW_X11_feed a0 a993_ := jfr_tr (jfr_rf _ _) hf993_ rfl
    have hf1000_ : jfr jW_X11_feed a0 a995_ := jfr_tr hf999_ hf995_ rfl
    have hf1001_ : jfr jW_X11_feed a0 a997_ := jfr_tr hf1000_ hf997_ rfl
    exact cp_X11_feed_38 E d hd x1 x2 x3 x4 x5 a0 b0 hv0 x4 x5 a997_ hv997_ hf1001_ (show a997_ 2 1 = (a0 2 1) + 12 from by omega) (show a0 2 1 ≤ 180 from by omega) ⟨_, _, hq993_1 (by omega), APP_c (hq995_1 (by omega)) (by omega) (by omega), APP_c (hq997_1 (by omega)) (by omega) (by omega)⟩ rfl rfl
def jW_X11_gatherAskers : List (Nat × Nat) := [(77, 9999)]
abbrev jQ_X11_gatherAskers (a0 b0 : Nat → Nat → Int) : List jxV → (Nat → Nat → Int) → (Nat → Nat → Int) → Prop := rI (fun r a b => (iv a) ∧ (jfr jW_X11_gatherAskers a0 a) ∧ (0 ≤ r) ∧ (r ≤ 8) ∧ ((a0 0 9 = 0 → r = 0)))
theorem cp_X11_gatherAskers_4 (E : jxE) (d : Nat) (hd : Nat.ble 4 (d + 1) = true) (a0 b0 : Nat → Nat → Int) (hv0 : iv a0) : ∀ n : Nat, (∀ (y1 y2 : Int) (a b : Nat → Nat → Int), (((8 - y2) * 1) + 0).toNat ≤ n → iv a → jfr jW_X11_gatherAskers a0 a → 0 ≤ y1 → y1 ≤ 7 → 0 ≤ y2 → y2 ≤ 7 → 1 ≤ a 0 9 → y1 ≤ y2 → 1 ≤ a0 0 9 → jt (jxX E d 169 37 [some (.inr (.inr (.inl 0))), some (.inl y1), some (.inl y2)] [] (jxSH, a, b)) (jQ_X11_gatherAskers a0 b0)) ∧ (∀ (y1 y2 : Int) (a b : Nat → Nat → Int), (((8 - y2) * 1) + 0).toNat ≤ n → iv a → jfr jW_X11_gatherAskers a0 a → 0 ≤ y1 → y1 ≤ 8 → 0 ≤ y2 → y2 ≤ 8 → y1 ≤ y2 → (a0 0 9 = 0 → y1 = 0) → jt (jxX E d 169 4 [some (.inr (.inr (.inl 0))), some (.inl y1), some (.inl y2)] [] (jxSH, a, b)) (jQ_X11_gatherAskers a0 b0)) := by
  refine jx_ind fun n ih => ?_
  have ih37 : ∀ (y1 y2 : Int) (a b : Nat → Nat → Int), (((8 - y2) * 1) + 0).toNat < n → iv a → jfr jW_X11_gatherAskers a0 a → 0 ≤ y1 → y1 ≤ 7 → 0 ≤ y2 → y2 ≤ 7 → 1 ≤ a 0 9 → y1 ≤ y2 → 1 ≤ a0 0 9 → jt (jxX E d 169 37 [some (.inr (.inr (.inl 0))), some (.inl y1), some (.inl y2)] [] (jxSH, a, b)) (jQ_X11_gatherAskers a0 b0) := fun y1 y2 a b hlt i0 i1 i2 i3 i4 i5 i6 i7 i8 => (ih _ hlt).1 y1 y2 a b (Nat.le_refl _) i0 i1 i2 i3 i4 i5 i6 i7 i8
  have ih4 : ∀ (y1 y2 : Int) (a b : Nat → Nat → Int), (((8 - y2) * 1) + 0).toNat < n → iv a → jfr jW_X11_gatherAskers a0 a → 0 ≤ y1 → y1 ≤ 8 → 0 ≤ y2 → y2 ≤ 8 → y1 ≤ y2 → (a0 0 9 = 0 → y1 = 0) → jt (jxX E d 169 4 [some (.inr (.inr (.inl 0))), some (.inl y1), some (.inl y2)] [] (jxSH, a, b)) (jQ_X11_gatherAskers a0 b0) := fun y1 y2 a b hlt i0 i1 i2 i3 i4 i5 i6 i7 => (ih _ hlt).2 y1 y2 a b (Nat.le_refl _) i0 i1 i2 i3 i4 i5 i6 i7
  have hc37 : ∀ (y1 y2 : Int) (a b : Nat → Nat → Int), (((8 - y2) * 1) + 0).toNat ≤ n → iv a → jfr jW_X11_gatherAskers a0 a → 0 ≤ y1 → y1 ≤ 7 → 0 ≤ y2 → y2 ≤ 7 → 1 ≤ a 0 9 → y1 ≤ y2 → 1 ≤ a0 0 9 → jt (jxX E d 169 37 [some (.inr (.inr (.inl 0))), some (.inl y1), some (.inl y2)] [] (jxSH, a, b)) (jQ_X11_gatherAskers a0 b0) := by
    intro y1 y2 a b hm hv hf hi0 hi1 hi2 hi3 hi4 hi5 hi6
    refine jt_eq (bq_X11_gatherAskers_37 E d y1 y2 a b) ?_
    have h1002_ := iv_get hv (k := 0) (j := 9) (l := 0) (u := 8) rfl
    have h1003_ : a 0 9 = a0 0 9 := hf 0 9 rfl
    have h1004_ := iv_get hv0 (k := 0) (j := 9) (l := 0) (u := 8) rfl
    refine jt_grd (by omega) ?_
    refine jt_bJ (sp_X0_reachedBy E d (jd_le hd rfl) (a 76 (y2.toNat)) a b hv) (fun r1005_ a1005_ b1005_ h1005_ => ?_)
    obtain ⟨rfl, rfl⟩ := h1005_
    refine jt_grd (by omega) ?_
    have h1006_ : jxw (y1 + 1) = y1 + 1 := jxw_id (by omega) (by omega)
    have h1007_ : jxw (y2 + 1) = y2 + 1 := jxw_id (by omega) (by omega)
    exact ih4 (jxw (y1 + 1)) (jxw (y2 + 1)) a (jxu b 78 (y1.toNat) r1005_) (show (((8 - (jxw (y2 + 1))) * 1) + 0).toNat < n from by omega) hv hf (show 0 ≤ jxw (y1 + 1) from by omega) (show jxw (y1 + 1) ≤ 8 from by omega) (show 0 ≤ jxw (y2 + 1) from by omega) (show jxw (y2 + 1) ≤ 8 from by omega) (show jxw (y1 + 1) ≤ jxw (y2 + 1) from by omega) (show (a0 0 9 = 0 → jxw (y1 + 1) = 0) from by omega)
  have hc4 : ∀ (y1 y2 : Int) (a b : Nat → Nat → Int), (((8 - y2) * 1) + 0).toNat ≤ n → iv a → jfr jW_X11_gatherAskers a0 a → 0 ≤ y1 → y1 ≤ 8 → 0 ≤ y2 → y2 ≤ 8 → y1 ≤ y2 → (a0 0 9 = 0 → y1 = 0) → jt (jxX E d 169 4 [some (.inr (.inr (.inl 0))), some (.inl y1), some (.inl y2)] [] (jxSH, a, b)) (jQ_X11_gatherAskers a0 b0) := by
    intro y1 y2 a b hm hv hf hi0 hi1 hi2 hi3 hi4 hi5
    refine jt_eq (bq_X11_gatherAskers_4 E d y1 y2 a b) ?_
    have h1008_ := iv_get hv0 (k := 0) (j := 9) (l := 0) (u := 8) rfl
    have h1009_ := iv_get hv (k := 0) (j := 9) (l := 0) (u := 8) rfl
    have h1010_ : a 0 9 = a0 0 9 := hf 0 9 rfl
    refine jt_ite (fun c1011_ => ?_) (fun c1011_ => ?_)
    ·
      refine jt_grd (by omega) ?_
      refine jt_eI (eq_X11_mayAsk E d (jd_le hd rfl) (a 76 (y2.toNat)) a b) ?_
      have h1012_ : a 76 (y2.toNat) = a0 76 (y2.toNat) := hf 76 (y2.toNat) rfl
      have h1013_ := f_X11_mayAsk_bool a b (a 76 (y2.toNat))
      refine jt_ite (fun c1014_ => ?_) (fun c1014_ => ?_)
      ·
        have h1015_ : jxw (y2 + 1) = y2 + 1 := jxw_id (by omega) (by omega)
        exact ih4 y1 (jxw (y2 + 1)) a b (show (((8 - (jxw (y2 + 1))) * 1) + 0).toNat < n from by omega) hv hf (show 0 ≤ y1 from by omega) (show y1 ≤ 8 from by omega) (show 0 ≤ jxw (y2 + 1) from by omega) (show jxw (y2 + 1) ≤ 8 from by omega) (show y1 ≤ jxw (y2 + 1) from by omega) (show (a0 0 9 = 0 → y1 = 0) from by omega)
      ·
        refine jt_grd (by omega) ?_
        refine jt_grd (by omega) ?_
        have hv1016_ : iv (jxu a 77 (y1.toNat) (a 76 (y2.toNat))) := iv_putf hv rfl
        have hf1017_ : jfr jW_X11_gatherAskers a0 (jxu a 77 (y1.toNat) (a 76 (y2.toNat))) := jfr_put hf rfl
        exact hc37 y1 y2 (jxu a 77 (y1.toNat) (a 76 (y2.toNat))) b (show (((8 - y2) * 1) + 0).toNat ≤ n from by omega) hv1016_ hf1017_ (show 0 ≤ y1 from by omega) (show y1 ≤ 7 from by omega) (show 0 ≤ y2 from by omega) (show y2 ≤ 7 from by omega) (show 1 ≤ a 0 9 from by omega) (show y1 ≤ y2 from by omega) (show 1 ≤ a0 0 9 from by omega)
    ·
      exact jt_rI ⟨hv, hf, (show 0 ≤ y1 from by omega), (show y1 ≤ 8 from by omega), (show (a0 0 9 = 0 → y1 = 0) from by omega)⟩
  exact ⟨hc37, hc4⟩
theorem sp_X11_gatherAskers (E : jxE) (d : Nat) (hd : Nat.ble 4 d = true) (a0 b0 : Nat → Nat → Int) (hv0 : iv a0) : jt (jxC E d 169 [.inr (.inr (.inl 0))] (jxSH, a0, b0)) (jQ_X11_gatherAskers a0 b0) := by
  obtain ⟨d, rfl⟩ := jd_succ hd
  refine jt_eq (bq_X11_gatherAskers E d a0 b0) ?_
  have h1018_ := iv_get hv0 (k := 0) (j := 9) (l := 0) (u := 8) rfl
  exact (cp_X11_gatherAskers_4 E d hd a0 b0 hv0 _).2 0 0 a0 b0 (Nat.le_refl _) hv0 (jfr_rf _ _) (show 0 ≤ 0 from by omega) (show 0 ≤ 8 from by omega) (show 0 ≤ 0 from by omega) (show 0 ≤ 8 from by omega) (show 0 ≤ 0 from by omega) (show (a0 0 9 = 0 → 0 = 0) from by omega)
abbrev jQ_X2_allow (x1 x2 x3 : Int) (a0 b0 : Nat → Nat → Int) : List jxV → (Nat → Nat → Int) → (Nat → Nat → Int) → Prop := rV (fun a b => (a0 = a))
theorem cp_X2_allow_29 (E : jxE) (d : Nat) (hd : Nat.ble 2 (d + 1) = true) (x1 x2 x3 : Int) (a0 b0 : Nat → Nat → Int) (hv0 : iv a0) : ∀ (b : Nat → Nat → Int), jt (jxX E d 43 29 [none, none, none, none] [] (jxSH, a0, b)) (jQ_X2_allow x1 x2 x3 a0 b0) := by
  intro b
  refine jt_eq (bq_X2_allow_29 E d a0 b) ?_
  exact jt_rV rfl
theorem sp_X2_allow (E : jxE) (d : Nat) (hd : Nat.ble 2 d = true) (x1 x2 x3 : Int) (a0 b0 : Nat → Nat → Int) (hv0 : iv a0) : jt (jxC E d 43 [.inr (.inr (.inl 79)), .inl x1, .inl x2, .inl x3] (jxSH, a0, b0)) (jQ_X2_allow x1 x2 x3 a0 b0) := by
  obtain ⟨d, rfl⟩ := jd_succ hd
  refine jt_eq (bq_X2_allow E d x1 x2 x3 a0 b0) ?_
  refine jt_eI (eq_X11_within E d (jd_le hd rfl) x1 0 7 a0 b0) ?_
  have h1019_ := f_X11_within_eq a0 b0 x1 0 7
  refine jt_ite (fun c1020_ => ?_) (fun c1020_ => ?_)
  ·
    exact cp_X2_allow_29 E d hd x1 x2 x3 a0 b0 hv0 b0
  ·
    refine jt_grd (by omega) ?_
    exact cp_X2_allow_29 E d hd x1 x2 x3 a0 b0 hv0 (jxu b0 82 (x1.toNat) (jxwl ((jxwl ((jxwl (x2 * 1048576)) - x3)) - 1099511627776)))
abbrev jQ_X2_forbidAll (a0 b0 : Nat → Nat → Int) : List jxV → (Nat → Nat → Int) → (Nat → Nat → Int) → Prop := rV (fun a b => (a0 = a))
theorem cp_X2_forbidAll_2 (E : jxE) (d : Nat) (hd : Nat.ble 1 (d + 1) = true) (a0 b0 : Nat → Nat → Int) (hv0 : iv a0) : ∀ n : Nat, (∀ (y1 : Int) (b : Nat → Nat → Int), (((8 - y1) * 1) + 0).toNat ≤ n → 0 ≤ y1 → y1 ≤ 8 → jt (jxX E d 42 2 [some (.inr (.inr (.inl 79))), some (.inl y1)] [] (jxSH, a0, b)) (jQ_X2_forbidAll a0 b0)) := by
  refine jx_ind fun n ih => ?_
  have ih2 : ∀ (y1 : Int) (b : Nat → Nat → Int), (((8 - y1) * 1) + 0).toNat < n → 0 ≤ y1 → y1 ≤ 8 → jt (jxX E d 42 2 [some (.inr (.inr (.inl 79))), some (.inl y1)] [] (jxSH, a0, b)) (jQ_X2_forbidAll a0 b0) := fun y1 b hlt i0 i1 => (ih _ hlt) y1 b (Nat.le_refl _) i0 i1
  have hc2 : ∀ (y1 : Int) (b : Nat → Nat → Int), (((8 - y1) * 1) + 0).toNat ≤ n → 0 ≤ y1 → y1 ≤ 8 → jt (jxX E d 42 2 [some (.inr (.inr (.inl 79))), some (.inl y1)] [] (jxSH, a0, b)) (jQ_X2_forbidAll a0 b0) := by
    intro y1 b hm hi0 hi1
    refine jt_eq (bq_X2_forbidAll_2 E d y1 a0 b) ?_
    refine jt_ite (fun c1021_ => ?_) (fun c1021_ => ?_)
    ·
      refine jt_grd (by omega) ?_
      have h1022_ : jxw (y1 + 1) = y1 + 1 := jxw_id (by omega) (by omega)
      exact ih2 (jxw (y1 + 1)) (jxu b 82 (y1.toNat) 4611686018427387904) (show (((8 - (jxw (y1 + 1))) * 1) + 0).toNat < n from by omega) (show 0 ≤ jxw (y1 + 1) from by omega) (show jxw (y1 + 1) ≤ 8 from by omega)
    ·
      exact jt_rV rfl
  exact hc2
theorem sp_X2_forbidAll (E : jxE) (d : Nat) (hd : Nat.ble 1 d = true) (a0 b0 : Nat → Nat → Int) (hv0 : iv a0) : jt (jxC E d 42 [.inr (.inr (.inl 79))] (jxSH, a0, b0)) (jQ_X2_forbidAll a0 b0) := by
  obtain ⟨d, rfl⟩ := jd_succ hd
  refine jt_eq (bq_X2_forbidAll E d a0 b0) ?_
  exact (cp_X2_forbidAll_2 E d hd a0 b0 hv0 _) 0 b0 (Nat.le_refl _) (show 0 ≤ 0 from by omega) (show 0 ≤ 8 from by omega)
def jW_X2_begin : List (Nat × Nat) := [(79, 3)]
abbrev jQ_X2_begin (x1 : Int) (a0 b0 : Nat → Nat → Int) : List jxV → (Nat → Nat → Int) → (Nat → Nat → Int) → Prop := rV (fun a b => (iv a) ∧ (jfr jW_X2_begin a0 a))
theorem cp_X2_begin_56 (E : jxE) (d : Nat) (hd : Nat.ble 2 (d + 1) = true) (x1 : Int) (a0 b0 : Nat → Nat → Int) (hv0 : iv a0) : ∀ n : Nat, (∀ (y2 : Int) (a b : Nat → Nat → Int), (((8 - y2) * 1) + 0).toNat ≤ n → iv a → jfr jW_X2_begin a0 a → 0 ≤ y2 → y2 ≤ 7 → 1 ≤ a 79 3 → jt (jxX E d 41 81 [some (.inr (.inr (.inl 79))), none, some (.inl y2)] [] (jxSH, a, b)) (jQ_X2_begin x1 a0 b0)) ∧ (∀ (y2 : Int) (a b : Nat → Nat → Int), (((8 - y2) * 1) + 0).toNat ≤ n → iv a → jfr jW_X2_begin a0 a → 0 ≤ y2 → y2 ≤ 8 → jt (jxX E d 41 56 [some (.inr (.inr (.inl 79))), none, some (.inl y2)] [] (jxSH, a, b)) (jQ_X2_begin x1 a0 b0)) := by
  refine jx_ind fun n ih => ?_
  have ih81 : ∀ (y2 : Int) (a b : Nat → Nat → Int), (((8 - y2) * 1) + 0).toNat < n → iv a → jfr jW_X2_begin a0 a → 0 ≤ y2 → y2 ≤ 7 → 1 ≤ a 79 3 → jt (jxX E d 41 81 [some (.inr (.inr (.inl 79))), none, some (.inl y2)] [] (jxSH, a, b)) (jQ_X2_begin x1 a0 b0) := fun y2 a b hlt i0 i1 i2 i3 i4 => (ih _ hlt).1 y2 a b (Nat.le_refl _) i0 i1 i2 i3 i4
  have ih56 : ∀ (y2 : Int) (a b : Nat → Nat → Int), (((8 - y2) * 1) + 0).toNat < n → iv a → jfr jW_X2_begin a0 a → 0 ≤ y2 → y2 ≤ 8 → jt (jxX E d 41 56 [some (.inr (.inr (.inl 79))), none, some (.inl y2)] [] (jxSH, a, b)) (jQ_X2_begin x1 a0 b0) := fun y2 a b hlt i0 i1 i2 i3 => (ih _ hlt).2 y2 a b (Nat.le_refl _) i0 i1 i2 i3
  have hc81 : ∀ (y2 : Int) (a b : Nat → Nat → Int), (((8 - y2) * 1) + 0).toNat ≤ n → iv a → jfr jW_X2_begin a0 a → 0 ≤ y2 → y2 ≤ 7 → 1 ≤ a 79 3 → jt (jxX E d 41 81 [some (.inr (.inr (.inl 79))), none, some (.inl y2)] [] (jxSH, a, b)) (jQ_X2_begin x1 a0 b0) := by
    intro y2 a b hm hv hf hi0 hi1 hi2
    refine jt_eq (bq_X2_begin_81 E d y2 a b) ?_
    have h1023_ := iv_get hv (k := 79) (j := 3) (l := 0) (u := 8) rfl
    have h1024_ : jxw (y2 + 1) = y2 + 1 := jxw_id (by omega) (by omega)
    exact ih56 (jxw (y2 + 1)) a b (show (((8 - (jxw (y2 + 1))) * 1) + 0).toNat < n from by omega) hv hf (show 0 ≤ jxw (y2 + 1) from by omega) (show jxw (y2 + 1) ≤ 8 from by omega)
  have hc56 : ∀ (y2 : Int) (a b : Nat → Nat → Int), (((8 - y2) * 1) + 0).toNat ≤ n → iv a → jfr jW_X2_begin a0 a → 0 ≤ y2 → y2 ≤ 8 → jt (jxX E d 41 56 [some (.inr (.inr (.inl 79))), none, some (.inl y2)] [] (jxSH, a, b)) (jQ_X2_begin x1 a0 b0) := by
    intro y2 a b hm hv hf hi0 hi1
    refine jt_eq (bq_X2_begin_56 E d y2 a b) ?_
    have h1025_ := iv_get hv (k := 79) (j := 3) (l := 0) (u := 8) rfl
    refine jt_ite (fun c1026_ => ?_) (fun c1026_ => ?_)
    ·
      refine jt_eI (eq_X2_shiftOf E d (jd_le hd rfl) y2 a b) ?_
      exact hc81 y2 a (jxu b 81 0 (jxwl ((b 81 0) + (jxshll 40 (f_X2_shiftOf a b y2))))) (show (((8 - y2) * 1) + 0).toNat ≤ n from by omega) hv hf (show 0 ≤ y2 from by omega) (show y2 ≤ 7 from by omega) (show 1 ≤ a 79 3 from by omega)
    ·
      refine jt_bV (sp_X2_forbidAll E d (jd_le hd rfl) a b hv) (fun a1027_ b1027_ h1027_ => ?_)
      subst h1027_
      exact jt_rV ⟨hv, hf⟩
  exact ⟨hc81, hc56⟩
theorem cp_X2_begin_54 (E : jxE) (d : Nat) (hd : Nat.ble 2 (d + 1) = true) (x1 : Int) (a0 b0 : Nat → Nat → Int) (hv0 : iv a0) : ∀ (a b : Nat → Nat → Int), iv a → jfr jW_X2_begin a0 a → jt (jxX E d 41 54 [some (.inr (.inr (.inl 79))), none, none] [] (jxSH, a, b)) (jQ_X2_begin x1 a0 b0) := by
  intro a b hv hf
  refine jt_eq (bq_X2_begin_54 E d a b) ?_
  exact (cp_X2_begin_56 E d hd x1 a0 b0 hv0 _).2 0 a b (Nat.le_refl _) hv hf (show 0 ≤ 0 from by omega) (show 0 ≤ 8 from by omega)
theorem cp_X2_begin_16 (E : jxE) (d : Nat) (hd : Nat.ble 2 (d + 1) = true) (x1 : Int) (a0 b0 : Nat → Nat → Int) (hv0 : iv a0) : ∀ n : Nat, (∀ (y2 : Int) (a b : Nat → Nat → Int), (((256 - y2) * 1) + 0).toNat ≤ n → iv a → jfr jW_X2_begin a0 a → 0 ≤ y2 → y2 ≤ 256 → jt (jxX E d 41 16 [some (.inr (.inr (.inl 79))), none, some (.inl y2)] [] (jxSH, a, b)) (jQ_X2_begin x1 a0 b0)) := by
  refine jx_ind fun n ih => ?_
  have ih16 : ∀ (y2 : Int) (a b : Nat → Nat → Int), (((256 - y2) * 1) + 0).toNat < n → iv a → jfr jW_X2_begin a0 a → 0 ≤ y2 → y2 ≤ 256 → jt (jxX E d 41 16 [some (.inr (.inr (.inl 79))), none, some (.inl y2)] [] (jxSH, a, b)) (jQ_X2_begin x1 a0 b0) := fun y2 a b hlt i0 i1 i2 i3 => (ih _ hlt) y2 a b (Nat.le_refl _) i0 i1 i2 i3
  have hc16 : ∀ (y2 : Int) (a b : Nat → Nat → Int), (((256 - y2) * 1) + 0).toNat ≤ n → iv a → jfr jW_X2_begin a0 a → 0 ≤ y2 → y2 ≤ 256 → jt (jxX E d 41 16 [some (.inr (.inr (.inl 79))), none, some (.inl y2)] [] (jxSH, a, b)) (jQ_X2_begin x1 a0 b0) := by
    intro y2 a b hm hv hf hi0 hi1
    refine jt_eq (bq_X2_begin_16 E d y2 a b) ?_
    refine jt_ite (fun c1028_ => ?_) (fun c1028_ => ?_)
    ·
      refine jt_grd (by omega) ?_
      have h1029_ : jxw (y2 + 1) = y2 + 1 := jxw_id (by omega) (by omega)
      exact ih16 (jxw (y2 + 1)) a (jxu b 80 (y2.toNat) 4611686018427387904) (show (((256 - (jxw (y2 + 1))) * 1) + 0).toNat < n from by omega) hv hf (show 0 ≤ jxw (y2 + 1) from by omega) (show jxw (y2 + 1) ≤ 256 from by omega)
    ·
      exact cp_X2_begin_54 E d hd x1 a0 b0 hv0 a (jxu (jxu b 80 0 0) 81 0 0) hv hf
  exact hc16
theorem sp_X2_begin (E : jxE) (d : Nat) (hd : Nat.ble 2 d = true) (x1 : Int) (a0 b0 : Nat → Nat → Int) (hv0 : iv a0) : jt (jxC E d 41 [.inr (.inr (.inl 79)), .inl x1] (jxSH, a0, b0)) (jQ_X2_begin x1 a0 b0) := by
  obtain ⟨d, rfl⟩ := jd_succ hd
  refine jt_eq (bq_X2_begin E d x1 a0 b0) ?_
  refine jt_eI (eq_J9_max_7cf53 E d (jd_le hd rfl) x1 0 a0 b0) ?_
  refine jt_eI (eq_J9_min_7cf53 E d (jd_le hd rfl) (f_J9_max_7cf53 a0 b0 x1 0) 8 a0 b0) ?_
  have h1031_ := f_J9_max_7cf53_eq a0 b0 x1 0
  have h1032_ := f_J9_min_7cf53_eq a0 b0 (f_J9_max_7cf53 a0 b0 x1 0) 8
  have hv1030_ : iv (jxu a0 79 3 (f_J9_min_7cf53 a0 b0 (f_J9_max_7cf53 a0 b0 x1 0) 8)) := iv_put hv0 (l := 0) (u := 8) rfl (by omega) (by omega)
  have hf1033_ : jfr jW_X2_begin a0 (jxu a0 79 3 (f_J9_min_7cf53 a0 b0 (f_J9_max_7cf53 a0 b0 x1 0) 8)) := jfr_put (jfr_rf _ _) rfl
  exact (cp_X2_begin_16 E d hd x1 a0 b0 hv0 _) 0 (jxu a0 79 3 (f_J9_min_7cf53 a0 b0 (f_J9_max_7cf53 a0 b0 x1 0) 8)) b0 (Nat.le_refl _) hv1030_ hf1033_ (show 0 ≤ 0 from by omega) (show 0 ≤ 256 from by omega)
abbrev jQ_X2_finish (a0 b0 : Nat → Nat → Int) : List jxV → (Nat → Nat → Int) → (Nat → Nat → Int) → Prop := rV (fun a b => (a0 = a))
theorem cp_X2_finish_4 (E : jxE) (d : Nat) (hd : Nat.ble 1 (d + 1) = true) (a0 b0 : Nat → Nat → Int) (hv0 : iv a0) : ∀ n : Nat, (∀ (y1 y2 : Int) (b : Nat → Nat → Int), (((256 - y2) * 1) + 0).toNat ≤ n → 0 ≤ y1 → y1 ≤ 255 → 1 ≤ y2 → y2 ≤ 255 → jt (jxX E d 46 64 [some (.inr (.inr (.inl 79))), some (.inl y1), some (.inl y2)] [] (jxSH, a0, b)) (jQ_X2_finish a0 b0)) ∧ (∀ (y2 : Int) (b : Nat → Nat → Int), (((256 - y2) * 1) + 0).toNat ≤ n → 1 ≤ y2 → y2 ≤ 255 → jt (jxX E d 46 62 [some (.inr (.inr (.inl 79))), none, some (.inl y2)] [] (jxSH, a0, b)) (jQ_X2_finish a0 b0)) ∧ (∀ (y1 y2 : Int) (b : Nat → Nat → Int), (((256 - y2) * 1) + 0).toNat ≤ n → 0 ≤ y1 → y1 ≤ 255 → 1 ≤ y2 → y2 ≤ 255 → jt (jxX E d 46 30 [some (.inr (.inr (.inl 79))), some (.inl y1), some (.inl y2)] [] (jxSH, a0, b)) (jQ_X2_finish a0 b0)) ∧ (∀ (y1 y2 : Int) (b : Nat → Nat → Int), (((256 - y2) * 1) + 0).toNat ≤ n → 0 ≤ y1 → y1 ≤ 255 → 1 ≤ y2 → y2 ≤ 256 → jt (jxX E d 46 4 [some (.inr (.inr (.inl 79))), some (.inl y1), some (.inl y2)] [] (jxSH, a0, b)) (jQ_X2_finish a0 b0)) := by
  refine jx_ind fun n ih => ?_
  have ih64 : ∀ (y1 y2 : Int) (b : Nat → Nat → Int), (((256 - y2) * 1) + 0).toNat < n → 0 ≤ y1 → y1 ≤ 255 → 1 ≤ y2 → y2 ≤ 255 → jt (jxX E d 46 64 [some (.inr (.inr (.inl 79))), some (.inl y1), some (.inl y2)] [] (jxSH, a0, b)) (jQ_X2_finish a0 b0) := fun y1 y2 b hlt i0 i1 i2 i3 => (ih _ hlt).1 y1 y2 b (Nat.le_refl _) i0 i1 i2 i3
  have ih62 : ∀ (y2 : Int) (b : Nat → Nat → Int), (((256 - y2) * 1) + 0).toNat < n → 1 ≤ y2 → y2 ≤ 255 → jt (jxX E d 46 62 [some (.inr (.inr (.inl 79))), none, some (.inl y2)] [] (jxSH, a0, b)) (jQ_X2_finish a0 b0) := fun y2 b hlt i0 i1 => (ih _ hlt).2.1 y2 b (Nat.le_refl _) i0 i1
  have ih30 : ∀ (y1 y2 : Int) (b : Nat → Nat → Int), (((256 - y2) * 1) + 0).toNat < n → 0 ≤ y1 → y1 ≤ 255 → 1 ≤ y2 → y2 ≤ 255 → jt (jxX E d 46 30 [some (.inr (.inr (.inl 79))), some (.inl y1), some (.inl y2)] [] (jxSH, a0, b)) (jQ_X2_finish a0 b0) := fun y1 y2 b hlt i0 i1 i2 i3 => (ih _ hlt).2.2.1 y1 y2 b (Nat.le_refl _) i0 i1 i2 i3
  have ih4 : ∀ (y1 y2 : Int) (b : Nat → Nat → Int), (((256 - y2) * 1) + 0).toNat < n → 0 ≤ y1 → y1 ≤ 255 → 1 ≤ y2 → y2 ≤ 256 → jt (jxX E d 46 4 [some (.inr (.inr (.inl 79))), some (.inl y1), some (.inl y2)] [] (jxSH, a0, b)) (jQ_X2_finish a0 b0) := fun y1 y2 b hlt i0 i1 i2 i3 => (ih _ hlt).2.2.2 y1 y2 b (Nat.le_refl _) i0 i1 i2 i3
  have hc64 : ∀ (y1 y2 : Int) (b : Nat → Nat → Int), (((256 - y2) * 1) + 0).toNat ≤ n → 0 ≤ y1 → y1 ≤ 255 → 1 ≤ y2 → y2 ≤ 255 → jt (jxX E d 46 64 [some (.inr (.inr (.inl 79))), some (.inl y1), some (.inl y2)] [] (jxSH, a0, b)) (jQ_X2_finish a0 b0) := by
    intro y1 y2 b hm hi0 hi1 hi2 hi3
    refine jt_eq (bq_X2_finish_64 E d y1 y2 a0 b) ?_
    have h1034_ : jxw (y2 + 1) = y2 + 1 := jxw_id (by omega) (by omega)
    exact ih4 y1 (jxw (y2 + 1)) b (show (((256 - (jxw (y2 + 1))) * 1) + 0).toNat < n from by omega) (show 0 ≤ y1 from by omega) (show y1 ≤ 255 from by omega) (show 1 ≤ jxw (y2 + 1) from by omega) (show jxw (y2 + 1) ≤ 256 from by omega)
  have hc62 : ∀ (y2 : Int) (b : Nat → Nat → Int), (((256 - y2) * 1) + 0).toNat ≤ n → 1 ≤ y2 → y2 ≤ 255 → jt (jxX E d 46 62 [some (.inr (.inr (.inl 79))), none, some (.inl y2)] [] (jxSH, a0, b)) (jQ_X2_finish a0 b0) := by
    intro y2 b hm hi0 hi1
    refine jt_eq (bq_X2_finish_62 E d y2 a0 b) ?_
    exact hc64 y2 y2 b (show (((256 - y2) * 1) + 0).toNat ≤ n from by omega) (show 0 ≤ y2 from by omega) (show y2 ≤ 255 from by omega) (show 1 ≤ y2 from by omega) (show y2 ≤ 255 from by omega)
  have hc30 : ∀ (y1 y2 : Int) (b : Nat → Nat → Int), (((256 - y2) * 1) + 0).toNat ≤ n → 0 ≤ y1 → y1 ≤ 255 → 1 ≤ y2 → y2 ≤ 255 → jt (jxX E d 46 30 [some (.inr (.inr (.inl 79))), some (.inl y1), some (.inl y2)] [] (jxSH, a0, b)) (jQ_X2_finish a0 b0) := by
    intro y1 y2 b hm hi0 hi1 hi2 hi3
    refine jt_eq (bq_X2_finish_30 E d y1 y2 a0 b) ?_
    refine jt_grd (by omega) ?_
    refine jt_grd (by omega) ?_
    have h1035_ := jxlcmp_b (b 80 (y2.toNat)) (b 80 (y1.toNat))
    refine jt_ite (fun c1036_ => ?_) (fun c1036_ => ?_)
    ·
      refine jt_grd (by omega) ?_
      refine jt_grd (by omega) ?_
      have h1037_ := jxlcmp_b (b 81 (y2.toNat)) (b 81 (y1.toNat))
      refine jt_ite (fun c1038_ => ?_) (fun c1038_ => ?_)
      ·
        exact hc62 y2 b (show (((256 - y2) * 1) + 0).toNat ≤ n from by omega) (show 1 ≤ y2 from by omega) (show y2 ≤ 255 from by omega)
      ·
        exact hc64 y1 y2 b (show (((256 - y2) * 1) + 0).toNat ≤ n from by omega) (show 0 ≤ y1 from by omega) (show y1 ≤ 255 from by omega) (show 1 ≤ y2 from by omega) (show y2 ≤ 255 from by omega)
    ·
      exact hc64 y1 y2 b (show (((256 - y2) * 1) + 0).toNat ≤ n from by omega) (show 0 ≤ y1 from by omega) (show y1 ≤ 255 from by omega) (show 1 ≤ y2 from by omega) (show y2 ≤ 255 from by omega)
  have hc4 : ∀ (y1 y2 : Int) (b : Nat → Nat → Int), (((256 - y2) * 1) + 0).toNat ≤ n → 0 ≤ y1 → y1 ≤ 255 → 1 ≤ y2 → y2 ≤ 256 → jt (jxX E d 46 4 [some (.inr (.inr (.inl 79))), some (.inl y1), some (.inl y2)] [] (jxSH, a0, b)) (jQ_X2_finish a0 b0) := by
    intro y1 y2 b hm hi0 hi1 hi2 hi3
    refine jt_eq (bq_X2_finish_4 E d y1 y2 a0 b) ?_
    have h1039_ := iv_get hv0 (k := 79) (j := 3) (l := 0) (u := 8) rfl
    have h1040_ := jxshl1_b (a0 79 3)
    refine jt_ite (fun c1041_ => ?_) (fun c1041_ => ?_)
    ·
      refine jt_grd (by omega) ?_
      refine jt_grd (by omega) ?_
      have h1042_ := jxlcmp_b (b 80 (y2.toNat)) (b 80 (y1.toNat))
      refine jt_ite (fun c1043_ => ?_) (fun c1043_ => ?_)
      ·
        exact hc62 y2 b (show (((256 - y2) * 1) + 0).toNat ≤ n from by omega) (show 1 ≤ y2 from by omega) (show y2 ≤ 255 from by omega)
      ·
        exact hc30 y1 y2 b (show (((256 - y2) * 1) + 0).toNat ≤ n from by omega) (show 0 ≤ y1 from by omega) (show y1 ≤ 255 from by omega) (show 1 ≤ y2 from by omega) (show y2 ≤ 255 from by omega)
    ·
      refine jt_grd (by omega) ?_
      exact jt_rV rfl
  exact ⟨hc64, hc62, hc30, hc4⟩
theorem sp_X2_finish (E : jxE) (d : Nat) (hd : Nat.ble 1 d = true) (a0 b0 : Nat → Nat → Int) (hv0 : iv a0) : jt (jxC E d 46 [.inr (.inr (.inl 79))] (jxSH, a0, b0)) (jQ_X2_finish a0 b0) := by
  obtain ⟨d, rfl⟩ := jd_succ hd
  refine jt_eq (bq_X2_finish E d a0 b0) ?_
  exact (cp_X2_finish_4 E d hd a0 b0 hv0 _).2.2.2 0 1 b0 (Nat.le_refl _) (show 0 ≤ 0 from by omega) (show 0 ≤ 255 from by omega) (show 1 ≤ 1 from by omega) (show 1 ≤ 256 from by omega)
abbrev jQ_X2_tryPair (x1 x2 x3 : Int) (a0 b0 : Nat → Nat → Int) : List jxV → (Nat → Nat → Int) → (Nat → Nat → Int) → Prop := rV (fun a b => (a0 = a))
theorem cp_X2_tryPair_110 (E : jxE) (d : Nat) (hd : Nat.ble 2 (d + 1) = true) (x1 x2 x3 : Int) (a0 b0 : Nat → Nat → Int) (hv0 : iv a0) (hp0 : 0 ≤ x1) (hp1 : x1 ≤ 255) (hp2 : 0 ≤ x2) (hp3 : x2 ≤ 7) : ∀ (b : Nat → Nat → Int), jt (jxX E d 45 110 [none, none, none, none, none, none, none, none, none] [] (jxSH, a0, b)) (jQ_X2_tryPair x1 x2 x3 a0 b0) := by
  intro b
  refine jt_eq (bq_X2_tryPair_110 E d a0 b) ?_
  exact jt_rV rfl
theorem cp_X2_tryPair_94 (E : jxE) (d : Nat) (hd : Nat.ble 2 (d + 1) = true) (x1 x2 x3 : Int) (a0 b0 : Nat → Nat → Int) (hv0 : iv a0) (hp0 : 0 ≤ x1) (hp1 : x1 ≤ 255) (hp2 : 0 ≤ x2) (hp3 : x2 ≤ 7) : ∀ (y1 y5 y7 : Int) (b : Nat → Nat → Int), 0 ≤ y1 → y1 ≤ 255 → jt (jxX E d 45 94 [some (.inr (.inr (.inl 79))), some (.inl y1), none, none, none, some (.inr (.inl y5)), none, some (.inr (.inl y7)), none] [] (jxSH, a0, b)) (jQ_X2_tryPair x1 x2 x3 a0 b0) := by
  intro y1 y5 y7 b hi0 hi1
  refine jt_eq (bq_X2_tryPair_94 E d y1 y5 y7 a0 b) ?_
  refine jt_grd (by omega) ?_
  refine jt_grd (by omega) ?_
  exact cp_X2_tryPair_110 E d hd x1 x2 x3 a0 b0 hv0 hp0 hp1 hp2 hp3 (jxu (jxu b 80 (y1.toNat) y5) 81 (y1.toNat) y7)
theorem cp_X2_tryPair_70 (E : jxE) (d : Nat) (hd : Nat.ble 2 (d + 1) = true) (x1 x2 x3 : Int) (a0 b0 : Nat → Nat → Int) (hv0 : iv a0) (hp0 : 0 ≤ x1) (hp1 : x1 ≤ 255) (hp2 : 0 ≤ x2) (hp3 : x2 ≤ 7) : ∀ (y1 y5 y7 : Int) (b : Nat → Nat → Int), 0 ≤ y1 → y1 ≤ 255 → jt (jxX E d 45 70 [some (.inr (.inr (.inl 79))), some (.inl y1), none, none, none, some (.inr (.inl y5)), none, some (.inr (.inl y7)), none] [] (jxSH, a0, b)) (jQ_X2_tryPair x1 x2 x3 a0 b0) := by
  intro y1 y5 y7 b hi0 hi1
  refine jt_eq (bq_X2_tryPair_70 E d y1 y5 y7 a0 b) ?_
  refine jt_grd (by omega) ?_
  have h1044_ := jxlcmp_b y5 (b 80 (y1.toNat))
  refine jt_ite (fun c1045_ => ?_) (fun c1045_ => ?_)
  ·
    refine jt_grd (by omega) ?_
    have h1046_ := jxlcmp_b y7 (b 81 (y1.toNat))
    refine jt_ite (fun c1047_ => ?_) (fun c1047_ => ?_)
    ·
      exact cp_X2_tryPair_94 E d hd x1 x2 x3 a0 b0 hv0 hp0 hp1 hp2 hp3 y1 y5 y7 b (show 0 ≤ y1 from by omega) (show y1 ≤ 255 from by omega)
    ·
      exact cp_X2_tryPair_110 E d hd x1 x2 x3 a0 b0 hv0 hp0 hp1 hp2 hp3 b
  ·
    exact cp_X2_tryPair_110 E d hd x1 x2 x3 a0 b0 hv0 hp0 hp1 hp2 hp3 b
theorem cp_X2_tryPair_38 (E : jxE) (d : Nat) (hd : Nat.ble 2 (d + 1) = true) (x1 x2 x3 : Int) (a0 b0 : Nat → Nat → Int) (hv0 : iv a0) (hp0 : 0 ≤ x1) (hp1 : x1 ≤ 255) (hp2 : 0 ≤ x2) (hp3 : x2 ≤ 7) : ∀ (y1 y2 y3 y4 y5 : Int) (b : Nat → Nat → Int), 0 ≤ y1 → y1 ≤ 255 → 0 ≤ y2 → y2 ≤ 7 → 0 ≤ y4 → y4 ≤ 255 → jt (jxX E d 45 38 [some (.inr (.inr (.inl 79))), some (.inl y1), some (.inl y2), some (.inl y3), some (.inl y4), some (.inr (.inl y5)), none, none, none] [] (jxSH, a0, b)) (jQ_X2_tryPair x1 x2 x3 a0 b0) := by
  intro y1 y2 y3 y4 y5 b hi0 hi1 hi2 hi3 hi4 hi5
  refine jt_eq (bq_X2_tryPair_38 E d y1 y2 y3 y4 y5 a0 b) ?_
  refine jt_grd (by omega) ?_
  refine jt_eI (eq_X2_shiftOf E d (jd_le hd rfl) y2 a0 b) ?_
  refine jt_grd (by omega) ?_
  have h1048_ := jxlcmp_b y5 (b 80 (y1.toNat))
  refine jt_ite (fun c1049_ => ?_) (fun c1049_ => ?_)
  ·
    exact cp_X2_tryPair_94 E d hd x1 x2 x3 a0 b0 hv0 hp0 hp1 hp2 hp3 y1 y5 (jxwl ((b 81 (y4.toNat)) - (jxshll (jxw (40 - y3)) (f_X2_shiftOf a0 b y2)))) b (show 0 ≤ y1 from by omega) (show y1 ≤ 255 from by omega)
  ·
    exact cp_X2_tryPair_70 E d hd x1 x2 x3 a0 b0 hv0 hp0 hp1 hp2 hp3 y1 y5 (jxwl ((b 81 (y4.toNat)) - (jxshll (jxw (40 - y3)) (f_X2_shiftOf a0 b y2)))) b (show 0 ≤ y1 from by omega) (show y1 ≤ 255 from by omega)
theorem sp_X2_tryPair (E : jxE) (d : Nat) (hd : Nat.ble 2 d = true) (x1 x2 x3 : Int) (a0 b0 : Nat → Nat → Int) (hv0 : iv a0) (hp0 : 0 ≤ x1) (hp1 : x1 ≤ 255) (hp2 : 0 ≤ x2) (hp3 : x2 ≤ 7) : jt (jxC E d 45 [.inr (.inr (.inl 79)), .inl x1, .inl x2, .inl x3] (jxSH, a0, b0)) (jQ_X2_tryPair x1 x2 x3 a0 b0) := by
  obtain ⟨d, rfl⟩ := jd_succ hd
  refine jt_eq (bq_X2_tryPair E d x1 x2 x3 a0 b0) ?_
  have h1050_ := jxshl1_b x2
  have h1051_ := jxxor_b x1 (jxshl 1 x2)
  refine jt_grd (by omega) ?_
  have h1052_ := jxlcmp_b (b0 80 ((jxxor x1 (jxshl 1 x2)).toNat)) 4611686018427387904
  refine jt_ite (fun c1053_ => ?_) (fun c1053_ => ?_)
  ·
    exact jt_rV rfl
  ·
    refine jt_grd (by omega) ?_
    refine jt_grd (by omega) ?_
    exact cp_X2_tryPair_38 E d hd x1 x2 x3 a0 b0 hv0 hp0 hp1 hp2 hp3 x1 x2 x3 (jxxor x1 (jxshl 1 x2)) (jxwl ((b0 80 ((jxxor x1 (jxshl 1 x2)).toNat)) + (b0 82 (x2.toNat)))) b0 (show 0 ≤ x1 from by omega) (show x1 ≤ 255 from by omega) (show 0 ≤ x2 from by omega) (show x2 ≤ 7 from by omega) (show 0 ≤ jxxor x1 (jxshl 1 x2) from by omega) (show jxxor x1 (jxshl 1 x2) ≤ 255 from by omega)
abbrev jQ_X2_tryReceiver (x1 : Int) (a0 b0 : Nat → Nat → Int) : List jxV → (Nat → Nat → Int) → (Nat → Nat → Int) → Prop := rV (fun a b => (a0 = a))
theorem cp_X2_tryReceiver_9 (E : jxE) (d : Nat) (hd : Nat.ble 3 (d + 1) = true) (x1 : Int) (a0 b0 : Nat → Nat → Int) (hv0 : iv a0) : ∀ n : Nat, (∀ (y1 y2 y3 : Int) (b : Nat → Nat → Int), (((((y2 + 0) * 11) + 0) + ((8 - y3) * 1)) + 0).toNat ≤ n → 1 ≤ y2 → y2 ≤ 255 → 0 ≤ y3 → y3 ≤ 7 → jt (jxX E d 44 52 [some (.inr (.inr (.inl 79))), some (.inl y1), some (.inl y2), some (.inl y3)] [] (jxSH, a0, b)) (jQ_X2_tryReceiver x1 a0 b0)) ∧ (∀ (y1 y2 y3 : Int) (b : Nat → Nat → Int), (((((y2 + 0) * 11) + 0) + ((8 - y3) * 1)) + 0).toNat ≤ n → 1 ≤ y2 → y2 ≤ 255 → 0 ≤ y3 → y3 ≤ 7 → jt (jxX E d 44 45 [some (.inr (.inr (.inl 79))), some (.inl y1), some (.inl y2), some (.inl y3)] [] (jxSH, a0, b)) (jQ_X2_tryReceiver x1 a0 b0)) ∧ (∀ (y1 y2 y3 : Int) (b : Nat → Nat → Int), (((((y2 + 0) * 11) + 0) + ((8 - y3) * 1)) + 0).toNat ≤ n → 1 ≤ y2 → y2 ≤ 255 → 0 ≤ y3 → y3 ≤ 8 → jt (jxX E d 44 15 [some (.inr (.inr (.inl 79))), some (.inl y1), some (.inl y2), some (.inl y3)] [] (jxSH, a0, b)) (jQ_X2_tryReceiver x1 a0 b0)) ∧ (∀ (y1 y2 : Int) (b : Nat → Nat → Int), (((y2 + 0) * 11) + 10).toNat ≤ n → 0 ≤ y2 → y2 ≤ 255 → jt (jxX E d 44 9 [some (.inr (.inr (.inl 79))), some (.inl y1), some (.inl y2), none] [] (jxSH, a0, b)) (jQ_X2_tryReceiver x1 a0 b0)) := by
  refine jx_ind fun n ih => ?_
  have ih52 : ∀ (y1 y2 y3 : Int) (b : Nat → Nat → Int), (((((y2 + 0) * 11) + 0) + ((8 - y3) * 1)) + 0).toNat < n → 1 ≤ y2 → y2 ≤ 255 → 0 ≤ y3 → y3 ≤ 7 → jt (jxX E d 44 52 [some (.inr (.inr (.inl 79))), some (.inl y1), some (.inl y2), some (.inl y3)] [] (jxSH, a0, b)) (jQ_X2_tryReceiver x1 a0 b0) := fun y1 y2 y3 b hlt i0 i1 i2 i3 => (ih _ hlt).1 y1 y2 y3 b (Nat.le_refl _) i0 i1 i2 i3
  have ih45 : ∀ (y1 y2 y3 : Int) (b : Nat → Nat → Int), (((((y2 + 0) * 11) + 0) + ((8 - y3) * 1)) + 0).toNat < n → 1 ≤ y2 → y2 ≤ 255 → 0 ≤ y3 → y3 ≤ 7 → jt (jxX E d 44 45 [some (.inr (.inr (.inl 79))), some (.inl y1), some (.inl y2), some (.inl y3)] [] (jxSH, a0, b)) (jQ_X2_tryReceiver x1 a0 b0) := fun y1 y2 y3 b hlt i0 i1 i2 i3 => (ih _ hlt).2.1 y1 y2 y3 b (Nat.le_refl _) i0 i1 i2 i3
  have ih15 : ∀ (y1 y2 y3 : Int) (b : Nat → Nat → Int), (((((y2 + 0) * 11) + 0) + ((8 - y3) * 1)) + 0).toNat < n → 1 ≤ y2 → y2 ≤ 255 → 0 ≤ y3 → y3 ≤ 8 → jt (jxX E d 44 15 [some (.inr (.inr (.inl 79))), some (.inl y1), some (.inl y2), some (.inl y3)] [] (jxSH, a0, b)) (jQ_X2_tryReceiver x1 a0 b0) := fun y1 y2 y3 b hlt i0 i1 i2 i3 => (ih _ hlt).2.2.1 y1 y2 y3 b (Nat.le_refl _) i0 i1 i2 i3
  have ih9 : ∀ (y1 y2 : Int) (b : Nat → Nat → Int), (((y2 + 0) * 11) + 10).toNat < n → 0 ≤ y2 → y2 ≤ 255 → jt (jxX E d 44 9 [some (.inr (.inr (.inl 79))), some (.inl y1), some (.inl y2), none] [] (jxSH, a0, b)) (jQ_X2_tryReceiver x1 a0 b0) := fun y1 y2 b hlt i0 i1 => (ih _ hlt).2.2.2 y1 y2 b (Nat.le_refl _) i0 i1
  have hc52 : ∀ (y1 y2 y3 : Int) (b : Nat → Nat → Int), (((((y2 + 0) * 11) + 0) + ((8 - y3) * 1)) + 0).toNat ≤ n → 1 ≤ y2 → y2 ≤ 255 → 0 ≤ y3 → y3 ≤ 7 → jt (jxX E d 44 52 [some (.inr (.inr (.inl 79))), some (.inl y1), some (.inl y2), some (.inl y3)] [] (jxSH, a0, b)) (jQ_X2_tryReceiver x1 a0 b0) := by
    intro y1 y2 y3 b hm hi0 hi1 hi2 hi3
    refine jt_eq (bq_X2_tryReceiver_52 E d y1 y2 y3 a0 b) ?_
    have h1054_ : jxw (y3 + 1) = y3 + 1 := jxw_id (by omega) (by omega)
    exact ih15 y1 y2 (jxw (y3 + 1)) b (show (((((y2 + 0) * 11) + 0) + ((8 - (jxw (y3 + 1))) * 1)) + 0).toNat < n from by omega) (show 1 ≤ y2 from by omega) (show y2 ≤ 255 from by omega) (show 0 ≤ jxw (y3 + 1) from by omega) (show jxw (y3 + 1) ≤ 8 from by omega)
  have hc45 : ∀ (y1 y2 y3 : Int) (b : Nat → Nat → Int), (((((y2 + 0) * 11) + 0) + ((8 - y3) * 1)) + 0).toNat ≤ n → 1 ≤ y2 → y2 ≤ 255 → 0 ≤ y3 → y3 ≤ 7 → jt (jxX E d 44 45 [some (.inr (.inr (.inl 79))), some (.inl y1), some (.inl y2), some (.inl y3)] [] (jxSH, a0, b)) (jQ_X2_tryReceiver x1 a0 b0) := by
    intro y1 y2 y3 b hm hi0 hi1 hi2 hi3
    refine jt_eq (bq_X2_tryReceiver_45 E d y1 y2 y3 a0 b) ?_
    refine jt_bV (sp_X2_tryPair E d (jd_le hd rfl) y2 y3 y1 a0 b hv0 (show 0 ≤ y2 from by omega) (show y2 ≤ 255 from by omega) (show 0 ≤ y3 from by omega) (show y3 ≤ 7 from by omega)) (fun a1055_ b1055_ h1055_ => ?_)
    subst h1055_
    exact hc52 y1 y2 y3 b1055_ (show (((((y2 + 0) * 11) + 0) + ((8 - y3) * 1)) + 0).toNat ≤ n from by omega) (show 1 ≤ y2 from by omega) (show y2 ≤ 255 from by omega) (show 0 ≤ y3 from by omega) (show y3 ≤ 7 from by omega)
  have hc15 : ∀ (y1 y2 y3 : Int) (b : Nat → Nat → Int), (((((y2 + 0) * 11) + 0) + ((8 - y3) * 1)) + 0).toNat ≤ n → 1 ≤ y2 → y2 ≤ 255 → 0 ≤ y3 → y3 ≤ 8 → jt (jxX E d 44 15 [some (.inr (.inr (.inl 79))), some (.inl y1), some (.inl y2), some (.inl y3)] [] (jxSH, a0, b)) (jQ_X2_tryReceiver x1 a0 b0) := by
    intro y1 y2 y3 b hm hi0 hi1 hi2 hi3
    refine jt_eq (bq_X2_tryReceiver_15 E d y1 y2 y3 a0 b) ?_
    have h1056_ := iv_get hv0 (k := 79) (j := 3) (l := 0) (u := 8) rfl
    refine jt_ite (fun c1057_ => ?_) (fun c1057_ => ?_)
    ·
      have h1058_ := jxshr_b y2 y3
      have h1059_ := jxand_r (jxshr y2 y3) 1 (by decide) (by decide)
      refine jt_ite (fun c1060_ => ?_) (fun c1060_ => ?_)
      ·
        refine jt_grd (by omega) ?_
        have h1061_ := jxlcmp_b (b 82 (y3.toNat)) 4611686018427387904
        refine jt_ite (fun c1062_ => ?_) (fun c1062_ => ?_)
        ·
          exact hc52 y1 y2 y3 b (show (((((y2 + 0) * 11) + 0) + ((8 - y3) * 1)) + 0).toNat ≤ n from by omega) (show 1 ≤ y2 from by omega) (show y2 ≤ 255 from by omega) (show 0 ≤ y3 from by omega) (show y3 ≤ 7 from by omega)
        ·
          exact hc45 y1 y2 y3 b (show (((((y2 + 0) * 11) + 0) + ((8 - y3) * 1)) + 0).toNat ≤ n from by omega) (show 1 ≤ y2 from by omega) (show y2 ≤ 255 from by omega) (show 0 ≤ y3 from by omega) (show y3 ≤ 7 from by omega)
      ·
        exact hc52 y1 y2 y3 b (show (((((y2 + 0) * 11) + 0) + ((8 - y3) * 1)) + 0).toNat ≤ n from by omega) (show 1 ≤ y2 from by omega) (show y2 ≤ 255 from by omega) (show 0 ≤ y3 from by omega) (show y3 ≤ 7 from by omega)
    ·
      have h1063_ : jxw (y2 + (-1)) = y2 + (-1) := jxw_id (by omega) (by omega)
      exact ih9 y1 (jxw (y2 + (-1))) b (show ((((jxw (y2 + (-1))) + 0) * 11) + 10).toNat < n from by omega) (show 0 ≤ jxw (y2 + (-1)) from by omega) (show jxw (y2 + (-1)) ≤ 255 from by omega)
  have hc9 : ∀ (y1 y2 : Int) (b : Nat → Nat → Int), (((y2 + 0) * 11) + 10).toNat ≤ n → 0 ≤ y2 → y2 ≤ 255 → jt (jxX E d 44 9 [some (.inr (.inr (.inl 79))), some (.inl y1), some (.inl y2), none] [] (jxSH, a0, b)) (jQ_X2_tryReceiver x1 a0 b0) := by
    intro y1 y2 b hm hi0 hi1
    refine jt_eq (bq_X2_tryReceiver_9 E d y1 y2 a0 b) ?_
    refine jt_ite (fun c1064_ => ?_) (fun c1064_ => ?_)
    ·
      exact hc15 y1 y2 0 b (show (((((y2 + 0) * 11) + 0) + ((8 - 0) * 1)) + 0).toNat ≤ n from by omega) (show 1 ≤ y2 from by omega) (show y2 ≤ 255 from by omega) (show 0 ≤ 0 from by omega) (show 0 ≤ 8 from by omega)
    ·
      refine jt_bV (sp_X2_forbidAll E d (jd_le hd rfl) a0 b hv0) (fun a1065_ b1065_ h1065_ => ?_)
      subst h1065_
      exact jt_rV rfl
  exact ⟨hc52, hc45, hc15, hc9⟩
theorem sp_X2_tryReceiver (E : jxE) (d : Nat) (hd : Nat.ble 3 d = true) (x1 : Int) (a0 b0 : Nat → Nat → Int) (hv0 : iv a0) : jt (jxC E d 44 [.inr (.inr (.inl 79)), .inl x1] (jxSH, a0, b0)) (jQ_X2_tryReceiver x1 a0 b0) := by
  obtain ⟨d, rfl⟩ := jd_succ hd
  refine jt_eq (bq_X2_tryReceiver E d x1 a0 b0) ?_
  have h1066_ := iv_get hv0 (k := 79) (j := 3) (l := 0) (u := 8) rfl
  have h1067_ := jxshl1_b (a0 79 3)
  have h1068_ : jxw ((jxshl 1 (a0 79 3)) - 1) = (jxshl 1 (a0 79 3)) - 1 := jxw_id (by omega) (by omega)
  exact (cp_X2_tryReceiver_9 E d hd x1 a0 b0 hv0 _).2.2.2 x1 (jxw ((jxshl 1 (a0 79 3)) - 1)) b0 (Nat.le_refl _) (show 0 ≤ jxw ((jxshl 1 (a0 79 3)) - 1) from by omega) (show jxw ((jxshl 1 (a0 79 3)) - 1) ≤ 255 from by omega)
def jW_X11_give : List (Nat × Nat) := [(0, 9), (58, 8), (58, 13), (58, 14), (58, 15), (59, 9999), (60, 9999), (61, 9999), (62, 9999), (63, 9999), (64, 9999), (65, 9999), (70, 9999), (71, 9999), (72, 9999), (73, 9999), (74, 9999), (75, 9999), (77, 9999), (79, 3)]
abbrev jQ_X11_give (a0 b0 : Nat → Nat → Int) : List jxV → (Nat → Nat → Int) → (Nat → Nat → Int) → Prop := rI (fun r a b => (iv a) ∧ (jfr jW_X11_give a0 a) ∧ ((a0 0 9 = 0 → r = 0)))
theorem cp_X11_give_144 (E : jxE) (d : Nat) (hd : Nat.ble 8 (d + 1) = true) (a0 b0 : Nat → Nat → Int) (hv0 : iv a0) : ∀ n : Nat, (∀ (y1 y2 y3 : Int) (a b : Nat → Nat → Int), (((8 - y3) * 1) + 0).toNat ≤ n → iv a → jfr jW_X11_give a0 a → 1 ≤ y1 → y1 ≤ 8 → 0 ≤ y3 → y3 ≤ 7 → (a0 0 9 = 0 → y1 = 0) → (a0 0 9 = 0 → y2 = 0) → jt (jxX E d 168 179 [some (.inr (.inr (.inl 0))), some (.inl y1), some (.inl y2), some (.inl y3), none] [] (jxSH, a, b)) (jQ_X11_give a0 b0)) ∧ (∀ (y1 y2 y3 : Int) (a b : Nat → Nat → Int), (((8 - y3) * 1) + 0).toNat ≤ n → iv a → jfr jW_X11_give a0 a → 0 ≤ y1 → y1 ≤ 8 → 0 ≤ y3 → y3 ≤ 8 → (a0 0 9 = 0 → y1 = 0) → (a0 0 9 = 0 → y2 = 0) → jt (jxX E d 168 144 [some (.inr (.inr (.inl 0))), some (.inl y1), some (.inl y2), some (.inl y3), none] [] (jxSH, a, b)) (jQ_X11_give a0 b0)) := by
  refine jx_ind fun n ih => ?_
  have ih179 : ∀ (y1 y2 y3 : Int) (a b : Nat → Nat → Int), (((8 - y3) * 1) + 0).toNat < n → iv a → jfr jW_X11_give a0 a → 1 ≤ y1 → y1 ≤ 8 → 0 ≤ y3 → y3 ≤ 7 → (a0 0 9 = 0 → y1 = 0) → (a0 0 9 = 0 → y2 = 0) → jt (jxX E d 168 179 [some (.inr (.inr (.inl 0))), some (.inl y1), some (.inl y2), some (.inl y3), none] [] (jxSH, a, b)) (jQ_X11_give a0 b0) := fun y1 y2 y3 a b hlt i0 i1 i2 i3 i4 i5 i6 i7 => (ih _ hlt).1 y1 y2 y3 a b (Nat.le_refl _) i0 i1 i2 i3 i4 i5 i6 i7
  have ih144 : ∀ (y1 y2 y3 : Int) (a b : Nat → Nat → Int), (((8 - y3) * 1) + 0).toNat < n → iv a → jfr jW_X11_give a0 a → 0 ≤ y1 → y1 ≤ 8 → 0 ≤ y3 → y3 ≤ 8 → (a0 0 9 = 0 → y1 = 0) → (a0 0 9 = 0 → y2 = 0) → jt (jxX E d 168 144 [some (.inr (.inr (.inl 0))), some (.inl y1), some (.inl y2), some (.inl y3), none] [] (jxSH, a, b)) (jQ_X11_give a0 b0) := fun y1 y2 y3 a b hlt i0 i1 i2 i3 i4 i5 i6 i7 => (ih _ hlt).2 y1 y2 y3 a b (Nat.le_refl _) i0 i1 i2 i3 i4 i5 i6 i7
  have hc179 : ∀ (y1 y2 y3 : Int) (a b : Nat → Nat → Int), (((8 - y3) * 1) + 0).toNat ≤ n → iv a → jfr jW_X11_give a0 a → 1 ≤ y1 → y1 ≤ 8 → 0 ≤ y3 → y3 ≤ 7 → (a0 0 9 = 0 → y1 = 0) → (a0 0 9 = 0 → y2 = 0) → jt (jxX E d 168 179 [some (.inr (.inr (.inl 0))), some (.inl y1), some (.inl y2), some (.inl y3), none] [] (jxSH, a, b)) (jQ_X11_give a0 b0) := by
    intro y1 y2 y3 a b hm hv hf hi0 hi1 hi2 hi3 hi4 hi5
    refine jt_eq (bq_X11_give_179 E d y1 y2 y3 a b) ?_
    have h1069_ := iv_get hv0 (k := 0) (j := 9) (l := 0) (u := 8) rfl
    have h1070_ : jxw (y3 + 1) = y3 + 1 := jxw_id (by omega) (by omega)
    have h1071_ := jxw_im (y2 + 1)
    have h1072_ := jxw_rg (y2 + 1)
    exact ih144 y1 (jxw (y2 + 1)) (jxw (y3 + 1)) a b (show (((8 - (jxw (y3 + 1))) * 1) + 0).toNat < n from by omega) hv hf (show 0 ≤ y1 from by omega) (show y1 ≤ 8 from by omega) (show 0 ≤ jxw (y3 + 1) from by omega) (show jxw (y3 + 1) ≤ 8 from by omega) (show (a0 0 9 = 0 → y1 = 0) from by omega) (show (a0 0 9 = 0 → jxw (y2 + 1) = 0) from by omega)
  have hc144 : ∀ (y1 y2 y3 : Int) (a b : Nat → Nat → Int), (((8 - y3) * 1) + 0).toNat ≤ n → iv a → jfr jW_X11_give a0 a → 0 ≤ y1 → y1 ≤ 8 → 0 ≤ y3 → y3 ≤ 8 → (a0 0 9 = 0 → y1 = 0) → (a0 0 9 = 0 → y2 = 0) → jt (jxX E d 168 144 [some (.inr (.inr (.inl 0))), some (.inl y1), some (.inl y2), some (.inl y3), none] [] (jxSH, a, b)) (jQ_X11_give a0 b0) := by
    intro y1 y2 y3 a b hm hv hf hi0 hi1 hi2 hi3 hi4 hi5
    refine jt_eq (bq_X11_give_144 E d y1 y2 y3 a b) ?_
    have h1073_ := iv_get hv0 (k := 0) (j := 9) (l := 0) (u := 8) rfl
    refine jt_ite (fun c1074_ => ?_) (fun c1074_ => ?_)
    ·
      refine jt_eI (eq_X2_receiverOf E d (jd_le hd rfl) y3 a b) ?_
      refine jt_ite (fun c1075_ => ?_) (fun c1075_ => ?_)
      ·
        have h1076_ : jxw (y3 + 1) = y3 + 1 := jxw_id (by omega) (by omega)
        exact ih144 y1 y2 (jxw (y3 + 1)) a b (show (((8 - (jxw (y3 + 1))) * 1) + 0).toNat < n from by omega) hv hf (show 0 ≤ y1 from by omega) (show y1 ≤ 8 from by omega) (show 0 ≤ jxw (y3 + 1) from by omega) (show jxw (y3 + 1) ≤ 8 from by omega) (show (a0 0 9 = 0 → y1 = 0) from by omega) (show (a0 0 9 = 0 → y2 = 0) from by omega)
      ·
        refine jt_grd (by omega) ?_
        refine jt_bI (sp_X11_send E d (jd_le hd rfl) (a 77 (y3.toNat)) (f_X2_receiverOf a b y3) (-1) a b hv) (fun r1077_ a1077_ b1077_ h1077_ => ?_)
        obtain ⟨hv1077_, hf1077_, rfl⟩ := h1077_
        have hf1078_ : jfr jW_X11_give a0 a1077_ := jfr_tr hf hf1077_ rfl
        exact hc179 y1 y2 y3 a1077_ b (show (((8 - y3) * 1) + 0).toNat ≤ n from by omega) hv1077_ hf1078_ (show 1 ≤ y1 from by omega) (show y1 ≤ 8 from by omega) (show 0 ≤ y3 from by omega) (show y3 ≤ 7 from by omega) (show (a0 0 9 = 0 → y1 = 0) from by omega) (show (a0 0 9 = 0 → y2 = 0) from by omega)
    ·
      exact jt_rI ⟨hv, hf, (show (a0 0 9 = 0 → y2 = 0) from by omega)⟩
  exact ⟨hc179, hc144⟩
theorem cp_X11_give_51 (E : jxE) (d : Nat) (hd : Nat.ble 8 (d + 1) = true) (a0 b0 : Nat → Nat → Int) (hv0 : iv a0) : ∀ n : Nat, (∀ (y1 y2 y3 : Int) (a b : Nat → Nat → Int), (((((40 - y2) * 11) + 0) + ((8 - y3) * 1)) + 0).toNat ≤ n → iv a → jfr jW_X11_give a0 a → 1 ≤ y1 → y1 ≤ 8 → 0 ≤ y2 → y2 ≤ 39 → 0 ≤ y3 → y3 ≤ 7 → (a0 0 9 = 0 → y1 = 0) → jt (jxX E d 168 113 [some (.inr (.inr (.inl 0))), some (.inl y1), some (.inl y2), some (.inl y3), none] [] (jxSH, a, b)) (jQ_X11_give a0 b0)) ∧ (∀ (y1 y2 y3 : Int) (a b : Nat → Nat → Int), (((((40 - y2) * 11) + 0) + ((8 - y3) * 1)) + 0).toNat ≤ n → iv a → jfr jW_X11_give a0 a → 1 ≤ y1 → y1 ≤ 8 → 0 ≤ y2 → y2 ≤ 39 → 0 ≤ y3 → y3 ≤ 7 → (a0 0 9 = 0 → y1 = 0) → jt (jxX E d 168 89 [some (.inr (.inr (.inl 0))), some (.inl y1), some (.inl y2), some (.inl y3), none] [] (jxSH, a, b)) (jQ_X11_give a0 b0)) ∧ (∀ (y1 y2 y3 : Int) (a b : Nat → Nat → Int), (((((40 - y2) * 11) + 0) + ((8 - y3) * 1)) + 0).toNat ≤ n → iv a → jfr jW_X11_give a0 a → 0 ≤ y1 → y1 ≤ 8 → 0 ≤ y2 → y2 ≤ 39 → 0 ≤ y3 → y3 ≤ 8 → (a0 0 9 = 0 → y1 = 0) → jt (jxX E d 168 64 [some (.inr (.inr (.inl 0))), some (.inl y1), some (.inl y2), some (.inl y3), none] [] (jxSH, a, b)) (jQ_X11_give a0 b0)) ∧ (∀ (y1 y2 : Int) (a b : Nat → Nat → Int), (((40 - y2) * 11) + 10).toNat ≤ n → iv a → jfr jW_X11_give a0 a → 0 ≤ y1 → y1 ≤ 8 → 0 ≤ y2 → y2 ≤ 40 → (a0 0 9 = 0 → y1 = 0) → jt (jxX E d 168 51 [some (.inr (.inr (.inl 0))), some (.inl y1), some (.inl y2), none, none] [] (jxSH, a, b)) (jQ_X11_give a0 b0)) := by
  refine jx_ind fun n ih => ?_
  have ih113 : ∀ (y1 y2 y3 : Int) (a b : Nat → Nat → Int), (((((40 - y2) * 11) + 0) + ((8 - y3) * 1)) + 0).toNat < n → iv a → jfr jW_X11_give a0 a → 1 ≤ y1 → y1 ≤ 8 → 0 ≤ y2 → y2 ≤ 39 → 0 ≤ y3 → y3 ≤ 7 → (a0 0 9 = 0 → y1 = 0) → jt (jxX E d 168 113 [some (.inr (.inr (.inl 0))), some (.inl y1), some (.inl y2), some (.inl y3), none] [] (jxSH, a, b)) (jQ_X11_give a0 b0) := fun y1 y2 y3 a b hlt i0 i1 i2 i3 i4 i5 i6 i7 i8 => (ih _ hlt).1 y1 y2 y3 a b (Nat.le_refl _) i0 i1 i2 i3 i4 i5 i6 i7 i8
  have ih89 : ∀ (y1 y2 y3 : Int) (a b : Nat → Nat → Int), (((((40 - y2) * 11) + 0) + ((8 - y3) * 1)) + 0).toNat < n → iv a → jfr jW_X11_give a0 a → 1 ≤ y1 → y1 ≤ 8 → 0 ≤ y2 → y2 ≤ 39 → 0 ≤ y3 → y3 ≤ 7 → (a0 0 9 = 0 → y1 = 0) → jt (jxX E d 168 89 [some (.inr (.inr (.inl 0))), some (.inl y1), some (.inl y2), some (.inl y3), none] [] (jxSH, a, b)) (jQ_X11_give a0 b0) := fun y1 y2 y3 a b hlt i0 i1 i2 i3 i4 i5 i6 i7 i8 => (ih _ hlt).2.1 y1 y2 y3 a b (Nat.le_refl _) i0 i1 i2 i3 i4 i5 i6 i7 i8
  have ih64 : ∀ (y1 y2 y3 : Int) (a b : Nat → Nat → Int), (((((40 - y2) * 11) + 0) + ((8 - y3) * 1)) + 0).toNat < n → iv a → jfr jW_X11_give a0 a → 0 ≤ y1 → y1 ≤ 8 → 0 ≤ y2 → y2 ≤ 39 → 0 ≤ y3 → y3 ≤ 8 → (a0 0 9 = 0 → y1 = 0) → jt (jxX E d 168 64 [some (.inr (.inr (.inl 0))), some (.inl y1), some (.inl y2), some (.inl y3), none] [] (jxSH, a, b)) (jQ_X11_give a0 b0) := fun y1 y2 y3 a b hlt i0 i1 i2 i3 i4 i5 i6 i7 i8 => (ih _ hlt).2.2.1 y1 y2 y3 a b (Nat.le_refl _) i0 i1 i2 i3 i4 i5 i6 i7 i8
  have ih51 : ∀ (y1 y2 : Int) (a b : Nat → Nat → Int), (((40 - y2) * 11) + 10).toNat < n → iv a → jfr jW_X11_give a0 a → 0 ≤ y1 → y1 ≤ 8 → 0 ≤ y2 → y2 ≤ 40 → (a0 0 9 = 0 → y1 = 0) → jt (jxX E d 168 51 [some (.inr (.inr (.inl 0))), some (.inl y1), some (.inl y2), none, none] [] (jxSH, a, b)) (jQ_X11_give a0 b0) := fun y1 y2 a b hlt i0 i1 i2 i3 i4 i5 i6 => (ih _ hlt).2.2.2 y1 y2 a b (Nat.le_refl _) i0 i1 i2 i3 i4 i5 i6
  have hc113 : ∀ (y1 y2 y3 : Int) (a b : Nat → Nat → Int), (((((40 - y2) * 11) + 0) + ((8 - y3) * 1)) + 0).toNat ≤ n → iv a → jfr jW_X11_give a0 a → 1 ≤ y1 → y1 ≤ 8 → 0 ≤ y2 → y2 ≤ 39 → 0 ≤ y3 → y3 ≤ 7 → (a0 0 9 = 0 → y1 = 0) → jt (jxX E d 168 113 [some (.inr (.inr (.inl 0))), some (.inl y1), some (.inl y2), some (.inl y3), none] [] (jxSH, a, b)) (jQ_X11_give a0 b0) := by
    intro y1 y2 y3 a b hm hv hf hi0 hi1 hi2 hi3 hi4 hi5 hi6
    refine jt_eq (bq_X11_give_113 E d y1 y2 y3 a b) ?_
    have h1079_ := iv_get hv0 (k := 0) (j := 9) (l := 0) (u := 8) rfl
    have h1080_ : jxw (y3 + 1) = y3 + 1 := jxw_id (by omega) (by omega)
    exact ih64 y1 y2 (jxw (y3 + 1)) a b (show (((((40 - y2) * 11) + 0) + ((8 - (jxw (y3 + 1))) * 1)) + 0).toNat < n from by omega) hv hf (show 0 ≤ y1 from by omega) (show y1 ≤ 8 from by omega) (show 0 ≤ y2 from by omega) (show y2 ≤ 39 from by omega) (show 0 ≤ jxw (y3 + 1) from by omega) (show jxw (y3 + 1) ≤ 8 from by omega) (show (a0 0 9 = 0 → y1 = 0) from by omega)
  have hc89 : ∀ (y1 y2 y3 : Int) (a b : Nat → Nat → Int), (((((40 - y2) * 11) + 0) + ((8 - y3) * 1)) + 0).toNat ≤ n → iv a → jfr jW_X11_give a0 a → 1 ≤ y1 → y1 ≤ 8 → 0 ≤ y2 → y2 ≤ 39 → 0 ≤ y3 → y3 ≤ 7 → (a0 0 9 = 0 → y1 = 0) → jt (jxX E d 168 89 [some (.inr (.inr (.inl 0))), some (.inl y1), some (.inl y2), some (.inl y3), none] [] (jxSH, a, b)) (jQ_X11_give a0 b0) := by
    intro y1 y2 y3 a b hm hv hf hi0 hi1 hi2 hi3 hi4 hi5 hi6
    refine jt_eq (bq_X11_give_89 E d y1 y2 y3 a b) ?_
    have h1081_ := iv_get hv0 (k := 0) (j := 9) (l := 0) (u := 8) rfl
    refine jt_grd (by omega) ?_
    refine jt_bI (sp_X11_unhappy E d (jd_le hd rfl) (a 77 (y3.toNat)) y2 a b hv) (fun r1082_ a1082_ b1082_ h1082_ => ?_)
    obtain ⟨rfl, rfl⟩ := h1082_
    refine jt_eI (eq_X11_owed E d (jd_le hd rfl) y2 a b) ?_
    refine jt_bV (sp_X2_allow E d (jd_le hd rfl) y3 r1082_ (f_X11_owed a b y2) a b hv) (fun a1083_ b1083_ h1083_ => ?_)
    subst h1083_
    exact hc113 y1 y2 y3 a b1083_ (show (((((40 - y2) * 11) + 0) + ((8 - y3) * 1)) + 0).toNat ≤ n from by omega) hv hf (show 1 ≤ y1 from by omega) (show y1 ≤ 8 from by omega) (show 0 ≤ y2 from by omega) (show y2 ≤ 39 from by omega) (show 0 ≤ y3 from by omega) (show y3 ≤ 7 from by omega) (show (a0 0 9 = 0 → y1 = 0) from by omega)
  have hc64 : ∀ (y1 y2 y3 : Int) (a b : Nat → Nat → Int), (((((40 - y2) * 11) + 0) + ((8 - y3) * 1)) + 0).toNat ≤ n → iv a → jfr jW_X11_give a0 a → 0 ≤ y1 → y1 ≤ 8 → 0 ≤ y2 → y2 ≤ 39 → 0 ≤ y3 → y3 ≤ 8 → (a0 0 9 = 0 → y1 = 0) → jt (jxX E d 168 64 [some (.inr (.inr (.inl 0))), some (.inl y1), some (.inl y2), some (.inl y3), none] [] (jxSH, a, b)) (jQ_X11_give a0 b0) := by
    intro y1 y2 y3 a b hm hv hf hi0 hi1 hi2 hi3 hi4 hi5 hi6
    refine jt_eq (bq_X11_give_64 E d y1 y2 y3 a b) ?_
    have h1084_ := iv_get hv0 (k := 0) (j := 9) (l := 0) (u := 8) rfl
    refine jt_ite (fun c1085_ => ?_) (fun c1085_ => ?_)
    ·
      refine jt_grd (by omega) ?_
      refine jt_grd (by omega) ?_
      refine jt_bI (sp_X11_mayGet E d (jd_le hd rfl) (a 77 (y3.toNat)) y2 (b 78 (y3.toNat)) a b hv) (fun r1086_ a1086_ b1086_ h1086_ => ?_)
      obtain ⟨rfl, rfl, hq1086_0⟩ := h1086_
      refine jt_ite (fun c1087_ => ?_) (fun c1087_ => ?_)
      ·
        exact hc113 y1 y2 y3 a b (show (((((40 - y2) * 11) + 0) + ((8 - y3) * 1)) + 0).toNat ≤ n from by omega) hv hf (show 1 ≤ y1 from by omega) (show y1 ≤ 8 from by omega) (show 0 ≤ y2 from by omega) (show y2 ≤ 39 from by omega) (show 0 ≤ y3 from by omega) (show y3 ≤ 7 from by omega) (show (a0 0 9 = 0 → y1 = 0) from by omega)
      ·
        exact hc89 y1 y2 y3 a b (show (((((40 - y2) * 11) + 0) + ((8 - y3) * 1)) + 0).toNat ≤ n from by omega) hv hf (show 1 ≤ y1 from by omega) (show y1 ≤ 8 from by omega) (show 0 ≤ y2 from by omega) (show y2 ≤ 39 from by omega) (show 0 ≤ y3 from by omega) (show y3 ≤ 7 from by omega) (show (a0 0 9 = 0 → y1 = 0) from by omega)
    ·
      refine jt_bV (sp_X2_tryReceiver E d (jd_le hd rfl) y2 a b hv) (fun a1088_ b1088_ h1088_ => ?_)
      subst h1088_
      have h1089_ : jxw (y2 + 1) = y2 + 1 := jxw_id (by omega) (by omega)
      exact ih51 y1 (jxw (y2 + 1)) a b1088_ (show (((40 - (jxw (y2 + 1))) * 11) + 10).toNat < n from by omega) hv hf (show 0 ≤ y1 from by omega) (show y1 ≤ 8 from by omega) (show 0 ≤ jxw (y2 + 1) from by omega) (show jxw (y2 + 1) ≤ 40 from by omega) (show (a0 0 9 = 0 → y1 = 0) from by omega)
  have hc51 : ∀ (y1 y2 : Int) (a b : Nat → Nat → Int), (((40 - y2) * 11) + 10).toNat ≤ n → iv a → jfr jW_X11_give a0 a → 0 ≤ y1 → y1 ≤ 8 → 0 ≤ y2 → y2 ≤ 40 → (a0 0 9 = 0 → y1 = 0) → jt (jxX E d 168 51 [some (.inr (.inr (.inl 0))), some (.inl y1), some (.inl y2), none, none] [] (jxSH, a, b)) (jQ_X11_give a0 b0) := by
    intro y1 y2 a b hm hv hf hi0 hi1 hi2 hi3 hi4
    refine jt_eq (bq_X11_give_51 E d y1 y2 a b) ?_
    have h1090_ := iv_get hv0 (k := 0) (j := 9) (l := 0) (u := 8) rfl
    refine jt_eI (eq_X3_size E d (jd_le hd rfl) a b) ?_
    have h1091_ := f_X3_size_eq a b
    have h1092_ := iv_get hv (k := 4) (j := 6) (l := 0) (u := 40) rfl
    have h1093_ : a 4 6 = a0 4 6 := hf 4 6 rfl
    have h1094_ := iv_get hv0 (k := 4) (j := 6) (l := 0) (u := 40) rfl
    refine jt_ite (fun c1095_ => ?_) (fun c1095_ => ?_)
    ·
      exact hc64 y1 y2 0 a b (show (((((40 - y2) * 11) + 0) + ((8 - 0) * 1)) + 0).toNat ≤ n from by omega) hv hf (show 0 ≤ y1 from by omega) (show y1 ≤ 8 from by omega) (show 0 ≤ y2 from by omega) (show y2 ≤ 39 from by omega) (show 0 ≤ 0 from by omega) (show 0 ≤ 8 from by omega) (show (a0 0 9 = 0 → y1 = 0) from by omega)
    ·
      refine jt_bV (sp_X2_finish E d (jd_le hd rfl) a b hv) (fun a1096_ b1096_ h1096_ => ?_)
      subst h1096_
      exact (cp_X11_give_144 E d hd a0 b0 hv0 _).2 y1 0 0 a b1096_ (Nat.le_refl _) hv hf (show 0 ≤ y1 from by omega) (show y1 ≤ 8 from by omega) (show 0 ≤ 0 from by omega) (show 0 ≤ 8 from by omega) (show (a0 0 9 = 0 → y1 = 0) from by omega) (show (a0 0 9 = 0 → 0 = 0) from by omega)
  exact ⟨hc113, hc89, hc64, hc51⟩
theorem cp_X11_give_36 (E : jxE) (d : Nat) (hd : Nat.ble 8 (d + 1) = true) (a0 b0 : Nat → Nat → Int) (hv0 : iv a0) : ∀ (y1 : Int) (a b : Nat → Nat → Int), iv a → jfr jW_X11_give a0 a → 0 ≤ y1 → y1 ≤ 8 → (a0 0 9 = 0 → y1 = 0) → jt (jxX E d 168 36 [some (.inr (.inr (.inl 0))), some (.inl y1), none, none, none] [] (jxSH, a, b)) (jQ_X11_give a0 b0) := by
  intro y1 a b hv hf hi0 hi1 hi2
  refine jt_eq (bq_X11_give_36 E d y1 a b) ?_
  have h1097_ := iv_get hv0 (k := 0) (j := 9) (l := 0) (u := 8) rfl
  have hv1098_ : iv (jxu a 0 9 0) := iv_put hv (l := 0) (u := 8) rfl (by omega) (by omega)
  refine jt_bV (sp_X2_begin E d (jd_le hd rfl) y1 (jxu a 0 9 0) b hv1098_) (fun a1099_ b1099_ h1099_ => ?_)
  obtain ⟨hv1099_, hf1099_⟩ := h1099_
  have hf1100_ : jfr jW_X11_give a0 (jxu a 0 9 0) := jfr_put hf rfl
  have hf1101_ : jfr jW_X11_give a0 a1099_ := jfr_tr hf1100_ hf1099_ rfl
  exact (cp_X11_give_51 E d hd a0 b0 hv0 _).2.2.2 y1 0 a1099_ b1099_ (Nat.le_refl _) hv1099_ hf1101_ (show 0 ≤ y1 from by omega) (show y1 ≤ 8 from by omega) (show 0 ≤ 0 from by omega) (show 0 ≤ 40 from by omega) (show (a0 0 9 = 0 → y1 = 0) from by omega)
theorem sp_X11_give (E : jxE) (d : Nat) (hd : Nat.ble 8 d = true) (a0 b0 : Nat → Nat → Int) (hv0 : iv a0) : jt (jxC E d 168 [.inr (.inr (.inl 0))] (jxSH, a0, b0)) (jQ_X11_give a0 b0) := by
  obtain ⟨d, rfl⟩ := jd_succ hd
  refine jt_eq (bq_X11_give E d a0 b0) ?_
  refine jt_eI (eq_X0_hasRoom E d (jd_le hd rfl) (a0 0 9) a0 b0) ?_
  have h1102_ := iv_get hv0 (k := 0) (j := 9) (l := 0) (u := 8) rfl
  have h1103_ := f_X0_hasRoom_eq a0 b0 (a0 0 9)
  have h1104_ := iv_get hv0 (k := 58) (j := 8) (l := 0) (u := 300) rfl
  have h1105_ : jxw (300 - (a0 58 8)) = 300 - (a0 58 8) := jxw_id (by omega) (by omega)
  refine jt_ite (fun c1106_ => ?_) (fun c1106_ => ?_)
  ·
    exact jt_rI ⟨hv0, (jfr_rf _ _), (show (a0 0 9 = 0 → (-1) = 0) from by omega)⟩
  ·
    refine jt_bV (sp_X7_take_r58 E d (jd_le hd rfl) (a0 0 0) a0 b0 hv0) (fun a1107_ b1107_ h1107_ => ?_)
    obtain ⟨hv1107_, hf1107_, rfl⟩ := h1107_
    refine jt_bI (sp_X11_gatherAskers E d (jd_le hd rfl) a1107_ b0 hv1107_) (fun r1108_ a1108_ b1108_ h1108_ => ?_)
    obtain ⟨hv1108_, hf1108_, hq1108_0, hq1108_1, hq1108_2⟩ := h1108_
    have h1109_ := iv_get hv1107_ (k := 0) (j := 9) (l := 0) (u := 8) rfl
    have h1110_ : a1107_ 0 9 = a0 0 9 := hf1107_ 0 9 rfl
    have hf1111_ : jfr jW_X11_give a0 a1107_ := jfr_tr (jfr_rf _ _) hf1107_ rfl
    have hf1112_ : jfr jW_X11_give a0 a1108_ := jfr_tr hf1111_ hf1108_ rfl
    exact cp_X11_give_36 E d hd a0 b0 hv0 r1108_ a1108_ b1108_ hv1108_ hf1112_ (show 0 ≤ r1108_ from by omega) (show r1108_ ≤ 8 from by omega) (show (a0 0 9 = 0 → r1108_ = 0) from by omega)
def jW_X3_goAway : List (Nat × Nat) := [(10, 9999)]
abbrev jQ_X3_goAway (x1 : Int) (a0 b0 : Nat → Nat → Int) : List jxV → (Nat → Nat → Int) → (Nat → Nat → Int) → Prop := rV (fun a b => (iv a) ∧ (jfr jW_X3_goAway a0 a) ∧ (b0 = b) ∧ (0 ≤ x1 ∧ x1 < a0 4 6 ∧ x1 < 40 → UP (a0 10) (a 10) x1.toNat 0))
theorem sp_X3_goAway (E : jxE) (d : Nat) (hd : Nat.ble 2 d = true) (x1 : Int) (a0 b0 : Nat → Nat → Int) (hv0 : iv a0) : jt (jxC E d 55 [.inr (.inr (.inl 4)), .inl x1] (jxSH, a0, b0)) (jQ_X3_goAway x1 a0 b0) := by
  obtain ⟨d, rfl⟩ := jd_succ hd
  refine jt_eq (bq_X3_goAway E d x1 a0 b0) ?_
  refine jt_eI (eq_X3_has E d (jd_le hd rfl) x1 a0 b0) ?_
  have h1113_ := f_X3_has_eq a0 b0 x1
  have h1114_ := iv_get hv0 (k := 4) (j := 6) (l := 0) (u := 40) rfl
  refine jt_ite (fun c1115_ => ?_) (fun c1115_ => ?_)
  ·
    exact jt_rV ⟨hv0, (jfr_rf _ _), rfl, (by first | (intro h; exact absurd h (by omega)) | (intro _; exact UP_put (fun _ => rfl)))⟩
  ·
    refine jt_grd (by omega) ?_
    have hv1116_ : iv (jxu a0 10 (x1.toNat) 0) := iv_putf hv0 rfl
    have hf1117_ : jfr jW_X3_goAway a0 (jxu a0 10 (x1.toNat) 0) := jfr_put (jfr_rf _ _) rfl
    exact jt_rV ⟨hv1116_, hf1117_, rfl, (by first | (intro h; exact absurd h (by omega)) | (intro _; exact UP_put (fun _ => rfl)))⟩
def jW_X11_leave : List (Nat × Nat) := [(9, 9999), (10, 9999), (64, 9999), (87, 9999), (88, 9999), (89, 9999)]
abbrev jQ_X11_leave (x1 : Int) (a0 b0 : Nat → Nat → Int) : List jxV → (Nat → Nat → Int) → (Nat → Nat → Int) → Prop := rI (fun r a b => (iv a) ∧ (jfr jW_X11_leave a0 a) ∧ (b0 = b) ∧ ((a0 4 6 = 0 → r = 0 - 1)) ∧ (0 ≤ x1 ∧ x1 < a0 4 6 ∧ ¬ a0 10 x1.toNat = 0 → UP (a0 10) (a 10) x1.toNat 0) ∧ (x1 < 0 ∨ a0 4 6 ≤ x1 ∨ a0 10 x1.toNat = 0 → ∀ j, a 10 j = a0 10 j))
theorem cp_X11_leave_29 (E : jxE) (d : Nat) (hd : Nat.ble 5 (d + 1) = true) (x1 : Int) (a0 b0 : Nat → Nat → Int) (hv0 : iv a0) : ∀ n : Nat, (∀ (y1 y2 y3 : Int) (a : Nat → Nat → Int), (((20 - y3) * 1) + 0).toNat ≤ n → iv a → jfr jW_X11_leave a0 a → 0 ≤ y1 → y1 ≤ 39 → 0 ≤ y3 → y3 ≤ 19 → (UP (a0 10) (a 10) x1.toNat 0) → 1 ≤ a0 4 6 → ((0 ≤ x1 ∧ x1 < a0 4 6) ∧ ¬ a0 10 (x1.toNat) = 0) → jt (jxX E d 157 60 [some (.inr (.inr (.inl 0))), some (.inl y1), some (.inl y2), some (.inl y3)] [] (jxSH, a, b0)) (jQ_X11_leave x1 a0 b0)) ∧ (∀ (y1 y2 y3 : Int) (a : Nat → Nat → Int), (((20 - y3) * 1) + 0).toNat ≤ n → iv a → jfr jW_X11_leave a0 a → 0 ≤ y1 → y1 ≤ 39 → 0 ≤ y3 → y3 ≤ 20 → (UP (a0 10) (a 10) x1.toNat 0) → 1 ≤ a0 4 6 → ((0 ≤ x1 ∧ x1 < a0 4 6) ∧ ¬ a0 10 (x1.toNat) = 0) → jt (jxX E d 157 29 [some (.inr (.inr (.inl 0))), some (.inl y1), some (.inl y2), some (.inl y3)] [] (jxSH, a, b0)) (jQ_X11_leave x1 a0 b0)) := by
  refine jx_ind fun n ih => ?_
  have ih60 : ∀ (y1 y2 y3 : Int) (a : Nat → Nat → Int), (((20 - y3) * 1) + 0).toNat < n → iv a → jfr jW_X11_leave a0 a → 0 ≤ y1 → y1 ≤ 39 → 0 ≤ y3 → y3 ≤ 19 → (UP (a0 10) (a 10) x1.toNat 0) → 1 ≤ a0 4 6 → ((0 ≤ x1 ∧ x1 < a0 4 6) ∧ ¬ a0 10 (x1.toNat) = 0) → jt (jxX E d 157 60 [some (.inr (.inr (.inl 0))), some (.inl y1), some (.inl y2), some (.inl y3)] [] (jxSH, a, b0)) (jQ_X11_leave x1 a0 b0) := fun y1 y2 y3 a hlt i0 i1 i2 i3 i4 i5 i6 i7 i8 => (ih _ hlt).1 y1 y2 y3 a (Nat.le_refl _) i0 i1 i2 i3 i4 i5 i6 i7 i8
  have ih29 : ∀ (y1 y2 y3 : Int) (a : Nat → Nat → Int), (((20 - y3) * 1) + 0).toNat < n → iv a → jfr jW_X11_leave a0 a → 0 ≤ y1 → y1 ≤ 39 → 0 ≤ y3 → y3 ≤ 20 → (UP (a0 10) (a 10) x1.toNat 0) → 1 ≤ a0 4 6 → ((0 ≤ x1 ∧ x1 < a0 4 6) ∧ ¬ a0 10 (x1.toNat) = 0) → jt (jxX E d 157 29 [some (.inr (.inr (.inl 0))), some (.inl y1), some (.inl y2), some (.inl y3)] [] (jxSH, a, b0)) (jQ_X11_leave x1 a0 b0) := fun y1 y2 y3 a hlt i0 i1 i2 i3 i4 i5 i6 i7 i8 => (ih _ hlt).2 y1 y2 y3 a (Nat.le_refl _) i0 i1 i2 i3 i4 i5 i6 i7 i8
  have hc60 : ∀ (y1 y2 y3 : Int) (a : Nat → Nat → Int), (((20 - y3) * 1) + 0).toNat ≤ n → iv a → jfr jW_X11_leave a0 a → 0 ≤ y1 → y1 ≤ 39 → 0 ≤ y3 → y3 ≤ 19 → (UP (a0 10) (a 10) x1.toNat 0) → 1 ≤ a0 4 6 → ((0 ≤ x1 ∧ x1 < a0 4 6) ∧ ¬ a0 10 (x1.toNat) = 0) → jt (jxX E d 157 60 [some (.inr (.inr (.inl 0))), some (.inl y1), some (.inl y2), some (.inl y3)] [] (jxSH, a, b0)) (jQ_X11_leave x1 a0 b0) := by
    intro y1 y2 y3 a hm hv hf hi0 hi1 hi2 hi3 hu10 hi5 hi6
    refine jt_eq (bq_X11_leave_60 E d y1 y2 y3 a b0) ?_
    have h1118_ := iv_get hv0 (k := 4) (j := 6) (l := 0) (u := 40) rfl
    have h1119_ : jxw (y3 + 1) = y3 + 1 := jxw_id (by omega) (by omega)
    exact ih29 y1 y2 (jxw (y3 + 1)) a (show (((20 - (jxw (y3 + 1))) * 1) + 0).toNat < n from by omega) hv hf (show 0 ≤ y1 from by omega) (show y1 ≤ 39 from by omega) (show 0 ≤ jxw (y3 + 1) from by omega) (show jxw (y3 + 1) ≤ 20 from by omega) (UP_cr hu10 (fun j => rfl)) (show 1 ≤ a0 4 6 from by omega) (show ((0 ≤ x1 ∧ x1 < a0 4 6) ∧ ¬ a0 10 (x1.toNat) = 0) from by omega)
  have hc29 : ∀ (y1 y2 y3 : Int) (a : Nat → Nat → Int), (((20 - y3) * 1) + 0).toNat ≤ n → iv a → jfr jW_X11_leave a0 a → 0 ≤ y1 → y1 ≤ 39 → 0 ≤ y3 → y3 ≤ 20 → (UP (a0 10) (a 10) x1.toNat 0) → 1 ≤ a0 4 6 → ((0 ≤ x1 ∧ x1 < a0 4 6) ∧ ¬ a0 10 (x1.toNat) = 0) → jt (jxX E d 157 29 [some (.inr (.inr (.inl 0))), some (.inl y1), some (.inl y2), some (.inl y3)] [] (jxSH, a, b0)) (jQ_X11_leave x1 a0 b0) := by
    intro y1 y2 y3 a hm hv hf hi0 hi1 hi2 hi3 hu10 hi5 hi6
    refine jt_eq (bq_X11_leave_29 E d y1 y2 y3 a b0) ?_
    have h1120_ := iv_get hv0 (k := 4) (j := 6) (l := 0) (u := 40) rfl
    refine jt_eI (eq_X4_size E d (jd_le hd rfl) a b0) ?_
    have h1121_ := f_X4_size_eq a b0
    have h1122_ := iv_get hv (k := 83) (j := 6) (l := 0) (u := 20) rfl
    have h1123_ : a 83 6 = a0 83 6 := hf 83 6 rfl
    have h1124_ := iv_get hv0 (k := 83) (j := 6) (l := 0) (u := 20) rfl
    refine jt_ite (fun c1125_ => ?_) (fun c1125_ => ?_)
    ·
      refine jt_eI (eq_X4_memberOf E d (jd_le hd rfl) y3 a b0) ?_
      have h1126_ := f_X4_memberOf_eq a b0 y3
      have h1127_ := f_X11_entry_r84_eq a b0 (a 83 6) y3
      have h1128_ : a 84 (y3.toNat) = a0 84 (y3.toNat) := hf 84 (y3.toNat) rfl
      refine jt_ite (fun c1129_ => ?_) (fun c1129_ => ?_)
      ·
        refine jt_bI (sp_X11_withdraw E d (jd_le hd rfl) y3 a b0 hv) (fun r1130_ a1130_ b1130_ h1130_ => ?_)
        obtain ⟨hv1130_, hf1130_, rfl⟩ := h1130_
        have hf1131_ : jfr jW_X11_leave a0 a1130_ := jfr_tr hf hf1130_ rfl
        exact hc60 y1 (jxw (y2 + r1130_)) y3 a1130_ (show (((20 - y3) * 1) + 0).toNat ≤ n from by omega) hv1130_ hf1131_ (show 0 ≤ y1 from by omega) (show y1 ≤ 39 from by omega) (show 0 ≤ y3 from by omega) (show y3 ≤ 19 from by omega) (UP_cr hu10 (fun j => (hf1130_ 10 j rfl))) (show 1 ≤ a0 4 6 from by omega) (show ((0 ≤ x1 ∧ x1 < a0 4 6) ∧ ¬ a0 10 (x1.toNat) = 0) from by omega)
      ·
        exact hc60 y1 y2 y3 a (show (((20 - y3) * 1) + 0).toNat ≤ n from by omega) hv hf (show 0 ≤ y1 from by omega) (show y1 ≤ 39 from by omega) (show 0 ≤ y3 from by omega) (show y3 ≤ 19 from by omega) (UP_cr hu10 (fun j => rfl)) (show 1 ≤ a0 4 6 from by omega) (show ((0 ≤ x1 ∧ x1 < a0 4 6) ∧ ¬ a0 10 (x1.toNat) = 0) from by omega)
    ·
      exact jt_rI ⟨hv, hf, rfl, (show (a0 4 6 = 0 → y2 = 0 - 1) from by omega), (fun _ => (UP_cr hu10 (fun j => rfl))), (fun h => absurd h (by omega))⟩
  exact ⟨hc60, hc29⟩
theorem sp_X11_leave (E : jxE) (d : Nat) (hd : Nat.ble 5 d = true) (x1 : Int) (a0 b0 : Nat → Nat → Int) (hv0 : iv a0) : jt (jxC E d 157 [.inr (.inr (.inl 0)), .inl x1] (jxSH, a0, b0)) (jQ_X11_leave x1 a0 b0) := by
  obtain ⟨d, rfl⟩ := jd_succ hd
  refine jt_eq (bq_X11_leave E d x1 a0 b0) ?_
  refine jt_eI (eq_X3_isThere E d (jd_le hd rfl) x1 a0 b0) ?_
  have h1132_ := f_X3_isThere_eq a0 b0 x1
  have h1133_ := f_X3_has_eq a0 b0 x1
  have h1134_ := iv_get hv0 (k := 4) (j := 6) (l := 0) (u := 40) rfl
  refine jt_ite (fun c1135_ => ?_) (fun c1135_ => ?_)
  ·
    exact jt_rI ⟨hv0, (jfr_rf _ _), rfl, (show (a0 4 6 = 0 → (-1) = 0 - 1) from by omega), (fun h => absurd h (by omega)), (fun _ j => rfl)⟩
  ·
    refine jt_bV (sp_X3_goAway E d (jd_le hd rfl) x1 a0 b0 hv0) (fun a1136_ b1136_ h1136_ => ?_)
    obtain ⟨hv1136_, hf1136_, rfl, hq1136_0⟩ := h1136_
    refine jt_bI (sp_X11_cancelCardsTo E d (jd_le hd rfl) x1 a1136_ b0 hv1136_) (fun r1137_ a1137_ b1137_ h1137_ => ?_)
    obtain ⟨hv1137_, hf1137_, rfl⟩ := h1137_
    have hf1138_ : jfr jW_X11_leave a0 a1136_ := jfr_tr (jfr_rf _ _) hf1136_ rfl
    have hf1139_ : jfr jW_X11_leave a0 a1137_ := jfr_tr hf1138_ hf1137_ rfl
    exact (cp_X11_leave_29 E d hd x1 a0 b0 hv0 _).2 x1 r1137_ 0 a1137_ (Nat.le_refl _) hv1137_ hf1139_ (show 0 ≤ x1 from by omega) (show x1 ≤ 39 from by omega) (show 0 ≤ 0 from by omega) (show 0 ≤ 20 from by omega) (UP_cr (hq1136_0 (by omega)) (fun j => (hf1137_ 10 j rfl))) (show 1 ≤ a0 4 6 from by omega) (show ((0 ≤ x1 ∧ x1 < a0 4 6) ∧ ¬ a0 10 (x1.toNat) = 0) from by omega)
def jW_X11_list : List (Nat × Nat) := [(0, 9), (76, 9999)]
abbrev jQ_X11_list (x1 : Int) (a0 b0 : Nat → Nat → Int) : List jxV → (Nat → Nat → Int) → (Nat → Nat → Int) → Prop := rI (fun r a b => (iv a) ∧ (jfr jW_X11_list a0 a) ∧ (b0 = b) ∧ ((a0 4 6 = 0 → r = 0 - 1)))
theorem cp_X11_list_67 (E : jxE) (d : Nat) (hd : Nat.ble 2 (d + 1) = true) (x1 : Int) (a0 b0 : Nat → Nat → Int) (hv0 : iv a0) : ∀ (a : Nat → Nat → Int), iv a → jfr jW_X11_list a0 a → 1 ≤ a 0 9 → 1 ≤ a0 4 6 → jt (jxX E d 167 67 [some (.inr (.inr (.inl 0))), none, none] [] (jxSH, a, b0)) (jQ_X11_list x1 a0 b0) := by
  intro a hv hf hi0 hi1
  refine jt_eq (bq_X11_list_67 E d a b0) ?_
  have h1140_ := iv_get hv (k := 0) (j := 9) (l := 0) (u := 8) rfl
  have h1141_ := iv_get hv0 (k := 4) (j := 6) (l := 0) (u := 40) rfl
  exact jt_rI ⟨hv, hf, rfl, (show (a0 4 6 = 0 → a 0 9 = 0 - 1) from by omega)⟩
theorem cp_X11_list_24 (E : jxE) (d : Nat) (hd : Nat.ble 2 (d + 1) = true) (x1 : Int) (a0 b0 : Nat → Nat → Int) (hv0 : iv a0) : ∀ n : Nat, (∀ (y1 y2 : Int) (a : Nat → Nat → Int), (((7 - y2) * 1) + 0).toNat ≤ n → iv a → jfr jW_X11_list a0 a → 0 ≤ y1 → y1 ≤ 39 → 0 ≤ y2 → y2 ≤ 7 → a 0 9 ≤ 7 → 1 ≤ a0 4 6 → jt (jxX E d 167 24 [some (.inr (.inr (.inl 0))), some (.inl y1), some (.inl y2)] [] (jxSH, a, b0)) (jQ_X11_list x1 a0 b0)) := by
  refine jx_ind fun n ih => ?_
  have ih24 : ∀ (y1 y2 : Int) (a : Nat → Nat → Int), (((7 - y2) * 1) + 0).toNat < n → iv a → jfr jW_X11_list a0 a → 0 ≤ y1 → y1 ≤ 39 → 0 ≤ y2 → y2 ≤ 7 → a 0 9 ≤ 7 → 1 ≤ a0 4 6 → jt (jxX E d 167 24 [some (.inr (.inr (.inl 0))), some (.inl y1), some (.inl y2)] [] (jxSH, a, b0)) (jQ_X11_list x1 a0 b0) := fun y1 y2 a hlt i0 i1 i2 i3 i4 i5 i6 i7 => (ih _ hlt) y1 y2 a (Nat.le_refl _) i0 i1 i2 i3 i4 i5 i6 i7
  have hc24 : ∀ (y1 y2 : Int) (a : Nat → Nat → Int), (((7 - y2) * 1) + 0).toNat ≤ n → iv a → jfr jW_X11_list a0 a → 0 ≤ y1 → y1 ≤ 39 → 0 ≤ y2 → y2 ≤ 7 → a 0 9 ≤ 7 → 1 ≤ a0 4 6 → jt (jxX E d 167 24 [some (.inr (.inr (.inl 0))), some (.inl y1), some (.inl y2)] [] (jxSH, a, b0)) (jQ_X11_list x1 a0 b0) := by
    intro y1 y2 a hm hv hf hi0 hi1 hi2 hi3 hi4 hi5
    refine jt_eq (bq_X11_list_24 E d y1 y2 a b0) ?_
    have h1142_ := iv_get hv (k := 0) (j := 9) (l := 0) (u := 8) rfl
    have h1143_ := iv_get hv0 (k := 4) (j := 6) (l := 0) (u := 40) rfl
    refine jt_ite (fun c1144_ => ?_) (fun c1144_ => ?_)
    ·
      refine jt_grd (by omega) ?_
      refine jt_ite (fun c1145_ => ?_) (fun c1145_ => ?_)
      ·
        exact jt_rI ⟨hv, hf, rfl, (show (a0 4 6 = 0 → (-1) = 0 - 1) from by omega)⟩
      ·
        have h1146_ : jxw (y2 + 1) = y2 + 1 := jxw_id (by omega) (by omega)
        exact ih24 y1 (jxw (y2 + 1)) a (show (((7 - (jxw (y2 + 1))) * 1) + 0).toNat < n from by omega) hv hf (show 0 ≤ y1 from by omega) (show y1 ≤ 39 from by omega) (show 0 ≤ jxw (y2 + 1) from by omega) (show jxw (y2 + 1) ≤ 7 from by omega) (show a 0 9 ≤ 7 from by omega) (show 1 ≤ a0 4 6 from by omega)
    ·
      refine jt_grd (by omega) ?_
      have h1148_ : jxw ((a 0 9) + 1) = (a 0 9) + 1 := jxw_id (by omega) (by omega)
      have hv1147_ : iv (jxu a 0 9 (jxw ((a 0 9) + 1))) := iv_put hv (l := 0) (u := 8) rfl (by omega) (by omega)
      have hv1149_ : iv (jxu (jxu a 0 9 (jxw ((a 0 9) + 1))) 76 ((a 0 9).toNat) y1) := iv_putf hv1147_ rfl
      have hf1150_ : jfr jW_X11_list a0 (jxu a 0 9 (jxw ((a 0 9) + 1))) := jfr_put hf rfl
      have hf1151_ : jfr jW_X11_list a0 (jxu (jxu a 0 9 (jxw ((a 0 9) + 1))) 76 ((a 0 9).toNat) y1) := jfr_put hf1150_ rfl
      exact cp_X11_list_67 E d hd x1 a0 b0 hv0 (jxu (jxu a 0 9 (jxw ((a 0 9) + 1))) 76 ((a 0 9).toNat) y1) hv1149_ hf1151_ (show 1 ≤ jxw ((a 0 9) + 1) from by omega) (show 1 ≤ a0 4 6 from by omega)
  exact hc24
theorem sp_X11_list (E : jxE) (d : Nat) (hd : Nat.ble 2 d = true) (x1 : Int) (a0 b0 : Nat → Nat → Int) (hv0 : iv a0) : jt (jxC E d 167 [.inr (.inr (.inl 0)), .inl x1] (jxSH, a0, b0)) (jQ_X11_list x1 a0 b0) := by
  obtain ⟨d, rfl⟩ := jd_succ hd
  refine jt_eq (bq_X11_list E d x1 a0 b0) ?_
  refine jt_eI (eq_X3_has E d (jd_le hd rfl) x1 a0 b0) ?_
  have h1152_ := f_X3_has_eq a0 b0 x1
  have h1153_ := iv_get hv0 (k := 4) (j := 6) (l := 0) (u := 40) rfl
  refine jt_ite (fun c1154_ => ?_) (fun c1154_ => ?_)
  ·
    exact jt_rI ⟨hv0, (jfr_rf _ _), rfl, (show (a0 4 6 = 0 → (-1) = 0 - 1) from by omega)⟩
  ·
    have h1155_ := iv_get hv0 (k := 0) (j := 9) (l := 0) (u := 8) rfl
    refine jt_ite (fun c1156_ => ?_) (fun c1156_ => ?_)
    ·
      exact (cp_X11_list_24 E d hd x1 a0 b0 hv0 _) x1 0 a0 (Nat.le_refl _) hv0 (jfr_rf _ _) (show 0 ≤ x1 from by omega) (show x1 ≤ 39 from by omega) (show 0 ≤ 0 from by omega) (show 0 ≤ 7 from by omega) (show a0 0 9 ≤ 7 from by omega) (show 1 ≤ a0 4 6 from by omega)
    ·
      exact jt_rI ⟨hv0, (jfr_rf _ _), rfl, (show (a0 4 6 = 0 → (-1) = 0 - 1) from by omega)⟩
def jW_X11_may : List (Nat × Nat) := [(70, 9999), (71, 9999), (72, 9999), (73, 9999), (74, 9999), (75, 9999)]
abbrev jQ_X11_may (x1 x2 : Int) (a0 b0 : Nat → Nat → Int) : List jxV → (Nat → Nat → Int) → (Nat → Nat → Int) → Prop := rI (fun r a b => (iv a) ∧ (jfr jW_X11_may a0 a) ∧ (b0 = b) ∧ ((a0 4 6 = 0 → r = 0 - 1)))
theorem cp_X11_may_39 (E : jxE) (d : Nat) (hd : Nat.ble 8 (d + 1) = true) (x1 x2 : Int) (a0 b0 : Nat → Nat → Int) (hv0 : iv a0) : ∀ (y1 y2 : Int) (a : Nat → Nat → Int), iv a → jfr jW_X11_may a0 a → 0 ≤ y1 → y1 ≤ 39 → 0 ≤ y2 → y2 ≤ 39 → 1 ≤ a0 4 6 → jt (jxX E d 166 39 [some (.inr (.inr (.inl 0))), some (.inl y1), some (.inl y2)] [] (jxSH, a, b0)) (jQ_X11_may x1 x2 a0 b0) := by
  intro y1 y2 a hv hf hi0 hi1 hi2 hi3 hi4
  refine jt_eq (bq_X11_may_39 E d y1 y2 a b0) ?_
  have h1157_ := iv_get hv0 (k := 4) (j := 6) (l := 0) (u := 40) rfl
  refine jt_bJ (sp_X0_reachedBy E d (jd_le hd rfl) y1 a b0 hv) (fun r1158_ a1158_ b1158_ h1158_ => ?_)
  obtain ⟨rfl, rfl⟩ := h1158_
  refine jt_bI (sp_X11_mayGet E d (jd_le hd rfl) y1 y2 r1158_ a b0 hv) (fun r1159_ a1159_ b1159_ h1159_ => ?_)
  obtain ⟨rfl, rfl, hq1159_0⟩ := h1159_
  refine jt_ite (fun c1160_ => ?_) (fun c1160_ => ?_)
  ·
    exact jt_rI ⟨hv, hf, rfl, (show (a0 4 6 = 0 → 0 = 0 - 1) from by omega)⟩
  ·
    exact jt_rI ⟨hv, hf, rfl, (show (a0 4 6 = 0 → 1 = 0 - 1) from by omega)⟩
theorem sp_X11_may (E : jxE) (d : Nat) (hd : Nat.ble 8 d = true) (x1 x2 : Int) (a0 b0 : Nat → Nat → Int) (hv0 : iv a0) : jt (jxC E d 166 [.inr (.inr (.inl 0)), .inl x1, .inl x2] (jxSH, a0, b0)) (jQ_X11_may x1 x2 a0 b0) := by
  obtain ⟨d, rfl⟩ := jd_succ hd
  refine jt_eq (bq_X11_may E d x1 x2 a0 b0) ?_
  refine jt_eI (eq_X3_has E d (jd_le hd rfl) x1 a0 b0) ?_
  have h1161_ := f_X3_has_eq a0 b0 x1
  have h1162_ := iv_get hv0 (k := 4) (j := 6) (l := 0) (u := 40) rfl
  refine jt_ite (fun c1163_ => ?_) (fun c1163_ => ?_)
  ·
    exact jt_rI ⟨hv0, (jfr_rf _ _), rfl, (show (a0 4 6 = 0 → (-1) = 0 - 1) from by omega)⟩
  ·
    refine jt_eI (eq_X3_has E d (jd_le hd rfl) x2 a0 b0) ?_
    have h1164_ := f_X3_has_eq a0 b0 x2
    refine jt_ite (fun c1165_ => ?_) (fun c1165_ => ?_)
    ·
      exact jt_rI ⟨hv0, (jfr_rf _ _), rfl, (show (a0 4 6 = 0 → (-1) = 0 - 1) from by omega)⟩
    ·
      refine jt_bV (sp_X7_take_r58 E d (jd_le hd rfl) (a0 0 0) a0 b0 hv0) (fun a1166_ b1166_ h1166_ => ?_)
      obtain ⟨hv1166_, hf1166_, rfl⟩ := h1166_
      have hf1167_ : jfr jW_X11_may a0 a1166_ := jfr_tr (jfr_rf _ _) hf1166_ rfl
      exact cp_X11_may_39 E d hd x1 x2 a0 b0 hv0 x1 x2 a1166_ hv1166_ hf1167_ (show 0 ≤ x1 from by omega) (show x1 ≤ 39 from by omega) (show 0 ≤ x2 from by omega) (show x2 ≤ 39 from by omega) (show 1 ≤ a0 4 6 from by omega)
abbrev jQ_X11_meets (x1 x2 : Int) (a0 b0 : Nat → Nat → Int) : List jxV → (Nat → Nat → Int) → (Nat → Nat → Int) → Prop := rI (fun r a b => (a0 = a) ∧ (b0 = b) ∧ ((a0 4 6 = 0 → r = 0 - 1)))
theorem cp_X11_meets_45 (E : jxE) (d : Nat) (hd : Nat.ble 6 (d + 1) = true) (x1 x2 : Int) (a0 b0 : Nat → Nat → Int) (hv0 : iv a0) : 1 ≤ a0 4 6 → jt (jxX E d 163 45 [none, none, none] [] (jxSH, a0, b0)) (jQ_X11_meets x1 x2 a0 b0) := by
  intro hi0
  refine jt_eq (bq_X11_meets_45 E d a0 b0) ?_
  have h1168_ := iv_get hv0 (k := 4) (j := 6) (l := 0) (u := 40) rfl
  exact jt_rI ⟨rfl, rfl, (show (a0 4 6 = 0 → 1 = 0 - 1) from by omega)⟩
theorem cp_X11_meets_49 (E : jxE) (d : Nat) (hd : Nat.ble 6 (d + 1) = true) (x1 x2 : Int) (a0 b0 : Nat → Nat → Int) (hv0 : iv a0) : 1 ≤ a0 4 6 → jt (jxX E d 163 49 [none, none, none] [] (jxSH, a0, b0)) (jQ_X11_meets x1 x2 a0 b0) := by
  intro hi0
  refine jt_eq (bq_X11_meets_49 E d a0 b0) ?_
  have h1169_ := iv_get hv0 (k := 4) (j := 6) (l := 0) (u := 40) rfl
  exact jt_rI ⟨rfl, rfl, (show (a0 4 6 = 0 → 0 = 0 - 1) from by omega)⟩
theorem sp_X11_meets (E : jxE) (d : Nat) (hd : Nat.ble 6 d = true) (x1 x2 : Int) (a0 b0 : Nat → Nat → Int) (hv0 : iv a0) : jt (jxC E d 163 [.inr (.inr (.inl 0)), .inl x1, .inl x2] (jxSH, a0, b0)) (jQ_X11_meets x1 x2 a0 b0) := by
  obtain ⟨d, rfl⟩ := jd_succ hd
  refine jt_eq (bq_X11_meets E d x1 x2 a0 b0) ?_
  refine jt_eI (eq_X3_has E d (jd_le hd rfl) x1 a0 b0) ?_
  have h1170_ := f_X3_has_eq a0 b0 x1
  have h1171_ := iv_get hv0 (k := 4) (j := 6) (l := 0) (u := 40) rfl
  refine jt_ite (fun c1172_ => ?_) (fun c1172_ => ?_)
  ·
    exact jt_rI ⟨rfl, rfl, (show (a0 4 6 = 0 → (-1) = 0 - 1) from by omega)⟩
  ·
    refine jt_eI (eq_X3_has E d (jd_le hd rfl) x2 a0 b0) ?_
    have h1173_ := f_X3_has_eq a0 b0 x2
    refine jt_ite (fun c1174_ => ?_) (fun c1174_ => ?_)
    ·
      exact jt_rI ⟨rfl, rfl, (show (a0 4 6 = 0 → (-1) = 0 - 1) from by omega)⟩
    ·
      refine jt_ite (fun c1175_ => ?_) (fun c1175_ => ?_)
      ·
        exact jt_rI ⟨rfl, rfl, (show (a0 4 6 = 0 → (-1) = 0 - 1) from by omega)⟩
      ·
        refine jt_bI (sp_X10_isMet E d (jd_le hd rfl) x1 x2 (a0 0 0) a0 b0 hv0) (fun r1176_ a1176_ b1176_ h1176_ => ?_)
        obtain ⟨rfl, rfl, hq1176_0⟩ := h1176_
        refine jt_ite (fun c1177_ => ?_) (fun c1177_ => ?_)
        ·
          exact cp_X11_meets_49 E d hd x1 x2 a0 b0 hv0 (show 1 ≤ a0 4 6 from by omega)
        ·
          exact cp_X11_meets_45 E d hd x1 x2 a0 b0 hv0 (show 1 ≤ a0 4 6 from by omega)
def jW_X3_add : List (Nat × Nat) := [(4, 6), (5, 9999), (6, 9999), (7, 9999), (8, 9999), (10, 9999)]
abbrev jQ_X3_add (x1 x2 x3 x4 : Int) (a0 b0 : Nat → Nat → Int) : List jxV → (Nat → Nat → Int) → (Nat → Nat → Int) → Prop := rI (fun r a b => (iv a) ∧ (jfr jW_X3_add a0 a) ∧ (b0 = b) ∧ ((((a0 4 6 < 40 ∧ r = a0 4 6) ∧ a 4 6 = (a0 4 6) + 1) ∨ ((40 ≤ a0 4 6 ∧ r = 0 - 1) ∧ a 4 6 = a0 4 6))) ∧ (0 ≤ r → MAD a0 a 5 6 7 8 10 r.toNat x1 x2 x3 x4) ∧ (r < 0 → MSA a0 a 5 6 7 8 10))
theorem cp_X3_add_62 (E : jxE) (d : Nat) (hd : Nat.ble 1 (d + 1) = true) (x1 x2 x3 x4 : Int) (a0 b0 : Nat → Nat → Int) (hv0 : iv a0) : ∀ (a : Nat → Nat → Int), iv a → jfr jW_X3_add a0 a → a 4 6 ≤ 39 → a 4 6 = a0 4 6 → a 4 6 ≤ 39 → (MAD a0 a 5 6 7 8 10 (a0 4 6).toNat x1 x2 x3 x4) → jt (jxX E d 54 62 [some (.inr (.inr (.inl 4))), none, none, none, none] [] (jxSH, a, b0)) (jQ_X3_add x1 x2 x3 x4 a0 b0) := by
  intro a hv hf hi0 hi1 hi2 hmad
  refine jt_eq (bq_X3_add_62 E d a b0) ?_
  have h1178_ := iv_get hv (k := 4) (j := 6) (l := 0) (u := 40) rfl
  have h1179_ := iv_get hv0 (k := 4) (j := 6) (l := 0) (u := 40) rfl
  have h1181_ : jxw ((a 4 6) + 1) = (a 4 6) + 1 := jxw_id (by omega) (by omega)
  have hv1180_ : iv (jxu a 4 6 (jxw ((a 4 6) + 1))) := iv_put hv (l := 0) (u := 40) rfl (by omega) (by omega)
  have hf1182_ : jfr jW_X3_add a0 (jxu a 4 6 (jxw ((a 4 6) + 1))) := jfr_put hf rfl
  exact jt_rI ⟨hv1180_, hf1182_, rfl, (show (((a0 4 6 < 40 ∧ a 4 6 = a0 4 6) ∧ jxw ((a 4 6) + 1) = (a0 4 6) + 1) ∨ ((40 ≤ a0 4 6 ∧ a 4 6 = 0 - 1) ∧ jxw ((a 4 6) + 1) = a0 4 6)) from by omega), (by first | (intro h; exact absurd h (by decide)) | (intro _; rw [show (a 4 6).toNat = (a0 4 6).toNat from by omega]; exact hmad)), (by first | (intro _; exact MSA_rf _ _ _ _ _ _) | (intro h; exact absurd h (by omega)))⟩
theorem cp_X3_add_31 (E : jxE) (d : Nat) (hd : Nat.ble 1 (d + 1) = true) (x1 x2 x3 x4 : Int) (a0 b0 : Nat → Nat → Int) (hv0 : iv a0) : ∀ (y3 y4 : Int) (a : Nat → Nat → Int), iv a → jfr jW_X3_add a0 a → a 4 6 ≤ 39 → a 4 6 = a0 4 6 → a 4 6 ≤ 39 → (UP (a0 5) (a 5) (a0 4 6).toNat x1 ∧ UP (a0 6) (a 6) (a0 4 6).toNat x2) → (y3 = x3) → (y4 = x4) → ((∀ j, a 7 j = a0 7 j) ∧ (∀ j, a 8 j = a0 8 j) ∧ (∀ j, a 10 j = a0 10 j)) → jt (jxX E d 54 31 [some (.inr (.inr (.inl 4))), none, none, some (.inl y3), some (.inl y4)] [] (jxSH, a, b0)) (jQ_X3_add x1 x2 x3 x4 a0 b0) := by
  intro y3 y4 a hv hf hi0 hi1 hi2 hu hy3 hy4 hs
  refine jt_eq (bq_X3_add_31 E d y3 y4 a b0) ?_
  have h1183_ := iv_get hv (k := 4) (j := 6) (l := 0) (u := 40) rfl
  have h1184_ := iv_get hv0 (k := 4) (j := 6) (l := 0) (u := 40) rfl
  refine jt_grd (by omega) ?_
  refine jt_grd (by omega) ?_
  refine jt_grd (by omega) ?_
  have hv1185_ : iv (jxu a 7 ((a 4 6).toNat) y3) := iv_putf hv rfl
  have hv1186_ : iv (jxu (jxu a 7 ((a 4 6).toNat) y3) 8 ((a 4 6).toNat) y4) := iv_putf hv1185_ rfl
  have hv1187_ : iv (jxu (jxu (jxu a 7 ((a 4 6).toNat) y3) 8 ((a 4 6).toNat) y4) 10 ((a 4 6).toNat) 1) := iv_putf hv1186_ rfl
  have hf1188_ : jfr jW_X3_add a0 (jxu a 7 ((a 4 6).toNat) y3) := jfr_put hf rfl
  have hf1189_ : jfr jW_X3_add a0 (jxu (jxu a 7 ((a 4 6).toNat) y3) 8 ((a 4 6).toNat) y4) := jfr_put hf1188_ rfl
  have hf1190_ : jfr jW_X3_add a0 (jxu (jxu (jxu a 7 ((a 4 6).toNat) y3) 8 ((a 4 6).toNat) y4) 10 ((a 4 6).toNat) 1) := jfr_put hf1189_ rfl
  exact cp_X3_add_62 E d hd x1 x2 x3 x4 a0 b0 hv0 (jxu (jxu (jxu a 7 ((a 4 6).toNat) y3) 8 ((a 4 6).toNat) y4) 10 ((a 4 6).toNat) 1) hv1187_ hf1190_ (show a 4 6 ≤ 39 from by omega) (show a 4 6 = a0 4 6 from by omega) (show a 4 6 ≤ 39 from by omega) (by subst hy3; subst hy4; rw [show (a 4 6).toNat = (a0 4 6).toNat from by omega]; exact ⟨hu.1, hu.2, UP_put hs.1, UP_put hs.2.1, UP_put hs.2.2⟩)
theorem sp_X3_add (E : jxE) (d : Nat) (hd : Nat.ble 1 d = true) (x1 x2 x3 x4 : Int) (a0 b0 : Nat → Nat → Int) (hv0 : iv a0) : jt (jxC E d 54 [.inr (.inr (.inl 4)), .inl x1, .inl x2, .inl x3, .inl x4] (jxSH, a0, b0)) (jQ_X3_add x1 x2 x3 x4 a0 b0) := by
  obtain ⟨d, rfl⟩ := jd_succ hd
  refine jt_eq (bq_X3_add E d x1 x2 x3 x4 a0 b0) ?_
  have h1191_ := iv_get hv0 (k := 4) (j := 6) (l := 0) (u := 40) rfl
  refine jt_ite (fun c1192_ => ?_) (fun c1192_ => ?_)
  ·
    refine jt_grd (by omega) ?_
    refine jt_grd (by omega) ?_
    have hv1193_ : iv (jxu a0 5 ((a0 4 6).toNat) x1) := iv_putf hv0 rfl
    have hv1194_ : iv (jxu (jxu a0 5 ((a0 4 6).toNat) x1) 6 ((a0 4 6).toNat) x2) := iv_putf hv1193_ rfl
    have hf1195_ : jfr jW_X3_add a0 (jxu a0 5 ((a0 4 6).toNat) x1) := jfr_put (jfr_rf _ _) rfl
    have hf1196_ : jfr jW_X3_add a0 (jxu (jxu a0 5 ((a0 4 6).toNat) x1) 6 ((a0 4 6).toNat) x2) := jfr_put hf1195_ rfl
    exact cp_X3_add_31 E d hd x1 x2 x3 x4 a0 b0 hv0 x3 x4 (jxu (jxu a0 5 ((a0 4 6).toNat) x1) 6 ((a0 4 6).toNat) x2) hv1194_ hf1196_ (show a0 4 6 ≤ 39 from by omega) (show a0 4 6 = a0 4 6 from by omega) (show a0 4 6 ≤ 39 from by omega) ⟨UP_put (fun _ => rfl), UP_put (fun _ => rfl)⟩ (by first | rfl | assumption) (by first | rfl | assumption) ⟨fun _ => rfl, fun _ => rfl, fun _ => rfl⟩
  ·
    exact jt_rI ⟨hv0, (jfr_rf _ _), rfl, (show (((a0 4 6 < 40 ∧ (-1) = a0 4 6) ∧ a0 4 6 = (a0 4 6) + 1) ∨ ((40 ≤ a0 4 6 ∧ (-1) = 0 - 1) ∧ a0 4 6 = a0 4 6)) from by omega), (by first | (intro h; exact absurd h (by decide)) | (intro _; rw [show (a 4 6).toNat = (a0 4 6).toNat from by omega]; exact hmad)), (by first | (intro _; exact MSA_rf _ _ _ _ _ _) | (intro h; exact absurd h (by omega)))⟩
def jWeM : List (Nat × Nat) := []
def jW_X11_member : List (Nat × Nat) := [(4, 6), (5, 9999), (6, 9999), (7, 9999), (8, 9999), (10, 9999)]
abbrev jQ_X11_member (x1 x2 x3 : Int) (a0 b0 : Nat → Nat → Int) : List jxV → (Nat → Nat → Int) → (Nat → Nat → Int) → Prop := rI (fun r a b => (iv a) ∧ (jfr jW_X11_member a0 a) ∧ (b0 = b) ∧ ((((((((((0 ≤ x1 ∧ x1 ≤ 15) ∧ 0 ≤ x2) ∧ x2 ≤ 65535) ∧ 0 - 1 ≤ x3) ∧ x3 ≤ 19) ∧ a0 4 6 < 40) ∧ r = a0 4 6) ∧ a 4 6 = (a0 4 6) + 1) ∨ ((((((((x1 < 0 ∨ 15 < x1) ∨ x2 < 0) ∨ 65535 < x2) ∨ x3 < 0 - 1) ∨ 19 < x3) ∨ 40 ≤ a0 4 6) ∧ r = 0 - 1) ∧ a 4 6 = a0 4 6))) ∧ (0 ≤ r → MAD a0 a 5 6 7 8 10 r.toNat x1 x2 x3 (a0 0 0)) ∧ (r < 0 → MSA a0 a 5 6 7 8 10))
theorem cp_X11_member_32 (E : jxE) (d : Nat) (hd : Nat.ble 3 (d + 1) = true) (x1 x2 x3 : Int) (a0 b0 : Nat → Nat → Int) (hv0 : iv a0) : ∀ (y1 y2 y3 s0 : Int) (a : Nat → Nat → Int), iv a → jfr jW_X11_member a0 a → 0 ≤ s0 → s0 ≤ 1 → y1 = x1 → y2 = x2 → y3 = x3 → (((((((s0 = 1 ∧ 0 ≤ x1) ∧ x1 ≤ 15) ∧ 0 ≤ x2) ∧ x2 ≤ 65535) ∧ 0 - 1 ≤ x3) ∧ x3 ≤ 19) ∨ (s0 = 0 ∧ (((((x1 < 0 ∨ 15 < x1) ∨ x2 < 0) ∨ 65535 < x2) ∨ x3 < 0 - 1) ∨ 19 < x3))) → a 4 6 = a0 4 6 → (jfr jWeM a0 a) → jt (jxX E d 156 32 [some (.inr (.inr (.inl 0))), some (.inl y1), some (.inl y2), some (.inl y3), none] [.inl s0] (jxSH, a, b0)) (jQ_X11_member x1 x2 x3 a0 b0) := by
  intro y1 y2 y3 s0 a hv hf hi0 hi1 hi2 hi3 hi4 hi5 hi6 hfe
  refine jt_eq (bq_X11_member_32 E d y1 y2 y3 s0 a b0) ?_
  have h1197_ := iv_get hv (k := 4) (j := 6) (l := 0) (u := 40) rfl
  have h1198_ := iv_get hv0 (k := 4) (j := 6) (l := 0) (u := 40) rfl
  refine jt_ite (fun c1199_ => ?_) (fun c1199_ => ?_)
  ·
    exact jt_rI ⟨hv, hf, rfl, (show (((((((((0 ≤ x1 ∧ x1 ≤ 15) ∧ 0 ≤ x2) ∧ x2 ≤ 65535) ∧ 0 - 1 ≤ x3) ∧ x3 ≤ 19) ∧ a0 4 6 < 40) ∧ (-1) = a0 4 6) ∧ a 4 6 = (a0 4 6) + 1) ∨ ((((((((x1 < 0 ∨ 15 < x1) ∨ x2 < 0) ∨ 65535 < x2) ∨ x3 < 0 - 1) ∨ 19 < x3) ∨ 40 ≤ a0 4 6) ∧ (-1) = 0 - 1) ∧ a 4 6 = a0 4 6)) from by omega), (fun h => absurd h (by decide)), (fun _ => MSA_e hfe)⟩
  ·
    refine jt_bI (sp_X3_add E d (jd_le hd rfl) y1 y2 y3 (a 0 0) a b0 hv) (fun r1200_ a1200_ b1200_ h1200_ => ?_)
    obtain ⟨hv1200_, hf1200_, rfl, hq1200_0, hq1200_1, hq1200_2⟩ := h1200_
    have h1201_ := iv_get hv1200_ (k := 4) (j := 6) (l := 0) (u := 40) rfl
    have hf1202_ : jfr jW_X11_member a0 a1200_ := jfr_tr hf hf1200_ rfl
    exact jt_rI ⟨hv1200_, hf1202_, rfl, (show (((((((((0 ≤ x1 ∧ x1 ≤ 15) ∧ 0 ≤ x2) ∧ x2 ≤ 65535) ∧ 0 - 1 ≤ x3) ∧ x3 ≤ 19) ∧ a0 4 6 < 40) ∧ r1200_ = a0 4 6) ∧ a1200_ 4 6 = (a0 4 6) + 1) ∨ ((((((((x1 < 0 ∨ 15 < x1) ∨ x2 < 0) ∨ 65535 < x2) ∨ x3 < 0 - 1) ∨ 19 < x3) ∨ 40 ≤ a0 4 6) ∧ r1200_ = 0 - 1) ∧ a1200_ 4 6 = a0 4 6)) from by omega), (fun h => MAD_e hfe (by rw [show x1 = y1 from by omega, show x2 = y2 from by omega, show x3 = y3 from by omega, show a0 0 0 = a 0 0 from (hfe 0 0 rfl).symm]; exact hq1200_1 h)), (fun h => MSA_e2 hfe (hq1200_2 h))⟩
theorem cp_X11_member_31 (E : jxE) (d : Nat) (hd : Nat.ble 3 (d + 1) = true) (x1 x2 x3 : Int) (a0 b0 : Nat → Nat → Int) (hv0 : iv a0) : ∀ (y1 y2 y3 : Int) (a : Nat → Nat → Int), iv a → jfr jW_X11_member a0 a → y1 = x1 → y2 = x2 → y3 = x3 → (((((x1 < 0 ∨ 15 < x1) ∨ x2 < 0) ∨ 65535 < x2) ∨ x3 < 0 - 1) ∨ 19 < x3) → a 4 6 = a0 4 6 → (jfr jWeM a0 a) → jt (jxX E d 156 31 [some (.inr (.inr (.inl 0))), some (.inl y1), some (.inl y2), some (.inl y3), none] [] (jxSH, a, b0)) (jQ_X11_member x1 x2 x3 a0 b0) := by
  intro y1 y2 y3 a hv hf hi0 hi1 hi2 hi3 hi4 hfe
  refine jt_eq (bq_X11_member_31 E d y1 y2 y3 a b0) ?_
  have h1203_ := iv_get hv (k := 4) (j := 6) (l := 0) (u := 40) rfl
  have h1204_ := iv_get hv0 (k := 4) (j := 6) (l := 0) (u := 40) rfl
  exact cp_X11_member_32 E d hd x1 x2 x3 a0 b0 hv0 y1 y2 y3 0 a hv hf (show 0 ≤ 0 from by omega) (show 0 ≤ 1 from by omega) (show y1 = x1 from by omega) (show y2 = x2 from by omega) (show y3 = x3 from by omega) (show (((((((0 = 1 ∧ 0 ≤ x1) ∧ x1 ≤ 15) ∧ 0 ≤ x2) ∧ x2 ≤ 65535) ∧ 0 - 1 ≤ x3) ∧ x3 ≤ 19) ∨ (0 = 0 ∧ (((((x1 < 0 ∨ 15 < x1) ∨ x2 < 0) ∨ 65535 < x2) ∨ x3 < 0 - 1) ∨ 19 < x3))) from by omega) (show a 4 6 = a0 4 6 from by omega) hfe
theorem sp_X11_member (E : jxE) (d : Nat) (hd : Nat.ble 3 d = true) (x1 x2 x3 : Int) (a0 b0 : Nat → Nat → Int) (hv0 : iv a0) : jt (jxC E d 156 [.inr (.inr (.inl 0)), .inl x1, .inl x2, .inl x3] (jxSH, a0, b0)) (jQ_X11_member x1 x2 x3 a0 b0) := by
  obtain ⟨d, rfl⟩ := jd_succ hd
  refine jt_eq (bq_X11_member E d x1 x2 x3 a0 b0) ?_
  refine jt_eI (eq_X11_isLand E d (jd_le hd rfl) x1 a0 b0) ?_
  have h1205_ := f_X11_isLand_eq a0 b0 x1
  have h1206_ := f_X11_within_eq a0 b0 x1 0 15
  refine jt_ite (fun c1207_ => ?_) (fun c1207_ => ?_)
  ·
    have h1208_ := iv_get hv0 (k := 4) (j := 6) (l := 0) (u := 40) rfl
    exact cp_X11_member_31 E d hd x1 x2 x3 a0 b0 hv0 x1 x2 x3 a0 hv0 (jfr_rf _ _) (show x1 = x1 from by omega) (show x2 = x2 from by omega) (show x3 = x3 from by omega) (show (((((x1 < 0 ∨ 15 < x1) ∨ x2 < 0) ∨ 65535 < x2) ∨ x3 < 0 - 1) ∨ 19 < x3) from by omega) (show a0 4 6 = a0 4 6 from by omega) (jfr_rf _ _)
  ·
    refine jt_eI (eq_X11_within E d (jd_le hd rfl) x2 0 65535 a0 b0) ?_
    have h1209_ := f_X11_within_eq a0 b0 x2 0 65535
    refine jt_ite (fun c1210_ => ?_) (fun c1210_ => ?_)
    ·
      have h1211_ := iv_get hv0 (k := 4) (j := 6) (l := 0) (u := 40) rfl
      exact cp_X11_member_31 E d hd x1 x2 x3 a0 b0 hv0 x1 x2 x3 a0 hv0 (jfr_rf _ _) (show x1 = x1 from by omega) (show x2 = x2 from by omega) (show x3 = x3 from by omega) (show (((((x1 < 0 ∨ 15 < x1) ∨ x2 < 0) ∨ 65535 < x2) ∨ x3 < 0 - 1) ∨ 19 < x3) from by omega) (show a0 4 6 = a0 4 6 from by omega) (jfr_rf _ _)
    ·
      refine jt_eI (eq_X11_within E d (jd_le hd rfl) x3 (-1) 19 a0 b0) ?_
      have h1212_ := f_X11_within_eq a0 b0 x3 (-1) 19
      refine jt_ite (fun c1213_ => ?_) (fun c1213_ => ?_)
      ·
        have h1214_ := iv_get hv0 (k := 4) (j := 6) (l := 0) (u := 40) rfl
        exact cp_X11_member_31 E d hd x1 x2 x3 a0 b0 hv0 x1 x2 x3 a0 hv0 (jfr_rf _ _) (show x1 = x1 from by omega) (show x2 = x2 from by omega) (show x3 = x3 from by omega) (show (((((x1 < 0 ∨ 15 < x1) ∨ x2 < 0) ∨ 65535 < x2) ∨ x3 < 0 - 1) ∨ 19 < x3) from by omega) (show a0 4 6 = a0 4 6 from by omega) (jfr_rf _ _)
      ·
        have h1215_ := iv_get hv0 (k := 4) (j := 6) (l := 0) (u := 40) rfl
        exact cp_X11_member_32 E d hd x1 x2 x3 a0 b0 hv0 x1 x2 x3 1 a0 hv0 (jfr_rf _ _) (show 0 ≤ 1 from by omega) (show 1 ≤ 1 from by omega) (show x1 = x1 from by omega) (show x2 = x2 from by omega) (show x3 = x3 from by omega) (show (((((((1 = 1 ∧ 0 ≤ x1) ∧ x1 ≤ 15) ∧ 0 ≤ x2) ∧ x2 ≤ 65535) ∧ 0 - 1 ≤ x3) ∧ x3 ≤ 19) ∨ (1 = 0 ∧ (((((x1 < 0 ∨ 15 < x1) ∨ x2 < 0) ∨ 65535 < x2) ∨ x3 < 0 - 1) ∨ 19 < x3))) from by omega) (show a0 4 6 = a0 4 6 from by omega) (jfr_rf _ _)
def jW_X4_add : List (Nat × Nat) := [(83, 6), (84, 9999), (85, 9999), (86, 9999), (87, 9999), (88, 9999), (89, 9999)]
abbrev jQ_X4_add (x1 x2 x3 : Int) (a0 b0 : Nat → Nat → Int) : List jxV → (Nat → Nat → Int) → (Nat → Nat → Int) → Prop := rI (fun r a b => (iv a) ∧ (jfr jW_X4_add a0 a) ∧ (b0 = b) ∧ ((((a0 83 6 < 20 ∧ r = a0 83 6) ∧ a 83 6 = (a0 83 6) + 1) ∨ ((20 ≤ a0 83 6 ∧ r = 0 - 1) ∧ a 83 6 = a0 83 6))))
theorem cp_X4_add_61 (E : jxE) (d : Nat) (hd : Nat.ble 1 (d + 1) = true) (x1 x2 x3 : Int) (a0 b0 : Nat → Nat → Int) (hv0 : iv a0) : ∀ (a : Nat → Nat → Int), iv a → jfr jW_X4_add a0 a → a 83 6 ≤ 19 → a 83 6 = a0 83 6 → a 83 6 ≤ 19 → jt (jxX E d 66 61 [some (.inr (.inr (.inl 83))), none, none, none] [] (jxSH, a, b0)) (jQ_X4_add x1 x2 x3 a0 b0) := by
  intro a hv hf hi0 hi1 hi2
  refine jt_eq (bq_X4_add_61 E d a b0) ?_
  have h1216_ := iv_get hv (k := 83) (j := 6) (l := 0) (u := 20) rfl
  have h1217_ := iv_get hv0 (k := 83) (j := 6) (l := 0) (u := 20) rfl
  refine jt_grd (by omega) ?_
  have hv1218_ : iv (jxu a 89 ((a 83 6).toNat) (-1)) := iv_putf hv rfl
  have h1220_ : jxw ((a 83 6) + 1) = (a 83 6) + 1 := jxw_id (by omega) (by omega)
  have hv1219_ : iv (jxu (jxu a 89 ((a 83 6).toNat) (-1)) 83 6 (jxw ((a 83 6) + 1))) := iv_put hv1218_ (l := 0) (u := 20) rfl (by omega) (by omega)
  have hf1221_ : jfr jW_X4_add a0 (jxu a 89 ((a 83 6).toNat) (-1)) := jfr_put hf rfl
  have hf1222_ : jfr jW_X4_add a0 (jxu (jxu a 89 ((a 83 6).toNat) (-1)) 83 6 (jxw ((a 83 6) + 1))) := jfr_put hf1221_ rfl
  exact jt_rI ⟨hv1219_, hf1222_, rfl, (show (((a0 83 6 < 20 ∧ a 83 6 = a0 83 6) ∧ jxw ((a 83 6) + 1) = (a0 83 6) + 1) ∨ ((20 ≤ a0 83 6 ∧ a 83 6 = 0 - 1) ∧ jxw ((a 83 6) + 1) = a0 83 6)) from by omega)⟩
theorem cp_X4_add_31 (E : jxE) (d : Nat) (hd : Nat.ble 1 (d + 1) = true) (x1 x2 x3 : Int) (a0 b0 : Nat → Nat → Int) (hv0 : iv a0) : ∀ (y3 : Int) (a : Nat → Nat → Int), iv a → jfr jW_X4_add a0 a → a 83 6 ≤ 19 → a 83 6 = a0 83 6 → a 83 6 ≤ 19 → jt (jxX E d 66 31 [some (.inr (.inr (.inl 83))), none, none, some (.inl y3)] [] (jxSH, a, b0)) (jQ_X4_add x1 x2 x3 a0 b0) := by
  intro y3 a hv hf hi0 hi1 hi2
  refine jt_eq (bq_X4_add_31 E d y3 a b0) ?_
  have h1223_ := iv_get hv (k := 83) (j := 6) (l := 0) (u := 20) rfl
  have h1224_ := iv_get hv0 (k := 83) (j := 6) (l := 0) (u := 20) rfl
  refine jt_grd (by omega) ?_
  refine jt_grd (by omega) ?_
  refine jt_grd (by omega) ?_
  have hv1225_ : iv (jxu a 86 ((a 83 6).toNat) y3) := iv_putf hv rfl
  have hv1226_ : iv (jxu (jxu a 86 ((a 83 6).toNat) y3) 87 ((a 83 6).toNat) 0) := iv_putf hv1225_ rfl
  have hv1227_ : iv (jxu (jxu (jxu a 86 ((a 83 6).toNat) y3) 87 ((a 83 6).toNat) 0) 88 ((a 83 6).toNat) (-1)) := iv_putf hv1226_ rfl
  have hf1228_ : jfr jW_X4_add a0 (jxu a 86 ((a 83 6).toNat) y3) := jfr_put hf rfl
  have hf1229_ : jfr jW_X4_add a0 (jxu (jxu a 86 ((a 83 6).toNat) y3) 87 ((a 83 6).toNat) 0) := jfr_put hf1228_ rfl
  have hf1230_ : jfr jW_X4_add a0 (jxu (jxu (jxu a 86 ((a 83 6).toNat) y3) 87 ((a 83 6).toNat) 0) 88 ((a 83 6).toNat) (-1)) := jfr_put hf1229_ rfl
  exact cp_X4_add_61 E d hd x1 x2 x3 a0 b0 hv0 (jxu (jxu (jxu a 86 ((a 83 6).toNat) y3) 87 ((a 83 6).toNat) 0) 88 ((a 83 6).toNat) (-1)) hv1227_ hf1230_ (show a 83 6 ≤ 19 from by omega) (show a 83 6 = a0 83 6 from by omega) (show a 83 6 ≤ 19 from by omega)
theorem sp_X4_add (E : jxE) (d : Nat) (hd : Nat.ble 1 d = true) (x1 x2 x3 : Int) (a0 b0 : Nat → Nat → Int) (hv0 : iv a0) : jt (jxC E d 66 [.inr (.inr (.inl 83)), .inl x1, .inl x2, .inl x3] (jxSH, a0, b0)) (jQ_X4_add x1 x2 x3 a0 b0) := by
  obtain ⟨d, rfl⟩ := jd_succ hd
  refine jt_eq (bq_X4_add E d x1 x2 x3 a0 b0) ?_
  have h1231_ := iv_get hv0 (k := 83) (j := 6) (l := 0) (u := 20) rfl
  refine jt_ite (fun c1232_ => ?_) (fun c1232_ => ?_)
  ·
    refine jt_grd (by omega) ?_
    refine jt_grd (by omega) ?_
    have hv1233_ : iv (jxu a0 84 ((a0 83 6).toNat) x1) := iv_putf hv0 rfl
    have hv1234_ : iv (jxu (jxu a0 84 ((a0 83 6).toNat) x1) 85 ((a0 83 6).toNat) x2) := iv_putf hv1233_ rfl
    have hf1235_ : jfr jW_X4_add a0 (jxu a0 84 ((a0 83 6).toNat) x1) := jfr_put (jfr_rf _ _) rfl
    have hf1236_ : jfr jW_X4_add a0 (jxu (jxu a0 84 ((a0 83 6).toNat) x1) 85 ((a0 83 6).toNat) x2) := jfr_put hf1235_ rfl
    exact cp_X4_add_31 E d hd x1 x2 x3 a0 b0 hv0 x3 (jxu (jxu a0 84 ((a0 83 6).toNat) x1) 85 ((a0 83 6).toNat) x2) hv1234_ hf1236_ (show a0 83 6 ≤ 19 from by omega) (show a0 83 6 = a0 83 6 from by omega) (show a0 83 6 ≤ 19 from by omega)
  ·
    exact jt_rI ⟨hv0, (jfr_rf _ _), rfl, (show (((a0 83 6 < 20 ∧ (-1) = a0 83 6) ∧ a0 83 6 = (a0 83 6) + 1) ∨ ((20 ≤ a0 83 6 ∧ (-1) = 0 - 1) ∧ a0 83 6 = a0 83 6)) from by omega)⟩
def jW_X11_offer : List (Nat × Nat) := [(83, 6), (84, 9999), (85, 9999), (86, 9999), (87, 9999), (88, 9999), (89, 9999)]
abbrev jQ_X11_offer (x1 x2 x3 : Int) (a0 b0 : Nat → Nat → Int) : List jxV → (Nat → Nat → Int) → (Nat → Nat → Int) → Prop := rI (fun r a b => (iv a) ∧ (jfr jW_X11_offer a0 a) ∧ (b0 = b) ∧ ((a0 4 6 = 0 → r = 0 - 1)) ∧ (((((((((0 ≤ x1 ∧ x1 < a0 4 6) ∧ ¬ a0 10 (x1.toNat) = 0) ∧ 0 ≤ x2) ∧ x2 ≤ 31) ∧ a0 83 6 < 20) ∧ r = a0 83 6) ∧ a 83 6 = (a0 83 6) + 1) ∨ (((((((x1 < 0 ∨ a0 4 6 ≤ x1) ∨ a0 10 (x1.toNat) = 0) ∨ x2 < 0) ∨ 31 < x2) ∨ 20 ≤ a0 83 6) ∧ r = 0 - 1) ∧ a 83 6 = a0 83 6))))
theorem sp_X11_offer (E : jxE) (d : Nat) (hd : Nat.ble 3 d = true) (x1 x2 x3 : Int) (a0 b0 : Nat → Nat → Int) (hv0 : iv a0) : jt (jxC E d 184 [.inr (.inr (.inl 0)), .inl x1, .inl x2, .inl x3] (jxSH, a0, b0)) (jQ_X11_offer x1 x2 x3 a0 b0) := by
  obtain ⟨d, rfl⟩ := jd_succ hd
  refine jt_eq (bq_X11_offer E d x1 x2 x3 a0 b0) ?_
  refine jt_eI (eq_X3_isThere E d (jd_le hd rfl) x1 a0 b0) ?_
  have h1237_ := f_X3_isThere_eq a0 b0 x1
  have h1238_ := f_X3_has_eq a0 b0 x1
  have h1239_ := iv_get hv0 (k := 4) (j := 6) (l := 0) (u := 40) rfl
  refine jt_ite (fun c1240_ => ?_) (fun c1240_ => ?_)
  ·
    have h1241_ := iv_get hv0 (k := 83) (j := 6) (l := 0) (u := 20) rfl
    exact jt_rI ⟨hv0, (jfr_rf _ _), rfl, (show (a0 4 6 = 0 → (-1) = 0 - 1) from by omega), (show ((((((((0 ≤ x1 ∧ x1 < a0 4 6) ∧ ¬ a0 10 (x1.toNat) = 0) ∧ 0 ≤ x2) ∧ x2 ≤ 31) ∧ a0 83 6 < 20) ∧ (-1) = a0 83 6) ∧ a0 83 6 = (a0 83 6) + 1) ∨ (((((((x1 < 0 ∨ a0 4 6 ≤ x1) ∨ a0 10 (x1.toNat) = 0) ∨ x2 < 0) ∨ 31 < x2) ∨ 20 ≤ a0 83 6) ∧ (-1) = 0 - 1) ∧ a0 83 6 = a0 83 6)) from by omega)⟩
  ·
    refine jt_eI (eq_X11_within E d (jd_le hd rfl) x2 0 31 a0 b0) ?_
    have h1242_ := f_X11_within_eq a0 b0 x2 0 31
    refine jt_ite (fun c1243_ => ?_) (fun c1243_ => ?_)
    ·
      have h1244_ := iv_get hv0 (k := 83) (j := 6) (l := 0) (u := 20) rfl
      exact jt_rI ⟨hv0, (jfr_rf _ _), rfl, (show (a0 4 6 = 0 → (-1) = 0 - 1) from by omega), (show ((((((((0 ≤ x1 ∧ x1 < a0 4 6) ∧ ¬ a0 10 (x1.toNat) = 0) ∧ 0 ≤ x2) ∧ x2 ≤ 31) ∧ a0 83 6 < 20) ∧ (-1) = a0 83 6) ∧ a0 83 6 = (a0 83 6) + 1) ∨ (((((((x1 < 0 ∨ a0 4 6 ≤ x1) ∨ a0 10 (x1.toNat) = 0) ∨ x2 < 0) ∨ 31 < x2) ∨ 20 ≤ a0 83 6) ∧ (-1) = 0 - 1) ∧ a0 83 6 = a0 83 6)) from by omega)⟩
    ·
      refine jt_bI (sp_X4_add E d (jd_le hd rfl) x1 x2 x3 a0 b0 hv0) (fun r1245_ a1245_ b1245_ h1245_ => ?_)
      obtain ⟨hv1245_, hf1245_, rfl, hq1245_0⟩ := h1245_
      have h1246_ := iv_get hv0 (k := 83) (j := 6) (l := 0) (u := 20) rfl
      have h1247_ := iv_get hv1245_ (k := 83) (j := 6) (l := 0) (u := 20) rfl
      have hf1248_ : jfr jW_X11_offer a0 a1245_ := jfr_tr (jfr_rf _ _) hf1245_ rfl
      exact jt_rI ⟨hv1245_, hf1248_, rfl, (show (a0 4 6 = 0 → r1245_ = 0 - 1) from by omega), (show ((((((((0 ≤ x1 ∧ x1 < a0 4 6) ∧ ¬ a0 10 (x1.toNat) = 0) ∧ 0 ≤ x2) ∧ x2 ≤ 31) ∧ a0 83 6 < 20) ∧ r1245_ = a0 83 6) ∧ a1245_ 83 6 = (a0 83 6) + 1) ∨ (((((((x1 < 0 ∨ a0 4 6 ≤ x1) ∨ a0 10 (x1.toNat) = 0) ∨ x2 < 0) ∨ 31 < x2) ∨ 20 ≤ a0 83 6) ∧ r1245_ = 0 - 1) ∧ a1245_ 83 6 = a0 83 6)) from by omega)⟩
abbrev jQ_X1_dearestStamp (a0 b0 : Nat → Nat → Int) : List jxV → (Nat → Nat → Int) → (Nat → Nat → Int) → Prop := rI (fun r a b => (a0 = a) ∧ (b0 = b))
theorem cp_X1_dearestStamp_4 (E : jxE) (d : Nat) (hd : Nat.ble 2 (d + 1) = true) (a0 b0 : Nat → Nat → Int) (hv0 : iv a0) : ∀ n : Nat, (∀ (y1 y2 : Int), (((8 - y2) * 1) + 0).toNat ≤ n → 0 ≤ y1 → 0 ≤ y2 → y2 ≤ 7 → jt (jxX E d 34 30 [some (.inr (.inr (.inl 141))), some (.inl y1), some (.inl y2)] [] (jxSH, a0, b0)) (jQ_X1_dearestStamp a0 b0)) ∧ (∀ (y1 y2 : Int), (((8 - y2) * 1) + 0).toNat ≤ n → 0 ≤ y1 → 0 ≤ y2 → y2 ≤ 8 → jt (jxX E d 34 4 [some (.inr (.inr (.inl 141))), some (.inl y1), some (.inl y2)] [] (jxSH, a0, b0)) (jQ_X1_dearestStamp a0 b0)) := by
  refine jx_ind fun n ih => ?_
  have ih30 : ∀ (y1 y2 : Int), (((8 - y2) * 1) + 0).toNat < n → 0 ≤ y1 → 0 ≤ y2 → y2 ≤ 7 → jt (jxX E d 34 30 [some (.inr (.inr (.inl 141))), some (.inl y1), some (.inl y2)] [] (jxSH, a0, b0)) (jQ_X1_dearestStamp a0 b0) := fun y1 y2 hlt i0 i1 i2 => (ih _ hlt).1 y1 y2 (Nat.le_refl _) i0 i1 i2
  have ih4 : ∀ (y1 y2 : Int), (((8 - y2) * 1) + 0).toNat < n → 0 ≤ y1 → 0 ≤ y2 → y2 ≤ 8 → jt (jxX E d 34 4 [some (.inr (.inr (.inl 141))), some (.inl y1), some (.inl y2)] [] (jxSH, a0, b0)) (jQ_X1_dearestStamp a0 b0) := fun y1 y2 hlt i0 i1 i2 => (ih _ hlt).2 y1 y2 (Nat.le_refl _) i0 i1 i2
  have hc30 : ∀ (y1 y2 : Int), (((8 - y2) * 1) + 0).toNat ≤ n → 0 ≤ y1 → 0 ≤ y2 → y2 ≤ 7 → jt (jxX E d 34 30 [some (.inr (.inr (.inl 141))), some (.inl y1), some (.inl y2)] [] (jxSH, a0, b0)) (jQ_X1_dearestStamp a0 b0) := by
    intro y1 y2 hm hi0 hi1 hi2
    refine jt_eq (bq_X1_dearestStamp_30 E d y1 y2 a0 b0) ?_
    have h1249_ : jxw (y2 + 1) = y2 + 1 := jxw_id (by omega) (by omega)
    exact ih4 y1 (jxw (y2 + 1)) (show (((8 - (jxw (y2 + 1))) * 1) + 0).toNat < n from by omega) (show 0 ≤ y1 from by omega) (show 0 ≤ jxw (y2 + 1) from by omega) (show jxw (y2 + 1) ≤ 8 from by omega)
  have hc4 : ∀ (y1 y2 : Int), (((8 - y2) * 1) + 0).toNat ≤ n → 0 ≤ y1 → 0 ≤ y2 → y2 ≤ 8 → jt (jxX E d 34 4 [some (.inr (.inr (.inl 141))), some (.inl y1), some (.inl y2)] [] (jxSH, a0, b0)) (jQ_X1_dearestStamp a0 b0) := by
    intro y1 y2 hm hi0 hi1 hi2
    refine jt_eq (bq_X1_dearestStamp_4 E d y1 y2 a0 b0) ?_
    refine jt_ite (fun c1250_ => ?_) (fun c1250_ => ?_)
    ·
      refine jt_grd (by omega) ?_
      refine jt_ite (fun c1251_ => ?_) (fun c1251_ => ?_)
      ·
        refine jt_grd (by omega) ?_
        refine jt_eI (eq_J9_max_7cf53 E d (jd_le hd rfl) y1 (a0 142 (y2.toNat)) a0 b0) ?_
        have h1252_ := f_J9_max_7cf53_eq a0 b0 y1 (a0 142 (y2.toNat))
        exact hc30 (f_J9_max_7cf53 a0 b0 y1 (a0 142 (y2.toNat))) y2 (show (((8 - y2) * 1) + 0).toNat ≤ n from by omega) (show 0 ≤ f_J9_max_7cf53 a0 b0 y1 (a0 142 (y2.toNat)) from by omega) (show 0 ≤ y2 from by omega) (show y2 ≤ 7 from by omega)
      ·
        exact hc30 y1 y2 (show (((8 - y2) * 1) + 0).toNat ≤ n from by omega) (show 0 ≤ y1 from by omega) (show 0 ≤ y2 from by omega) (show y2 ≤ 7 from by omega)
    ·
      exact jt_rI ⟨rfl, rfl⟩
  exact ⟨hc30, hc4⟩
theorem sp_X1_dearestStamp (E : jxE) (d : Nat) (hd : Nat.ble 2 d = true) (a0 b0 : Nat → Nat → Int) (hv0 : iv a0) : jt (jxC E d 34 [.inr (.inr (.inl 141))] (jxSH, a0, b0)) (jQ_X1_dearestStamp a0 b0) := by
  obtain ⟨d, rfl⟩ := jd_succ hd
  refine jt_eq (bq_X1_dearestStamp E d a0 b0) ?_
  exact (cp_X1_dearestStamp_4 E d hd a0 b0 hv0 _).2 0 0 (Nat.le_refl _) (show 0 ≤ 0 from by omega) (show 0 ≤ 0 from by omega) (show 0 ≤ 8 from by omega)
abbrev jQ_X1_tryBundle (x1 x2 x3 : Int) (a0 b0 : Nat → Nat → Int) : List jxV → (Nat → Nat → Int) → (Nat → Nat → Int) → Prop := rV (fun a b => (a0 = a))
theorem cp_X1_tryBundle_34 (E : jxE) (d : Nat) (hd : Nat.ble 2 (d + 1) = true) (x1 x2 x3 : Int) (a0 b0 : Nat → Nat → Int) (hv0 : iv a0) (hp0 : 0 ≤ x1) (hp1 : x1 ≤ 7) : ∀ n : Nat, (∀ (y4 y5 y7 : Int) (b : Nat → Nat → Int), ((y7 * 1) + 0).toNat ≤ n → 1 ≤ y4 → y4 ≤ 1399 → 1 ≤ y7 → y7 ≤ 1399 → 0 < y4 → y4 ≤ y7 → jt (jxX E d 37 93 [some (.inr (.inr (.inl 141))), none, none, none, some (.inl y4), some (.inr (.inl y5)), none, some (.inl y7)] [] (jxSH, a0, b)) (jQ_X1_tryBundle x1 x2 x3 a0 b0)) ∧ (∀ (y4 y5 y7 : Int) (b : Nat → Nat → Int), ((y7 * 1) + 0).toNat ≤ n → 1 ≤ y4 → y4 ≤ 1399 → 1 ≤ y7 → y7 ≤ 1399 → 0 < y4 → y4 ≤ y7 → jt (jxX E d 37 63 [some (.inr (.inr (.inl 141))), none, none, none, some (.inl y4), some (.inr (.inl y5)), none, some (.inl y7)] [] (jxSH, a0, b)) (jQ_X1_tryBundle x1 x2 x3 a0 b0)) ∧ (∀ (y4 y5 y7 : Int) (b : Nat → Nat → Int), ((y7 * 1) + 0).toNat ≤ n → y7 ≤ 1399 → jt (jxX E d 37 34 [some (.inr (.inr (.inl 141))), none, none, none, some (.inl y4), some (.inr (.inl y5)), none, some (.inl y7)] [] (jxSH, a0, b)) (jQ_X1_tryBundle x1 x2 x3 a0 b0)) := by
  refine jx_ind fun n ih => ?_
  have ih93 : ∀ (y4 y5 y7 : Int) (b : Nat → Nat → Int), ((y7 * 1) + 0).toNat < n → 1 ≤ y4 → y4 ≤ 1399 → 1 ≤ y7 → y7 ≤ 1399 → 0 < y4 → y4 ≤ y7 → jt (jxX E d 37 93 [some (.inr (.inr (.inl 141))), none, none, none, some (.inl y4), some (.inr (.inl y5)), none, some (.inl y7)] [] (jxSH, a0, b)) (jQ_X1_tryBundle x1 x2 x3 a0 b0) := fun y4 y5 y7 b hlt i0 i1 i2 i3 i4 i5 => (ih _ hlt).1 y4 y5 y7 b (Nat.le_refl _) i0 i1 i2 i3 i4 i5
  have ih63 : ∀ (y4 y5 y7 : Int) (b : Nat → Nat → Int), ((y7 * 1) + 0).toNat < n → 1 ≤ y4 → y4 ≤ 1399 → 1 ≤ y7 → y7 ≤ 1399 → 0 < y4 → y4 ≤ y7 → jt (jxX E d 37 63 [some (.inr (.inr (.inl 141))), none, none, none, some (.inl y4), some (.inr (.inl y5)), none, some (.inl y7)] [] (jxSH, a0, b)) (jQ_X1_tryBundle x1 x2 x3 a0 b0) := fun y4 y5 y7 b hlt i0 i1 i2 i3 i4 i5 => (ih _ hlt).2.1 y4 y5 y7 b (Nat.le_refl _) i0 i1 i2 i3 i4 i5
  have ih34 : ∀ (y4 y5 y7 : Int) (b : Nat → Nat → Int), ((y7 * 1) + 0).toNat < n → y7 ≤ 1399 → jt (jxX E d 37 34 [some (.inr (.inr (.inl 141))), none, none, none, some (.inl y4), some (.inr (.inl y5)), none, some (.inl y7)] [] (jxSH, a0, b)) (jQ_X1_tryBundle x1 x2 x3 a0 b0) := fun y4 y5 y7 b hlt i0 => (ih _ hlt).2.2 y4 y5 y7 b (Nat.le_refl _) i0
  have hc93 : ∀ (y4 y5 y7 : Int) (b : Nat → Nat → Int), ((y7 * 1) + 0).toNat ≤ n → 1 ≤ y4 → y4 ≤ 1399 → 1 ≤ y7 → y7 ≤ 1399 → 0 < y4 → y4 ≤ y7 → jt (jxX E d 37 93 [some (.inr (.inr (.inl 141))), none, none, none, some (.inl y4), some (.inr (.inl y5)), none, some (.inl y7)] [] (jxSH, a0, b)) (jQ_X1_tryBundle x1 x2 x3 a0 b0) := by
    intro y4 y5 y7 b hm hi0 hi1 hi2 hi3 hi4 hi5
    refine jt_eq (bq_X1_tryBundle_93 E d y4 y5 y7 a0 b) ?_
    have h1253_ : jxw (y7 + (-1)) = y7 + (-1) := jxw_id (by omega) (by omega)
    exact ih34 y4 y5 (jxw (y7 + (-1))) b (show (((jxw (y7 + (-1))) * 1) + 0).toNat < n from by omega) (show jxw (y7 + (-1)) ≤ 1399 from by omega)
  have hc63 : ∀ (y4 y5 y7 : Int) (b : Nat → Nat → Int), ((y7 * 1) + 0).toNat ≤ n → 1 ≤ y4 → y4 ≤ 1399 → 1 ≤ y7 → y7 ≤ 1399 → 0 < y4 → y4 ≤ y7 → jt (jxX E d 37 63 [some (.inr (.inr (.inl 141))), none, none, none, some (.inl y4), some (.inr (.inl y5)), none, some (.inl y7)] [] (jxSH, a0, b)) (jQ_X1_tryBundle x1 x2 x3 a0 b0) := by
    intro y4 y5 y7 b hm hi0 hi1 hi2 hi3 hi4 hi5
    refine jt_eq (bq_X1_tryBundle_63 E d y4 y5 y7 a0 b) ?_
    refine jt_grd (by omega) ?_
    have h1254_ : jxw (y7 - y4) = y7 - y4 := jxw_id (by omega) (by omega)
    refine jt_grd (by omega) ?_
    refine jt_eJ (eq_J9_min_f86c9 E d (jd_le hd rfl) (b 145 (y7.toNat)) (jxwl ((b 145 ((jxw (y7 - y4)).toNat)) + y5)) a0 b) ?_
    refine jt_grd (by omega) ?_
    exact hc93 y4 y5 y7 (jxu b 145 (y7.toNat) (f_J9_min_f86c9 a0 b (b 145 (y7.toNat)) (jxwl ((b 145 ((jxw (y7 - y4)).toNat)) + y5)))) (show ((y7 * 1) + 0).toNat ≤ n from by omega) (show 1 ≤ y4 from by omega) (show y4 ≤ 1399 from by omega) (show 1 ≤ y7 from by omega) (show y7 ≤ 1399 from by omega) (show 0 < y4 from by omega) (show y4 ≤ y7 from by omega)
  have hc34 : ∀ (y4 y5 y7 : Int) (b : Nat → Nat → Int), ((y7 * 1) + 0).toNat ≤ n → y7 ≤ 1399 → jt (jxX E d 37 34 [some (.inr (.inr (.inl 141))), none, none, none, some (.inl y4), some (.inr (.inl y5)), none, some (.inl y7)] [] (jxSH, a0, b)) (jQ_X1_tryBundle x1 x2 x3 a0 b0) := by
    intro y4 y5 y7 b hm hi0
    refine jt_eq (bq_X1_tryBundle_34 E d y4 y5 y7 a0 b) ?_
    refine jt_ite (fun c1255_ => ?_) (fun c1255_ => ?_)
    ·
      refine jt_ite (fun c1256_ => ?_) (fun c1256_ => ?_)
      ·
        exact jt_rV rfl
      ·
        have h1257_ : jxw (y7 - y4) = y7 - y4 := jxw_id (by omega) (by omega)
        refine jt_grd (by omega) ?_
        have h1258_ := jxlcmp_b (b 145 ((jxw (y7 - y4)).toNat)) 4611686018427387904
        refine jt_ite (fun c1259_ => ?_) (fun c1259_ => ?_)
        ·
          exact hc93 y4 y5 y7 b (show ((y7 * 1) + 0).toNat ≤ n from by omega) (show 1 ≤ y4 from by omega) (show y4 ≤ 1399 from by omega) (show 1 ≤ y7 from by omega) (show y7 ≤ 1399 from by omega) (show 0 < y4 from by omega) (show y4 ≤ y7 from by omega)
        ·
          exact hc63 y4 y5 y7 b (show ((y7 * 1) + 0).toNat ≤ n from by omega) (show 1 ≤ y4 from by omega) (show y4 ≤ 1399 from by omega) (show 1 ≤ y7 from by omega) (show y7 ≤ 1399 from by omega) (show 0 < y4 from by omega) (show y4 ≤ y7 from by omega)
    ·
      exact jt_rV rfl
  exact ⟨hc93, hc63, hc34⟩
theorem cp_X1_tryBundle_25 (E : jxE) (d : Nat) (hd : Nat.ble 2 (d + 1) = true) (x1 x2 x3 : Int) (a0 b0 : Nat → Nat → Int) (hv0 : iv a0) (hp0 : 0 ≤ x1) (hp1 : x1 ≤ 7) : ∀ (y3 y4 y5 : Int) (b : Nat → Nat → Int), jt (jxX E d 37 25 [some (.inr (.inr (.inl 141))), none, none, some (.inl y3), some (.inl y4), some (.inr (.inl y5)), none, none] [] (jxSH, a0, b)) (jQ_X1_tryBundle x1 x2 x3 a0 b0) := by
  intro y3 y4 y5 b
  refine jt_eq (bq_X1_tryBundle_25 E d y3 y4 y5 a0 b) ?_
  refine jt_eI (eq_J9_min_7cf53 E d (jd_le hd rfl) y3 1399 a0 b) ?_
  have h1260_ := f_J9_min_7cf53_eq a0 b y3 1399
  exact (cp_X1_tryBundle_34 E d hd x1 x2 x3 a0 b0 hv0 hp0 hp1 _).2.2 y4 y5 (f_J9_min_7cf53 a0 b y3 1399) b (Nat.le_refl _) (show f_J9_min_7cf53 a0 b y3 1399 ≤ 1399 from by omega)
theorem sp_X1_tryBundle (E : jxE) (d : Nat) (hd : Nat.ble 2 d = true) (x1 x2 x3 : Int) (a0 b0 : Nat → Nat → Int) (hv0 : iv a0) (hp0 : 0 ≤ x1) (hp1 : x1 ≤ 7) : jt (jxC E d 37 [.inr (.inr (.inl 141)), .inl x1, .inl x2, .inl x3] (jxSH, a0, b0)) (jQ_X1_tryBundle x1 x2 x3 a0 b0) := by
  obtain ⟨d, rfl⟩ := jd_succ hd
  refine jt_eq (bq_X1_tryBundle E d x1 x2 x3 a0 b0) ?_
  refine jt_grd (by omega) ?_
  refine jt_eI (eq_X1_shiftOf E d (jd_le hd rfl) x1 a0 b0) ?_
  exact cp_X1_tryBundle_25 E d hd x1 x2 x3 a0 b0 hv0 hp0 hp1 x3 (jxw (x2 * (a0 142 (x1.toNat)))) (jxwl (x2 * (jxwl (281474976710656 - (jxshll 1 (f_X1_shiftOf a0 b0 x1)))))) b0
abbrev jQ_X1_tryKind (x1 x2 : Int) (a0 b0 : Nat → Nat → Int) : List jxV → (Nat → Nat → Int) → (Nat → Nat → Int) → Prop := rV (fun a b => (a0 = a))
theorem cp_X1_tryKind_10 (E : jxE) (d : Nat) (hd : Nat.ble 3 (d + 1) = true) (x1 x2 : Int) (a0 b0 : Nat → Nat → Int) (hv0 : iv a0) (hp0 : 0 ≤ x1) (hp1 : x1 ≤ 7) : ∀ n : Nat, (∀ (y1 y2 y3 y4 y5 : Int) (b : Nat → Nat → Int), (((100 - y4) * 1) + 0).toNat ≤ n → 0 ≤ y1 → y1 ≤ 7 → 1 ≤ y3 → 1 ≤ y4 → y4 ≤ 50 → 1 ≤ y5 → y5 ≤ 50 → jt (jxX E d 36 37 [some (.inr (.inr (.inl 141))), some (.inl y1), some (.inl y2), some (.inl y3), some (.inl y4), some (.inl y5)] [] (jxSH, a0, b)) (jQ_X1_tryKind x1 x2 a0 b0)) ∧ (∀ (y1 y2 y3 y4 : Int) (b : Nat → Nat → Int), (((100 - y4) * 1) + 0).toNat ≤ n → 0 ≤ y1 → y1 ≤ 7 → 1 ≤ y4 → y4 ≤ 100 → jt (jxX E d 36 10 [some (.inr (.inr (.inl 141))), some (.inl y1), some (.inl y2), some (.inl y3), some (.inl y4), none] [] (jxSH, a0, b)) (jQ_X1_tryKind x1 x2 a0 b0)) := by
  refine jx_ind fun n ih => ?_
  have ih37 : ∀ (y1 y2 y3 y4 y5 : Int) (b : Nat → Nat → Int), (((100 - y4) * 1) + 0).toNat < n → 0 ≤ y1 → y1 ≤ 7 → 1 ≤ y3 → 1 ≤ y4 → y4 ≤ 50 → 1 ≤ y5 → y5 ≤ 50 → jt (jxX E d 36 37 [some (.inr (.inr (.inl 141))), some (.inl y1), some (.inl y2), some (.inl y3), some (.inl y4), some (.inl y5)] [] (jxSH, a0, b)) (jQ_X1_tryKind x1 x2 a0 b0) := fun y1 y2 y3 y4 y5 b hlt i0 i1 i2 i3 i4 i5 i6 => (ih _ hlt).1 y1 y2 y3 y4 y5 b (Nat.le_refl _) i0 i1 i2 i3 i4 i5 i6
  have ih10 : ∀ (y1 y2 y3 y4 : Int) (b : Nat → Nat → Int), (((100 - y4) * 1) + 0).toNat < n → 0 ≤ y1 → y1 ≤ 7 → 1 ≤ y4 → y4 ≤ 100 → jt (jxX E d 36 10 [some (.inr (.inr (.inl 141))), some (.inl y1), some (.inl y2), some (.inl y3), some (.inl y4), none] [] (jxSH, a0, b)) (jQ_X1_tryKind x1 x2 a0 b0) := fun y1 y2 y3 y4 b hlt i0 i1 i2 i3 => (ih _ hlt).2 y1 y2 y3 y4 b (Nat.le_refl _) i0 i1 i2 i3
  have hc37 : ∀ (y1 y2 y3 y4 y5 : Int) (b : Nat → Nat → Int), (((100 - y4) * 1) + 0).toNat ≤ n → 0 ≤ y1 → y1 ≤ 7 → 1 ≤ y3 → 1 ≤ y4 → y4 ≤ 50 → 1 ≤ y5 → y5 ≤ 50 → jt (jxX E d 36 37 [some (.inr (.inr (.inl 141))), some (.inl y1), some (.inl y2), some (.inl y3), some (.inl y4), some (.inl y5)] [] (jxSH, a0, b)) (jQ_X1_tryKind x1 x2 a0 b0) := by
    intro y1 y2 y3 y4 y5 b hm hi0 hi1 hi2 hi3 hi4 hi5 hi6
    refine jt_eq (bq_X1_tryKind_37 E d y1 y2 y3 y4 y5 a0 b) ?_
    have h1261_ : jxw (y4 * 2) = y4 * 2 := jxw_id (by omega) (by omega)
    exact ih10 y1 y2 (jxw (y3 - y5)) (jxw (y4 * 2)) b (show (((100 - (jxw (y4 * 2))) * 1) + 0).toNat < n from by omega) (show 0 ≤ y1 from by omega) (show y1 ≤ 7 from by omega) (show 1 ≤ jxw (y4 * 2) from by omega) (show jxw (y4 * 2) ≤ 100 from by omega)
  have hc10 : ∀ (y1 y2 y3 y4 : Int) (b : Nat → Nat → Int), (((100 - y4) * 1) + 0).toNat ≤ n → 0 ≤ y1 → y1 ≤ 7 → 1 ≤ y4 → y4 ≤ 100 → jt (jxX E d 36 10 [some (.inr (.inr (.inl 141))), some (.inl y1), some (.inl y2), some (.inl y3), some (.inl y4), none] [] (jxSH, a0, b)) (jQ_X1_tryKind x1 x2 a0 b0) := by
    intro y1 y2 y3 y4 b hm hi0 hi1 hi2 hi3
    refine jt_eq (bq_X1_tryKind_10 E d y1 y2 y3 y4 a0 b) ?_
    refine jt_ite (fun c1262_ => ?_) (fun c1262_ => ?_)
    ·
      refine jt_ite (fun c1263_ => ?_) (fun c1263_ => ?_)
      ·
        exact jt_rV rfl
      ·
        refine jt_eI (eq_J9_min_7cf53 E d (jd_le hd rfl) y4 y3 a0 b) ?_
        refine jt_bV (sp_X1_tryBundle E d (jd_le hd rfl) y1 (f_J9_min_7cf53 a0 b y4 y3) y2 a0 b hv0 (show 0 ≤ y1 from by omega) (show y1 ≤ 7 from by omega)) (fun a1264_ b1264_ h1264_ => ?_)
        subst h1264_
        have h1265_ := f_J9_min_7cf53_eq a0 b y4 y3
        exact hc37 y1 y2 y3 y4 (f_J9_min_7cf53 a0 b y4 y3) b1264_ (show (((100 - y4) * 1) + 0).toNat ≤ n from by omega) (show 0 ≤ y1 from by omega) (show y1 ≤ 7 from by omega) (show 1 ≤ y3 from by omega) (show 1 ≤ y4 from by omega) (show y4 ≤ 50 from by omega) (show 1 ≤ f_J9_min_7cf53 a0 b y4 y3 from by omega) (show f_J9_min_7cf53 a0 b y4 y3 ≤ 50 from by omega)
    ·
      exact jt_rV rfl
  exact ⟨hc37, hc10⟩
theorem sp_X1_tryKind (E : jxE) (d : Nat) (hd : Nat.ble 3 d = true) (x1 x2 : Int) (a0 b0 : Nat → Nat → Int) (hv0 : iv a0) (hp0 : 0 ≤ x1) (hp1 : x1 ≤ 7) : jt (jxC E d 36 [.inr (.inr (.inl 141)), .inl x1, .inl x2] (jxSH, a0, b0)) (jQ_X1_tryKind x1 x2 a0 b0) := by
  obtain ⟨d, rfl⟩ := jd_succ hd
  refine jt_eq (bq_X1_tryKind E d x1 x2 a0 b0) ?_
  refine jt_grd (by omega) ?_
  exact (cp_X1_tryKind_10 E d hd x1 x2 a0 b0 hv0 hp0 hp1 _).2 x1 x2 (a0 143 (x1.toNat)) 1 b0 (Nat.le_refl _) (show 0 ≤ x1 from by omega) (show x1 ≤ 7 from by omega) (show 1 ≤ 1 from by omega) (show 1 ≤ 100 from by omega)
abbrev jQ_X1_findBestWays (x1 : Int) (a0 b0 : Nat → Nat → Int) : List jxV → (Nat → Nat → Int) → (Nat → Nat → Int) → Prop := rV (fun a b => (a0 = a))
theorem cp_X1_findBestWays_38 (E : jxE) (d : Nat) (hd : Nat.ble 4 (d + 1) = true) (x1 : Int) (a0 b0 : Nat → Nat → Int) (hv0 : iv a0) : ∀ n : Nat, (∀ (y1 y2 : Int) (b : Nat → Nat → Int), (((8 - y2) * 1) + 0).toNat ≤ n → 0 ≤ y2 → y2 ≤ 8 → jt (jxX E d 35 38 [some (.inr (.inr (.inl 141))), some (.inl y1), some (.inl y2)] [] (jxSH, a0, b)) (jQ_X1_findBestWays x1 a0 b0)) := by
  refine jx_ind fun n ih => ?_
  have ih38 : ∀ (y1 y2 : Int) (b : Nat → Nat → Int), (((8 - y2) * 1) + 0).toNat < n → 0 ≤ y2 → y2 ≤ 8 → jt (jxX E d 35 38 [some (.inr (.inr (.inl 141))), some (.inl y1), some (.inl y2)] [] (jxSH, a0, b)) (jQ_X1_findBestWays x1 a0 b0) := fun y1 y2 b hlt i0 i1 => (ih _ hlt) y1 y2 b (Nat.le_refl _) i0 i1
  have hc38 : ∀ (y1 y2 : Int) (b : Nat → Nat → Int), (((8 - y2) * 1) + 0).toNat ≤ n → 0 ≤ y2 → y2 ≤ 8 → jt (jxX E d 35 38 [some (.inr (.inr (.inl 141))), some (.inl y1), some (.inl y2)] [] (jxSH, a0, b)) (jQ_X1_findBestWays x1 a0 b0) := by
    intro y1 y2 b hm hi0 hi1
    refine jt_eq (bq_X1_findBestWays_38 E d y1 y2 a0 b) ?_
    refine jt_ite (fun c1266_ => ?_) (fun c1266_ => ?_)
    ·
      refine jt_bV (sp_X1_tryKind E d (jd_le hd rfl) y2 y1 a0 b hv0 (show 0 ≤ y2 from by omega) (show y2 ≤ 7 from by omega)) (fun a1267_ b1267_ h1267_ => ?_)
      subst h1267_
      have h1268_ : jxw (y2 + 1) = y2 + 1 := jxw_id (by omega) (by omega)
      exact ih38 y1 (jxw (y2 + 1)) b1267_ (show (((8 - (jxw (y2 + 1))) * 1) + 0).toNat < n from by omega) (show 0 ≤ jxw (y2 + 1) from by omega) (show jxw (y2 + 1) ≤ 8 from by omega)
    ·
      exact jt_rV rfl
  exact hc38
theorem cp_X1_findBestWays_29 (E : jxE) (d : Nat) (hd : Nat.ble 4 (d + 1) = true) (x1 : Int) (a0 b0 : Nat → Nat → Int) (hv0 : iv a0) : ∀ (y1 : Int) (b : Nat → Nat → Int), jt (jxX E d 35 29 [some (.inr (.inr (.inl 141))), some (.inl y1), none] [] (jxSH, a0, b)) (jQ_X1_findBestWays x1 a0 b0) := by
  intro y1 b
  refine jt_eq (bq_X1_findBestWays_29 E d y1 a0 b) ?_
  exact (cp_X1_findBestWays_38 E d hd x1 a0 b0 hv0 _) y1 0 (jxu b 145 0 0) (Nat.le_refl _) (show 0 ≤ 0 from by omega) (show 0 ≤ 8 from by omega)
theorem cp_X1_findBestWays_2 (E : jxE) (d : Nat) (hd : Nat.ble 4 (d + 1) = true) (x1 : Int) (a0 b0 : Nat → Nat → Int) (hv0 : iv a0) : ∀ n : Nat, (∀ (y1 y2 : Int) (b : Nat → Nat → Int), (((1400 - y2) * 1) + 0).toNat ≤ n → 1 ≤ y2 → y2 ≤ 1400 → jt (jxX E d 35 2 [some (.inr (.inr (.inl 141))), some (.inl y1), some (.inl y2)] [] (jxSH, a0, b)) (jQ_X1_findBestWays x1 a0 b0)) := by
  refine jx_ind fun n ih => ?_
  have ih2 : ∀ (y1 y2 : Int) (b : Nat → Nat → Int), (((1400 - y2) * 1) + 0).toNat < n → 1 ≤ y2 → y2 ≤ 1400 → jt (jxX E d 35 2 [some (.inr (.inr (.inl 141))), some (.inl y1), some (.inl y2)] [] (jxSH, a0, b)) (jQ_X1_findBestWays x1 a0 b0) := fun y1 y2 b hlt i0 i1 => (ih _ hlt) y1 y2 b (Nat.le_refl _) i0 i1
  have hc2 : ∀ (y1 y2 : Int) (b : Nat → Nat → Int), (((1400 - y2) * 1) + 0).toNat ≤ n → 1 ≤ y2 → y2 ≤ 1400 → jt (jxX E d 35 2 [some (.inr (.inr (.inl 141))), some (.inl y1), some (.inl y2)] [] (jxSH, a0, b)) (jQ_X1_findBestWays x1 a0 b0) := by
    intro y1 y2 b hm hi0 hi1
    refine jt_eq (bq_X1_findBestWays_2 E d y1 y2 a0 b) ?_
    refine jt_ite (fun c1269_ => ?_) (fun c1269_ => ?_)
    ·
      exact cp_X1_findBestWays_29 E d hd x1 a0 b0 hv0 y1 b
    ·
      refine jt_ite (fun c1270_ => ?_) (fun c1270_ => ?_)
      ·
        refine jt_grd (by omega) ?_
        have h1271_ : jxw (y2 + 1) = y2 + 1 := jxw_id (by omega) (by omega)
        exact ih2 y1 (jxw (y2 + 1)) (jxu b 145 (y2.toNat) 4611686018427387904) (show (((1400 - (jxw (y2 + 1))) * 1) + 0).toNat < n from by omega) (show 1 ≤ jxw (y2 + 1) from by omega) (show jxw (y2 + 1) ≤ 1400 from by omega)
      ·
        exact cp_X1_findBestWays_29 E d hd x1 a0 b0 hv0 y1 b
  exact hc2
theorem sp_X1_findBestWays (E : jxE) (d : Nat) (hd : Nat.ble 4 d = true) (x1 : Int) (a0 b0 : Nat → Nat → Int) (hv0 : iv a0) : jt (jxC E d 35 [.inr (.inr (.inl 141)), .inl x1] (jxSH, a0, b0)) (jQ_X1_findBestWays x1 a0 b0) := by
  obtain ⟨d, rfl⟩ := jd_succ hd
  refine jt_eq (bq_X1_findBestWays E d x1 a0 b0) ?_
  exact (cp_X1_findBestWays_2 E d hd x1 a0 b0 hv0 _) x1 1 b0 (Nat.le_refl _) (show 1 ≤ 1 from by omega) (show 1 ≤ 1400 from by omega)
def jW_X1_takeOut : List (Nat × Nat) := [(143, 9999), (144, 9999)]
abbrev jQ_X1_takeOut (x1 : Int) (a0 b0 : Nat → Nat → Int) : List jxV → (Nat → Nat → Int) → (Nat → Nat → Int) → Prop := rV (fun a b => (iv a) ∧ (jfr jW_X1_takeOut a0 a) ∧ (b0 = b))
theorem cp_X1_takeOut_22 (E : jxE) (d : Nat) (hd : Nat.ble 2 (d + 1) = true) (x1 : Int) (a0 b0 : Nat → Nat → Int) (hv0 : iv a0) : ∀ n : Nat, (∀ (y5 y7 : Int) (a : Nat → Nat → Int), (((8 - y7) * 1) + 0).toNat ≤ n → iv a → jfr jW_X1_takeOut a0 a → 0 ≤ y7 → y7 ≤ 7 → jt (jxX E d 38 48 [some (.inr (.inr (.inl 141))), none, none, none, none, some (.inr (.inl y5)), none, some (.inl y7)] [] (jxSH, a, b0)) (jQ_X1_takeOut x1 a0 b0)) ∧ (∀ (y5 y7 : Int) (a : Nat → Nat → Int), (((8 - y7) * 1) + 0).toNat ≤ n → iv a → jfr jW_X1_takeOut a0 a → 0 ≤ y7 → y7 ≤ 8 → jt (jxX E d 38 22 [some (.inr (.inr (.inl 141))), none, none, none, none, some (.inr (.inl y5)), none, some (.inl y7)] [] (jxSH, a, b0)) (jQ_X1_takeOut x1 a0 b0)) := by
  refine jx_ind fun n ih => ?_
  have ih48 : ∀ (y5 y7 : Int) (a : Nat → Nat → Int), (((8 - y7) * 1) + 0).toNat < n → iv a → jfr jW_X1_takeOut a0 a → 0 ≤ y7 → y7 ≤ 7 → jt (jxX E d 38 48 [some (.inr (.inr (.inl 141))), none, none, none, none, some (.inr (.inl y5)), none, some (.inl y7)] [] (jxSH, a, b0)) (jQ_X1_takeOut x1 a0 b0) := fun y5 y7 a hlt i0 i1 i2 i3 => (ih _ hlt).1 y5 y7 a (Nat.le_refl _) i0 i1 i2 i3
  have ih22 : ∀ (y5 y7 : Int) (a : Nat → Nat → Int), (((8 - y7) * 1) + 0).toNat < n → iv a → jfr jW_X1_takeOut a0 a → 0 ≤ y7 → y7 ≤ 8 → jt (jxX E d 38 22 [some (.inr (.inr (.inl 141))), none, none, none, none, some (.inr (.inl y5)), none, some (.inl y7)] [] (jxSH, a, b0)) (jQ_X1_takeOut x1 a0 b0) := fun y5 y7 a hlt i0 i1 i2 i3 => (ih _ hlt).2 y5 y7 a (Nat.le_refl _) i0 i1 i2 i3
  have hc48 : ∀ (y5 y7 : Int) (a : Nat → Nat → Int), (((8 - y7) * 1) + 0).toNat ≤ n → iv a → jfr jW_X1_takeOut a0 a → 0 ≤ y7 → y7 ≤ 7 → jt (jxX E d 38 48 [some (.inr (.inr (.inl 141))), none, none, none, none, some (.inr (.inl y5)), none, some (.inl y7)] [] (jxSH, a, b0)) (jQ_X1_takeOut x1 a0 b0) := by
    intro y5 y7 a hm hv hf hi0 hi1
    refine jt_eq (bq_X1_takeOut_48 E d y5 y7 a b0) ?_
    refine jt_grd (by omega) ?_
    refine jt_grd (by omega) ?_
    refine jt_grd (by omega) ?_
    have hv1272_ : iv (jxu a 143 (y7.toNat) (jxw ((a 143 (y7.toNat)) - (a 144 (y7.toNat))))) := iv_putf hv rfl
    have hf1273_ : jfr jW_X1_takeOut a0 (jxu a 143 (y7.toNat) (jxw ((a 143 (y7.toNat)) - (a 144 (y7.toNat))))) := jfr_put hf rfl
    have h1274_ : jxw (y7 + 1) = y7 + 1 := jxw_id (by omega) (by omega)
    exact ih22 y5 (jxw (y7 + 1)) (jxu a 143 (y7.toNat) (jxw ((a 143 (y7.toNat)) - (a 144 (y7.toNat))))) (show (((8 - (jxw (y7 + 1))) * 1) + 0).toNat < n from by omega) hv1272_ hf1273_ (show 0 ≤ jxw (y7 + 1) from by omega) (show jxw (y7 + 1) ≤ 8 from by omega)
  have hc22 : ∀ (y5 y7 : Int) (a : Nat → Nat → Int), (((8 - y7) * 1) + 0).toNat ≤ n → iv a → jfr jW_X1_takeOut a0 a → 0 ≤ y7 → y7 ≤ 8 → jt (jxX E d 38 22 [some (.inr (.inr (.inl 141))), none, none, none, none, some (.inr (.inl y5)), none, some (.inl y7)] [] (jxSH, a, b0)) (jQ_X1_takeOut x1 a0 b0) := by
    intro y5 y7 a hm hv hf hi0 hi1
    refine jt_eq (bq_X1_takeOut_22 E d y5 y7 a b0) ?_
    refine jt_ite (fun c1275_ => ?_) (fun c1275_ => ?_)
    ·
      refine jt_eI (eq_X1_shiftOf E d (jd_le hd rfl) y7 a b0) ?_
      refine jt_grd (by omega) ?_
      have hv1276_ : iv (jxu a 144 (y7.toNat) (jxand (jxw (jxshrl y5 (f_X1_shiftOf a b0 y7))) 63)) := iv_putf hv rfl
      have hf1277_ : jfr jW_X1_takeOut a0 (jxu a 144 (y7.toNat) (jxand (jxw (jxshrl y5 (f_X1_shiftOf a b0 y7))) 63)) := jfr_put hf rfl
      exact hc48 y5 y7 (jxu a 144 (y7.toNat) (jxand (jxw (jxshrl y5 (f_X1_shiftOf a b0 y7))) 63)) (show (((8 - y7) * 1) + 0).toNat ≤ n from by omega) hv1276_ hf1277_ (show 0 ≤ y7 from by omega) (show y7 ≤ 7 from by omega)
    ·
      exact jt_rV ⟨hv, hf, rfl⟩
  exact ⟨hc48, hc22⟩
theorem cp_X1_takeOut_19 (E : jxE) (d : Nat) (hd : Nat.ble 2 (d + 1) = true) (x1 : Int) (a0 b0 : Nat → Nat → Int) (hv0 : iv a0) : ∀ (y5 : Int) (a : Nat → Nat → Int), iv a → jfr jW_X1_takeOut a0 a → jt (jxX E d 38 19 [some (.inr (.inr (.inl 141))), none, none, none, none, some (.inr (.inl y5)), none, none] [] (jxSH, a, b0)) (jQ_X1_takeOut x1 a0 b0) := by
  intro y5 a hv hf
  refine jt_eq (bq_X1_takeOut_19 E d y5 a b0) ?_
  exact (cp_X1_takeOut_22 E d hd x1 a0 b0 hv0 _).2 y5 0 a (Nat.le_refl _) hv hf (show 0 ≤ 0 from by omega) (show 0 ≤ 8 from by omega)
theorem sp_X1_takeOut (E : jxE) (d : Nat) (hd : Nat.ble 2 d = true) (x1 : Int) (a0 b0 : Nat → Nat → Int) (hv0 : iv a0) : jt (jxC E d 38 [.inr (.inr (.inl 141)), .inr (.inl x1)] (jxSH, a0, b0)) (jQ_X1_takeOut x1 a0 b0) := by
  obtain ⟨d, rfl⟩ := jd_succ hd
  refine jt_eq (bq_X1_takeOut E d x1 a0 b0) ?_
  exact cp_X1_takeOut_19 E d hd x1 a0 b0 hv0 (jxwl ((jxshll (jxshrl (jxwl ((jxwl (x1 + 281474976710656)) - 1)) 48) 48) - x1)) a0 hv0 (jfr_rf _ _)
def jW_X1_payAtLeast : List (Nat × Nat) := [(143, 9999), (144, 9999)]
abbrev jQ_X1_payAtLeast (x1 : Int) (a0 b0 : Nat → Nat → Int) : List jxV → (Nat → Nat → Int) → (Nat → Nat → Int) → Prop := rI (fun r a b => (iv a) ∧ (jfr jW_X1_payAtLeast a0 a))
theorem cp_X1_payAtLeast_54 (E : jxE) (d : Nat) (hd : Nat.ble 5 (d + 1) = true) (x1 : Int) (a0 b0 : Nat → Nat → Int) (hv0 : iv a0) : ∀ (y3 : Int) (a b : Nat → Nat → Int), iv a → jfr jW_X1_payAtLeast a0 a → 0 ≤ y3 → y3 ≤ 1399 → jt (jxX E d 33 54 [none, none, none, some (.inl y3)] [] (jxSH, a, b)) (jQ_X1_payAtLeast x1 a0 b0) := by
  intro y3 a b hv hf hi0 hi1
  refine jt_eq (bq_X1_payAtLeast_54 E d y3 a b) ?_
  exact jt_rI ⟨hv, hf⟩
theorem cp_X1_payAtLeast_26 (E : jxE) (d : Nat) (hd : Nat.ble 5 (d + 1) = true) (x1 : Int) (a0 b0 : Nat → Nat → Int) (hv0 : iv a0) : ∀ n : Nat, (∀ (y2 y3 : Int) (a b : Nat → Nat → Int), (((1400 - y3) * 1) + 0).toNat ≤ n → iv a → jfr jW_X1_payAtLeast a0 a → y2 ≤ 1399 → 0 ≤ y3 → jt (jxX E d 33 26 [some (.inr (.inr (.inl 141))), none, some (.inl y2), some (.inl y3)] [] (jxSH, a, b)) (jQ_X1_payAtLeast x1 a0 b0)) := by
  refine jx_ind fun n ih => ?_
  have ih26 : ∀ (y2 y3 : Int) (a b : Nat → Nat → Int), (((1400 - y3) * 1) + 0).toNat < n → iv a → jfr jW_X1_payAtLeast a0 a → y2 ≤ 1399 → 0 ≤ y3 → jt (jxX E d 33 26 [some (.inr (.inr (.inl 141))), none, some (.inl y2), some (.inl y3)] [] (jxSH, a, b)) (jQ_X1_payAtLeast x1 a0 b0) := fun y2 y3 a b hlt i0 i1 i2 i3 => (ih _ hlt) y2 y3 a b (Nat.le_refl _) i0 i1 i2 i3
  have hc26 : ∀ (y2 y3 : Int) (a b : Nat → Nat → Int), (((1400 - y3) * 1) + 0).toNat ≤ n → iv a → jfr jW_X1_payAtLeast a0 a → y2 ≤ 1399 → 0 ≤ y3 → jt (jxX E d 33 26 [some (.inr (.inr (.inl 141))), none, some (.inl y2), some (.inl y3)] [] (jxSH, a, b)) (jQ_X1_payAtLeast x1 a0 b0) := by
    intro y2 y3 a b hm hv hf hi0 hi1
    refine jt_eq (bq_X1_payAtLeast_26 E d y2 y3 a b) ?_
    refine jt_ite (fun c1278_ => ?_) (fun c1278_ => ?_)
    ·
      exact jt_rI ⟨hv, hf⟩
    ·
      refine jt_grd (by omega) ?_
      have h1279_ := jxlcmp_b (b 145 (y3.toNat)) 4611686018427387904
      refine jt_ite (fun c1280_ => ?_) (fun c1280_ => ?_)
      ·
        have h1281_ : jxw (y3 + 1) = y3 + 1 := jxw_id (by omega) (by omega)
        exact ih26 y2 (jxw (y3 + 1)) a b (show (((1400 - (jxw (y3 + 1))) * 1) + 0).toNat < n from by omega) hv hf (show y2 ≤ 1399 from by omega) (show 0 ≤ jxw (y3 + 1) from by omega)
      ·
        refine jt_grd (by omega) ?_
        refine jt_bV (sp_X1_takeOut E d (jd_le hd rfl) (b 145 (y3.toNat)) a b hv) (fun a1282_ b1282_ h1282_ => ?_)
        obtain ⟨hv1282_, hf1282_, rfl⟩ := h1282_
        have hf1283_ : jfr jW_X1_payAtLeast a0 a1282_ := jfr_tr hf hf1282_ rfl
        exact cp_X1_payAtLeast_54 E d hd x1 a0 b0 hv0 y3 a1282_ b hv1282_ hf1283_ (show 0 ≤ y3 from by omega) (show y3 ≤ 1399 from by omega)
  exact hc26
theorem sp_X1_payAtLeast (E : jxE) (d : Nat) (hd : Nat.ble 5 d = true) (x1 : Int) (a0 b0 : Nat → Nat → Int) (hv0 : iv a0) : jt (jxC E d 33 [.inr (.inr (.inl 141)), .inl x1] (jxSH, a0, b0)) (jQ_X1_payAtLeast x1 a0 b0) := by
  obtain ⟨d, rfl⟩ := jd_succ hd
  refine jt_eq (bq_X1_payAtLeast E d x1 a0 b0) ?_
  refine jt_bI (sp_X1_dearestStamp E d (jd_le hd rfl) a0 b0 hv0) (fun r1284_ a1284_ b1284_ h1284_ => ?_)
  obtain ⟨rfl, rfl⟩ := h1284_
  refine jt_eI (eq_J9_min_7cf53 E d (jd_le hd rfl) (jxw ((jxw (x1 + r1284_)) - 1)) 1399 a0 b0) ?_
  refine jt_bV (sp_X1_findBestWays E d (jd_le hd rfl) (f_J9_min_7cf53 a0 b0 (jxw ((jxw (x1 + r1284_)) - 1)) 1399) a0 b0 hv0) (fun a1285_ b1285_ h1285_ => ?_)
  subst h1285_
  refine jt_eI (eq_J9_max_7cf53 E d (jd_le hd rfl) x1 0 a0 b1285_) ?_
  have h1286_ := jxw_im (x1 + r1284_)
  have h1287_ := jxw_rg (x1 + r1284_)
  have h1288_ := jxw_im ((jxw (x1 + r1284_)) - 1)
  have h1289_ := jxw_rg ((jxw (x1 + r1284_)) - 1)
  have h1290_ := f_J9_min_7cf53_eq a0 b0 (jxw ((jxw (x1 + r1284_)) - 1)) 1399
  have h1291_ := f_J9_max_7cf53_eq a0 b1285_ x1 0
  exact (cp_X1_payAtLeast_26 E d hd x1 a0 b0 hv0 _) (f_J9_min_7cf53 a0 b0 (jxw ((jxw (x1 + r1284_)) - 1)) 1399) (f_J9_max_7cf53 a0 b1285_ x1 0) a0 b1285_ (Nat.le_refl _) hv0 (jfr_rf _ _) (show f_J9_min_7cf53 a0 b0 (jxw ((jxw (x1 + r1284_)) - 1)) 1399 ≤ 1399 from by omega) (show 0 ≤ f_J9_max_7cf53 a0 b1285_ x1 0 from by omega)
abbrev jQ_X9_holdingOn (x1 : Int) (a0 b0 : Nat → Nat → Int) : List jxV → (Nat → Nat → Int) → (Nat → Nat → Int) → Prop := rI (fun r a b => (a0 = a) ∧ (b0 = b) ∧ ((a0 105 5 = 0 → r = 0 - 1)) ∧ (r = HO (a0 106) x1 (a0 105 5).toNat))
theorem cp_X9_holdingOn_4 (E : jxE) (d : Nat) (hd : Nat.ble 1 (d + 1) = true) (x1 : Int) (a0 b0 : Nat → Nat → Int) (hv0 : iv a0) : ∀ n : Nat, (∀ (y1 y2 y3 : Int), (((10 - y3) * 1) + 0).toNat ≤ n → 0 - 1 ≤ y2 → y2 ≤ 9 → 0 ≤ y3 → y3 ≤ 9 → 1 ≤ a0 105 5 → (y1 = x1) → y3 < a0 105 5 → (y2 = HO (a0 106) x1 (y3.toNat + 1)) → jt (jxX E d 139 44 [some (.inr (.inr (.inl 105))), some (.inl y1), some (.inl y2), some (.inl y3)] [] (jxSH, a0, b0)) (jQ_X9_holdingOn x1 a0 b0)) ∧ (∀ (y1 y3 : Int), (((10 - y3) * 1) + 0).toNat ≤ n → 0 ≤ y3 → y3 ≤ 9 → 1 ≤ a0 105 5 → (y1 = x1) → y3 < a0 105 5 → (HO (a0 106) x1 (y3.toNat + 1) = y3) → jt (jxX E d 139 42 [some (.inr (.inr (.inl 105))), some (.inl y1), none, some (.inl y3)] [] (jxSH, a0, b0)) (jQ_X9_holdingOn x1 a0 b0)) ∧ (∀ (y1 y2 y3 : Int), (((10 - y3) * 1) + 0).toNat ≤ n → 0 - 1 ≤ y2 → y2 ≤ 9 → 0 ≤ y3 → y3 ≤ 10 → (a0 105 5 = 0 → y2 = 0 - 1) → (y1 = x1) → y3 ≤ a0 105 5 → (y2 = HO (a0 106) x1 y3.toNat) → jt (jxX E d 139 4 [some (.inr (.inr (.inl 105))), some (.inl y1), some (.inl y2), some (.inl y3)] [] (jxSH, a0, b0)) (jQ_X9_holdingOn x1 a0 b0)) := by
  refine jx_ind fun n ih => ?_
  have ih44 : ∀ (y1 y2 y3 : Int), (((10 - y3) * 1) + 0).toNat < n → 0 - 1 ≤ y2 → y2 ≤ 9 → 0 ≤ y3 → y3 ≤ 9 → 1 ≤ a0 105 5 → (y1 = x1) → y3 < a0 105 5 → (y2 = HO (a0 106) x1 (y3.toNat + 1)) → jt (jxX E d 139 44 [some (.inr (.inr (.inl 105))), some (.inl y1), some (.inl y2), some (.inl y3)] [] (jxSH, a0, b0)) (jQ_X9_holdingOn x1 a0 b0) := fun y1 y2 y3 hlt i0 i1 i2 i3 i4 i5 i6 i7 => (ih _ hlt).1 y1 y2 y3 (Nat.le_refl _) i0 i1 i2 i3 i4 i5 i6 i7
  have ih42 : ∀ (y1 y3 : Int), (((10 - y3) * 1) + 0).toNat < n → 0 ≤ y3 → y3 ≤ 9 → 1 ≤ a0 105 5 → (y1 = x1) → y3 < a0 105 5 → (HO (a0 106) x1 (y3.toNat + 1) = y3) → jt (jxX E d 139 42 [some (.inr (.inr (.inl 105))), some (.inl y1), none, some (.inl y3)] [] (jxSH, a0, b0)) (jQ_X9_holdingOn x1 a0 b0) := fun y1 y3 hlt i0 i1 i2 i3 i4 i5 => (ih _ hlt).2.1 y1 y3 (Nat.le_refl _) i0 i1 i2 i3 i4 i5
  have ih4 : ∀ (y1 y2 y3 : Int), (((10 - y3) * 1) + 0).toNat < n → 0 - 1 ≤ y2 → y2 ≤ 9 → 0 ≤ y3 → y3 ≤ 10 → (a0 105 5 = 0 → y2 = 0 - 1) → (y1 = x1) → y3 ≤ a0 105 5 → (y2 = HO (a0 106) x1 y3.toNat) → jt (jxX E d 139 4 [some (.inr (.inr (.inl 105))), some (.inl y1), some (.inl y2), some (.inl y3)] [] (jxSH, a0, b0)) (jQ_X9_holdingOn x1 a0 b0) := fun y1 y2 y3 hlt i0 i1 i2 i3 i4 i5 i6 i7 => (ih _ hlt).2.2 y1 y2 y3 (Nat.le_refl _) i0 i1 i2 i3 i4 i5 i6 i7
  have hc44 : ∀ (y1 y2 y3 : Int), (((10 - y3) * 1) + 0).toNat ≤ n → 0 - 1 ≤ y2 → y2 ≤ 9 → 0 ≤ y3 → y3 ≤ 9 → 1 ≤ a0 105 5 → (y1 = x1) → y3 < a0 105 5 → (y2 = HO (a0 106) x1 (y3.toNat + 1)) → jt (jxX E d 139 44 [some (.inr (.inr (.inl 105))), some (.inl y1), some (.inl y2), some (.inl y3)] [] (jxSH, a0, b0)) (jQ_X9_holdingOn x1 a0 b0) := by
    intro y1 y2 y3 hm hi0 hi1 hi2 hi3 hi4 hy1 hi6 hho
    refine jt_eq (bq_X9_holdingOn_44 E d y1 y2 y3 a0 b0) ?_
    have h1292_ := iv_get hv0 (k := 105) (j := 5) (l := 0) (u := 10) rfl
    have h1293_ : jxw (y3 + 1) = y3 + 1 := jxw_id (by omega) (by omega)
    exact ih4 y1 y2 (jxw (y3 + 1)) (show (((10 - (jxw (y3 + 1))) * 1) + 0).toNat < n from by omega) (show 0 - 1 ≤ y2 from by omega) (show y2 ≤ 9 from by omega) (show 0 ≤ jxw (y3 + 1) from by omega) (show jxw (y3 + 1) ≤ 10 from by omega) (show (a0 105 5 = 0 → y2 = 0 - 1) from by omega) (by first | rfl | assumption) (show jxw (y3 + 1) ≤ a0 105 5 from by omega) (by first | rfl | (rw [show (jxw (y3 + 1)).toNat = y3.toNat + 1 from by omega]; exact hho))
  have hc42 : ∀ (y1 y3 : Int), (((10 - y3) * 1) + 0).toNat ≤ n → 0 ≤ y3 → y3 ≤ 9 → 1 ≤ a0 105 5 → (y1 = x1) → y3 < a0 105 5 → (HO (a0 106) x1 (y3.toNat + 1) = y3) → jt (jxX E d 139 42 [some (.inr (.inr (.inl 105))), some (.inl y1), none, some (.inl y3)] [] (jxSH, a0, b0)) (jQ_X9_holdingOn x1 a0 b0) := by
    intro y1 y3 hm hi0 hi1 hi2 hy1 hi4 hh
    refine jt_eq (bq_X9_holdingOn_42 E d y1 y3 a0 b0) ?_
    have h1294_ := iv_get hv0 (k := 105) (j := 5) (l := 0) (u := 10) rfl
    exact hc44 y1 y3 y3 (show (((10 - y3) * 1) + 0).toNat ≤ n from by omega) (show 0 - 1 ≤ y3 from by omega) (show y3 ≤ 9 from by omega) (show 0 ≤ y3 from by omega) (show y3 ≤ 9 from by omega) (show 1 ≤ a0 105 5 from by omega) (by first | rfl | assumption) (show y3 < a0 105 5 from by omega) (by first | (rw [HO_s2 (Or.inl (by rw [← hy1]; omega))]; exact hho) | (rw [HO_s2 (Or.inr ⟨by rw [← hho]; omega, by rw [← hho]; omega⟩)]; exact hho) | exact hh.symm)
  have hc4 : ∀ (y1 y2 y3 : Int), (((10 - y3) * 1) + 0).toNat ≤ n → 0 - 1 ≤ y2 → y2 ≤ 9 → 0 ≤ y3 → y3 ≤ 10 → (a0 105 5 = 0 → y2 = 0 - 1) → (y1 = x1) → y3 ≤ a0 105 5 → (y2 = HO (a0 106) x1 y3.toNat) → jt (jxX E d 139 4 [some (.inr (.inr (.inl 105))), some (.inl y1), some (.inl y2), some (.inl y3)] [] (jxSH, a0, b0)) (jQ_X9_holdingOn x1 a0 b0) := by
    intro y1 y2 y3 hm hi0 hi1 hi2 hi3 hi4 hy1 hi6 hho
    refine jt_eq (bq_X9_holdingOn_4 E d y1 y2 y3 a0 b0) ?_
    have h1295_ := iv_get hv0 (k := 105) (j := 5) (l := 0) (u := 10) rfl
    refine jt_ite (fun c1296_ => ?_) (fun c1296_ => ?_)
    ·
      refine jt_grd (by omega) ?_
      refine jt_ite (fun c1297_ => ?_) (fun c1297_ => ?_)
      ·
        exact hc44 y1 y2 y3 (show (((10 - y3) * 1) + 0).toNat ≤ n from by omega) (show 0 - 1 ≤ y2 from by omega) (show y2 ≤ 9 from by omega) (show 0 ≤ y3 from by omega) (show y3 ≤ 9 from by omega) (show 1 ≤ a0 105 5 from by omega) (by first | rfl | assumption) (show y3 < a0 105 5 from by omega) (by first | (rw [HO_s2 (Or.inl (by rw [← hy1]; omega))]; exact hho) | (rw [HO_s2 (Or.inr ⟨by rw [← hho]; omega, by rw [← hho]; omega⟩)]; exact hho) | exact hh.symm)
      ·
        refine jt_ite (fun c1298_ => ?_) (fun c1298_ => ?_)
        ·
          exact hc42 y1 y3 (show (((10 - y3) * 1) + 0).toNat ≤ n from by omega) (show 0 ≤ y3 from by omega) (show y3 ≤ 9 from by omega) (show 1 ≤ a0 105 5 from by omega) (by first | rfl | assumption) (show y3 < a0 105 5 from by omega) (by have e := HO_s1 (f := a0 106) (d := x1) (m := y3.toNat) (by rw [← hy1]; omega) (by rw [← hho]; first | (left; omega) | (right; omega)); rw [e]; omega)
        ·
          refine jt_grd (by omega) ?_
          refine jt_grd (by omega) ?_
          refine jt_ite (fun c1299_ => ?_) (fun c1299_ => ?_)
          ·
            exact hc44 y1 y2 y3 (show (((10 - y3) * 1) + 0).toNat ≤ n from by omega) (show 0 - 1 ≤ y2 from by omega) (show y2 ≤ 9 from by omega) (show 0 ≤ y3 from by omega) (show y3 ≤ 9 from by omega) (show 1 ≤ a0 105 5 from by omega) (by first | rfl | assumption) (show y3 < a0 105 5 from by omega) (by first | (rw [HO_s2 (Or.inl (by rw [← hy1]; omega))]; exact hho) | (rw [HO_s2 (Or.inr ⟨by rw [← hho]; omega, by rw [← hho]; omega⟩)]; exact hho) | exact hh.symm)
          ·
            exact hc42 y1 y3 (show (((10 - y3) * 1) + 0).toNat ≤ n from by omega) (show 0 ≤ y3 from by omega) (show y3 ≤ 9 from by omega) (show 1 ≤ a0 105 5 from by omega) (by first | rfl | assumption) (show y3 < a0 105 5 from by omega) (by have e := HO_s1 (f := a0 106) (d := x1) (m := y3.toNat) (by rw [← hy1]; omega) (by rw [← hho]; first | (left; omega) | (right; omega)); rw [e]; omega)
    ·
      exact jt_rI ⟨rfl, rfl, (show (a0 105 5 = 0 → y2 = 0 - 1) from by omega), (by rw [show (a0 105 5).toNat = y3.toNat from by omega]; exact hho)⟩
  exact ⟨hc44, hc42, hc4⟩
theorem sp_X9_holdingOn (E : jxE) (d : Nat) (hd : Nat.ble 1 d = true) (x1 : Int) (a0 b0 : Nat → Nat → Int) (hv0 : iv a0) : jt (jxC E d 139 [.inr (.inr (.inl 105)), .inl x1] (jxSH, a0, b0)) (jQ_X9_holdingOn x1 a0 b0) := by
  obtain ⟨d, rfl⟩ := jd_succ hd
  refine jt_eq (bq_X9_holdingOn E d x1 a0 b0) ?_
  have h1300_ := iv_get hv0 (k := 105) (j := 5) (l := 0) (u := 10) rfl
  exact (cp_X9_holdingOn_4 E d hd x1 a0 b0 hv0 _).2.2 x1 (-1) 0 (Nat.le_refl _) (show 0 - 1 ≤ (-1) from by omega) (show (-1) ≤ 9 from by omega) (show 0 ≤ 0 from by omega) (show 0 ≤ 10 from by omega) (show (a0 105 5 = 0 → (-1) = 0 - 1) from by omega) (by first | rfl | assumption) (show 0 ≤ a0 105 5 from by omega) (by first | rfl | (rw [show (jxw (y3 + 1)).toNat = y3.toNat + 1 from by omega]; exact hho))
abbrev jQ_X9_coinsFor (x1 x2 x3 : Int) (a0 b0 : Nat → Nat → Int) : List jxV → (Nat → Nat → Int) → (Nat → Nat → Int) → Prop := rI (fun r a b => (a0 = a) ∧ (b0 = b) ∧ ((a0 105 5 = 0 → r = 0 - 1)) ∧ (r = (if HO (a0 106) x3 (a0 105 5).toNat < 0 then -1 else CO (fun c => a0 108 ((HO (a0 106) x3 (a0 105 5).toNat).toNat * 12 + c)) (fun c => a0 119 ((HO (a0 106) x3 (a0 105 5).toNat).toNat * 12 + c)) (fun c => a0 130 ((HO (a0 106) x3 (a0 105 5).toNat).toNat * 12 + c)) (a0 107 (HO (a0 106) x3 (a0 105 5).toNat).toNat).toNat x1 x2 0)))
theorem cp_X9_coinsFor_26 (E : jxE) (d : Nat) (hd : Nat.ble 2 (d + 1) = true) (x1 x2 x3 : Int) (a0 b0 : Nat → Nat → Int) (hv0 : iv a0) : ∀ n : Nat, (∀ (y1 y2 y4 y5 : Int), (((12 - y5) * 1) + 0).toNat ≤ n → 0 ≤ y4 → y4 ≤ 9 → 0 ≤ y5 → y5 ≤ 11 → (y1 = x1) → (y2 = x2) → (y4 = HO (a0 106) x3 (a0 105 5).toNat) → 0 ≤ y5 → y5 < a0 107 (y4.toNat) → (CO (fun c => a0 108 ((HO (a0 106) x3 (a0 105 5).toNat).toNat * 12 + c)) (fun c => a0 119 ((HO (a0 106) x3 (a0 105 5).toNat).toNat * 12 + c)) (fun c => a0 130 ((HO (a0 106) x3 (a0 105 5).toNat).toNat * 12 + c)) (a0 107 (HO (a0 106) x3 (a0 105 5).toNat).toNat).toNat x1 x2 (y5.toNat + 1) = CO (fun c => a0 108 ((HO (a0 106) x3 (a0 105 5).toNat).toNat * 12 + c)) (fun c => a0 119 ((HO (a0 106) x3 (a0 105 5).toNat).toNat * 12 + c)) (fun c => a0 130 ((HO (a0 106) x3 (a0 105 5).toNat).toNat * 12 + c)) (a0 107 (HO (a0 106) x3 (a0 105 5).toNat).toNat).toNat x1 x2 0) → 1 ≤ a0 105 5 → jt (jxX E d 138 84 [some (.inr (.inr (.inl 105))), some (.inl y1), some (.inl y2), none, some (.inl y4), some (.inl y5)] [] (jxSH, a0, b0)) (jQ_X9_coinsFor x1 x2 x3 a0 b0)) ∧ (∀ (y1 y2 y4 y5 : Int), (((12 - y5) * 1) + 0).toNat ≤ n → 0 ≤ y1 → y1 ≤ 999 → 0 ≤ y4 → y4 ≤ 9 → 0 ≤ y5 → y5 ≤ 11 → (y1 = x1) → (y2 = x2) → (y4 = HO (a0 106) x3 (a0 105 5).toNat) → 0 ≤ y5 → y5 < a0 107 (y4.toNat) → (CO (fun c => a0 108 ((HO (a0 106) x3 (a0 105 5).toNat).toNat * 12 + c)) (fun c => a0 119 ((HO (a0 106) x3 (a0 105 5).toNat).toNat * 12 + c)) (fun c => a0 130 ((HO (a0 106) x3 (a0 105 5).toNat).toNat * 12 + c)) (a0 107 (HO (a0 106) x3 (a0 105 5).toNat).toNat).toNat x1 x2 y5.toNat = CO (fun c => a0 108 ((HO (a0 106) x3 (a0 105 5).toNat).toNat * 12 + c)) (fun c => a0 119 ((HO (a0 106) x3 (a0 105 5).toNat).toNat * 12 + c)) (fun c => a0 130 ((HO (a0 106) x3 (a0 105 5).toNat).toNat * 12 + c)) (a0 107 (HO (a0 106) x3 (a0 105 5).toNat).toNat).toNat x1 x2 0) → (a0 108 (y4.toNat * 12 + y5.toNat) = x1) → 1 ≤ a0 105 5 → jt (jxX E d 138 59 [some (.inr (.inr (.inl 105))), some (.inl y1), some (.inl y2), none, some (.inl y4), some (.inl y5)] [] (jxSH, a0, b0)) (jQ_X9_coinsFor x1 x2 x3 a0 b0)) ∧ (∀ (y1 y2 y4 y5 : Int), (((12 - y5) * 1) + 0).toNat ≤ n → 0 ≤ y4 → y4 ≤ 9 → 0 ≤ y5 → y5 ≤ 12 → (y1 = x1) → (y2 = x2) → (y4 = HO (a0 106) x3 (a0 105 5).toNat) → 0 ≤ y5 → (CO (fun c => a0 108 ((HO (a0 106) x3 (a0 105 5).toNat).toNat * 12 + c)) (fun c => a0 119 ((HO (a0 106) x3 (a0 105 5).toNat).toNat * 12 + c)) (fun c => a0 130 ((HO (a0 106) x3 (a0 105 5).toNat).toNat * 12 + c)) (a0 107 (HO (a0 106) x3 (a0 105 5).toNat).toNat).toNat x1 x2 y5.toNat = CO (fun c => a0 108 ((HO (a0 106) x3 (a0 105 5).toNat).toNat * 12 + c)) (fun c => a0 119 ((HO (a0 106) x3 (a0 105 5).toNat).toNat * 12 + c)) (fun c => a0 130 ((HO (a0 106) x3 (a0 105 5).toNat).toNat * 12 + c)) (a0 107 (HO (a0 106) x3 (a0 105 5).toNat).toNat).toNat x1 x2 0) → 1 ≤ a0 105 5 → jt (jxX E d 138 26 [some (.inr (.inr (.inl 105))), some (.inl y1), some (.inl y2), none, some (.inl y4), some (.inl y5)] [] (jxSH, a0, b0)) (jQ_X9_coinsFor x1 x2 x3 a0 b0)) := by
  refine jx_ind fun n ih => ?_
  have ih84 : ∀ (y1 y2 y4 y5 : Int), (((12 - y5) * 1) + 0).toNat < n → 0 ≤ y4 → y4 ≤ 9 → 0 ≤ y5 → y5 ≤ 11 → (y1 = x1) → (y2 = x2) → (y4 = HO (a0 106) x3 (a0 105 5).toNat) → 0 ≤ y5 → y5 < a0 107 (y4.toNat) → (CO (fun c => a0 108 ((HO (a0 106) x3 (a0 105 5).toNat).toNat * 12 + c)) (fun c => a0 119 ((HO (a0 106) x3 (a0 105 5).toNat).toNat * 12 + c)) (fun c => a0 130 ((HO (a0 106) x3 (a0 105 5).toNat).toNat * 12 + c)) (a0 107 (HO (a0 106) x3 (a0 105 5).toNat).toNat).toNat x1 x2 (y5.toNat + 1) = CO (fun c => a0 108 ((HO (a0 106) x3 (a0 105 5).toNat).toNat * 12 + c)) (fun c => a0 119 ((HO (a0 106) x3 (a0 105 5).toNat).toNat * 12 + c)) (fun c => a0 130 ((HO (a0 106) x3 (a0 105 5).toNat).toNat * 12 + c)) (a0 107 (HO (a0 106) x3 (a0 105 5).toNat).toNat).toNat x1 x2 0) → 1 ≤ a0 105 5 → jt (jxX E d 138 84 [some (.inr (.inr (.inl 105))), some (.inl y1), some (.inl y2), none, some (.inl y4), some (.inl y5)] [] (jxSH, a0, b0)) (jQ_X9_coinsFor x1 x2 x3 a0 b0) := fun y1 y2 y4 y5 hlt i0 i1 i2 i3 i4 i5 i6 i7 i8 i9 i10 => (ih _ hlt).1 y1 y2 y4 y5 (Nat.le_refl _) i0 i1 i2 i3 i4 i5 i6 i7 i8 i9 i10
  have ih59 : ∀ (y1 y2 y4 y5 : Int), (((12 - y5) * 1) + 0).toNat < n → 0 ≤ y1 → y1 ≤ 999 → 0 ≤ y4 → y4 ≤ 9 → 0 ≤ y5 → y5 ≤ 11 → (y1 = x1) → (y2 = x2) → (y4 = HO (a0 106) x3 (a0 105 5).toNat) → 0 ≤ y5 → y5 < a0 107 (y4.toNat) → (CO (fun c => a0 108 ((HO (a0 106) x3 (a0 105 5).toNat).toNat * 12 + c)) (fun c => a0 119 ((HO (a0 106) x3 (a0 105 5).toNat).toNat * 12 + c)) (fun c => a0 130 ((HO (a0 106) x3 (a0 105 5).toNat).toNat * 12 + c)) (a0 107 (HO (a0 106) x3 (a0 105 5).toNat).toNat).toNat x1 x2 y5.toNat = CO (fun c => a0 108 ((HO (a0 106) x3 (a0 105 5).toNat).toNat * 12 + c)) (fun c => a0 119 ((HO (a0 106) x3 (a0 105 5).toNat).toNat * 12 + c)) (fun c => a0 130 ((HO (a0 106) x3 (a0 105 5).toNat).toNat * 12 + c)) (a0 107 (HO (a0 106) x3 (a0 105 5).toNat).toNat).toNat x1 x2 0) → (a0 108 (y4.toNat * 12 + y5.toNat) = x1) → 1 ≤ a0 105 5 → jt (jxX E d 138 59 [some (.inr (.inr (.inl 105))), some (.inl y1), some (.inl y2), none, some (.inl y4), some (.inl y5)] [] (jxSH, a0, b0)) (jQ_X9_coinsFor x1 x2 x3 a0 b0) := fun y1 y2 y4 y5 hlt i0 i1 i2 i3 i4 i5 i6 i7 i8 i9 i10 i11 i12 i13 => (ih _ hlt).2.1 y1 y2 y4 y5 (Nat.le_refl _) i0 i1 i2 i3 i4 i5 i6 i7 i8 i9 i10 i11 i12 i13
  have ih26 : ∀ (y1 y2 y4 y5 : Int), (((12 - y5) * 1) + 0).toNat < n → 0 ≤ y4 → y4 ≤ 9 → 0 ≤ y5 → y5 ≤ 12 → (y1 = x1) → (y2 = x2) → (y4 = HO (a0 106) x3 (a0 105 5).toNat) → 0 ≤ y5 → (CO (fun c => a0 108 ((HO (a0 106) x3 (a0 105 5).toNat).toNat * 12 + c)) (fun c => a0 119 ((HO (a0 106) x3 (a0 105 5).toNat).toNat * 12 + c)) (fun c => a0 130 ((HO (a0 106) x3 (a0 105 5).toNat).toNat * 12 + c)) (a0 107 (HO (a0 106) x3 (a0 105 5).toNat).toNat).toNat x1 x2 y5.toNat = CO (fun c => a0 108 ((HO (a0 106) x3 (a0 105 5).toNat).toNat * 12 + c)) (fun c => a0 119 ((HO (a0 106) x3 (a0 105 5).toNat).toNat * 12 + c)) (fun c => a0 130 ((HO (a0 106) x3 (a0 105 5).toNat).toNat * 12 + c)) (a0 107 (HO (a0 106) x3 (a0 105 5).toNat).toNat).toNat x1 x2 0) → 1 ≤ a0 105 5 → jt (jxX E d 138 26 [some (.inr (.inr (.inl 105))), some (.inl y1), some (.inl y2), none, some (.inl y4), some (.inl y5)] [] (jxSH, a0, b0)) (jQ_X9_coinsFor x1 x2 x3 a0 b0) := fun y1 y2 y4 y5 hlt i0 i1 i2 i3 i4 i5 i6 i7 i8 i9 => (ih _ hlt).2.2 y1 y2 y4 y5 (Nat.le_refl _) i0 i1 i2 i3 i4 i5 i6 i7 i8 i9
  have hc84 : ∀ (y1 y2 y4 y5 : Int), (((12 - y5) * 1) + 0).toNat ≤ n → 0 ≤ y4 → y4 ≤ 9 → 0 ≤ y5 → y5 ≤ 11 → (y1 = x1) → (y2 = x2) → (y4 = HO (a0 106) x3 (a0 105 5).toNat) → 0 ≤ y5 → y5 < a0 107 (y4.toNat) → (CO (fun c => a0 108 ((HO (a0 106) x3 (a0 105 5).toNat).toNat * 12 + c)) (fun c => a0 119 ((HO (a0 106) x3 (a0 105 5).toNat).toNat * 12 + c)) (fun c => a0 130 ((HO (a0 106) x3 (a0 105 5).toNat).toNat * 12 + c)) (a0 107 (HO (a0 106) x3 (a0 105 5).toNat).toNat).toNat x1 x2 (y5.toNat + 1) = CO (fun c => a0 108 ((HO (a0 106) x3 (a0 105 5).toNat).toNat * 12 + c)) (fun c => a0 119 ((HO (a0 106) x3 (a0 105 5).toNat).toNat * 12 + c)) (fun c => a0 130 ((HO (a0 106) x3 (a0 105 5).toNat).toNat * 12 + c)) (a0 107 (HO (a0 106) x3 (a0 105 5).toNat).toNat).toNat x1 x2 0) → 1 ≤ a0 105 5 → jt (jxX E d 138 84 [some (.inr (.inr (.inl 105))), some (.inl y1), some (.inl y2), none, some (.inl y4), some (.inl y5)] [] (jxSH, a0, b0)) (jQ_X9_coinsFor x1 x2 x3 a0 b0) := by
    intro y1 y2 y4 y5 hm hi0 hi1 hi2 hi3 hy1 hy2 hhy hi7 hi8 hco hi10
    refine jt_eq (bq_X9_coinsFor_84 E d y1 y2 y4 y5 a0 b0) ?_
    have h1301_ := iv_get hv0 (k := 107) (j := y4.toNat) (l := 0) (u := 12) rfl
    have h1302_ := iv_get hv0 (k := 105) (j := 5) (l := 0) (u := 10) rfl
    have h1303_ : jxw (y5 + 1) = y5 + 1 := jxw_id (by omega) (by omega)
    exact ih26 y1 y2 y4 (jxw (y5 + 1)) (show (((12 - (jxw (y5 + 1))) * 1) + 0).toNat < n from by omega) (show 0 ≤ y4 from by omega) (show y4 ≤ 9 from by omega) (show 0 ≤ jxw (y5 + 1) from by omega) (show jxw (y5 + 1) ≤ 12 from by omega) (by first | rfl | assumption) (by first | rfl | assumption) (by first | exact hhy | exact hq0_1) (show 0 ≤ jxw (y5 + 1) from by omega) (by first | rfl | (rw [show (jxw (y5 + 1)).toNat = y5.toNat + 1 from by omega]; exact hco)) (show 1 ≤ a0 105 5 from by omega)
  have hc59 : ∀ (y1 y2 y4 y5 : Int), (((12 - y5) * 1) + 0).toNat ≤ n → 0 ≤ y1 → y1 ≤ 999 → 0 ≤ y4 → y4 ≤ 9 → 0 ≤ y5 → y5 ≤ 11 → (y1 = x1) → (y2 = x2) → (y4 = HO (a0 106) x3 (a0 105 5).toNat) → 0 ≤ y5 → y5 < a0 107 (y4.toNat) → (CO (fun c => a0 108 ((HO (a0 106) x3 (a0 105 5).toNat).toNat * 12 + c)) (fun c => a0 119 ((HO (a0 106) x3 (a0 105 5).toNat).toNat * 12 + c)) (fun c => a0 130 ((HO (a0 106) x3 (a0 105 5).toNat).toNat * 12 + c)) (a0 107 (HO (a0 106) x3 (a0 105 5).toNat).toNat).toNat x1 x2 y5.toNat = CO (fun c => a0 108 ((HO (a0 106) x3 (a0 105 5).toNat).toNat * 12 + c)) (fun c => a0 119 ((HO (a0 106) x3 (a0 105 5).toNat).toNat * 12 + c)) (fun c => a0 130 ((HO (a0 106) x3 (a0 105 5).toNat).toNat * 12 + c)) (a0 107 (HO (a0 106) x3 (a0 105 5).toNat).toNat).toNat x1 x2 0) → (a0 108 (y4.toNat * 12 + y5.toNat) = x1) → 1 ≤ a0 105 5 → jt (jxX E d 138 59 [some (.inr (.inr (.inl 105))), some (.inl y1), some (.inl y2), none, some (.inl y4), some (.inl y5)] [] (jxSH, a0, b0)) (jQ_X9_coinsFor x1 x2 x3 a0 b0) := by
    intro y1 y2 y4 y5 hm hi0 hi1 hi2 hi3 hi4 hi5 hy1 hy2 hhy hi9 hi10 hco hz hi13
    refine jt_eq (bq_X9_coinsFor_59 E d y1 y2 y4 y5 a0 b0) ?_
    have h1304_ := iv_get hv0 (k := 107) (j := y4.toNat) (l := 0) (u := 12) rfl
    have h1305_ := iv_get hv0 (k := 105) (j := 5) (l := 0) (u := 10) rfl
    refine jt_grd (by omega) ?_
    refine jt_grd (by omega) ?_
    refine jt_grd (by omega) ?_
    have h1306_ := iv_get hv0 (k := 119) (j := (y4.toNat) * 12 + (y5.toNat)) (l := 0) (u := 999) rfl
    refine jt_ite (fun c1307_ => ?_) (fun c1307_ => ?_)
    ·
      exact hc84 y1 y2 y4 y5 (show (((12 - y5) * 1) + 0).toNat ≤ n from by omega) (show 0 ≤ y4 from by omega) (show y4 ≤ 9 from by omega) (show 0 ≤ y5 from by omega) (show y5 ≤ 11 from by omega) (by first | rfl | assumption) (by first | rfl | assumption) (by first | exact hhy | exact hq0_1) (show 0 ≤ y5 from by omega) (show y5 < a0 107 (y4.toNat) from by omega) (by rw [← hco]; rw [← hhy]; refine (CO_on (by omega) ?_).symm; first | (left; rw [← hy1]; assumption) | (right; rw [← hy2]; assumption)) (show 1 ≤ a0 105 5 from by omega)
    ·
      refine jt_grd (by omega) ?_
      refine jt_grd (by omega) ?_
      refine jt_grd (by omega) ?_
      have h1308_ := iv_get hv0 (k := 130) (j := (y4.toNat) * 12 + (y5.toNat)) (l := 0) (u := 999) rfl
      exact jt_rI ⟨rfl, rfl, (show (a0 105 5 = 0 → a0 130 ((y4.toNat) * 12 + (y5.toNat)) = 0 - 1) from by omega), (by first | exact absurd (by omega : False) id | (rw [← hhy, if_neg (by omega)]; have h := hco; rw [← hhy] at h; rw [← h]; first | (rw [CO_end (by omega)]) | exact (CO_hit (z := fun c => a0 108 (y4.toNat * 12 + c)) (g := fun c => a0 119 (y4.toNat * 12 + c)) (k := fun c => a0 130 (y4.toNat * 12 + c)) (c := y5.toNat) (by omega) hz (by show x2 ≤ a0 119 (y4.toNat * 12 + y5.toNat); omega)).symm))⟩
  have hc26 : ∀ (y1 y2 y4 y5 : Int), (((12 - y5) * 1) + 0).toNat ≤ n → 0 ≤ y4 → y4 ≤ 9 → 0 ≤ y5 → y5 ≤ 12 → (y1 = x1) → (y2 = x2) → (y4 = HO (a0 106) x3 (a0 105 5).toNat) → 0 ≤ y5 → (CO (fun c => a0 108 ((HO (a0 106) x3 (a0 105 5).toNat).toNat * 12 + c)) (fun c => a0 119 ((HO (a0 106) x3 (a0 105 5).toNat).toNat * 12 + c)) (fun c => a0 130 ((HO (a0 106) x3 (a0 105 5).toNat).toNat * 12 + c)) (a0 107 (HO (a0 106) x3 (a0 105 5).toNat).toNat).toNat x1 x2 y5.toNat = CO (fun c => a0 108 ((HO (a0 106) x3 (a0 105 5).toNat).toNat * 12 + c)) (fun c => a0 119 ((HO (a0 106) x3 (a0 105 5).toNat).toNat * 12 + c)) (fun c => a0 130 ((HO (a0 106) x3 (a0 105 5).toNat).toNat * 12 + c)) (a0 107 (HO (a0 106) x3 (a0 105 5).toNat).toNat).toNat x1 x2 0) → 1 ≤ a0 105 5 → jt (jxX E d 138 26 [some (.inr (.inr (.inl 105))), some (.inl y1), some (.inl y2), none, some (.inl y4), some (.inl y5)] [] (jxSH, a0, b0)) (jQ_X9_coinsFor x1 x2 x3 a0 b0) := by
    intro y1 y2 y4 y5 hm hi0 hi1 hi2 hi3 hy1 hy2 hhy hi7 hco hi9
    refine jt_eq (bq_X9_coinsFor_26 E d y1 y2 y4 y5 a0 b0) ?_
    have h1309_ := iv_get hv0 (k := 105) (j := 5) (l := 0) (u := 10) rfl
    refine jt_grd (by omega) ?_
    have h1310_ := iv_get hv0 (k := 107) (j := y4.toNat) (l := 0) (u := 12) rfl
    refine jt_ite (fun c1311_ => ?_) (fun c1311_ => ?_)
    ·
      refine jt_ite (fun c1312_ => ?_) (fun c1312_ => ?_)
      ·
        refine jt_grd (by omega) ?_
        refine jt_grd (by omega) ?_
        refine jt_grd (by omega) ?_
        have h1313_ := iv_get hv0 (k := 108) (j := (y4.toNat) * 12 + (y5.toNat)) (l := 0) (u := 999) rfl
        refine jt_ite (fun c1314_ => ?_) (fun c1314_ => ?_)
        ·
          exact hc59 y1 y2 y4 y5 (show (((12 - y5) * 1) + 0).toNat ≤ n from by omega) (show 0 ≤ y1 from by omega) (show y1 ≤ 999 from by omega) (show 0 ≤ y4 from by omega) (show y4 ≤ 9 from by omega) (show 0 ≤ y5 from by omega) (show y5 ≤ 11 from by omega) (by first | rfl | assumption) (by first | rfl | assumption) (by first | exact hhy | exact hq0_1) (show 0 ≤ y5 from by omega) (show y5 < a0 107 (y4.toNat) from by omega) hco (by rw [← hy1]; assumption) (show 1 ≤ a0 105 5 from by omega)
        ·
          exact hc84 y1 y2 y4 y5 (show (((12 - y5) * 1) + 0).toNat ≤ n from by omega) (show 0 ≤ y4 from by omega) (show y4 ≤ 9 from by omega) (show 0 ≤ y5 from by omega) (show y5 ≤ 11 from by omega) (by first | rfl | assumption) (by first | rfl | assumption) (by first | exact hhy | exact hq0_1) (show 0 ≤ y5 from by omega) (show y5 < a0 107 (y4.toNat) from by omega) (by rw [← hco]; rw [← hhy]; refine (CO_on (by omega) ?_).symm; first | (left; rw [← hy1]; assumption) | (right; rw [← hy2]; assumption)) (show 1 ≤ a0 105 5 from by omega)
      ·
        exact jt_rI ⟨rfl, rfl, (show (a0 105 5 = 0 → (-1) = 0 - 1) from by omega), (by first | exact absurd (by omega : False) id | (rw [← hhy, if_neg (by omega)]; have h := hco; rw [← hhy] at h; rw [← h]; first | (rw [CO_end (by omega)]) | exact (CO_hit (z := fun c => a0 108 (y4.toNat * 12 + c)) (g := fun c => a0 119 (y4.toNat * 12 + c)) (k := fun c => a0 130 (y4.toNat * 12 + c)) (c := y5.toNat) (by omega) hz (by show x2 ≤ a0 119 (y4.toNat * 12 + y5.toNat); omega)).symm))⟩
    ·
      exact jt_rI ⟨rfl, rfl, (show (a0 105 5 = 0 → (-1) = 0 - 1) from by omega), (by first | exact absurd (by omega : False) id | (rw [← hhy, if_neg (by omega)]; have h := hco; rw [← hhy] at h; rw [← h]; first | (rw [CO_end (by omega)]) | exact (CO_hit (z := fun c => a0 108 (y4.toNat * 12 + c)) (g := fun c => a0 119 (y4.toNat * 12 + c)) (k := fun c => a0 130 (y4.toNat * 12 + c)) (c := y5.toNat) (by omega) hz (by show x2 ≤ a0 119 (y4.toNat * 12 + y5.toNat); omega)).symm))⟩
  exact ⟨hc84, hc59, hc26⟩
theorem sp_X9_coinsFor (E : jxE) (d : Nat) (hd : Nat.ble 2 d = true) (x1 x2 x3 : Int) (a0 b0 : Nat → Nat → Int) (hv0 : iv a0) : jt (jxC E d 138 [.inr (.inr (.inl 105)), .inl x1, .inl x2, .inl x3] (jxSH, a0, b0)) (jQ_X9_coinsFor x1 x2 x3 a0 b0) := by
  obtain ⟨d, rfl⟩ := jd_succ hd
  refine jt_eq (bq_X9_coinsFor E d x1 x2 x3 a0 b0) ?_
  refine jt_bI (sp_X9_holdingOn E d (jd_le hd rfl) x3 a0 b0 hv0) (fun r1315_ a1315_ b1315_ h1315_ => ?_)
  obtain ⟨rfl, rfl, hq1315_0, hq1315_1⟩ := h1315_
  have h1316_ := iv_get hv0 (k := 105) (j := 5) (l := 0) (u := 10) rfl
  refine jt_ite (fun c1317_ => ?_) (fun c1317_ => ?_)
  ·
    exact jt_rI ⟨rfl, rfl, (show (a0 105 5 = 0 → (-1) = 0 - 1) from by omega), (by first | (rw [← hq1315_1, if_pos (by omega)]) | exact absurd (by have q := HO_bd (a0 106) x3 (a0 105 5).toNat; rw [← hq1315_1] at q; omega : False) id)⟩
  ·
    refine jt_ite (fun c1318_ => ?_) (fun c1318_ => ?_)
    ·
      exact (cp_X9_coinsFor_26 E d hd x1 x2 x3 a0 b0 hv0 _).2.2 x1 x2 r1315_ 0 (Nat.le_refl _) (show 0 ≤ r1315_ from by omega) (show r1315_ ≤ 9 from by omega) (show 0 ≤ 0 from by omega) (show 0 ≤ 12 from by omega) (by first | rfl | assumption) (by first | rfl | assumption) (by first | exact hhy | exact hq1315_1) (show 0 ≤ 0 from by omega) (by first | rfl | (rw [show (jxw (y5 + 1)).toNat = y5.toNat + 1 from by omega]; exact hco)) (show 1 ≤ a0 105 5 from by omega)
    ·
      exact jt_rI ⟨rfl, rfl, (show (a0 105 5 = 0 → (-1) = 0 - 1) from by omega), (by first | (rw [← hq1315_1, if_pos (by omega)]) | exact absurd (by have q := HO_bd (a0 106) x3 (a0 105 5).toNat; rw [← hq1315_1] at q; omega : False) id)⟩
def jW_X11_pay : List (Nat × Nat) := [(143, 9999), (144, 9999)]
abbrev jQ_X11_pay (x1 x2 : Int) (a0 b0 : Nat → Nat → Int) : List jxV → (Nat → Nat → Int) → (Nat → Nat → Int) → Prop := rI (fun r a b => (iv a) ∧ (jfr jW_X11_pay a0 a) ∧ ((a0 58 8 = 0 → r = 0 - 1)))
theorem cp_X11_pay_78 (E : jxE) (d : Nat) (hd : Nat.ble 6 (d + 1) = true) (x1 x2 : Int) (a0 b0 : Nat → Nat → Int) (hv0 : iv a0) : ∀ (y5 : Int) (a b : Nat → Nat → Int), iv a → jfr jW_X11_pay a0 a → 1 ≤ a0 58 8 → jt (jxX E d 194 78 [some (.inr (.inr (.inl 0))), none, none, none, none, some (.inl y5), none] [] (jxSH, a, b)) (jQ_X11_pay x1 x2 a0 b0) := by
  intro y5 a b hv hf hi0
  refine jt_eq (bq_X11_pay_78 E d y5 a b) ?_
  have h1319_ := iv_get hv0 (k := 58) (j := 8) (l := 0) (u := 300) rfl
  refine jt_ite (fun c1320_ => ?_) (fun c1320_ => ?_)
  ·
    exact jt_rI ⟨hv, hf, (show (a0 58 8 = 0 → (-2) = 0 - 1) from by omega)⟩
  ·
    refine jt_bI (sp_X1_payAtLeast E d (jd_le hd rfl) y5 a b hv) (fun r1321_ a1321_ b1321_ h1321_ => ?_)
    obtain ⟨hv1321_, hf1321_⟩ := h1321_
    refine jt_ite (fun c1322_ => ?_) (fun c1322_ => ?_)
    ·
      have hf1323_ : jfr jW_X11_pay a0 a1321_ := jfr_tr hf hf1321_ rfl
      exact jt_rI ⟨hv1321_, hf1323_, (show (a0 58 8 = 0 → (-3) = 0 - 1) from by omega)⟩
    ·
      have hf1324_ : jfr jW_X11_pay a0 a1321_ := jfr_tr hf hf1321_ rfl
      exact jt_rI ⟨hv1321_, hf1324_, (show (a0 58 8 = 0 → r1321_ = 0 - 1) from by omega)⟩
theorem cp_X11_pay_40 (E : jxE) (d : Nat) (hd : Nat.ble 6 (d + 1) = true) (x1 x2 : Int) (a0 b0 : Nat → Nat → Int) (hv0 : iv a0) : ∀ (y1 y2 y3 : Int) (a b : Nat → Nat → Int), iv a → jfr jW_X11_pay a0 a → 0 ≤ y1 → y1 ≤ 299 → 1 ≤ y2 → y2 ≤ 500 → 1 ≤ a0 58 8 → jt (jxX E d 194 40 [some (.inr (.inr (.inl 0))), some (.inl y1), some (.inl y2), some (.inl y3), none, none, none] [] (jxSH, a, b)) (jQ_X11_pay x1 x2 a0 b0) := by
  intro y1 y2 y3 a b hv hf hi0 hi1 hi2 hi3 hi4
  refine jt_eq (bq_X11_pay_40 E d y1 y2 y3 a b) ?_
  have h1325_ := iv_get hv0 (k := 58) (j := 8) (l := 0) (u := 300) rfl
  refine jt_eI (eq_X0_toOf E d (jd_le hd rfl) y1 a b) ?_
  refine jt_eI (eq_X3_landOf E d (jd_le hd rfl) (f_X0_toOf a b y1) a b) ?_
  refine jt_eI (eq_X11_zone E d (jd_le hd rfl) y3 (f_X3_landOf a b (f_X0_toOf a b y1)) a b) ?_
  refine jt_bI (sp_X9_coinsFor E d (jd_le hd rfl) (f_X11_zone a b y3 (f_X3_landOf a b (f_X0_toOf a b y1))) y2 (a 0 0) a b hv) (fun r1326_ a1326_ b1326_ h1326_ => ?_)
  obtain ⟨rfl, rfl, hq1326_0, hq1326_1⟩ := h1326_
  have h1327_ := iv_get hv (k := 105) (j := 5) (l := 0) (u := 10) rfl
  have h1328_ : a 105 5 = a0 105 5 := hf 105 5 rfl
  have h1329_ := iv_get hv0 (k := 105) (j := 5) (l := 0) (u := 10) rfl
  exact cp_X11_pay_78 E d hd x1 x2 a0 b0 hv0 r1326_ a b hv hf (show 1 ≤ a0 58 8 from by omega)
theorem sp_X11_pay (E : jxE) (d : Nat) (hd : Nat.ble 6 d = true) (x1 x2 : Int) (a0 b0 : Nat → Nat → Int) (hv0 : iv a0) : jt (jxC E d 194 [.inr (.inr (.inl 0)), .inl x1, .inl x2] (jxSH, a0, b0)) (jQ_X11_pay x1 x2 a0 b0) := by
  obtain ⟨d, rfl⟩ := jd_succ hd
  refine jt_eq (bq_X11_pay E d x1 x2 a0 b0) ?_
  refine jt_eI (eq_X0_has E d (jd_le hd rfl) x1 a0 b0) ?_
  have h1330_ := f_X0_has_eq a0 b0 x1
  have h1331_ := iv_get hv0 (k := 58) (j := 8) (l := 0) (u := 300) rfl
  refine jt_ite (fun c1332_ => ?_) (fun c1332_ => ?_)
  ·
    exact jt_rI ⟨hv0, (jfr_rf _ _), (show (a0 58 8 = 0 → (-1) = 0 - 1) from by omega)⟩
  ·
    refine jt_eI (eq_X11_within E d (jd_le hd rfl) x2 1 500 a0 b0) ?_
    have h1333_ := f_X11_within_eq a0 b0 x2 1 500
    refine jt_ite (fun c1334_ => ?_) (fun c1334_ => ?_)
    ·
      exact jt_rI ⟨hv0, (jfr_rf _ _), (show (a0 58 8 = 0 → (-1) = 0 - 1) from by omega)⟩
    ·
      refine jt_eI (eq_X0_fromOf E d (jd_le hd rfl) x1 a0 b0) ?_
      refine jt_eI (eq_X3_landOf E d (jd_le hd rfl) (f_X0_fromOf a0 b0 x1) a0 b0) ?_
      exact cp_X11_pay_40 E d hd x1 x2 a0 b0 hv0 x1 x2 (f_X3_landOf a0 b0 (f_X0_fromOf a0 b0 x1)) a0 b0 hv0 (jfr_rf _ _) (show 0 ≤ x1 from by omega) (show x1 ≤ 299 from by omega) (show 1 ≤ x2 from by omega) (show x2 ≤ 500 from by omega) (show 1 ≤ a0 58 8 from by omega)
abbrev jQ_X11_price (x1 x2 x3 x4 : Int) (a0 b0 : Nat → Nat → Int) : List jxV → (Nat → Nat → Int) → (Nat → Nat → Int) → Prop := rI (fun r a b => (a0 = a) ∧ (b0 = b) ∧ ((a0 105 5 = 0 → (((((((((0 ≤ x1 ∧ x1 ≤ 15) ∧ 0 ≤ x2) ∧ x2 ≤ 15) ∧ 1 ≤ x3) ∧ x3 ≤ 500) ∧ 0 ≤ x4) ∧ x4 ≤ 1999) ∧ r = 0 - 2) ∨ ((((((((x1 < 0 ∨ 15 < x1) ∨ x2 < 0) ∨ 15 < x2) ∨ x3 < 1) ∨ 500 < x3) ∨ x4 < 0) ∨ 1999 < x4) ∧ r = 0 - 1)))) ∧ (0 ≤ x1 ∧ x1 ≤ 15 ∧ 0 ≤ x2 ∧ x2 ≤ 15 ∧ 1 ≤ x3 ∧ x3 ≤ 500 ∧ 0 ≤ x4 ∧ x4 ≤ 1999 → r = PR1 a0 (ZN x1 x2 (a0 1 (16 * x1 + x2).toNat)) x3 x4) ∧ (((((((((x1 < 0 ∨ 15 < x1) ∨ x2 < 0) ∨ 15 < x2) ∨ x3 < 1) ∨ 500 < x3) ∨ x4 < 0) ∨ 1999 < x4) → r = 0 - 1)))
theorem cp_X11_price_33 (E : jxE) (d : Nat) (hd : Nat.ble 4 (d + 1) = true) (x1 x2 x3 x4 : Int) (a0 b0 : Nat → Nat → Int) (hv0 : iv a0) : (((((((x1 < 0 ∨ 15 < x1) ∨ x2 < 0) ∨ 15 < x2) ∨ x3 < 1) ∨ 500 < x3) ∨ x4 < 0) ∨ 1999 < x4) → jt (jxX E d 192 33 [none, none, none, none, none, none] [] (jxSH, a0, b0)) (jQ_X11_price x1 x2 x3 x4 a0 b0) := by
  intro hi0
  refine jt_eq (bq_X11_price_33 E d a0 b0) ?_
  have h1335_ := iv_get hv0 (k := 105) (j := 5) (l := 0) (u := 10) rfl
  exact jt_rI ⟨rfl, rfl, (show (a0 105 5 = 0 → (((((((((0 ≤ x1 ∧ x1 ≤ 15) ∧ 0 ≤ x2) ∧ x2 ≤ 15) ∧ 1 ≤ x3) ∧ x3 ≤ 500) ∧ 0 ≤ x4) ∧ x4 ≤ 1999) ∧ (-1) = 0 - 2) ∨ ((((((((x1 < 0 ∨ 15 < x1) ∨ x2 < 0) ∨ 15 < x2) ∨ x3 < 1) ∨ 500 < x3) ∨ x4 < 0) ∨ 1999 < x4) ∧ (-1) = 0 - 1))) from by omega), (fun h => absurd h (by omega)), (show ((((((((x1 < 0 ∨ 15 < x1) ∨ x2 < 0) ∨ 15 < x2) ∨ x3 < 1) ∨ 500 < x3) ∨ x4 < 0) ∨ 1999 < x4) → (-1) = 0 - 1) from by omega)⟩
theorem cp_X11_price_35 (E : jxE) (d : Nat) (hd : Nat.ble 4 (d + 1) = true) (x1 x2 x3 x4 : Int) (a0 b0 : Nat → Nat → Int) (hv0 : iv a0) : ∀ (y1 y2 y3 y4 : Int), 0 ≤ y1 → y1 ≤ 15 → 0 ≤ y2 → y2 ≤ 15 → 1 ≤ y3 → y3 ≤ 500 → 0 ≤ y4 → y4 ≤ 1999 → (((((((0 ≤ x1 ∧ x1 ≤ 15) ∧ 0 ≤ x2) ∧ x2 ≤ 15) ∧ 1 ≤ x3) ∧ x3 ≤ 500) ∧ 0 ≤ x4) ∧ x4 ≤ 1999) → (y1 = x1) → (y2 = x2) → (y3 = x3) → (y4 = x4) → jt (jxX E d 192 35 [some (.inr (.inr (.inl 0))), some (.inl y1), some (.inl y2), some (.inl y3), some (.inl y4), none] [] (jxSH, a0, b0)) (jQ_X11_price x1 x2 x3 x4 a0 b0) := by
  intro y1 y2 y3 y4 hi0 hi1 hi2 hi3 hi4 hi5 hi6 hi7 hi8 hy1 hy2 hy3 hy4
  refine jt_eq (bq_X11_price_35 E d y1 y2 y3 y4 a0 b0) ?_
  refine jt_eI (eq_X11_zone E d (jd_le hd rfl) y1 y2 a0 b0) ?_
  refine jt_bI (sp_X9_coinsFor E d (jd_le hd rfl) (f_X11_zone a0 b0 y1 y2) y3 y4 a0 b0 hv0) (fun r1336_ a1336_ b1336_ h1336_ => ?_)
  obtain ⟨rfl, rfl, hq1336_0, hq1336_1⟩ := h1336_
  have h1337_ := iv_get hv0 (k := 105) (j := 5) (l := 0) (u := 10) rfl
  refine jt_ite (fun c1338_ => ?_) (fun c1338_ => ?_)
  ·
    exact jt_rI ⟨rfl, rfl, (show (a0 105 5 = 0 → (((((((((0 ≤ x1 ∧ x1 ≤ 15) ∧ 0 ≤ x2) ∧ x2 ≤ 15) ∧ 1 ≤ x3) ∧ x3 ≤ 500) ∧ 0 ≤ x4) ∧ x4 ≤ 1999) ∧ (-2) = 0 - 2) ∨ ((((((((x1 < 0 ∨ 15 < x1) ∨ x2 < 0) ∨ 15 < x2) ∨ x3 < 1) ∨ 500 < x3) ∨ x4 < 0) ∨ 1999 < x4) ∧ (-2) = 0 - 1))) from by omega), (fun _ => by have e := hq1336_1; rw [zn11 a0 b0 y1 y2 (by omega) (by omega), hy1, hy2, hy3, hy4] at e; unfold PR1 PRC; by_cases h0 : HO (a0 106) x4 (a0 105 5).toNat < 0 <;> first | (rw [if_pos h0] at e; first | exact absurd e (by assumption) | (rw [if_pos h0])) | (rw [if_neg h0] at e ⊢; rw [← e]; first | (rw [if_pos (by assumption)]) | (rw [if_neg (by assumption)]))), (show ((((((((x1 < 0 ∨ 15 < x1) ∨ x2 < 0) ∨ 15 < x2) ∨ x3 < 1) ∨ 500 < x3) ∨ x4 < 0) ∨ 1999 < x4) → (-2) = 0 - 1) from by omega)⟩
  ·
    exact jt_rI ⟨rfl, rfl, (show (a0 105 5 = 0 → (((((((((0 ≤ x1 ∧ x1 ≤ 15) ∧ 0 ≤ x2) ∧ x2 ≤ 15) ∧ 1 ≤ x3) ∧ x3 ≤ 500) ∧ 0 ≤ x4) ∧ x4 ≤ 1999) ∧ r1336_ = 0 - 2) ∨ ((((((((x1 < 0 ∨ 15 < x1) ∨ x2 < 0) ∨ 15 < x2) ∨ x3 < 1) ∨ 500 < x3) ∨ x4 < 0) ∨ 1999 < x4) ∧ r1336_ = 0 - 1))) from by omega), (fun _ => by have e := hq1336_1; rw [zn11 a0 b0 y1 y2 (by omega) (by omega), hy1, hy2, hy3, hy4] at e; unfold PR1 PRC; by_cases h0 : HO (a0 106) x4 (a0 105 5).toNat < 0 <;> first | (rw [if_pos h0] at e; first | exact absurd e (by assumption) | (rw [if_pos h0])) | (rw [if_neg h0] at e ⊢; rw [← e]; first | (rw [if_pos (by assumption)]) | (rw [if_neg (by assumption)]))), (show ((((((((x1 < 0 ∨ 15 < x1) ∨ x2 < 0) ∨ 15 < x2) ∨ x3 < 1) ∨ 500 < x3) ∨ x4 < 0) ∨ 1999 < x4) → r1336_ = 0 - 1) from by omega)⟩
theorem sp_X11_price (E : jxE) (d : Nat) (hd : Nat.ble 4 d = true) (x1 x2 x3 x4 : Int) (a0 b0 : Nat → Nat → Int) (hv0 : iv a0) : jt (jxC E d 192 [.inr (.inr (.inl 0)), .inl x1, .inl x2, .inl x3, .inl x4] (jxSH, a0, b0)) (jQ_X11_price x1 x2 x3 x4 a0 b0) := by
  obtain ⟨d, rfl⟩ := jd_succ hd
  refine jt_eq (bq_X11_price E d x1 x2 x3 x4 a0 b0) ?_
  refine jt_eI (eq_X11_isLand E d (jd_le hd rfl) x1 a0 b0) ?_
  have h1339_ := f_X11_isLand_eq a0 b0 x1
  have h1340_ := f_X11_within_eq a0 b0 x1 0 15
  refine jt_ite (fun c1341_ => ?_) (fun c1341_ => ?_)
  ·
    exact cp_X11_price_33 E d hd x1 x2 x3 x4 a0 b0 hv0 (show (((((((x1 < 0 ∨ 15 < x1) ∨ x2 < 0) ∨ 15 < x2) ∨ x3 < 1) ∨ 500 < x3) ∨ x4 < 0) ∨ 1999 < x4) from by omega)
  ·
    refine jt_eI (eq_X11_isLand E d (jd_le hd rfl) x2 a0 b0) ?_
    have h1342_ := f_X11_isLand_eq a0 b0 x2
    have h1343_ := f_X11_within_eq a0 b0 x2 0 15
    refine jt_ite (fun c1344_ => ?_) (fun c1344_ => ?_)
    ·
      exact cp_X11_price_33 E d hd x1 x2 x3 x4 a0 b0 hv0 (show (((((((x1 < 0 ∨ 15 < x1) ∨ x2 < 0) ∨ 15 < x2) ∨ x3 < 1) ∨ 500 < x3) ∨ x4 < 0) ∨ 1999 < x4) from by omega)
    ·
      refine jt_eI (eq_X11_within E d (jd_le hd rfl) x3 1 500 a0 b0) ?_
      have h1345_ := f_X11_within_eq a0 b0 x3 1 500
      refine jt_ite (fun c1346_ => ?_) (fun c1346_ => ?_)
      ·
        exact cp_X11_price_33 E d hd x1 x2 x3 x4 a0 b0 hv0 (show (((((((x1 < 0 ∨ 15 < x1) ∨ x2 < 0) ∨ 15 < x2) ∨ x3 < 1) ∨ 500 < x3) ∨ x4 < 0) ∨ 1999 < x4) from by omega)
      ·
        refine jt_eI (eq_X11_isDay E d (jd_le hd rfl) x4 a0 b0) ?_
        have h1347_ := f_X11_isDay_eq a0 b0 x4
        have h1348_ := f_X11_within_eq a0 b0 x4 0 1999
        refine jt_ite (fun c1349_ => ?_) (fun c1349_ => ?_)
        ·
          exact cp_X11_price_33 E d hd x1 x2 x3 x4 a0 b0 hv0 (show (((((((x1 < 0 ∨ 15 < x1) ∨ x2 < 0) ∨ 15 < x2) ∨ x3 < 1) ∨ 500 < x3) ∨ x4 < 0) ∨ 1999 < x4) from by omega)
        ·
          exact cp_X11_price_35 E d hd x1 x2 x3 x4 a0 b0 hv0 x1 x2 x3 x4 (show 0 ≤ x1 from by omega) (show x1 ≤ 15 from by omega) (show 0 ≤ x2 from by omega) (show x2 ≤ 15 from by omega) (show 1 ≤ x3 from by omega) (show x3 ≤ 500 from by omega) (show 0 ≤ x4 from by omega) (show x4 ≤ 1999 from by omega) (show (((((((0 ≤ x1 ∧ x1 ≤ 15) ∧ 0 ≤ x2) ∧ x2 ≤ 15) ∧ 1 ≤ x3) ∧ x3 ≤ 500) ∧ 0 ≤ x4) ∧ x4 ≤ 1999) from by omega) (by first | rfl | assumption) (by first | rfl | assumption) (by first | rfl | assumption) (by first | rfl | assumption)
abbrev jQ_X9_lastGrams (x1 : Int) (a0 b0 : Nat → Nat → Int) : List jxV → (Nat → Nat → Int) → (Nat → Nat → Int) → Prop := rI (fun r a b => (a0 = a) ∧ (b0 = b) ∧ (r = LG (fun c => a0 108 ((a0 105 5).toNat * 12 + c)) (fun c => a0 119 ((a0 105 5).toNat * 12 + c)) x1 (a0 107 (a0 105 5).toNat).toNat))
theorem cp_X9_lastGrams_4 (E : jxE) (d : Nat) (hd : Nat.ble 1 (d + 1) = true) (x1 : Int) (a0 b0 : Nat → Nat → Int) (hv0 : iv a0) (hp0 : a0 105 5 ≤ 9) : ∀ n : Nat, (∀ (y1 y2 y3 : Int), (((12 - y3) * 1) + 0).toNat ≤ n → 0 ≤ y2 → y2 ≤ 999 → 0 ≤ y3 → y3 ≤ 11 → (y1 = x1) → y3 < a0 107 ((a0 105 5).toNat) → (y2 = LG (fun c => a0 108 ((a0 105 5).toNat * 12 + c)) (fun c => a0 119 ((a0 105 5).toNat * 12 + c)) x1 (y3.toNat + 1)) → jt (jxX E d 137 44 [some (.inr (.inr (.inl 105))), some (.inl y1), some (.inl y2), some (.inl y3)] [] (jxSH, a0, b0)) (jQ_X9_lastGrams x1 a0 b0)) ∧ (∀ (y1 y3 : Int), (((12 - y3) * 1) + 0).toNat ≤ n → 0 ≤ y1 → y1 ≤ 999 → 0 ≤ y3 → y3 ≤ 11 → (y1 = x1) → y3 < a0 107 ((a0 105 5).toNat) → (a0 108 ((a0 105 5).toNat * 12 + y3.toNat) = x1) → jt (jxX E d 137 32 [some (.inr (.inr (.inl 105))), some (.inl y1), none, some (.inl y3)] [] (jxSH, a0, b0)) (jQ_X9_lastGrams x1 a0 b0)) ∧ (∀ (y1 y2 y3 : Int), (((12 - y3) * 1) + 0).toNat ≤ n → 0 ≤ y2 → y2 ≤ 999 → 0 ≤ y3 → y3 ≤ 12 → (y1 = x1) → y3 ≤ a0 107 ((a0 105 5).toNat) → (y2 = LG (fun c => a0 108 ((a0 105 5).toNat * 12 + c)) (fun c => a0 119 ((a0 105 5).toNat * 12 + c)) x1 y3.toNat) → jt (jxX E d 137 4 [some (.inr (.inr (.inl 105))), some (.inl y1), some (.inl y2), some (.inl y3)] [] (jxSH, a0, b0)) (jQ_X9_lastGrams x1 a0 b0)) := by
  refine jx_ind fun n ih => ?_
  have ih44 : ∀ (y1 y2 y3 : Int), (((12 - y3) * 1) + 0).toNat < n → 0 ≤ y2 → y2 ≤ 999 → 0 ≤ y3 → y3 ≤ 11 → (y1 = x1) → y3 < a0 107 ((a0 105 5).toNat) → (y2 = LG (fun c => a0 108 ((a0 105 5).toNat * 12 + c)) (fun c => a0 119 ((a0 105 5).toNat * 12 + c)) x1 (y3.toNat + 1)) → jt (jxX E d 137 44 [some (.inr (.inr (.inl 105))), some (.inl y1), some (.inl y2), some (.inl y3)] [] (jxSH, a0, b0)) (jQ_X9_lastGrams x1 a0 b0) := fun y1 y2 y3 hlt i0 i1 i2 i3 i4 i5 i6 => (ih _ hlt).1 y1 y2 y3 (Nat.le_refl _) i0 i1 i2 i3 i4 i5 i6
  have ih32 : ∀ (y1 y3 : Int), (((12 - y3) * 1) + 0).toNat < n → 0 ≤ y1 → y1 ≤ 999 → 0 ≤ y3 → y3 ≤ 11 → (y1 = x1) → y3 < a0 107 ((a0 105 5).toNat) → (a0 108 ((a0 105 5).toNat * 12 + y3.toNat) = x1) → jt (jxX E d 137 32 [some (.inr (.inr (.inl 105))), some (.inl y1), none, some (.inl y3)] [] (jxSH, a0, b0)) (jQ_X9_lastGrams x1 a0 b0) := fun y1 y3 hlt i0 i1 i2 i3 i4 i5 i6 => (ih _ hlt).2.1 y1 y3 (Nat.le_refl _) i0 i1 i2 i3 i4 i5 i6
  have ih4 : ∀ (y1 y2 y3 : Int), (((12 - y3) * 1) + 0).toNat < n → 0 ≤ y2 → y2 ≤ 999 → 0 ≤ y3 → y3 ≤ 12 → (y1 = x1) → y3 ≤ a0 107 ((a0 105 5).toNat) → (y2 = LG (fun c => a0 108 ((a0 105 5).toNat * 12 + c)) (fun c => a0 119 ((a0 105 5).toNat * 12 + c)) x1 y3.toNat) → jt (jxX E d 137 4 [some (.inr (.inr (.inl 105))), some (.inl y1), some (.inl y2), some (.inl y3)] [] (jxSH, a0, b0)) (jQ_X9_lastGrams x1 a0 b0) := fun y1 y2 y3 hlt i0 i1 i2 i3 i4 i5 i6 => (ih _ hlt).2.2 y1 y2 y3 (Nat.le_refl _) i0 i1 i2 i3 i4 i5 i6
  have hc44 : ∀ (y1 y2 y3 : Int), (((12 - y3) * 1) + 0).toNat ≤ n → 0 ≤ y2 → y2 ≤ 999 → 0 ≤ y3 → y3 ≤ 11 → (y1 = x1) → y3 < a0 107 ((a0 105 5).toNat) → (y2 = LG (fun c => a0 108 ((a0 105 5).toNat * 12 + c)) (fun c => a0 119 ((a0 105 5).toNat * 12 + c)) x1 (y3.toNat + 1)) → jt (jxX E d 137 44 [some (.inr (.inr (.inl 105))), some (.inl y1), some (.inl y2), some (.inl y3)] [] (jxSH, a0, b0)) (jQ_X9_lastGrams x1 a0 b0) := by
    intro y1 y2 y3 hm hi0 hi1 hi2 hi3 hy1 hi5 hlg
    refine jt_eq (bq_X9_lastGrams_44 E d y1 y2 y3 a0 b0) ?_
    have h1350_ := iv_get hv0 (k := 105) (j := 5) (l := 0) (u := 10) rfl
    have h1351_ := iv_get hv0 (k := 107) (j := (a0 105 5).toNat) (l := 0) (u := 12) rfl
    have h1352_ : jxw (y3 + 1) = y3 + 1 := jxw_id (by omega) (by omega)
    exact ih4 y1 y2 (jxw (y3 + 1)) (show (((12 - (jxw (y3 + 1))) * 1) + 0).toNat < n from by omega) (show 0 ≤ y2 from by omega) (show y2 ≤ 999 from by omega) (show 0 ≤ jxw (y3 + 1) from by omega) (show jxw (y3 + 1) ≤ 12 from by omega) (by first | rfl | assumption) (show jxw (y3 + 1) ≤ a0 107 ((a0 105 5).toNat) from by omega) (by first | rfl | (rw [show (jxw (y3 + 1)).toNat = y3.toNat + 1 from by omega]; exact hlg))
  have hc32 : ∀ (y1 y3 : Int), (((12 - y3) * 1) + 0).toNat ≤ n → 0 ≤ y1 → y1 ≤ 999 → 0 ≤ y3 → y3 ≤ 11 → (y1 = x1) → y3 < a0 107 ((a0 105 5).toNat) → (a0 108 ((a0 105 5).toNat * 12 + y3.toNat) = x1) → jt (jxX E d 137 32 [some (.inr (.inr (.inl 105))), some (.inl y1), none, some (.inl y3)] [] (jxSH, a0, b0)) (jQ_X9_lastGrams x1 a0 b0) := by
    intro y1 y3 hm hi0 hi1 hi2 hi3 hy1 hi5 hz
    refine jt_eq (bq_X9_lastGrams_32 E d y1 y3 a0 b0) ?_
    have h1353_ := iv_get hv0 (k := 105) (j := 5) (l := 0) (u := 10) rfl
    have h1354_ := iv_get hv0 (k := 107) (j := (a0 105 5).toNat) (l := 0) (u := 12) rfl
    refine jt_grd (by omega) ?_
    refine jt_grd (by omega) ?_
    refine jt_grd (by omega) ?_
    have h1355_ := iv_get hv0 (k := 119) (j := ((a0 105 5).toNat) * 12 + (y3.toNat)) (l := 0) (u := 999) rfl
    exact hc44 y1 (a0 119 (((a0 105 5).toNat) * 12 + (y3.toNat))) y3 (show (((12 - y3) * 1) + 0).toNat ≤ n from by omega) (show 0 ≤ a0 119 (((a0 105 5).toNat) * 12 + (y3.toNat)) from by omega) (show a0 119 (((a0 105 5).toNat) * 12 + (y3.toNat)) ≤ 999 from by omega) (show 0 ≤ y3 from by omega) (show y3 ≤ 11 from by omega) (by first | rfl | assumption) (show y3 < a0 107 ((a0 105 5).toNat) from by omega) (by first | exact (LG_s1 (z := fun c => a0 108 ((a0 105 5).toNat * 12 + c)) (g := fun c => a0 119 ((a0 105 5).toNat * 12 + c)) (m := y3.toNat) hz).symm | (rw [LG_s2 (by rw [← hy1]; assumption)]; exact hlg))
  have hc4 : ∀ (y1 y2 y3 : Int), (((12 - y3) * 1) + 0).toNat ≤ n → 0 ≤ y2 → y2 ≤ 999 → 0 ≤ y3 → y3 ≤ 12 → (y1 = x1) → y3 ≤ a0 107 ((a0 105 5).toNat) → (y2 = LG (fun c => a0 108 ((a0 105 5).toNat * 12 + c)) (fun c => a0 119 ((a0 105 5).toNat * 12 + c)) x1 y3.toNat) → jt (jxX E d 137 4 [some (.inr (.inr (.inl 105))), some (.inl y1), some (.inl y2), some (.inl y3)] [] (jxSH, a0, b0)) (jQ_X9_lastGrams x1 a0 b0) := by
    intro y1 y2 y3 hm hi0 hi1 hi2 hi3 hy1 hi5 hlg
    refine jt_eq (bq_X9_lastGrams_4 E d y1 y2 y3 a0 b0) ?_
    have h1356_ := iv_get hv0 (k := 105) (j := 5) (l := 0) (u := 10) rfl
    have h1357_ := iv_get hv0 (k := 107) (j := (a0 105 5).toNat) (l := 0) (u := 12) rfl
    refine jt_grd (by omega) ?_
    refine jt_ite (fun c1358_ => ?_) (fun c1358_ => ?_)
    ·
      refine jt_grd (by omega) ?_
      refine jt_grd (by omega) ?_
      refine jt_grd (by omega) ?_
      have h1359_ := iv_get hv0 (k := 108) (j := ((a0 105 5).toNat) * 12 + (y3.toNat)) (l := 0) (u := 999) rfl
      refine jt_ite (fun c1360_ => ?_) (fun c1360_ => ?_)
      ·
        exact hc32 y1 y3 (show (((12 - y3) * 1) + 0).toNat ≤ n from by omega) (show 0 ≤ y1 from by omega) (show y1 ≤ 999 from by omega) (show 0 ≤ y3 from by omega) (show y3 ≤ 11 from by omega) (by first | rfl | assumption) (show y3 < a0 107 ((a0 105 5).toNat) from by omega) (by rw [← hy1]; assumption)
      ·
        exact hc44 y1 y2 y3 (show (((12 - y3) * 1) + 0).toNat ≤ n from by omega) (show 0 ≤ y2 from by omega) (show y2 ≤ 999 from by omega) (show 0 ≤ y3 from by omega) (show y3 ≤ 11 from by omega) (by first | rfl | assumption) (show y3 < a0 107 ((a0 105 5).toNat) from by omega) (by first | exact (LG_s1 (z := fun c => a0 108 ((a0 105 5).toNat * 12 + c)) (g := fun c => a0 119 ((a0 105 5).toNat * 12 + c)) (m := y3.toNat) hz).symm | (rw [LG_s2 (by rw [← hy1]; assumption)]; exact hlg))
    ·
      exact jt_rI ⟨rfl, rfl, (by rw [show (a0 107 (a0 105 5).toNat).toNat = y3.toNat from by omega]; exact hlg)⟩
  exact ⟨hc44, hc32, hc4⟩
theorem sp_X9_lastGrams (E : jxE) (d : Nat) (hd : Nat.ble 1 d = true) (x1 : Int) (a0 b0 : Nat → Nat → Int) (hv0 : iv a0) (hp0 : a0 105 5 ≤ 9) : jt (jxC E d 137 [.inr (.inr (.inl 105)), .inl x1] (jxSH, a0, b0)) (jQ_X9_lastGrams x1 a0 b0) := by
  obtain ⟨d, rfl⟩ := jd_succ hd
  refine jt_eq (bq_X9_lastGrams E d x1 a0 b0) ?_
  have h1361_ := iv_get hv0 (k := 105) (j := 5) (l := 0) (u := 10) rfl
  have h1362_ := iv_get hv0 (k := 107) (j := (a0 105 5).toNat) (l := 0) (u := 12) rfl
  exact (cp_X9_lastGrams_4 E d hd x1 a0 b0 hv0 hp0 _).2.2 x1 0 0 (Nat.le_refl _) (show 0 ≤ 0 from by omega) (show 0 ≤ 999 from by omega) (show 0 ≤ 0 from by omega) (show 0 ≤ 12 from by omega) (by first | rfl | assumption) (show 0 ≤ a0 107 ((a0 105 5).toNat) from by omega) (by first | rfl | (rw [show (jxw (y3 + 1)).toNat = y3.toNat + 1 from by omega]; exact hlg))
def jW_X9_readClause_r2 : List (Nat × Nat) := [(2, 2), (2, 3), (107, 9999), (108, 9999), (119, 9999), (130, 9999)]
abbrev jQ_X9_readClause_r2 (a0 b0 : Nat → Nat → Int) : List jxV → (Nat → Nat → Int) → (Nat → Nat → Int) → Prop := rV (fun a b => (iv a) ∧ (jfr jW_X9_readClause_r2 a0 a) ∧ (b0 = b) ∧ ((((a0 2 1 = 0 ∧ a0 2 2 = 0) ∧ a0 2 3 = 0) → (a 2 3 = 1 ∧ a 2 2 = 0))) ∧ (a 2 3 = CF (a0 3) (a0 2 1).toNat (a0 2 2).toNat (a0 107 (a0 105 5).toNat) (LSa a0)) ∧ ((RCU a0 a (a0 105 5).toNat ((a0 105 5).toNat * 12 + (a0 107 (a0 105 5).toNat).toNat) (NV (a0 3) (a0 2 1).toNat (C1 (a0 3) (a0 2 1).toNat (a0 2 2).toNat)) (NV (a0 3) (a0 2 1).toNat (C2 (a0 3) (a0 2 1).toNat (a0 2 2).toNat)) (NV (a0 3) (a0 2 1).toNat (C3 (a0 3) (a0 2 1).toNat (a0 2 2).toNat)) ((a0 107 (a0 105 5).toNat) + 1)) ∨ (RCS a0 a ∧ ¬ CF (a0 3) (a0 2 1).toNat (a0 2 2).toNat (a0 107 (a0 105 5).toNat) (LSa a0) = 0)) ∧ (CF (a0 3) (a0 2 1).toNat (a0 2 2).toNat (a0 107 (a0 105 5).toNat) (LSa a0) = 0 → a 2 2 = ((C4 (a0 3) (a0 2 1).toNat (a0 2 2).toNat) : Int)))
theorem cp_X9_readClause_r2_35 (E : jxE) (d : Nat) (hd : Nat.ble 6 (d + 1) = true) (a0 b0 : Nat → Nat → Int) (hv0 : iv a0) (hp0 : a0 105 5 ≤ 9) (hp1 : a0 2 3 = 0) : ∀ (y2 : Int) (a : Nat → Nat → Int), iv a → jfr jW_X9_readClause_r2 a0 a → 0 ≤ y2 → y2 ≤ 200 → a 105 5 ≤ 9 → (TW (a0 3) (a0 2 1).toNat (a0 2 2).toNat 15) → (12 ≤ (a0 107 (a0 105 5).toNat)) → (y2 = a0 2 2) → a 2 3 = 0 → (∀ j, a 108 j = a0 108 j) → (∀ j, a 119 j = a0 119 j) → (∀ j, a 130 j = a0 130 j) → (∀ j, a 107 j = a0 107 j) → 1 ≤ a0 2 1 → jt (jxX E d 136 35 [none, some (.inr (.inr (.inl 2))), some (.inl y2), none, none] [] (jxSH, a, b0)) (jQ_X9_readClause_r2 a0 b0) := by
  intro y2 a hv hf hi0 hi1 hi2 htw h12 hy2 hi6 hs108 hs119 hs130 hs107 hi11
  refine jt_eq (bq_X9_readClause_r2_35 E d y2 a b0) ?_
  have h1363_ := iv_get hv (k := 105) (j := 5) (l := 0) (u := 10) rfl
  have h1364_ : a 105 5 = a0 105 5 := hf 105 5 rfl
  have h1365_ := iv_get hv0 (k := 105) (j := 5) (l := 0) (u := 10) rfl
  have h1366_ := iv_get hv0 (k := 2) (j := 1) (l := 0) (u := 200) rfl
  have h3 : a 3 = a0 3 := funext fun j => hf 3 j rfl
  have h21 := hf 2 1 rfl
  refine jt_bV (sp_X8_noteFault E d (jd_le hd rfl) y2 2 a b0 hv) (fun a1367_ b1367_ h1367_ => ?_)
  obtain ⟨hv1367_, hf1367_, rfl, hq1367_0, hq1367_1⟩ := h1367_
  have hf1368_ : jfr jW_X9_readClause_r2 a0 a1367_ := jfr_tr hf hf1367_ rfl
  have h1369_ := iv_get hv0 (k := 2) (j := 2) (l := 0) (u := 200) rfl
  have h1370_ := iv_get hv1367_ (k := 2) (j := 2) (l := 0) (u := 200) rfl
  have h1371_ : a1367_ 2 2 = a 2 2 := hf1367_ 2 2 rfl
  have h1372_ := iv_get hv (k := 2) (j := 2) (l := 0) (u := 200) rfl
  exact jt_rV ⟨hv1367_, hf1368_, rfl, (show (((a0 2 1 = 0 ∧ a0 2 2 = 0) ∧ a0 2 3 = 0) → (a1367_ 2 3 = 1 ∧ a1367_ 2 2 = 0)) from by omega), (by rw [CF_12 htw h12]; omega), (Or.inr ⟨fun j => ⟨((hf1367_ 108 j rfl)).trans (hs108 j), ((hf1367_ 119 j rfl)).trans (hs119 j), ((hf1367_ 130 j rfl)).trans (hs130 j), ((hf1367_ 107 j rfl)).trans (hs107 j)⟩, (by rw [CF_12 htw h12]; omega)⟩), (fun h => absurd h (by rw [CF_12 htw h12]; omega))⟩
theorem cp_X9_readClause_r2_152 (E : jxE) (d : Nat) (hd : Nat.ble 6 (d + 1) = true) (a0 b0 : Nat → Nat → Int) (hv0 : iv a0) (hp0 : a0 105 5 ≤ 9) (hp1 : a0 2 3 = 0) : ∀ (a : Nat → Nat → Int), iv a → jfr jW_X9_readClause_r2 a0 a → a 105 5 ≤ 9 → (a 2 3 = CF (a0 3) (a0 2 1).toNat (a0 2 2).toNat (a0 107 (a0 105 5).toNat) (LSa a0)) → (a 2 2 = ((C4 (a0 3) (a0 2 1).toNat (a0 2 2).toNat) : Int)) → (RCU a0 a (a0 105 5).toNat ((a0 105 5).toNat * 12 + (a0 107 (a0 105 5).toNat).toNat) (NV (a0 3) (a0 2 1).toNat (C1 (a0 3) (a0 2 1).toNat (a0 2 2).toNat)) (NV (a0 3) (a0 2 1).toNat (C2 (a0 3) (a0 2 1).toNat (a0 2 2).toNat)) (NV (a0 3) (a0 2 1).toNat (C3 (a0 3) (a0 2 1).toNat (a0 2 2).toNat)) ((a0 107 (a0 105 5).toNat) + 1)) → 1 ≤ a0 2 1 → jt (jxX E d 136 152 [none, none, none, none, none] [] (jxSH, a, b0)) (jQ_X9_readClause_r2 a0 b0) := by
  intro a hv hf hi0 hcf hat hru hi4
  refine jt_eq (bq_X9_readClause_r2_152 E d a b0) ?_
  have h1373_ := iv_get hv (k := 105) (j := 5) (l := 0) (u := 10) rfl
  have h1374_ : a 105 5 = a0 105 5 := hf 105 5 rfl
  have h1375_ := iv_get hv0 (k := 105) (j := 5) (l := 0) (u := 10) rfl
  have h1376_ := iv_get hv0 (k := 2) (j := 1) (l := 0) (u := 200) rfl
  have h3 : a 3 = a0 3 := funext fun j => hf 3 j rfl
  have h21 := hf 2 1 rfl
  have h1377_ := iv_get hv0 (k := 2) (j := 2) (l := 0) (u := 200) rfl
  have h1378_ := iv_get hv (k := 2) (j := 2) (l := 0) (u := 200) rfl
  exact jt_rV ⟨hv, hf, rfl, (show (((a0 2 1 = 0 ∧ a0 2 2 = 0) ∧ a0 2 3 = 0) → (a 2 3 = 1 ∧ a 2 2 = 0)) from by omega), hcf, (Or.inl hru), (fun _ => hat)⟩
theorem cp_X9_readClause_r2_120 (E : jxE) (d : Nat) (hd : Nat.ble 6 (d + 1) = true) (a0 b0 : Nat → Nat → Int) (hv0 : iv a0) (hp0 : a0 105 5 ≤ 9) (hp1 : a0 2 3 = 0) : ∀ (y3 : Int) (a : Nat → Nat → Int), iv a → jfr jW_X9_readClause_r2 a0 a → 0 ≤ y3 → y3 ≤ 11 → a 105 5 ≤ 9 → (TW (a0 3) (a0 2 1).toNat (a0 2 2).toNat 15) → (y3 = (a0 107 (a0 105 5).toNat)) → y3 ≤ 11 → (UP (a0 108) (a 108) ((a0 105 5).toNat * 12 + (a0 107 (a0 105 5).toNat).toNat) (NV (a0 3) (a0 2 1).toNat (C1 (a0 3) (a0 2 1).toNat (a0 2 2).toNat))) → (UP (a0 119) (a 119) ((a0 105 5).toNat * 12 + (a0 107 (a0 105 5).toNat).toNat) (NV (a0 3) (a0 2 1).toNat (C2 (a0 3) (a0 2 1).toNat (a0 2 2).toNat))) → (∀ j, a 130 j = a0 130 j) → (∀ j, a 107 j = a0 107 j) → (a 2 2 = ((C3 (a0 3) (a0 2 1).toNat (a0 2 2).toNat) : Int)) → (a 2 3 = (if ¬ NF (a0 3) (a0 2 1).toNat (C1 (a0 3) (a0 2 1).toNat (a0 2 2).toNat) 0 3 = 0 then NF (a0 3) (a0 2 1).toNat (C1 (a0 3) (a0 2 1).toNat (a0 2 2).toNat) 0 3 else NF (a0 3) (a0 2 1).toNat (C2 (a0 3) (a0 2 1).toNat (a0 2 2).toNat) (LSa a0 + 1) 500)) → y3 = a 107 ((a0 105 5).toNat) → 1 ≤ a0 2 1 → jt (jxX E d 136 120 [some (.inr (.inr (.inl 105))), some (.inr (.inr (.inl 2))), none, some (.inl y3), none] [] (jxSH, a, b0)) (jQ_X9_readClause_r2 a0 b0) := by
  intro y3 a hv hf hi0 hi1 hi2 htw hy3 hi5 hu108 hu119 hs130 hs107 hat hft2 hi12 hi13
  refine jt_eq (bq_X9_readClause_r2_120 E d y3 a b0) ?_
  have h1379_ := iv_get hv (k := 105) (j := 5) (l := 0) (u := 10) rfl
  have h1380_ : a 105 5 = a0 105 5 := hf 105 5 rfl
  have h1381_ := iv_get hv0 (k := 105) (j := 5) (l := 0) (u := 10) rfl
  have h1382_ := iv_get hv (k := 107) (j := (a0 105 5).toNat) (l := 0) (u := 12) rfl
  have h1383_ := iv_get hv0 (k := 2) (j := 1) (l := 0) (u := 200) rfl
  have h3 : a 3 = a0 3 := funext fun j => hf 3 j rfl
  have h21 := hf 2 1 rfl
  have hP : (a 2 2).toNat = (C3 (a0 3) (a0 2 1).toNat (a0 2 2).toNat) := by rw [hat]; exact Int.toNat_natCast _
  have hi : (a 105 5).toNat * 12 + y3.toNat = ((a0 105 5).toNat * 12 + (a0 107 (a0 105 5).toNat).toNat) := by rw [hf 105 5 rfl, hy3]
  refine jt_grd (by omega) ?_
  refine jt_bI (sp_X8_takeNumber E d (jd_le hd rfl) 1 900 a b0 hv) (fun r1384_ a1384_ b1384_ h1384_ => ?_)
  obtain ⟨hv1384_, hf1384_, rfl, hq1384_0, hq1384_1, hq1384_2, hq1384_3⟩ := h1384_
  refine jt_grd (by omega) ?_
  refine jt_grd (by omega) ?_
  have h1385_ := iv_get hv1384_ (k := 105) (j := 5) (l := 0) (u := 10) rfl
  have h1386_ : a1384_ 105 5 = a 105 5 := hf1384_ 105 5 rfl
  refine jt_grd (by omega) ?_
  refine jt_grd (by omega) ?_
  have hv1387_ : iv (jxu a1384_ 130 (((a 105 5).toNat) * 12 + (y3.toNat)) r1384_) := iv_put hv1384_ (l := 0) (u := 999) rfl (by omega) (by omega)
  have h1389_ : a1384_ 107 ((a1384_ 105 5).toNat) = a1384_ 107 ((a0 105 5).toNat) := by rw [show a1384_ 105 5 = a0 105 5 from by omega]
  have h1390_ := iv_get hv1384_ (k := 107) (j := (a0 105 5).toNat) (l := 0) (u := 12) rfl
  have h1391_ : a1384_ 107 ((a0 105 5).toNat) = a 107 ((a0 105 5).toNat) := hf1384_ 107 ((a0 105 5).toNat) rfl
  have h1392_ := iv_get hv1384_ (k := 107) (j := (a1384_ 105 5).toNat) (l := 0) (u := 12) rfl
  have h1393_ : a1384_ 107 ((a1384_ 105 5).toNat) = a 107 ((a1384_ 105 5).toNat) := hf1384_ 107 ((a1384_ 105 5).toNat) rfl
  have h1394_ : a 107 ((a1384_ 105 5).toNat) = a 107 ((a0 105 5).toNat) := by rw [show a1384_ 105 5 = a0 105 5 from by omega]
  have h1395_ := iv_get hv (k := 107) (j := (a1384_ 105 5).toNat) (l := 0) (u := 12) rfl
  have h1396_ : jxw ((a1384_ 107 ((a1384_ 105 5).toNat)) + 1) = (a1384_ 107 ((a1384_ 105 5).toNat)) + 1 := jxw_id (by omega) (by omega)
  have hv1388_ : iv (jxu (jxu a1384_ 130 (((a 105 5).toNat) * 12 + (y3.toNat)) r1384_) 107 ((a1384_ 105 5).toNat) (jxw ((a1384_ 107 ((a1384_ 105 5).toNat)) + 1))) := iv_put hv1387_ (l := 0) (u := 12) rfl (by omega) (by omega)
  have hf1397_ : jfr jW_X9_readClause_r2 a0 a1384_ := jfr_tr hf hf1384_ rfl
  have hf1398_ : jfr jW_X9_readClause_r2 a0 (jxu a1384_ 130 (((a 105 5).toNat) * 12 + (y3.toNat)) r1384_) := jfr_put hf1397_ rfl
  have hf1399_ : jfr jW_X9_readClause_r2 a0 (jxu (jxu a1384_ 130 (((a 105 5).toNat) * 12 + (y3.toNat)) r1384_) 107 ((a1384_ 105 5).toNat) (jxw ((a1384_ 107 ((a1384_ 105 5).toNat)) + 1))) := jfr_put hf1398_ rfl
  exact cp_X9_readClause_r2_152 E d hd a0 b0 hv0 hp0 hp1 (jxu (jxu a1384_ 130 (((a 105 5).toNat) * 12 + (y3.toNat)) r1384_) 107 ((a1384_ 105 5).toNat) (jxw ((a1384_ 107 ((a1384_ 105 5).toNat)) + 1))) hv1388_ hf1399_ (show a1384_ 105 5 ≤ 9 from by omega) (by have e0 := hq1384_0; have e1 := hq1384_1; have e2 := hq1384_2; rw [h3, h21, hP] at e0 e1 e2; rw [CF_go htw (by rw [← hy3]; omega), ← CF_split, ← hft2]; exact e2) (by have e0 := hq1384_0; have e1 := hq1384_1; have e2 := hq1384_2; rw [h3, h21, hP] at e0 e1 e2; exact e1) (by have e0 := hq1384_0; have e1 := hq1384_1; have e2 := hq1384_2; rw [h3, h21, hP] at e0 e1 e2; have hs7 : a1384_ 105 5 = a0 105 5 := (hf1384_ 105 5 rfl).trans (hf 105 5 rfl); refine ⟨UP_cr hu108 (fun j => hf1384_ 108 j rfl), UP_cr hu119 (fun j => hf1384_ 119 j rfl), ?_, ?_⟩ <;> first | (rw [← hi, ← e0]; exact UP_put (fun j => (hf1384_ 130 j rfl).trans (hs130 j))) | (rw [show (a0 107 (a0 105 5).toNat) + 1 = jxw ((a1384_ 107 ((a1384_ 105 5).toNat)) + 1) from (by rw [hs7, hf1384_ 107 _ rfl, hs107, ← hy3, jxw_id (by omega) (by omega)]), ← hs7]; exact UP_put (fun j => (hf1384_ 107 j rfl).trans (hs107 j)))) (show 1 ≤ a0 2 1 from by omega)
theorem cp_X9_readClause_r2_113 (E : jxE) (d : Nat) (hd : Nat.ble 6 (d + 1) = true) (a0 b0 : Nat → Nat → Int) (hv0 : iv a0) (hp0 : a0 105 5 ≤ 9) (hp1 : a0 2 3 = 0) : ∀ (y3 y4 : Int) (a : Nat → Nat → Int), iv a → jfr jW_X9_readClause_r2 a0 a → 0 ≤ y3 → y3 ≤ 11 → 0 ≤ y4 → y4 ≤ 200 → a 105 5 ≤ 9 → (TW (a0 3) (a0 2 1).toNat (a0 2 2).toNat 15) → (y3 = (a0 107 (a0 105 5).toNat)) → y3 ≤ 11 → (UP (a0 108) (a 108) ((a0 105 5).toNat * 12 + (a0 107 (a0 105 5).toNat).toNat) (NV (a0 3) (a0 2 1).toNat (C1 (a0 3) (a0 2 1).toNat (a0 2 2).toNat))) → (UP (a0 119) (a 119) ((a0 105 5).toNat * 12 + (a0 107 (a0 105 5).toNat).toNat) (NV (a0 3) (a0 2 1).toNat (C2 (a0 3) (a0 2 1).toNat (a0 2 2).toNat))) → (∀ j, a 130 j = a0 130 j) → (∀ j, a 107 j = a0 107 j) → (a 2 2 = ((C3 (a0 3) (a0 2 1).toNat (a0 2 2).toNat) : Int)) → (y4 = ((C2 (a0 3) (a0 2 1).toNat (a0 2 2).toNat) : Int)) → (a 2 3 = (if NF (a0 3) (a0 2 1).toNat (C1 (a0 3) (a0 2 1).toNat (a0 2 2).toNat) 0 3 = 0 then NF (a0 3) (a0 2 1).toNat (C2 (a0 3) (a0 2 1).toNat (a0 2 2).toNat) 1 500 else NF (a0 3) (a0 2 1).toNat (C1 (a0 3) (a0 2 1).toNat (a0 2 2).toNat) 0 3)) → (NV (a0 3) (a0 2 1).toNat (C2 (a0 3) (a0 2 1).toNat (a0 2 2).toNat) ≤ LSa a0) → y3 = a 107 ((a0 105 5).toNat) → 1 ≤ a0 2 1 → jt (jxX E d 136 113 [some (.inr (.inr (.inl 105))), some (.inr (.inr (.inl 2))), none, some (.inl y3), some (.inl y4)] [] (jxSH, a, b0)) (jQ_X9_readClause_r2 a0 b0) := by
  intro y3 y4 a hv hf hi0 hi1 hi2 hi3 hi4 htw hy3 hi7 hu108 hu119 hs130 hs107 hat hy4 hft hle hi16 hi17
  refine jt_eq (bq_X9_readClause_r2_113 E d y3 y4 a b0) ?_
  have h1400_ := iv_get hv (k := 105) (j := 5) (l := 0) (u := 10) rfl
  have h1401_ : a 105 5 = a0 105 5 := hf 105 5 rfl
  have h1402_ := iv_get hv0 (k := 105) (j := 5) (l := 0) (u := 10) rfl
  have h1403_ := iv_get hv (k := 107) (j := (a0 105 5).toNat) (l := 0) (u := 12) rfl
  have h1404_ := iv_get hv0 (k := 2) (j := 1) (l := 0) (u := 200) rfl
  have h3 : a 3 = a0 3 := funext fun j => hf 3 j rfl
  have h21 := hf 2 1 rfl
  refine jt_bV (sp_X8_noteFault E d (jd_le hd rfl) y4 1 a b0 hv) (fun a1405_ b1405_ h1405_ => ?_)
  obtain ⟨hv1405_, hf1405_, rfl, hq1405_0, hq1405_1⟩ := h1405_
  have hf1406_ : jfr jW_X9_readClause_r2 a0 a1405_ := jfr_tr hf hf1405_ rfl
  have h1407_ := iv_get hv1405_ (k := 105) (j := 5) (l := 0) (u := 10) rfl
  have h1408_ : a1405_ 105 5 = a 105 5 := hf1405_ 105 5 rfl
  have h1409_ := iv_get hv1405_ (k := 107) (j := (a0 105 5).toNat) (l := 0) (u := 12) rfl
  have h1410_ : a1405_ 107 ((a0 105 5).toNat) = a 107 ((a0 105 5).toNat) := hf1405_ 107 ((a0 105 5).toNat) rfl
  exact cp_X9_readClause_r2_120 E d hd a0 b0 hv0 hp0 hp1 y3 a1405_ hv1405_ hf1406_ (show 0 ≤ y3 from by omega) (show y3 ≤ 11 from by omega) (show a1405_ 105 5 ≤ 9 from by omega) (by first | exact htw | exact (hq1405_3 (by omega)).2.1) (by first | exact hy3 | (rw [hf1405_ 107 _ rfl, hf1405_ 105 5 rfl])) (show y3 ≤ 11 from by omega) (UP_cr hu108 (fun j => (hf1405_ 108 j rfl))) (UP_cr hu119 (fun j => (hf1405_ 119 j rfl))) (fun j => ((hf1405_ 130 j rfl)).trans (hs130 j)) (fun j => ((hf1405_ 107 j rfl)).trans (hs107 j)) (by rw [hf1405_ 2 2 rfl]; exact hat) (by have hb := LSa_bd hv0; have n1 := NF_pos (a0 3) (a0 2 1).toNat (C1 (a0 3) (a0 2 1).toNat (a0 2 2).toNat) 0 3; have n2 := NF_pos (a0 3) (a0 2 1).toNat (C2 (a0 3) (a0 2 1).toNat (a0 2 2).toNat) 1 500; rw [NF_two hb.1, if_pos hle]; have p0 := hq1405_0; have p1 := hq1405_1; rw [hft] at p0 p1; split at p0 <;> split <;> (try split) <;> omega) (show y3 = a1405_ 107 ((a0 105 5).toNat) from by omega) (show 1 ≤ a0 2 1 from by omega)
theorem cp_X9_readClause_r2_65 (E : jxE) (d : Nat) (hd : Nat.ble 6 (d + 1) = true) (a0 b0 : Nat → Nat → Int) (hv0 : iv a0) (hp0 : a0 105 5 ≤ 9) (hp1 : a0 2 3 = 0) : ∀ (y3 y4 : Int) (a : Nat → Nat → Int), iv a → jfr jW_X9_readClause_r2 a0 a → 0 ≤ y3 → y3 ≤ 11 → 0 ≤ y4 → y4 ≤ 200 → a 105 5 ≤ 9 → (TW (a0 3) (a0 2 1).toNat (a0 2 2).toNat 15) → (y3 = (a0 107 (a0 105 5).toNat)) → y3 ≤ 11 → (y4 = ((C2 (a0 3) (a0 2 1).toNat (a0 2 2).toNat) : Int)) → (a 2 2 = ((C2 (a0 3) (a0 2 1).toNat (a0 2 2).toNat) : Int)) → (UP (a0 108) (a 108) ((a0 105 5).toNat * 12 + (a0 107 (a0 105 5).toNat).toNat) (NV (a0 3) (a0 2 1).toNat (C1 (a0 3) (a0 2 1).toNat (a0 2 2).toNat))) → (a 2 3 = NF (a0 3) (a0 2 1).toNat (C1 (a0 3) (a0 2 1).toNat (a0 2 2).toNat) 0 3) → (∀ j, a 119 j = a0 119 j) → (∀ j, a 130 j = a0 130 j) → (∀ j, a 107 j = a0 107 j) → y3 = a 107 ((a0 105 5).toNat) → 1 ≤ a0 2 1 → jt (jxX E d 136 65 [some (.inr (.inr (.inl 105))), some (.inr (.inr (.inl 2))), none, some (.inl y3), some (.inl y4)] [] (jxSH, a, b0)) (jQ_X9_readClause_r2 a0 b0) := by
  intro y3 y4 a hv hf hi0 hi1 hi2 hi3 hi4 htw hy3 hi7 hy4 hat hu108 hft hs119 hs130 hs107 hi15 hi16
  refine jt_eq (bq_X9_readClause_r2_65 E d y3 y4 a b0) ?_
  have h1411_ := iv_get hv (k := 105) (j := 5) (l := 0) (u := 10) rfl
  have h1412_ : a 105 5 = a0 105 5 := hf 105 5 rfl
  have h1413_ := iv_get hv0 (k := 105) (j := 5) (l := 0) (u := 10) rfl
  have h1414_ := iv_get hv (k := 107) (j := (a0 105 5).toNat) (l := 0) (u := 12) rfl
  have h1415_ := iv_get hv0 (k := 2) (j := 1) (l := 0) (u := 200) rfl
  have h3 : a 3 = a0 3 := funext fun j => hf 3 j rfl
  have h21 := hf 2 1 rfl
  have hP : (a 2 2).toNat = (C2 (a0 3) (a0 2 1).toNat (a0 2 2).toNat) := by rw [hat]; exact Int.toNat_natCast _
  have hi : (a 105 5).toNat * 12 + y3.toNat = ((a0 105 5).toNat * 12 + (a0 107 (a0 105 5).toNat).toNat) := by rw [hf 105 5 rfl, hy3]
  refine jt_grd (by omega) ?_
  refine jt_bI (sp_X8_takeNumber E d (jd_le hd rfl) 1 500 a b0 hv) (fun r1416_ a1416_ b1416_ h1416_ => ?_)
  obtain ⟨hv1416_, hf1416_, rfl, hq1416_0, hq1416_1, hq1416_2, hq1416_3⟩ := h1416_
  refine jt_grd (by omega) ?_
  refine jt_grd (by omega) ?_
  have h1417_ := iv_get hv1416_ (k := 105) (j := 5) (l := 0) (u := 10) rfl
  have h1418_ : a1416_ 105 5 = a 105 5 := hf1416_ 105 5 rfl
  refine jt_grd (by omega) ?_
  refine jt_grd (by omega) ?_
  refine jt_grd (by omega) ?_
  refine jt_grd (by omega) ?_
  refine jt_grd (by omega) ?_
  refine jt_grd (by omega) ?_
  have hv1419_ : iv (jxu a1416_ 119 (((a 105 5).toNat) * 12 + (y3.toNat)) r1416_) := iv_put hv1416_ (l := 0) (u := 999) rfl (by omega) (by omega)
  refine jt_bI (sp_X9_lastGrams E d (jd_le hd rfl) (a1416_ 108 (((a1416_ 105 5).toNat) * 12 + (y3.toNat))) (jxu a1416_ 119 (((a 105 5).toNat) * 12 + (y3.toNat)) r1416_) b0 hv1419_ (show a1416_ 105 5 ≤ 9 from by omega)) (fun r1420_ a1420_ b1420_ h1420_ => ?_)
  obtain ⟨he1420_, rfl, hq1420_0⟩ := h1420_
  have hv1420_ : iv a1420_ := he1420_ ▸ hv1419_
  have hf1420_ : jfr [] (jxu a1416_ 119 (((a 105 5).toNat) * 12 + (y3.toNat)) r1416_) a1420_ := jfr_eq he1420_
  have h1421_ := iv_get hv1419_ (k := 119) (j := ((a1416_ 105 5).toNat) * 12 + (y3.toNat)) (l := 0) (u := 999) rfl
  have h1422_ := jxu_sp a1416_ 119 (((a 105 5).toNat) * 12 + (y3.toNat)) r1416_ (((a1416_ 105 5).toNat) * 12 + (y3.toNat))
  have h1423_ := iv_get hv1416_ (k := 119) (j := ((a1416_ 105 5).toNat) * 12 + (y3.toNat)) (l := 0) (u := 999) rfl
  have h1424_ : a1416_ 119 (((a1416_ 105 5).toNat) * 12 + (y3.toNat)) = a 119 (((a1416_ 105 5).toNat) * 12 + (y3.toNat)) := hf1416_ 119 (((a1416_ 105 5).toNat) * 12 + (y3.toNat)) rfl
  have h1425_ := iv_get hv (k := 119) (j := ((a1416_ 105 5).toNat) * 12 + (y3.toNat)) (l := 0) (u := 999) rfl
  refine jt_ite (fun c1426_ => ?_) (fun c1426_ => ?_)
  ·
    have hf1427_ : jfr jW_X9_readClause_r2 a0 a1416_ := jfr_tr hf hf1416_ rfl
    have hf1428_ : jfr jW_X9_readClause_r2 a0 (jxu a1416_ 119 (((a 105 5).toNat) * 12 + (y3.toNat)) r1416_) := jfr_put hf1427_ rfl
    have hf1429_ : jfr jW_X9_readClause_r2 a0 a1420_ := jfr_tr hf1428_ hf1420_ rfl
    have h1430_ := iv_get hv1420_ (k := 105) (j := 5) (l := 0) (u := 10) rfl
    have h1431_ : a1420_ 105 5 = a1416_ 105 5 := hf1420_ 105 5 rfl
    have h1432_ := iv_get hv1420_ (k := 107) (j := (a0 105 5).toNat) (l := 0) (u := 12) rfl
    have h1433_ : a1420_ 107 ((a0 105 5).toNat) = a1416_ 107 ((a0 105 5).toNat) := hf1420_ 107 ((a0 105 5).toNat) rfl
    have h1434_ := iv_get hv1416_ (k := 107) (j := (a0 105 5).toNat) (l := 0) (u := 12) rfl
    have h1435_ : a1416_ 107 ((a0 105 5).toNat) = a 107 ((a0 105 5).toNat) := hf1416_ 107 ((a0 105 5).toNat) rfl
    exact cp_X9_readClause_r2_120 E d hd a0 b0 hv0 hp0 hp1 y3 a1420_ hv1420_ hf1429_ (show 0 ≤ y3 from by omega) (show y3 ≤ 11 from by omega) (show a1420_ 105 5 ≤ 9 from by omega) (by first | exact htw | exact (hq1420_3 (by omega)).2.1) (by first | exact hy3 | (rw [hf1420_ 107 _ rfl, hf1420_ 105 5 rfl])) (show y3 ≤ 11 from by omega) (UP_cr hu108 (fun j => ((hf1420_ 108 j rfl).trans (hf1416_ 108 j rfl)))) (by have e0 := hq1416_0; have e1 := hq1416_1; have e2 := hq1416_2; rw [h3, h21, hP] at e0 e1 e2; rw [← hi, ← e0]; exact UP_cr (UP_put (fun j => (hf1416_ 119 j rfl).trans (hs119 j))) (fun j => hf1420_ 119 j rfl)) (fun j => (((hf1420_ 130 j rfl).trans (hf1416_ 130 j rfl))).trans (hs130 j)) (fun j => (((hf1420_ 107 j rfl).trans (hf1416_ 107 j rfl))).trans (hs107 j)) (by have e0 := hq1416_0; have e1 := hq1416_1; have e2 := hq1416_2; rw [h3, h21, hP] at e0 e1 e2; exact (hf1420_ 2 2 rfl).trans e1) (by have e0 := hq1416_0; have e1 := hq1416_1; have e2 := hq1416_2; rw [h3, h21, hP] at e0 e1 e2; have hl := hq1420_0; have hU8 : UP (a0 108) (a1416_ 108) ((a0 105 5).toNat * 12 + (a0 107 (a0 105 5).toNat).toNat) _ := UP_cr hu108 (fun j => hf1416_ 108 j rfl); have hU9 : UP (a0 119) (jxu a1416_ 119 ((a0 105 5).toNat * 12 + (a0 107 (a0 105 5).toNat).toNat) r1416_ 119) ((a0 105 5).toNat * 12 + (a0 107 (a0 105 5).toNat).toNat) r1416_ := UP_put (fun j => (hf1416_ 119 j rfl).trans (hs119 j)); have hlr : r1420_ = LSa a0 := (by rw [hl]; show LG (fun c => a1416_ 108 ((a1416_ 105 5).toNat * 12 + c)) (fun c => jxu a1416_ 119 ((a 105 5).toNat * 12 + y3.toNat) r1416_ 119 ((a1416_ 105 5).toNat * 12 + c)) (a1416_ 108 ((a1416_ 105 5).toNat * 12 + y3.toNat)) (a1416_ 107 (a1416_ 105 5).toNat).toNat = _; rw [hf1416_ 105 5 rfl, hi, hf1416_ 107 _ rfl, hs107, hf 105 5 rfl, LG_keep hU8 hU9, hU8 _, if_pos rfl]; rfl); have hb := LSa_bd hv0; rw [NF_two_ok hb.1 (by rw [← hlr, ← e0]; omega)]; rw [hft] at e2; rw [hf1420_ 2 3 rfl]; show a1416_ 2 3 = _; rw [e2]; split <;> (try split) <;> (try split) <;> first | rfl | omega) (show y3 = a1420_ 107 ((a0 105 5).toNat) from by omega) (show 1 ≤ a0 2 1 from by omega)
  ·
    have hf1436_ : jfr jW_X9_readClause_r2 a0 a1416_ := jfr_tr hf hf1416_ rfl
    have hf1437_ : jfr jW_X9_readClause_r2 a0 (jxu a1416_ 119 (((a 105 5).toNat) * 12 + (y3.toNat)) r1416_) := jfr_put hf1436_ rfl
    have hf1438_ : jfr jW_X9_readClause_r2 a0 a1420_ := jfr_tr hf1437_ hf1420_ rfl
    have h1439_ := iv_get hv1420_ (k := 105) (j := 5) (l := 0) (u := 10) rfl
    have h1440_ : a1420_ 105 5 = a1416_ 105 5 := hf1420_ 105 5 rfl
    have h1441_ := iv_get hv1420_ (k := 107) (j := (a0 105 5).toNat) (l := 0) (u := 12) rfl
    have h1442_ : a1420_ 107 ((a0 105 5).toNat) = a1416_ 107 ((a0 105 5).toNat) := hf1420_ 107 ((a0 105 5).toNat) rfl
    have h1443_ := iv_get hv1416_ (k := 107) (j := (a0 105 5).toNat) (l := 0) (u := 12) rfl
    have h1444_ : a1416_ 107 ((a0 105 5).toNat) = a 107 ((a0 105 5).toNat) := hf1416_ 107 ((a0 105 5).toNat) rfl
    exact cp_X9_readClause_r2_113 E d hd a0 b0 hv0 hp0 hp1 y3 y4 a1420_ hv1420_ hf1438_ (show 0 ≤ y3 from by omega) (show y3 ≤ 11 from by omega) (show 0 ≤ y4 from by omega) (show y4 ≤ 200 from by omega) (show a1420_ 105 5 ≤ 9 from by omega) (by first | exact htw | exact (hq1420_3 (by omega)).2.1) (by first | exact hy3 | (rw [hf1420_ 107 _ rfl, hf1420_ 105 5 rfl])) (show y3 ≤ 11 from by omega) (UP_cr hu108 (fun j => ((hf1420_ 108 j rfl).trans (hf1416_ 108 j rfl)))) (by have e0 := hq1416_0; have e1 := hq1416_1; have e2 := hq1416_2; rw [h3, h21, hP] at e0 e1 e2; rw [← hi, ← e0]; exact UP_cr (UP_put (fun j => (hf1416_ 119 j rfl).trans (hs119 j))) (fun j => hf1420_ 119 j rfl)) (fun j => (((hf1420_ 130 j rfl).trans (hf1416_ 130 j rfl))).trans (hs130 j)) (fun j => (((hf1420_ 107 j rfl).trans (hf1416_ 107 j rfl))).trans (hs107 j)) (by have e0 := hq1416_0; have e1 := hq1416_1; have e2 := hq1416_2; rw [h3, h21, hP] at e0 e1 e2; exact (hf1420_ 2 2 rfl).trans e1) hy4 (by have e0 := hq1416_0; have e1 := hq1416_1; have e2 := hq1416_2; rw [h3, h21, hP] at e0 e1 e2; rw [hft] at e2; exact (hf1420_ 2 3 rfl).trans e2) (by have e0 := hq1416_0; have e1 := hq1416_1; have e2 := hq1416_2; rw [h3, h21, hP] at e0 e1 e2; have hl := hq1420_0; have hU8 : UP (a0 108) (a1416_ 108) ((a0 105 5).toNat * 12 + (a0 107 (a0 105 5).toNat).toNat) _ := UP_cr hu108 (fun j => hf1416_ 108 j rfl); have hU9 : UP (a0 119) (jxu a1416_ 119 ((a0 105 5).toNat * 12 + (a0 107 (a0 105 5).toNat).toNat) r1416_ 119) ((a0 105 5).toNat * 12 + (a0 107 (a0 105 5).toNat).toNat) r1416_ := UP_put (fun j => (hf1416_ 119 j rfl).trans (hs119 j)); have hlr : r1420_ = LSa a0 := (by rw [hl]; show LG (fun c => a1416_ 108 ((a1416_ 105 5).toNat * 12 + c)) (fun c => jxu a1416_ 119 ((a 105 5).toNat * 12 + y3.toNat) r1416_ 119 ((a1416_ 105 5).toNat * 12 + c)) (a1416_ 108 ((a1416_ 105 5).toNat * 12 + y3.toNat)) (a1416_ 107 (a1416_ 105 5).toNat).toNat = _; rw [hf1416_ 105 5 rfl, hi, hf1416_ 107 _ rfl, hs107, hf 105 5 rfl, LG_keep hU8 hU9, hU8 _, if_pos rfl]; rfl); rw [← hlr, ← e0]; omega) (show y3 = a1420_ 107 ((a0 105 5).toNat) from by omega) (show 1 ≤ a0 2 1 from by omega)
theorem cp_X9_readClause_r2_42 (E : jxE) (d : Nat) (hd : Nat.ble 6 (d + 1) = true) (a0 b0 : Nat → Nat → Int) (hv0 : iv a0) (hp0 : a0 105 5 ≤ 9) (hp1 : a0 2 3 = 0) : ∀ (y3 : Int) (a : Nat → Nat → Int), iv a → jfr jW_X9_readClause_r2 a0 a → 0 ≤ y3 → y3 ≤ 11 → a 105 5 ≤ 9 → (TW (a0 3) (a0 2 1).toNat (a0 2 2).toNat 15) → (y3 = (a0 107 (a0 105 5).toNat)) → y3 ≤ 11 → (a 2 2 = ((C1 (a0 3) (a0 2 1).toNat (a0 2 2).toNat) : Int)) → a 2 3 = 0 → (∀ j, a 108 j = a0 108 j) → (∀ j, a 119 j = a0 119 j) → (∀ j, a 130 j = a0 130 j) → (∀ j, a 107 j = a0 107 j) → y3 = a 107 ((a0 105 5).toNat) → 1 ≤ a0 2 1 → jt (jxX E d 136 42 [some (.inr (.inr (.inl 105))), some (.inr (.inr (.inl 2))), none, some (.inl y3), none] [] (jxSH, a, b0)) (jQ_X9_readClause_r2 a0 b0) := by
  intro y3 a hv hf hi0 hi1 hi2 htw hy3 hi5 hat hi7 hs108 hs119 hs130 hs107 hi12 hi13
  refine jt_eq (bq_X9_readClause_r2_42 E d y3 a b0) ?_
  have h1445_ := iv_get hv (k := 105) (j := 5) (l := 0) (u := 10) rfl
  have h1446_ : a 105 5 = a0 105 5 := hf 105 5 rfl
  have h1447_ := iv_get hv0 (k := 105) (j := 5) (l := 0) (u := 10) rfl
  have h1448_ := iv_get hv (k := 107) (j := (a0 105 5).toNat) (l := 0) (u := 12) rfl
  have h1449_ := iv_get hv0 (k := 2) (j := 1) (l := 0) (u := 200) rfl
  have h3 : a 3 = a0 3 := funext fun j => hf 3 j rfl
  have h21 := hf 2 1 rfl
  have hP : (a 2 2).toNat = (C1 (a0 3) (a0 2 1).toNat (a0 2 2).toNat) := by rw [hat]; exact Int.toNat_natCast _
  have hi : (a 105 5).toNat * 12 + y3.toNat = ((a0 105 5).toNat * 12 + (a0 107 (a0 105 5).toNat).toNat) := by rw [hf 105 5 rfl, hy3]
  refine jt_grd (by omega) ?_
  refine jt_bI (sp_X8_takeNumber E d (jd_le hd rfl) 0 3 a b0 hv) (fun r1450_ a1450_ b1450_ h1450_ => ?_)
  obtain ⟨hv1450_, hf1450_, rfl, hq1450_0, hq1450_1, hq1450_2, hq1450_3⟩ := h1450_
  refine jt_grd (by omega) ?_
  refine jt_grd (by omega) ?_
  refine jt_eI (eq_X8_place E d (jd_le hd rfl) (jxu a1450_ 108 (((a 105 5).toNat) * 12 + (y3.toNat)) r1450_) b0) ?_
  have hv1451_ : iv (jxu a1450_ 108 (((a 105 5).toNat) * 12 + (y3.toNat)) r1450_) := iv_put hv1450_ (l := 0) (u := 999) rfl (by omega) (by omega)
  have hf1452_ : jfr jW_X9_readClause_r2 a0 a1450_ := jfr_tr hf hf1450_ rfl
  have hf1453_ : jfr jW_X9_readClause_r2 a0 (jxu a1450_ 108 (((a 105 5).toNat) * 12 + (y3.toNat)) r1450_) := jfr_put hf1452_ rfl
  have h1454_ : f_X8_place (jxu a1450_ 108 (((a 105 5).toNat) * 12 + (y3.toNat)) r1450_) b0 = (a1450_ 2 2) := f_X8_place_eq (jxu a1450_ 108 (((a 105 5).toNat) * 12 + (y3.toNat)) r1450_) b0
  have h1455_ := iv_get hv1450_ (k := 2) (j := 2) (l := 0) (u := 200) rfl
  have h1456_ := iv_get hv1450_ (k := 105) (j := 5) (l := 0) (u := 10) rfl
  have h1457_ : a1450_ 105 5 = a 105 5 := hf1450_ 105 5 rfl
  have h1458_ := iv_get hv1450_ (k := 107) (j := (a0 105 5).toNat) (l := 0) (u := 12) rfl
  have h1459_ : a1450_ 107 ((a0 105 5).toNat) = a 107 ((a0 105 5).toNat) := hf1450_ 107 ((a0 105 5).toNat) rfl
  exact cp_X9_readClause_r2_65 E d hd a0 b0 hv0 hp0 hp1 y3 (f_X8_place (jxu a1450_ 108 (((a 105 5).toNat) * 12 + (y3.toNat)) r1450_) b0) (jxu a1450_ 108 (((a 105 5).toNat) * 12 + (y3.toNat)) r1450_) hv1451_ hf1453_ (show 0 ≤ y3 from by omega) (show y3 ≤ 11 from by omega) (show 0 ≤ f_X8_place (jxu a1450_ 108 (((a 105 5).toNat) * 12 + (y3.toNat)) r1450_) b0 from by omega) (show f_X8_place (jxu a1450_ 108 (((a 105 5).toNat) * 12 + (y3.toNat)) r1450_) b0 ≤ 200 from by omega) (show a1450_ 105 5 ≤ 9 from by omega) (by first | exact htw | exact (hq1450_3 (by omega)).2.1) (by first | exact hy3 | (rw [hf1450_ 107 _ rfl, hf1450_ 105 5 rfl])) (show y3 ≤ 11 from by omega) (by have e0 := hq1450_0; have e1 := hq1450_1; have e2 := hq1450_2; rw [h3, h21, hP] at e0 e1 e2; exact e1) (by have e0 := hq1450_0; have e1 := hq1450_1; have e2 := hq1450_2; rw [h3, h21, hP] at e0 e1 e2; exact e1) (by have e0 := hq1450_0; have e1 := hq1450_1; have e2 := hq1450_2; rw [h3, h21, hP] at e0 e1 e2; rw [← hi, ← e0]; exact UP_put (fun j => (hf1450_ 108 j rfl).trans (hs108 j))) (by have e0 := hq1450_0; have e1 := hq1450_1; have e2 := hq1450_2; rw [h3, h21, hP] at e0 e1 e2; rw [if_pos (by omega)] at e2; exact e2) (fun j => ((hf1450_ 119 j rfl)).trans (hs119 j)) (fun j => ((hf1450_ 130 j rfl)).trans (hs130 j)) (fun j => ((hf1450_ 107 j rfl)).trans (hs107 j)) (show y3 = a1450_ 107 ((a0 105 5).toNat) from by omega) (show 1 ≤ a0 2 1 from by omega)
theorem sp_X9_readClause_r2 (E : jxE) (d : Nat) (hd : Nat.ble 6 d = true) (a0 b0 : Nat → Nat → Int) (hv0 : iv a0) (hp0 : a0 105 5 ≤ 9) (hp1 : a0 2 3 = 0) : jt (jxC E d 136 [.inr (.inr (.inl 105)), .inr (.inr (.inl 2))] (jxSH, a0, b0)) (jQ_X9_readClause_r2 a0 b0) := by
  obtain ⟨d, rfl⟩ := jd_succ hd
  refine jt_eq (bq_X9_readClause_r2 E d a0 b0) ?_
  have h1460_ := iv_get hv0 (k := 105) (j := 5) (l := 0) (u := 10) rfl
  refine jt_eI (eq_X8_place E d (jd_le hd rfl) a0 b0) ?_
  refine jt_bI (sp_X8_takesWord_r1015 E d (jd_le hd rfl) a0 b0 hv0) (fun r1461_ a1461_ b1461_ h1461_ => ?_)
  obtain ⟨hv1461_, hf1461_, rfl, hq1461_0, hq1461_1, hq1461_2, hq1461_3, hq1461_4⟩ := h1461_
  have h1462_ := iv_get hv0 (k := 2) (j := 1) (l := 0) (u := 200) rfl
  have h1463_ := iv_get hv0 (k := 2) (j := 2) (l := 0) (u := 200) rfl
  have h1464_ := iv_get hv1461_ (k := 2) (j := 2) (l := 0) (u := 200) rfl
  refine jt_ite (fun c1465_ => ?_) (fun c1465_ => ?_)
  ·
    refine jt_bV (sp_X8_noteCannotStand E d (jd_le hd rfl) a1461_ b0 hv1461_) (fun a1466_ b1466_ h1466_ => ?_)
    obtain ⟨hv1466_, hf1466_, rfl, hq1466_0, hq1466_1⟩ := h1466_
    have h1467_ : a1461_ 2 3 = a0 2 3 := hf1461_ 2 3 rfl
    have hf1468_ : jfr jW_X9_readClause_r2 a0 a1461_ := jfr_tr (jfr_rf _ _) hf1461_ rfl
    have hf1469_ : jfr jW_X9_readClause_r2 a0 a1466_ := jfr_tr hf1468_ hf1466_ rfl
    have h1470_ := iv_get hv1466_ (k := 2) (j := 2) (l := 0) (u := 200) rfl
    have h1471_ : a1466_ 2 2 = a1461_ 2 2 := hf1466_ 2 2 rfl
    exact jt_rV ⟨hv1466_, hf1469_, rfl, (show (((a0 2 1 = 0 ∧ a0 2 2 = 0) ∧ a0 2 3 = 0) → (a1466_ 2 3 = 1 ∧ a1466_ 2 2 = 0)) from by omega), (by rw [CF_no ((hq1461_4 (by omega)).resolve_left (fun h => h (by omega)))]; omega), (Or.inr ⟨fun j => ⟨((hf1466_ 108 j rfl).trans (hf1461_ 108 j rfl)), ((hf1466_ 119 j rfl).trans (hf1461_ 119 j rfl)), ((hf1466_ 130 j rfl).trans (hf1461_ 130 j rfl)), ((hf1466_ 107 j rfl).trans (hf1461_ 107 j rfl))⟩, (by rw [CF_no ((hq1461_4 (by omega)).resolve_left (fun h => h (by omega)))]; omega)⟩), (fun h => absurd h (by rw [CF_no ((hq1461_4 (by omega)).resolve_left (fun h => h (by omega)))]; omega))⟩
  ·
    have h1472_ := iv_get hv1461_ (k := 105) (j := 5) (l := 0) (u := 10) rfl
    have h1473_ : a1461_ 105 5 = a0 105 5 := hf1461_ 105 5 rfl
    refine jt_grd (by omega) ?_
    have h1474_ : a1461_ 107 ((a1461_ 105 5).toNat) = a1461_ 107 ((a0 105 5).toNat) := by rw [show a1461_ 105 5 = a0 105 5 from by omega]
    have h1475_ := iv_get hv1461_ (k := 107) (j := (a0 105 5).toNat) (l := 0) (u := 12) rfl
    have h1476_ : a1461_ 107 ((a0 105 5).toNat) = a0 107 ((a0 105 5).toNat) := hf1461_ 107 ((a0 105 5).toNat) rfl
    have h1477_ := iv_get hv0 (k := 107) (j := (a0 105 5).toNat) (l := 0) (u := 12) rfl
    have h1478_ := iv_get hv1461_ (k := 107) (j := (a1461_ 105 5).toNat) (l := 0) (u := 12) rfl
    have h1479_ : a1461_ 107 ((a1461_ 105 5).toNat) = a0 107 ((a1461_ 105 5).toNat) := hf1461_ 107 ((a1461_ 105 5).toNat) rfl
    have h1480_ : a0 107 ((a1461_ 105 5).toNat) = a0 107 ((a0 105 5).toNat) := by rw [show a1461_ 105 5 = a0 105 5 from by omega]
    have h1481_ := iv_get hv0 (k := 107) (j := (a1461_ 105 5).toNat) (l := 0) (u := 12) rfl
    refine jt_ite (fun c1482_ => ?_) (fun c1482_ => ?_)
    ·
      have hf1483_ : jfr jW_X9_readClause_r2 a0 a1461_ := jfr_tr (jfr_rf _ _) hf1461_ rfl
      have h1484_ : a1461_ 2 3 = a0 2 3 := hf1461_ 2 3 rfl
      exact cp_X9_readClause_r2_42 E d hd a0 b0 hv0 hp0 hp1 (a1461_ 107 ((a1461_ 105 5).toNat)) a1461_ hv1461_ hf1483_ (show 0 ≤ a1461_ 107 ((a1461_ 105 5).toNat) from by omega) (show a1461_ 107 ((a1461_ 105 5).toNat) ≤ 11 from by omega) (show a1461_ 105 5 ≤ 9 from by omega) (by first | exact htw | exact (hq1461_3 (by omega)).2.1) (by first | exact hy3 | (rw [hf1461_ 107 _ rfl, hf1461_ 105 5 rfl])) (show a1461_ 107 ((a1461_ 105 5).toNat) ≤ 11 from by omega) ((hq1461_3 (by omega)).2.2) (show a1461_ 2 3 = 0 from by omega) (fun j => (hf1461_ 108 j rfl)) (fun j => (hf1461_ 119 j rfl)) (fun j => (hf1461_ 130 j rfl)) (fun j => (hf1461_ 107 j rfl)) (show a1461_ 107 ((a1461_ 105 5).toNat) = a1461_ 107 ((a0 105 5).toNat) from by omega) (show 1 ≤ a0 2 1 from by omega)
    ·
      have hf1485_ : jfr jW_X9_readClause_r2 a0 a1461_ := jfr_tr (jfr_rf _ _) hf1461_ rfl
      have h1486_ := f_X8_place_eq a0 b0
      have h1487_ : a1461_ 2 3 = a0 2 3 := hf1461_ 2 3 rfl
      exact cp_X9_readClause_r2_35 E d hd a0 b0 hv0 hp0 hp1 (f_X8_place a0 b0) a1461_ hv1461_ hf1485_ (show 0 ≤ f_X8_place a0 b0 from by omega) (show f_X8_place a0 b0 ≤ 200 from by omega) (show a1461_ 105 5 ≤ 9 from by omega) (by first | exact htw | exact (hq1461_3 (by omega)).2.1) (by have e := hf1461_ 107 ((a1461_ 105 5).toNat) rfl; rw [hf1461_ 105 5 rfl] at *; omega) (by rfl) (show a1461_ 2 3 = 0 from by omega) (fun j => (hf1461_ 108 j rfl)) (fun j => (hf1461_ 119 j rfl)) (fun j => (hf1461_ 130 j rfl)) (fun j => (hf1461_ 107 j rfl)) (show 1 ≤ a0 2 1 from by omega)
def jW_X9_read_r2 : List (Nat × Nat) := [(2, 2), (2, 3), (105, 5), (106, 9999), (107, 9999), (108, 9999), (119, 9999), (130, 9999)]
abbrev jQ_X9_read_r2 (x2 : Int) (a0 b0 : Nat → Nat → Int) : List jxV → (Nat → Nat → Int) → (Nat → Nat → Int) → Prop := rI (fun r a b => (iv a) ∧ (jfr jW_X9_read_r2 a0 a) ∧ (b0 = b) ∧ (((a0 2 1 = 0 ∧ a0 105 5 ≤ 9) → r = 0 - 3)) ∧ (a0 105 5 ≤ 9 → RTR (a0 3) (a0 2 1).toNat r) ∧ (a0 105 5 ≤ 9 → (1 ≤ r ∧ a 105 5 = a0 105 5 + 1) ∨ (r < 0 ∧ a 105 5 = a0 105 5)) ∧ (KPR a0 a (a0 105 5).toNat) ∧ (1 ≤ r → RWS a (a0 3) (a0 2 1).toNat (a0 105 5).toNat r.toNat ∧ a 107 (a0 105 5).toNat = r ∧ UP (a0 106) (a 106) (a0 105 5).toNat x2) ∧ (r < 0 → ∀ j, a 106 j = a0 106 j))
theorem cp_X9_read_r2_70 (E : jxE) (d : Nat) (hd : Nat.ble 7 (d + 1) = true) (x2 : Int) (a0 b0 : Nat → Nat → Int) (hv0 : iv a0) : ∀ (y2 : Int) (a : Nat → Nat → Int), iv a → jfr jW_X9_read_r2 a0 a → a 105 5 ≤ 9 → (a0 2 1 = 0 → (a 2 2 = 0 ∧ a 2 3 = 1)) → a 105 5 = a0 105 5 → a 105 5 ≤ 9 → (KPR a0 a (a0 105 5).toNat) → (RD7 a0 a (a0 105 5).toNat) → (y2 = x2) → (∀ j, a 106 j = a0 106 j) → jt (jxX E d 135 70 [some (.inr (.inr (.inl 105))), some (.inr (.inr (.inl 2))), some (.inl y2), none, none] [] (jxSH, a, b0)) (jQ_X9_read_r2 x2 a0 b0) := by
  intro y2 a hv hf hi0 hi1 hi2 hi3 hkp hrd hy2 hs106
  refine jt_eq (bq_X9_read_r2_70 E d y2 a b0) ?_
  have h1488_ := iv_get hv (k := 105) (j := 5) (l := 0) (u := 10) rfl
  have h1489_ := iv_get hv0 (k := 2) (j := 1) (l := 0) (u := 200) rfl
  have h1490_ := iv_get hv (k := 2) (j := 2) (l := 0) (u := 200) rfl
  have h1491_ := iv_get hv0 (k := 105) (j := 5) (l := 0) (u := 10) rfl
  have h3 : a 3 = a0 3 := funext fun j => hf 3 j rfl
  have h21 := hf 2 1 rfl
  have h105 : True := trivial
  refine jt_eI (eq_X8_isFaulty E d (jd_le hd rfl) a b0) ?_
  have h1492_ := f_X8_isFaulty_eq a b0
  refine jt_ite (fun c1493_ => ?_) (fun c1493_ => ?_)
  ·
    refine jt_grd (by omega) ?_
    refine jt_grd (by omega) ?_
    have hv1494_ : iv (jxu a 106 ((a 105 5).toNat) y2) := iv_putf hv rfl
    have h1496_ : jxw ((a 105 5) + 1) = (a 105 5) + 1 := jxw_id (by omega) (by omega)
    have hv1495_ : iv (jxu (jxu a 106 ((a 105 5).toNat) y2) 105 5 (jxw ((a 105 5) + 1))) := iv_put hv1494_ (l := 0) (u := 10) rfl (by omega) (by omega)
    have hf1497_ : jfr jW_X9_read_r2 a0 (jxu a 106 ((a 105 5).toNat) y2) := jfr_put hf rfl
    have hf1498_ : jfr jW_X9_read_r2 a0 (jxu (jxu a 106 ((a 105 5).toNat) y2) 105 5 (jxw ((a 105 5) + 1))) := jfr_put hf1497_ rfl
    have h1499_ := iv_get hv (k := 107) (j := (a 105 5).toNat) (l := 0) (u := 12) rfl
    exact jt_rI ⟨hv1495_, hf1498_, rfl, (show ((a0 2 1 = 0 ∧ a0 105 5 ≤ 9) → a 107 ((a 105 5).toNat) = 0 - 3) from by omega), (fun _ => by have e5 : (a 105 5).toNat = (a0 105 5).toNat := (by rw [show a 105 5 = a0 105 5 from by omega]); rw [e5]; exact (hrd.1 (by omega)).1), (fun _ => Or.inl ⟨by have q := (hrd.1 (by omega)).2.1; have e5 : (a 105 5).toNat = (a0 105 5).toNat := (by rw [show a 105 5 = a0 105 5 from by omega]); rw [e5]; exact q, show jxw ((a 105 5) + 1) = _ from by omega⟩), hkp, (fun _ => by have e5 : (a 105 5).toNat = (a0 105 5).toNat := (by rw [show a 105 5 = a0 105 5 from by omega]); rw [e5]; exact ⟨(hrd.1 (by omega)).2.2, rfl, by rw [← hy2, ← e5]; exact UP_put (fun j => hs106 j)⟩), (fun h => absurd h (by have q := (hrd.1 (by omega)).2.1; have e5 : (a 105 5).toNat = (a0 105 5).toNat := (by rw [show a 105 5 = a0 105 5 from by omega]); rw [← e5] at q; omega))⟩
  ·
    refine jt_eI (eq_X8_answerOfFault E d (jd_le hd rfl) a b0) ?_
    have h1500_ := f_X8_answerOfFault_eq a b0
    have h1501_ := jxw_im ((-2) - (a 2 3))
    have h1502_ := jxw_rg ((-2) - (a 2 3))
    exact jt_rI ⟨hv, hf, rfl, (show ((a0 2 1 = 0 ∧ a0 105 5 ≤ 9) → f_X8_answerOfFault a b0 = 0 - 3) from by omega), (fun _ => by have e5 : (a 105 5).toNat = (a0 105 5).toNat := (by rw [show a 105 5 = a0 105 5 from by omega]); have q := (hrd.2 (by omega)).1; have q2 := RTR_bd q (tn200 hv0); have q3 := (hrd.2 (by omega)).2; rw [show f_X8_answerOfFault a b0 = -2 - a 2 3 from by omega]; exact q), (fun _ => Or.inr ⟨by have q := (hrd.2 (by omega)).2; have q2 := RTR_bd (hrd.2 (by omega)).1 (tn200 hv0); omega, by omega⟩), hkp, (fun h => absurd h (by have q := (hrd.2 (by omega)).2; have q2 := RTR_bd (hrd.2 (by omega)).1 (tn200 hv0); omega)), (fun _ => hs106)⟩
theorem cp_X9_read_r2_59 (E : jxE) (d : Nat) (hd : Nat.ble 7 (d + 1) = true) (x2 : Int) (a0 b0 : Nat → Nat → Int) (hv0 : iv a0) : ∀ (y2 : Int) (a : Nat → Nat → Int), iv a → jfr jW_X9_read_r2 a0 a → a 105 5 ≤ 9 → (a0 2 1 = 0 → (a 2 2 = 0 ∧ a 2 3 = 1)) → a 105 5 = a0 105 5 → a 105 5 ≤ 9 → (KPR a0 a (a0 105 5).toNat) → (RDE a0 a (a0 105 5).toNat) → (y2 = x2) → (∀ j, a 106 j = a0 106 j) → jt (jxX E d 135 59 [some (.inr (.inr (.inl 105))), some (.inr (.inr (.inl 2))), some (.inl y2), none, none] [] (jxSH, a, b0)) (jQ_X9_read_r2 x2 a0 b0) := by
  intro y2 a hv hf hi0 hi1 hi2 hi3 hkp hre hy2 hs106
  refine jt_eq (bq_X9_read_r2_59 E d y2 a b0) ?_
  have h1503_ := iv_get hv (k := 105) (j := 5) (l := 0) (u := 10) rfl
  have h1504_ := iv_get hv0 (k := 2) (j := 1) (l := 0) (u := 200) rfl
  have h1505_ := iv_get hv (k := 2) (j := 2) (l := 0) (u := 200) rfl
  have h1506_ := iv_get hv0 (k := 105) (j := 5) (l := 0) (u := 10) rfl
  have h3 : a 3 = a0 3 := funext fun j => hf 3 j rfl
  have h21 := hf 2 1 rfl
  have h105 : True := trivial
  refine jt_eI (eq_X8_isAtEnd E d (jd_le hd rfl) a b0) ?_
  have h1507_ := f_X8_isAtEnd_eq a b0
  have h1508_ := iv_get hv (k := 2) (j := 1) (l := 0) (u := 200) rfl
  have h1509_ : a 2 1 = a0 2 1 := hf 2 1 rfl
  refine jt_ite (fun c1510_ => ?_) (fun c1510_ => ?_)
  ·
    refine jt_bV (sp_X8_noteCannotStand E d (jd_le hd rfl) a b0 hv) (fun a1511_ b1511_ h1511_ => ?_)
    obtain ⟨hv1511_, hf1511_, rfl, hq1511_0, hq1511_1⟩ := h1511_
    have hf1512_ : jfr jW_X9_read_r2 a0 a1511_ := jfr_tr hf hf1511_ rfl
    have h1513_ := iv_get hv1511_ (k := 105) (j := 5) (l := 0) (u := 10) rfl
    have h1514_ : a1511_ 105 5 = a 105 5 := hf1511_ 105 5 rfl
    have h1515_ := iv_get hv1511_ (k := 2) (j := 2) (l := 0) (u := 200) rfl
    have h1516_ : a1511_ 2 2 = a 2 2 := hf1511_ 2 2 rfl
    exact cp_X9_read_r2_70 E d hd x2 a0 b0 hv0 y2 a1511_ hv1511_ hf1512_ (show a1511_ 105 5 ≤ 9 from by omega) (show (a0 2 1 = 0 → (a1511_ 2 2 = 0 ∧ a1511_ 2 3 = 1)) from by omega) (show a1511_ 105 5 = a0 105 5 from by omega) (show a1511_ 105 5 ≤ 9 from by omega) (KPR_cl hkp (fun j => ⟨(hf1511_ 108 j rfl), (hf1511_ 119 j rfl), (hf1511_ 130 j rfl), (hf1511_ 107 j rfl)⟩)) (RD_end2 hre (hf 2 1 rfl) (by omega) (by omega) hq1511_0 hq1511_1) (by first | rfl | assumption) (fun j => ((hf1511_ 106 j rfl)).trans (hs106 j))
  ·
    exact cp_X9_read_r2_70 E d hd x2 a0 b0 hv0 y2 a hv hf (show a 105 5 ≤ 9 from by omega) (show (a0 2 1 = 0 → (a 2 2 = 0 ∧ a 2 3 = 1)) from by omega) (show a 105 5 = a0 105 5 from by omega) (show a 105 5 ≤ 9 from by omega) (KPR_cl hkp (fun j => ⟨rfl, rfl, rfl, rfl⟩)) (RD_end1 hre (hf 2 1 rfl) (by omega)) (by first | rfl | assumption) (fun j => (rfl).trans (hs106 j))
theorem cp_X9_read_r2_30 (E : jxE) (d : Nat) (hd : Nat.ble 7 (d + 1) = true) (x2 : Int) (a0 b0 : Nat → Nat → Int) (hv0 : iv a0) : ∀ n : Nat, (∀ (y2 y3 y4 : Int) (a : Nat → Nat → Int), (((13 - y4) * 1) + 0).toNat ≤ n → iv a → jfr jW_X9_read_r2 a0 a → 0 ≤ y3 → y3 ≤ 1 → 0 ≤ y4 → y4 ≤ 13 → a 105 5 ≤ 9 → (a0 2 1 = 0 → ((((a 2 2 = 0 ∧ y4 = 0) ∧ ¬ y3 = 0) ∧ a 2 3 = 0) ∨ ((a 2 2 = 0 ∧ y3 = 0) ∧ a 2 3 = 1))) → a 105 5 = a0 105 5 → a 105 5 ≤ 9 → (KPR a0 a (a0 105 5).toNat) → (¬ y3 = 0 → RDL a0 a (a0 105 5).toNat y4) → (y3 = 0 → RDE a0 a (a0 105 5).toNat) → (y2 = x2) → (∀ j, a 106 j = a0 106 j) → jt (jxX E d 135 30 [some (.inr (.inr (.inl 105))), some (.inr (.inr (.inl 2))), some (.inl y2), some (.inl y3), some (.inl y4)] [] (jxSH, a, b0)) (jQ_X9_read_r2 x2 a0 b0)) := by
  refine jx_ind fun n ih => ?_
  have ih30 : ∀ (y2 y3 y4 : Int) (a : Nat → Nat → Int), (((13 - y4) * 1) + 0).toNat < n → iv a → jfr jW_X9_read_r2 a0 a → 0 ≤ y3 → y3 ≤ 1 → 0 ≤ y4 → y4 ≤ 13 → a 105 5 ≤ 9 → (a0 2 1 = 0 → ((((a 2 2 = 0 ∧ y4 = 0) ∧ ¬ y3 = 0) ∧ a 2 3 = 0) ∨ ((a 2 2 = 0 ∧ y3 = 0) ∧ a 2 3 = 1))) → a 105 5 = a0 105 5 → a 105 5 ≤ 9 → (KPR a0 a (a0 105 5).toNat) → (¬ y3 = 0 → RDL a0 a (a0 105 5).toNat y4) → (y3 = 0 → RDE a0 a (a0 105 5).toNat) → (y2 = x2) → (∀ j, a 106 j = a0 106 j) → jt (jxX E d 135 30 [some (.inr (.inr (.inl 105))), some (.inr (.inr (.inl 2))), some (.inl y2), some (.inl y3), some (.inl y4)] [] (jxSH, a, b0)) (jQ_X9_read_r2 x2 a0 b0) := fun y2 y3 y4 a hlt i0 i1 i2 i3 i4 i5 i6 i7 i8 i9 i10 i11 i12 i13 i14 => (ih _ hlt) y2 y3 y4 a (Nat.le_refl _) i0 i1 i2 i3 i4 i5 i6 i7 i8 i9 i10 i11 i12 i13 i14
  have hc30 : ∀ (y2 y3 y4 : Int) (a : Nat → Nat → Int), (((13 - y4) * 1) + 0).toNat ≤ n → iv a → jfr jW_X9_read_r2 a0 a → 0 ≤ y3 → y3 ≤ 1 → 0 ≤ y4 → y4 ≤ 13 → a 105 5 ≤ 9 → (a0 2 1 = 0 → ((((a 2 2 = 0 ∧ y4 = 0) ∧ ¬ y3 = 0) ∧ a 2 3 = 0) ∨ ((a 2 2 = 0 ∧ y3 = 0) ∧ a 2 3 = 1))) → a 105 5 = a0 105 5 → a 105 5 ≤ 9 → (KPR a0 a (a0 105 5).toNat) → (¬ y3 = 0 → RDL a0 a (a0 105 5).toNat y4) → (y3 = 0 → RDE a0 a (a0 105 5).toNat) → (y2 = x2) → (∀ j, a 106 j = a0 106 j) → jt (jxX E d 135 30 [some (.inr (.inr (.inl 105))), some (.inr (.inr (.inl 2))), some (.inl y2), some (.inl y3), some (.inl y4)] [] (jxSH, a, b0)) (jQ_X9_read_r2 x2 a0 b0) := by
    intro y2 y3 y4 a hm hv hf hi0 hi1 hi2 hi3 hi4 hi5 hi6 hi7 hkp hrl hre hy2 hs106
    refine jt_eq (bq_X9_read_r2_30 E d y2 y3 y4 a b0) ?_
    have h1517_ := iv_get hv (k := 105) (j := 5) (l := 0) (u := 10) rfl
    have h1518_ := iv_get hv0 (k := 2) (j := 1) (l := 0) (u := 200) rfl
    have h1519_ := iv_get hv (k := 2) (j := 2) (l := 0) (u := 200) rfl
    have h1520_ := iv_get hv0 (k := 105) (j := 5) (l := 0) (u := 10) rfl
    have h3 : a 3 = a0 3 := funext fun j => hf 3 j rfl
    have h21 := hf 2 1 rfl
    have h105 : True := trivial
    have hf0 : ¬ y3 = 0 → a 2 3 = 0 := fun h => (hrl h).1
    have hbig : ¬ y3 = 0 → y4 ≤ 12 := fun h => by rcases Int.lt_or_le 12 y4 with q | q <;> first | exact (RDL_big (hrl h) q).elim | exact q
    refine jt_ite (fun c1521_ => ?_) (fun c1521_ => ?_)
    ·
      exact cp_X9_read_r2_59 E d hd x2 a0 b0 hv0 y2 a hv hf (show a 105 5 ≤ 9 from by omega) (show (a0 2 1 = 0 → (a 2 2 = 0 ∧ a 2 3 = 1)) from by omega) (show a 105 5 = a0 105 5 from by omega) (show a 105 5 ≤ 9 from by omega) (KPR_cl hkp (fun j => ⟨rfl, rfl, rfl, rfl⟩)) (by first | exact hre (by omega) | exact absurd (by omega : False) id) (by first | rfl | assumption) (fun j => (rfl).trans (hs106 j))
    ·
      refine jt_ite (fun c1522_ => ?_) (fun c1522_ => ?_)
      ·
        exact cp_X9_read_r2_59 E d hd x2 a0 b0 hv0 y2 a hv hf (show a 105 5 ≤ 9 from by omega) (show (a0 2 1 = 0 → (a 2 2 = 0 ∧ a 2 3 = 1)) from by omega) (show a 105 5 = a0 105 5 from by omega) (show a 105 5 ≤ 9 from by omega) (KPR_cl hkp (fun j => ⟨rfl, rfl, rfl, rfl⟩)) (by first | exact hre (by omega) | exact absurd (by omega : False) id) (by first | rfl | assumption) (fun j => (rfl).trans (hs106 j))
      ·
        refine jt_bV (sp_X9_readClause_r2 E d (jd_le hd rfl) a b0 hv (show a 105 5 ≤ 9 from by omega) (show a 2 3 = 0 from by omega)) (fun a1523_ b1523_ h1523_ => ?_)
        obtain ⟨hv1523_, hf1523_, rfl, hq1523_0, hq1523_1, hq1523_2, hq1523_3⟩ := h1523_
        have h1524_ := iv_get hv (k := 2) (j := 1) (l := 0) (u := 200) rfl
        have h1525_ : a 2 1 = a0 2 1 := hf 2 1 rfl
        have h1526_ := iv_get hv1523_ (k := 2) (j := 2) (l := 0) (u := 200) rfl
        refine jt_bI (sp_X8_takesSign E d (jd_le hd rfl) 59 a1523_ b0 hv1523_) (fun r1527_ a1527_ b1527_ h1527_ => ?_)
        obtain ⟨hv1527_, hf1527_, rfl, hq1527_0, hq1527_1, hq1527_2, hq1527_3, hq1527_4⟩ := h1527_
        have h1528_ := iv_get hv1523_ (k := 2) (j := 1) (l := 0) (u := 200) rfl
        have h1529_ : a1523_ 2 1 = a 2 1 := hf1523_ 2 1 rfl
        have h1530_ := iv_get hv1527_ (k := 2) (j := 2) (l := 0) (u := 200) rfl
        have hstep := RD_step (s := (a0 105 5).toNat) (i := y4) (r := r1527_) (by omega) (hrl (by omega)) hkp h3 (hf 2 1 rfl) (by rw [show a 105 5 = a0 105 5 from by omega]) hq1523_1 hq1523_2 hq1523_3 (funext fun j => hf1523_ 3 j rfl) (hf1523_ 2 1 rfl) hq1527_2 hq1527_3 hq1527_4 (hf1527_ 2 3 rfl) (fun j => ⟨hf1527_ 108 j rfl, hf1527_ 119 j rfl, hf1527_ 130 j rfl, hf1527_ 107 j rfl⟩) (by omega)
        have hf1531_ : jfr jW_X9_read_r2 a0 a1523_ := jfr_tr hf hf1523_ rfl
        have hf1532_ : jfr jW_X9_read_r2 a0 a1527_ := jfr_tr hf1531_ hf1527_ rfl
        have h1533_ : jxw (y4 + 1) = y4 + 1 := jxw_id (by omega) (by omega)
        have h1534_ := iv_get hv1527_ (k := 105) (j := 5) (l := 0) (u := 10) rfl
        have h1535_ : a1527_ 105 5 = a1523_ 105 5 := hf1527_ 105 5 rfl
        have h1536_ := iv_get hv1523_ (k := 105) (j := 5) (l := 0) (u := 10) rfl
        have h1537_ : a1523_ 105 5 = a 105 5 := hf1523_ 105 5 rfl
        have h1538_ : a1527_ 2 3 = a1523_ 2 3 := hf1527_ 2 3 rfl
        exact ih30 y2 r1527_ (jxw (y4 + 1)) a1527_ (show (((13 - (jxw (y4 + 1))) * 1) + 0).toNat < n from by omega) hv1527_ hf1532_ (show 0 ≤ r1527_ from by omega) (show r1527_ ≤ 1 from by omega) (show 0 ≤ jxw (y4 + 1) from by omega) (show jxw (y4 + 1) ≤ 13 from by omega) (show a1527_ 105 5 ≤ 9 from by omega) (show (a0 2 1 = 0 → ((((a1527_ 2 2 = 0 ∧ jxw (y4 + 1) = 0) ∧ ¬ r1527_ = 0) ∧ a1527_ 2 3 = 0) ∨ ((a1527_ 2 2 = 0 ∧ r1527_ = 0) ∧ a1527_ 2 3 = 1))) from by omega) (show a1527_ 105 5 = a0 105 5 from by omega) (show a1527_ 105 5 ≤ 9 from by omega) (hstep).2.2 (by first | exact (fun _ => hrl) | (rw [show jxw (y4 + 1) = y4 + 1 from by omega]; exact hstep.1)) (by first | exact (fun h => absurd h (by omega)) | exact hstep.2.1) (by first | rfl | assumption) (fun j => (((hf1527_ 106 j rfl).trans (hf1523_ 106 j rfl))).trans (hs106 j))
  exact hc30
theorem cp_X9_read_r2_27 (E : jxE) (d : Nat) (hd : Nat.ble 7 (d + 1) = true) (x2 : Int) (a0 b0 : Nat → Nat → Int) (hv0 : iv a0) : ∀ (y2 y3 : Int) (a : Nat → Nat → Int), iv a → jfr jW_X9_read_r2 a0 a → 1 ≤ y3 → y3 ≤ 1 → a 105 5 ≤ 9 → (a0 2 1 = 0 → (a 2 2 = 0 ∧ a 2 3 = 0)) → y3 = 1 → a 105 5 = a0 105 5 → a 105 5 ≤ 9 → (KPR a0 a (a0 105 5).toNat) → (RDL a0 a (a0 105 5).toNat 0) → (y2 = x2) → (∀ j, a 106 j = a0 106 j) → jt (jxX E d 135 27 [some (.inr (.inr (.inl 105))), some (.inr (.inr (.inl 2))), some (.inl y2), some (.inl y3), none] [] (jxSH, a, b0)) (jQ_X9_read_r2 x2 a0 b0) := by
  intro y2 y3 a hv hf hi0 hi1 hi2 hi3 hi4 hi5 hi6 hkp hrl hy2 hs106
  refine jt_eq (bq_X9_read_r2_27 E d y2 y3 a b0) ?_
  have h1539_ := iv_get hv (k := 105) (j := 5) (l := 0) (u := 10) rfl
  have h1540_ := iv_get hv0 (k := 2) (j := 1) (l := 0) (u := 200) rfl
  have h1541_ := iv_get hv (k := 2) (j := 2) (l := 0) (u := 200) rfl
  have h1542_ := iv_get hv0 (k := 105) (j := 5) (l := 0) (u := 10) rfl
  have h3 : a 3 = a0 3 := funext fun j => hf 3 j rfl
  have h21 := hf 2 1 rfl
  have h105 : True := trivial
  exact (cp_X9_read_r2_30 E d hd x2 a0 b0 hv0 _) y2 y3 0 a (Nat.le_refl _) hv hf (show 0 ≤ y3 from by omega) (show y3 ≤ 1 from by omega) (show 0 ≤ 0 from by omega) (show 0 ≤ 13 from by omega) (show a 105 5 ≤ 9 from by omega) (show (a0 2 1 = 0 → ((((a 2 2 = 0 ∧ 0 = 0) ∧ ¬ y3 = 0) ∧ a 2 3 = 0) ∨ ((a 2 2 = 0 ∧ y3 = 0) ∧ a 2 3 = 1))) from by omega) (show a 105 5 = a0 105 5 from by omega) (show a 105 5 ≤ 9 from by omega) (KPR_cl hkp (fun j => ⟨rfl, rfl, rfl, rfl⟩)) (by first | exact (fun _ => hrl) | (rw [show jxw (y4 + 1) = y4 + 1 from by omega]; exact hstep.1)) (by first | exact (fun h => absurd h (by omega)) | exact hstep.2.1) (by first | rfl | assumption) (fun j => (rfl).trans (hs106 j))
theorem sp_X9_read_r2 (E : jxE) (d : Nat) (hd : Nat.ble 7 d = true) (x2 : Int) (a0 b0 : Nat → Nat → Int) (hv0 : iv a0) : jt (jxC E d 135 [.inr (.inr (.inl 105)), .inr (.inr (.inl 2)), .inl x2] (jxSH, a0, b0)) (jQ_X9_read_r2 x2 a0 b0) := by
  obtain ⟨d, rfl⟩ := jd_succ hd
  refine jt_eq (bq_X9_read_r2 E d x2 a0 b0) ?_
  have h1543_ := iv_get hv0 (k := 105) (j := 5) (l := 0) (u := 10) rfl
  refine jt_ite (fun c1544_ => ?_) (fun c1544_ => ?_)
  ·
    refine jt_grd (by omega) ?_
    have hv1545_ : iv (jxu a0 107 ((a0 105 5).toNat) 0) := iv_put hv0 (l := 0) (u := 12) rfl (by omega) (by omega)
    refine jt_bV (sp_X8_startReading E d (jd_le hd rfl) (jxu a0 107 ((a0 105 5).toNat) 0) b0 hv1545_) (fun a1546_ b1546_ h1546_ => ?_)
    obtain ⟨hv1546_, hf1546_, rfl, hq1546_0, hq1546_1, hq1546_2⟩ := h1546_
    have h1547_ : a1546_ 2 3 = 0 := hq1546_0
    have h1548_ := iv_get hv0 (k := 2) (j := 1) (l := 0) (u := 200) rfl
    have h1549_ := iv_get hv1546_ (k := 2) (j := 2) (l := 0) (u := 200) rfl
    have h1550_ : (a0 2 1 = 0 → a1546_ 2 2 = 0) := hq1546_1
    have hf1551_ : jfr jW_X9_read_r2 a0 (jxu a0 107 ((a0 105 5).toNat) 0) := jfr_put (jfr_rf _ _) rfl
    have hf1552_ : jfr jW_X9_read_r2 a0 a1546_ := jfr_tr hf1551_ hf1546_ rfl
    have h1553_ := iv_get hv1546_ (k := 105) (j := 5) (l := 0) (u := 10) rfl
    have h1554_ : a1546_ 105 5 = a0 105 5 := hf1546_ 105 5 rfl
    exact cp_X9_read_r2_27 E d hd x2 a0 b0 hv0 x2 1 a1546_ hv1546_ hf1552_ (show 1 ≤ 1 from by omega) (show 1 ≤ 1 from by omega) (show a1546_ 105 5 ≤ 9 from by omega) (show (a0 2 1 = 0 → (a1546_ 2 2 = 0 ∧ a1546_ 2 3 = 0)) from by omega) (show 1 = 1 from by omega) (show a1546_ 105 5 = a0 105 5 from by omega) (show a1546_ 105 5 ≤ 9 from by omega) ⟨fun j hj => ((hf1546_ 107 j rfl)).trans (show jxu a0 107 (a0 105 5).toNat 0 107 j = a0 107 j from by simp only [jxu]; simp; omega), fun j _ => ⟨(hf1546_ 108 j rfl), (hf1546_ 119 j rfl), (hf1546_ 130 j rfl)⟩⟩ (by refine ⟨?_, ?_, ?_, fun k hk => absurd hk (Nat.not_lt_zero _), fun k hk => absurd hk (Nat.not_lt_zero _)⟩ <;> first | omega | exact hq1546_2 | (rw [hf1546_ 107 _ rfl]; simp [jxu])) (by first | rfl | assumption) (fun j => (hf1546_ 106 j rfl))
  ·
    have h1555_ := iv_get hv0 (k := 2) (j := 1) (l := 0) (u := 200) rfl
    exact jt_rI ⟨hv0, (jfr_rf _ _), rfl, (show ((a0 2 1 = 0 ∧ a0 105 5 ≤ 9) → (-1) = 0 - 3) from by omega), (fun h => absurd h (by omega)), (fun h => absurd h (by omega)), ⟨fun _ _ => rfl, fun _ _ => ⟨rfl, rfl, rfl⟩⟩, (fun h => absurd h (by decide)), (fun _ _ => rfl)⟩
def jW_X11_rates : List (Nat × Nat) := [(2, 1), (2, 2), (2, 3), (105, 5), (106, 9999), (107, 9999), (108, 9999), (119, 9999), (130, 9999)]
abbrev jQ_X11_rates (x1 : Int) (a0 b0 : Nat → Nat → Int) : List jxV → (Nat → Nat → Int) → (Nat → Nat → Int) → Prop := rI (fun r a b => (iv a) ∧ (jfr jW_X11_rates a0 a) ∧ (b0 = b) ∧ (((a0 2 1 = 0 ∧ a0 105 5 = 0) → (((0 ≤ x1 ∧ x1 ≤ 1999) ∧ r = 0 - 3) ∨ ((x1 < 0 ∨ 1999 < x1) ∧ r = 0 - 1)))) ∧ ((((0 ≤ x1 ∧ x1 ≤ 1999) ∧ a0 105 5 ≤ 9) → a 2 1 = 0)) ∧ ((((x1 < 0 ∨ 1999 < x1) ∨ 9 < a0 105 5) → ((r = 0 - 1 ∧ a 2 1 = a0 2 1) ∧ a 105 5 = a0 105 5))) ∧ (0 ≤ x1 ∧ x1 ≤ 1999 ∧ a0 105 5 ≤ 9 → RTR (a0 3) (a0 2 1).toNat r ∧ ((1 ≤ r ∧ a 105 5 = a0 105 5 + 1) ∨ (r < 0 ∧ a 105 5 = a0 105 5))) ∧ (KPR a0 a (a0 105 5).toNat ∧ (1 ≤ r → RWS a (a0 3) (a0 2 1).toNat (a0 105 5).toNat r.toNat ∧ a 107 (a0 105 5).toNat = r ∧ UP (a0 106) (a 106) (a0 105 5).toNat x1) ∧ (r < 0 → ∀ j, a 106 j = a0 106 j)))
theorem cp_X11_rates_32 (E : jxE) (d : Nat) (hd : Nat.ble 8 (d + 1) = true) (x1 : Int) (a0 b0 : Nat → Nat → Int) (hv0 : iv a0) : ∀ (y2 : Int) (a : Nat → Nat → Int), iv a → jfr jW_X11_rates a0 a → ((a0 2 1 = 0 ∧ a0 105 5 = 0) → ((0 ≤ x1 ∧ x1 ≤ 1999) ∧ y2 = 0 - 3)) → ((0 ≤ x1 ∧ x1 ≤ 1999) ∧ a0 105 5 ≤ 9) → (RTR (a0 3) (a0 2 1).toNat y2 ∧ ((1 ≤ y2 ∧ a 105 5 = a0 105 5 + 1) ∨ (y2 < 0 ∧ a 105 5 = a0 105 5))) → (KPR a0 a (a0 105 5).toNat ∧ (1 ≤ y2 → RWS a (a0 3) (a0 2 1).toNat (a0 105 5).toNat y2.toNat ∧ a 107 (a0 105 5).toNat = y2 ∧ UP (a0 106) (a 106) (a0 105 5).toNat x1) ∧ (y2 < 0 → ∀ j, a 106 j = a0 106 j)) → jt (jxX E d 191 32 [some (.inr (.inr (.inl 0))), none, some (.inl y2)] [] (jxSH, a, b0)) (jQ_X11_rates x1 a0 b0) := by
  intro y2 a hv hf hi0 hi1 hrt hrw
  refine jt_eq (bq_X11_rates_32 E d y2 a b0) ?_
  have h1556_ := iv_get hv0 (k := 2) (j := 1) (l := 0) (u := 200) rfl
  have h1557_ := iv_get hv0 (k := 105) (j := 5) (l := 0) (u := 10) rfl
  refine jt_bV (sp_X8_cut E d (jd_le hd rfl) 0 a b0 hv) (fun a1558_ b1558_ h1558_ => ?_)
  obtain ⟨hv1558_, hf1558_, rfl, hq1558_0⟩ := h1558_
  have h1559_ := iv_get hv (k := 2) (j := 1) (l := 0) (u := 200) rfl
  have h1560_ := iv_get hv1558_ (k := 2) (j := 1) (l := 0) (u := 200) rfl
  have hf1561_ : jfr jW_X11_rates a0 a1558_ := jfr_tr hf hf1558_ rfl
  have h1562_ := iv_get hv1558_ (k := 105) (j := 5) (l := 0) (u := 10) rfl
  have h1563_ : a1558_ 105 5 = a 105 5 := hf1558_ 105 5 rfl
  have h1564_ := iv_get hv (k := 105) (j := 5) (l := 0) (u := 10) rfl
  exact jt_rI ⟨hv1558_, hf1561_, rfl, (show ((a0 2 1 = 0 ∧ a0 105 5 = 0) → (((0 ≤ x1 ∧ x1 ≤ 1999) ∧ y2 = 0 - 3) ∨ ((x1 < 0 ∨ 1999 < x1) ∧ y2 = 0 - 1))) from by omega), (show (((0 ≤ x1 ∧ x1 ≤ 1999) ∧ a0 105 5 ≤ 9) → a1558_ 2 1 = 0) from by omega), (show (((x1 < 0 ∨ 1999 < x1) ∨ 9 < a0 105 5) → ((y2 = 0 - 1 ∧ a1558_ 2 1 = a0 2 1) ∧ a1558_ 105 5 = a0 105 5)) from by omega), (fun _ => by rw [hf1558_ 105 5 rfl]; exact hrt), ⟨KPR_cl hrw.1 (fun j => ⟨hf1558_ 108 j rfl, hf1558_ 119 j rfl, hf1558_ 130 j rfl, hf1558_ 107 j rfl⟩), fun q => ⟨fun k hk => by rw [hf1558_ 108 _ rfl, hf1558_ 119 _ rfl, hf1558_ 130 _ rfl]; exact (hrw.2.1 q).1 k hk, (hf1558_ 107 _ rfl).trans (hrw.2.1 q).2.1, UP_cr (hrw.2.1 q).2.2 (fun j => hf1558_ 106 j rfl)⟩, fun q j => (hf1558_ 106 j rfl).trans (hrw.2.2 q j)⟩⟩
theorem sp_X11_rates (E : jxE) (d : Nat) (hd : Nat.ble 8 d = true) (x1 : Int) (a0 b0 : Nat → Nat → Int) (hv0 : iv a0) : jt (jxC E d 191 [.inr (.inr (.inl 0)), .inl x1] (jxSH, a0, b0)) (jQ_X11_rates x1 a0 b0) := by
  obtain ⟨d, rfl⟩ := jd_succ hd
  refine jt_eq (bq_X11_rates E d x1 a0 b0) ?_
  refine jt_eI (eq_X11_isDay E d (jd_le hd rfl) x1 a0 b0) ?_
  have h1565_ := f_X11_isDay_eq a0 b0 x1
  have h1566_ := f_X11_within_eq a0 b0 x1 0 1999
  refine jt_ite (fun c1567_ => ?_) (fun c1567_ => ?_)
  ·
    have h1568_ := iv_get hv0 (k := 2) (j := 1) (l := 0) (u := 200) rfl
    have h1569_ := iv_get hv0 (k := 105) (j := 5) (l := 0) (u := 10) rfl
    exact jt_rI ⟨hv0, (jfr_rf _ _), rfl, (show ((a0 2 1 = 0 ∧ a0 105 5 = 0) → (((0 ≤ x1 ∧ x1 ≤ 1999) ∧ (-1) = 0 - 3) ∨ ((x1 < 0 ∨ 1999 < x1) ∧ (-1) = 0 - 1))) from by omega), (show (((0 ≤ x1 ∧ x1 ≤ 1999) ∧ a0 105 5 ≤ 9) → a0 2 1 = 0) from by omega), (show (((x1 < 0 ∨ 1999 < x1) ∨ 9 < a0 105 5) → (((-1) = 0 - 1 ∧ a0 2 1 = a0 2 1) ∧ a0 105 5 = a0 105 5)) from by omega), (fun h => absurd h (by omega)), ⟨⟨fun _ _ => rfl, fun _ _ => ⟨rfl, rfl, rfl⟩⟩, fun h => absurd h (by decide), fun _ _ => rfl⟩⟩
  ·
    refine jt_eI (eq_X9_hasRoom E d (jd_le hd rfl) a0 b0) ?_
    have h1570_ := f_X9_hasRoom_eq a0 b0
    have h1571_ := iv_get hv0 (k := 105) (j := 5) (l := 0) (u := 10) rfl
    refine jt_ite (fun c1572_ => ?_) (fun c1572_ => ?_)
    ·
      have h1573_ := iv_get hv0 (k := 2) (j := 1) (l := 0) (u := 200) rfl
      exact jt_rI ⟨hv0, (jfr_rf _ _), rfl, (show ((a0 2 1 = 0 ∧ a0 105 5 = 0) → (((0 ≤ x1 ∧ x1 ≤ 1999) ∧ (-1) = 0 - 3) ∨ ((x1 < 0 ∨ 1999 < x1) ∧ (-1) = 0 - 1))) from by omega), (show (((0 ≤ x1 ∧ x1 ≤ 1999) ∧ a0 105 5 ≤ 9) → a0 2 1 = 0) from by omega), (show (((x1 < 0 ∨ 1999 < x1) ∨ 9 < a0 105 5) → (((-1) = 0 - 1 ∧ a0 2 1 = a0 2 1) ∧ a0 105 5 = a0 105 5)) from by omega), (fun h => absurd h (by omega)), ⟨⟨fun _ _ => rfl, fun _ _ => ⟨rfl, rfl, rfl⟩⟩, fun h => absurd h (by decide), fun _ _ => rfl⟩⟩
    ·
      refine jt_bI (sp_X9_read_r2 E d (jd_le hd rfl) x1 a0 b0 hv0) (fun r1574_ a1574_ b1574_ h1574_ => ?_)
      obtain ⟨hv1574_, hf1574_, rfl, hq1574_0, hq1574_1, hq1574_2, hq1574_3, hq1574_4, hq1574_5⟩ := h1574_
      have h1575_ := iv_get hv0 (k := 2) (j := 1) (l := 0) (u := 200) rfl
      have hf1576_ : jfr jW_X11_rates a0 a1574_ := jfr_tr (jfr_rf _ _) hf1574_ rfl
      exact cp_X11_rates_32 E d hd x1 a0 b0 hv0 r1574_ a1574_ hv1574_ hf1576_ (show ((a0 2 1 = 0 ∧ a0 105 5 = 0) → ((0 ≤ x1 ∧ x1 ≤ 1999) ∧ r1574_ = 0 - 3)) from by omega) (show ((0 ≤ x1 ∧ x1 ≤ 1999) ∧ a0 105 5 ≤ 9) from by omega) ⟨hq1574_1 (by omega), hq1574_2 (by omega)⟩ ⟨hq1574_3, hq1574_4, hq1574_5⟩
def jW_X5_linkSeats : List (Nat × Nat) := [(92, 9999), (93, 9999)]
abbrev jQ_X5_linkSeats (a0 b0 : Nat → Nat → Int) : List jxV → (Nat → Nat → Int) → (Nat → Nat → Int) → Prop := rV (fun a b => (iv a) ∧ (jfr jW_X5_linkSeats a0 a) ∧ (b0 = b))
theorem cp_X5_linkSeats_2 (E : jxE) (d : Nat) (hd : Nat.ble 3 (d + 1) = true) (a0 b0 : Nat → Nat → Int) (hv0 : iv a0) : ∀ n : Nat, (∀ (y1 y2 : Int) (a : Nat → Nat → Int), (((((12 - y1) * 15) + 0) + ((12 - y2) * 1)) + 0).toNat ≤ n → iv a → jfr jW_X5_linkSeats a0 a → 0 ≤ y1 → y1 ≤ 11 → 0 ≤ y2 → y2 ≤ 11 → 1 ≤ a 90 3 → jt (jxX E d 84 130 [some (.inr (.inr (.inl 90))), some (.inl y1), some (.inl y2)] [] (jxSH, a, b0)) (jQ_X5_linkSeats a0 b0)) ∧ (∀ (y1 y2 : Int) (a : Nat → Nat → Int), (((((12 - y1) * 15) + 0) + ((12 - y2) * 1)) + 0).toNat ≤ n → iv a → jfr jW_X5_linkSeats a0 a → 0 ≤ y1 → y1 ≤ 11 → 0 ≤ y2 → y2 ≤ 11 → 1 ≤ a 90 3 → jt (jxX E d 84 70 [some (.inr (.inr (.inl 90))), some (.inl y1), some (.inl y2)] [] (jxSH, a, b0)) (jQ_X5_linkSeats a0 b0)) ∧ (∀ (y1 y2 : Int) (a : Nat → Nat → Int), (((((12 - y1) * 15) + 0) + ((12 - y2) * 1)) + 0).toNat ≤ n → iv a → jfr jW_X5_linkSeats a0 a → 0 ≤ y1 → y1 ≤ 11 → 0 ≤ y2 → y2 ≤ 11 → 1 ≤ a 90 3 → jt (jxX E d 84 118 [some (.inr (.inr (.inl 90))), some (.inl y1), some (.inl y2)] [] (jxSH, a, b0)) (jQ_X5_linkSeats a0 b0)) ∧ (∀ (y1 y2 : Int) (a : Nat → Nat → Int), (((((12 - y1) * 15) + 0) + ((12 - y2) * 1)) + 0).toNat ≤ n → iv a → jfr jW_X5_linkSeats a0 a → 0 ≤ y1 → y1 ≤ 11 → 0 ≤ y2 → y2 ≤ 11 → 1 ≤ a 90 3 → jt (jxX E d 84 85 [some (.inr (.inr (.inl 90))), some (.inl y1), some (.inl y2)] [] (jxSH, a, b0)) (jQ_X5_linkSeats a0 b0)) ∧ (∀ (y1 y2 : Int) (a : Nat → Nat → Int), (((((12 - y1) * 15) + 0) + ((12 - y2) * 1)) + 0).toNat ≤ n → iv a → jfr jW_X5_linkSeats a0 a → 0 ≤ y1 → y1 ≤ 11 → 0 ≤ y2 → y2 ≤ 12 → 1 ≤ a 90 3 → jt (jxX E d 84 26 [some (.inr (.inr (.inl 90))), some (.inl y1), some (.inl y2)] [] (jxSH, a, b0)) (jQ_X5_linkSeats a0 b0)) ∧ (∀ (y1 : Int) (a : Nat → Nat → Int), (((12 - y1) * 15) + 14).toNat ≤ n → iv a → jfr jW_X5_linkSeats a0 a → 0 ≤ y1 → y1 ≤ 11 → 1 ≤ a 90 3 → jt (jxX E d 84 24 [some (.inr (.inr (.inl 90))), some (.inl y1), none] [] (jxSH, a, b0)) (jQ_X5_linkSeats a0 b0)) ∧ (∀ (y1 : Int) (a : Nat → Nat → Int), (((12 - y1) * 15) + 14).toNat ≤ n → iv a → jfr jW_X5_linkSeats a0 a → 0 ≤ y1 → y1 ≤ 12 → jt (jxX E d 84 2 [some (.inr (.inr (.inl 90))), some (.inl y1), none] [] (jxSH, a, b0)) (jQ_X5_linkSeats a0 b0)) := by
  refine jx_ind fun n ih => ?_
  have ih130 : ∀ (y1 y2 : Int) (a : Nat → Nat → Int), (((((12 - y1) * 15) + 0) + ((12 - y2) * 1)) + 0).toNat < n → iv a → jfr jW_X5_linkSeats a0 a → 0 ≤ y1 → y1 ≤ 11 → 0 ≤ y2 → y2 ≤ 11 → 1 ≤ a 90 3 → jt (jxX E d 84 130 [some (.inr (.inr (.inl 90))), some (.inl y1), some (.inl y2)] [] (jxSH, a, b0)) (jQ_X5_linkSeats a0 b0) := fun y1 y2 a hlt i0 i1 i2 i3 i4 i5 i6 => (ih _ hlt).1 y1 y2 a (Nat.le_refl _) i0 i1 i2 i3 i4 i5 i6
  have ih70 : ∀ (y1 y2 : Int) (a : Nat → Nat → Int), (((((12 - y1) * 15) + 0) + ((12 - y2) * 1)) + 0).toNat < n → iv a → jfr jW_X5_linkSeats a0 a → 0 ≤ y1 → y1 ≤ 11 → 0 ≤ y2 → y2 ≤ 11 → 1 ≤ a 90 3 → jt (jxX E d 84 70 [some (.inr (.inr (.inl 90))), some (.inl y1), some (.inl y2)] [] (jxSH, a, b0)) (jQ_X5_linkSeats a0 b0) := fun y1 y2 a hlt i0 i1 i2 i3 i4 i5 i6 => (ih _ hlt).2.1 y1 y2 a (Nat.le_refl _) i0 i1 i2 i3 i4 i5 i6
  have ih118 : ∀ (y1 y2 : Int) (a : Nat → Nat → Int), (((((12 - y1) * 15) + 0) + ((12 - y2) * 1)) + 0).toNat < n → iv a → jfr jW_X5_linkSeats a0 a → 0 ≤ y1 → y1 ≤ 11 → 0 ≤ y2 → y2 ≤ 11 → 1 ≤ a 90 3 → jt (jxX E d 84 118 [some (.inr (.inr (.inl 90))), some (.inl y1), some (.inl y2)] [] (jxSH, a, b0)) (jQ_X5_linkSeats a0 b0) := fun y1 y2 a hlt i0 i1 i2 i3 i4 i5 i6 => (ih _ hlt).2.2.1 y1 y2 a (Nat.le_refl _) i0 i1 i2 i3 i4 i5 i6
  have ih85 : ∀ (y1 y2 : Int) (a : Nat → Nat → Int), (((((12 - y1) * 15) + 0) + ((12 - y2) * 1)) + 0).toNat < n → iv a → jfr jW_X5_linkSeats a0 a → 0 ≤ y1 → y1 ≤ 11 → 0 ≤ y2 → y2 ≤ 11 → 1 ≤ a 90 3 → jt (jxX E d 84 85 [some (.inr (.inr (.inl 90))), some (.inl y1), some (.inl y2)] [] (jxSH, a, b0)) (jQ_X5_linkSeats a0 b0) := fun y1 y2 a hlt i0 i1 i2 i3 i4 i5 i6 => (ih _ hlt).2.2.2.1 y1 y2 a (Nat.le_refl _) i0 i1 i2 i3 i4 i5 i6
  have ih26 : ∀ (y1 y2 : Int) (a : Nat → Nat → Int), (((((12 - y1) * 15) + 0) + ((12 - y2) * 1)) + 0).toNat < n → iv a → jfr jW_X5_linkSeats a0 a → 0 ≤ y1 → y1 ≤ 11 → 0 ≤ y2 → y2 ≤ 12 → 1 ≤ a 90 3 → jt (jxX E d 84 26 [some (.inr (.inr (.inl 90))), some (.inl y1), some (.inl y2)] [] (jxSH, a, b0)) (jQ_X5_linkSeats a0 b0) := fun y1 y2 a hlt i0 i1 i2 i3 i4 i5 i6 => (ih _ hlt).2.2.2.2.1 y1 y2 a (Nat.le_refl _) i0 i1 i2 i3 i4 i5 i6
  have ih24 : ∀ (y1 : Int) (a : Nat → Nat → Int), (((12 - y1) * 15) + 14).toNat < n → iv a → jfr jW_X5_linkSeats a0 a → 0 ≤ y1 → y1 ≤ 11 → 1 ≤ a 90 3 → jt (jxX E d 84 24 [some (.inr (.inr (.inl 90))), some (.inl y1), none] [] (jxSH, a, b0)) (jQ_X5_linkSeats a0 b0) := fun y1 a hlt i0 i1 i2 i3 i4 => (ih _ hlt).2.2.2.2.2.1 y1 a (Nat.le_refl _) i0 i1 i2 i3 i4
  have ih2 : ∀ (y1 : Int) (a : Nat → Nat → Int), (((12 - y1) * 15) + 14).toNat < n → iv a → jfr jW_X5_linkSeats a0 a → 0 ≤ y1 → y1 ≤ 12 → jt (jxX E d 84 2 [some (.inr (.inr (.inl 90))), some (.inl y1), none] [] (jxSH, a, b0)) (jQ_X5_linkSeats a0 b0) := fun y1 a hlt i0 i1 i2 i3 => (ih _ hlt).2.2.2.2.2.2 y1 a (Nat.le_refl _) i0 i1 i2 i3
  have hc130 : ∀ (y1 y2 : Int) (a : Nat → Nat → Int), (((((12 - y1) * 15) + 0) + ((12 - y2) * 1)) + 0).toNat ≤ n → iv a → jfr jW_X5_linkSeats a0 a → 0 ≤ y1 → y1 ≤ 11 → 0 ≤ y2 → y2 ≤ 11 → 1 ≤ a 90 3 → jt (jxX E d 84 130 [some (.inr (.inr (.inl 90))), some (.inl y1), some (.inl y2)] [] (jxSH, a, b0)) (jQ_X5_linkSeats a0 b0) := by
    intro y1 y2 a hm hv hf hi0 hi1 hi2 hi3 hi4
    refine jt_eq (bq_X5_linkSeats_130 E d y1 y2 a b0) ?_
    have h1577_ := iv_get hv (k := 90) (j := 3) (l := 0) (u := 12) rfl
    have h1578_ : a 90 3 = a0 90 3 := hf 90 3 rfl
    have h1579_ := iv_get hv0 (k := 90) (j := 3) (l := 0) (u := 12) rfl
    have h1580_ : jxw (y2 + 1) = y2 + 1 := jxw_id (by omega) (by omega)
    exact ih26 y1 (jxw (y2 + 1)) a (show (((((12 - y1) * 15) + 0) + ((12 - (jxw (y2 + 1))) * 1)) + 0).toNat < n from by omega) hv hf (show 0 ≤ y1 from by omega) (show y1 ≤ 11 from by omega) (show 0 ≤ jxw (y2 + 1) from by omega) (show jxw (y2 + 1) ≤ 12 from by omega) (show 1 ≤ a 90 3 from by omega)
  have hc70 : ∀ (y1 y2 : Int) (a : Nat → Nat → Int), (((((12 - y1) * 15) + 0) + ((12 - y2) * 1)) + 0).toNat ≤ n → iv a → jfr jW_X5_linkSeats a0 a → 0 ≤ y1 → y1 ≤ 11 → 0 ≤ y2 → y2 ≤ 11 → 1 ≤ a 90 3 → jt (jxX E d 84 70 [some (.inr (.inr (.inl 90))), some (.inl y1), some (.inl y2)] [] (jxSH, a, b0)) (jQ_X5_linkSeats a0 b0) := by
    intro y1 y2 a hm hv hf hi0 hi1 hi2 hi3 hi4
    refine jt_eq (bq_X5_linkSeats_70 E d y1 y2 a b0) ?_
    have h1581_ := iv_get hv (k := 90) (j := 3) (l := 0) (u := 12) rfl
    have h1582_ : a 90 3 = a0 90 3 := hf 90 3 rfl
    have h1583_ := iv_get hv0 (k := 90) (j := 3) (l := 0) (u := 12) rfl
    refine jt_grd (by omega) ?_
    refine jt_grd (by omega) ?_
    have hv1584_ : iv (jxu a 93 (y1.toNat) (jxor (a 93 (y1.toNat)) (jxshl 1 y2))) := iv_putf hv rfl
    have hf1585_ : jfr jW_X5_linkSeats a0 (jxu a 93 (y1.toNat) (jxor (a 93 (y1.toNat)) (jxshl 1 y2))) := jfr_put hf rfl
    exact hc130 y1 y2 (jxu a 93 (y1.toNat) (jxor (a 93 (y1.toNat)) (jxshl 1 y2))) (show (((((12 - y1) * 15) + 0) + ((12 - y2) * 1)) + 0).toNat ≤ n from by omega) hv1584_ hf1585_ (show 0 ≤ y1 from by omega) (show y1 ≤ 11 from by omega) (show 0 ≤ y2 from by omega) (show y2 ≤ 11 from by omega) (show 1 ≤ a 90 3 from by omega)
  have hc118 : ∀ (y1 y2 : Int) (a : Nat → Nat → Int), (((((12 - y1) * 15) + 0) + ((12 - y2) * 1)) + 0).toNat ≤ n → iv a → jfr jW_X5_linkSeats a0 a → 0 ≤ y1 → y1 ≤ 11 → 0 ≤ y2 → y2 ≤ 11 → 1 ≤ a 90 3 → jt (jxX E d 84 118 [some (.inr (.inr (.inl 90))), some (.inl y1), some (.inl y2)] [] (jxSH, a, b0)) (jQ_X5_linkSeats a0 b0) := by
    intro y1 y2 a hm hv hf hi0 hi1 hi2 hi3 hi4
    refine jt_eq (bq_X5_linkSeats_118 E d y1 y2 a b0) ?_
    have h1586_ := iv_get hv (k := 90) (j := 3) (l := 0) (u := 12) rfl
    have h1587_ : a 90 3 = a0 90 3 := hf 90 3 rfl
    have h1588_ := iv_get hv0 (k := 90) (j := 3) (l := 0) (u := 12) rfl
    refine jt_grd (by omega) ?_
    refine jt_grd (by omega) ?_
    have hv1589_ : iv (jxu a 92 (y1.toNat) (jxor (a 92 (y1.toNat)) (jxshl 1 y2))) := iv_putf hv rfl
    have hf1590_ : jfr jW_X5_linkSeats a0 (jxu a 92 (y1.toNat) (jxor (a 92 (y1.toNat)) (jxshl 1 y2))) := jfr_put hf rfl
    exact hc130 y1 y2 (jxu a 92 (y1.toNat) (jxor (a 92 (y1.toNat)) (jxshl 1 y2))) (show (((((12 - y1) * 15) + 0) + ((12 - y2) * 1)) + 0).toNat ≤ n from by omega) hv1589_ hf1590_ (show 0 ≤ y1 from by omega) (show y1 ≤ 11 from by omega) (show 0 ≤ y2 from by omega) (show y2 ≤ 11 from by omega) (show 1 ≤ a 90 3 from by omega)
  have hc85 : ∀ (y1 y2 : Int) (a : Nat → Nat → Int), (((((12 - y1) * 15) + 0) + ((12 - y2) * 1)) + 0).toNat ≤ n → iv a → jfr jW_X5_linkSeats a0 a → 0 ≤ y1 → y1 ≤ 11 → 0 ≤ y2 → y2 ≤ 11 → 1 ≤ a 90 3 → jt (jxX E d 84 85 [some (.inr (.inr (.inl 90))), some (.inl y1), some (.inl y2)] [] (jxSH, a, b0)) (jQ_X5_linkSeats a0 b0) := by
    intro y1 y2 a hm hv hf hi0 hi1 hi2 hi3 hi4
    refine jt_eq (bq_X5_linkSeats_85 E d y1 y2 a b0) ?_
    have h1591_ := iv_get hv (k := 90) (j := 3) (l := 0) (u := 12) rfl
    have h1592_ : a 90 3 = a0 90 3 := hf 90 3 rfl
    have h1593_ := iv_get hv0 (k := 90) (j := 3) (l := 0) (u := 12) rfl
    refine jt_grd (by omega) ?_
    refine jt_eI (eq_X4_wantsOf E d (jd_le hd rfl) (a 91 (y2.toNat)) a b0) ?_
    refine jt_grd (by omega) ?_
    refine jt_eI (eq_X4_kindOf E d (jd_le hd rfl) (a 91 (y1.toNat)) a b0) ?_
    have h1594_ : a 91 (y2.toNat) = a0 91 (y2.toNat) := hf 91 (y2.toNat) rfl
    have h1595_ := f_X4_wantsOf_eq a b0 (a 91 (y2.toNat))
    have h1596_ := f_X4_has_eq a b0 (a 91 (y2.toNat))
    have h1597_ := iv_get hv (k := 83) (j := 6) (l := 0) (u := 20) rfl
    have h1598_ : a 83 6 = a0 83 6 := hf 83 6 rfl
    have h1599_ := iv_get hv0 (k := 83) (j := 6) (l := 0) (u := 20) rfl
    have h1600_ : a 86 ((a 91 (y2.toNat)).toNat) = a0 86 ((a 91 (y2.toNat)).toNat) := hf 86 ((a 91 (y2.toNat)).toNat) rfl
    have h1601_ : a 91 (y1.toNat) = a0 91 (y1.toNat) := hf 91 (y1.toNat) rfl
    have h1602_ := f_X4_kindOf_eq a b0 (a 91 (y1.toNat))
    have h1603_ := f_X11_entry_r85_eq a b0 (a 83 6) (a 91 (y1.toNat))
    have h1604_ : a 85 ((a 91 (y1.toNat)).toNat) = a0 85 ((a 91 (y1.toNat)).toNat) := hf 85 ((a 91 (y1.toNat)).toNat) rfl
    have h1605_ := jxshr_b (f_X4_wantsOf a b0 (a 91 (y2.toNat))) (f_X4_kindOf a b0 (a 91 (y1.toNat)))
    have h1606_ := jxand_r (jxshr (f_X4_wantsOf a b0 (a 91 (y2.toNat))) (f_X4_kindOf a b0 (a 91 (y1.toNat)))) 1 (by decide) (by decide)
    refine jt_ite (fun c1607_ => ?_) (fun c1607_ => ?_)
    ·
      exact hc118 y1 y2 a (show (((((12 - y1) * 15) + 0) + ((12 - y2) * 1)) + 0).toNat ≤ n from by omega) hv hf (show 0 ≤ y1 from by omega) (show y1 ≤ 11 from by omega) (show 0 ≤ y2 from by omega) (show y2 ≤ 11 from by omega) (show 1 ≤ a 90 3 from by omega)
    ·
      exact hc130 y1 y2 a (show (((((12 - y1) * 15) + 0) + ((12 - y2) * 1)) + 0).toNat ≤ n from by omega) hv hf (show 0 ≤ y1 from by omega) (show y1 ≤ 11 from by omega) (show 0 ≤ y2 from by omega) (show y2 ≤ 11 from by omega) (show 1 ≤ a 90 3 from by omega)
  have hc26 : ∀ (y1 y2 : Int) (a : Nat → Nat → Int), (((((12 - y1) * 15) + 0) + ((12 - y2) * 1)) + 0).toNat ≤ n → iv a → jfr jW_X5_linkSeats a0 a → 0 ≤ y1 → y1 ≤ 11 → 0 ≤ y2 → y2 ≤ 12 → 1 ≤ a 90 3 → jt (jxX E d 84 26 [some (.inr (.inr (.inl 90))), some (.inl y1), some (.inl y2)] [] (jxSH, a, b0)) (jQ_X5_linkSeats a0 b0) := by
    intro y1 y2 a hm hv hf hi0 hi1 hi2 hi3 hi4
    refine jt_eq (bq_X5_linkSeats_26 E d y1 y2 a b0) ?_
    have h1608_ := iv_get hv (k := 90) (j := 3) (l := 0) (u := 12) rfl
    have h1609_ : a 90 3 = a0 90 3 := hf 90 3 rfl
    have h1610_ := iv_get hv0 (k := 90) (j := 3) (l := 0) (u := 12) rfl
    refine jt_ite (fun c1611_ => ?_) (fun c1611_ => ?_)
    ·
      refine jt_grd (by omega) ?_
      refine jt_eI (eq_X4_memberOf E d (jd_le hd rfl) (a 91 (y1.toNat)) a b0) ?_
      refine jt_grd (by omega) ?_
      refine jt_eI (eq_X4_memberOf E d (jd_le hd rfl) (a 91 (y2.toNat)) a b0) ?_
      refine jt_eI (eq_X3_areKin E d (jd_le hd rfl) (f_X4_memberOf a b0 (a 91 (y1.toNat))) (f_X4_memberOf a b0 (a 91 (y2.toNat))) a b0) ?_
      have h1612_ : a 91 (y1.toNat) = a0 91 (y1.toNat) := hf 91 (y1.toNat) rfl
      have h1613_ := f_X4_memberOf_eq a b0 (a 91 (y1.toNat))
      have h1614_ := iv_get hv (k := 83) (j := 6) (l := 0) (u := 20) rfl
      have h1615_ : a 83 6 = a0 83 6 := hf 83 6 rfl
      have h1616_ := iv_get hv0 (k := 83) (j := 6) (l := 0) (u := 20) rfl
      have h1617_ := f_X11_entry_r84_eq a b0 (a 83 6) (a 91 (y1.toNat))
      have h1618_ : a 84 ((a 91 (y1.toNat)).toNat) = a0 84 ((a 91 (y1.toNat)).toNat) := hf 84 ((a 91 (y1.toNat)).toNat) rfl
      have h1619_ : a 91 (y2.toNat) = a0 91 (y2.toNat) := hf 91 (y2.toNat) rfl
      have h1620_ := f_X4_memberOf_eq a b0 (a 91 (y2.toNat))
      have h1621_ := f_X11_entry_r84_eq a b0 (a 83 6) (a 91 (y2.toNat))
      have h1622_ : a 84 ((a 91 (y2.toNat)).toNat) = a0 84 ((a 91 (y2.toNat)).toNat) := hf 84 ((a 91 (y2.toNat)).toNat) rfl
      have h1623_ := f_X3_areKin_bool a b0 (f_X4_memberOf a b0 (a 91 (y1.toNat))) (f_X4_memberOf a b0 (a 91 (y2.toNat)))
      refine jt_ite (fun c1624_ => ?_) (fun c1624_ => ?_)
      ·
        exact hc85 y1 y2 a (show (((((12 - y1) * 15) + 0) + ((12 - y2) * 1)) + 0).toNat ≤ n from by omega) hv hf (show 0 ≤ y1 from by omega) (show y1 ≤ 11 from by omega) (show 0 ≤ y2 from by omega) (show y2 ≤ 11 from by omega) (show 1 ≤ a 90 3 from by omega)
      ·
        exact hc70 y1 y2 a (show (((((12 - y1) * 15) + 0) + ((12 - y2) * 1)) + 0).toNat ≤ n from by omega) hv hf (show 0 ≤ y1 from by omega) (show y1 ≤ 11 from by omega) (show 0 ≤ y2 from by omega) (show y2 ≤ 11 from by omega) (show 1 ≤ a 90 3 from by omega)
    ·
      have h1625_ : jxw (y1 + 1) = y1 + 1 := jxw_id (by omega) (by omega)
      exact ih2 (jxw (y1 + 1)) a (show (((12 - (jxw (y1 + 1))) * 15) + 14).toNat < n from by omega) hv hf (show 0 ≤ jxw (y1 + 1) from by omega) (show jxw (y1 + 1) ≤ 12 from by omega)
  have hc24 : ∀ (y1 : Int) (a : Nat → Nat → Int), (((12 - y1) * 15) + 14).toNat ≤ n → iv a → jfr jW_X5_linkSeats a0 a → 0 ≤ y1 → y1 ≤ 11 → 1 ≤ a 90 3 → jt (jxX E d 84 24 [some (.inr (.inr (.inl 90))), some (.inl y1), none] [] (jxSH, a, b0)) (jQ_X5_linkSeats a0 b0) := by
    intro y1 a hm hv hf hi0 hi1 hi2
    refine jt_eq (bq_X5_linkSeats_24 E d y1 a b0) ?_
    have h1626_ := iv_get hv (k := 90) (j := 3) (l := 0) (u := 12) rfl
    have h1627_ : a 90 3 = a0 90 3 := hf 90 3 rfl
    have h1628_ := iv_get hv0 (k := 90) (j := 3) (l := 0) (u := 12) rfl
    exact hc26 y1 0 a (show (((((12 - y1) * 15) + 0) + ((12 - 0) * 1)) + 0).toNat ≤ n from by omega) hv hf (show 0 ≤ y1 from by omega) (show y1 ≤ 11 from by omega) (show 0 ≤ 0 from by omega) (show 0 ≤ 12 from by omega) (show 1 ≤ a 90 3 from by omega)
  have hc2 : ∀ (y1 : Int) (a : Nat → Nat → Int), (((12 - y1) * 15) + 14).toNat ≤ n → iv a → jfr jW_X5_linkSeats a0 a → 0 ≤ y1 → y1 ≤ 12 → jt (jxX E d 84 2 [some (.inr (.inr (.inl 90))), some (.inl y1), none] [] (jxSH, a, b0)) (jQ_X5_linkSeats a0 b0) := by
    intro y1 a hm hv hf hi0 hi1
    refine jt_eq (bq_X5_linkSeats_2 E d y1 a b0) ?_
    have h1629_ := iv_get hv (k := 90) (j := 3) (l := 0) (u := 12) rfl
    have h1630_ : a 90 3 = a0 90 3 := hf 90 3 rfl
    have h1631_ := iv_get hv0 (k := 90) (j := 3) (l := 0) (u := 12) rfl
    refine jt_ite (fun c1632_ => ?_) (fun c1632_ => ?_)
    ·
      refine jt_grd (by omega) ?_
      refine jt_grd (by omega) ?_
      have hv1633_ : iv (jxu a 92 (y1.toNat) 0) := iv_putf hv rfl
      have hv1634_ : iv (jxu (jxu a 92 (y1.toNat) 0) 93 (y1.toNat) 0) := iv_putf hv1633_ rfl
      have hf1635_ : jfr jW_X5_linkSeats a0 (jxu a 92 (y1.toNat) 0) := jfr_put hf rfl
      have hf1636_ : jfr jW_X5_linkSeats a0 (jxu (jxu a 92 (y1.toNat) 0) 93 (y1.toNat) 0) := jfr_put hf1635_ rfl
      exact hc24 y1 (jxu (jxu a 92 (y1.toNat) 0) 93 (y1.toNat) 0) (show (((12 - y1) * 15) + 14).toNat ≤ n from by omega) hv1634_ hf1636_ (show 0 ≤ y1 from by omega) (show y1 ≤ 11 from by omega) (show 1 ≤ a 90 3 from by omega)
    ·
      exact jt_rV ⟨hv, hf, rfl⟩
  exact ⟨hc130, hc70, hc118, hc85, hc26, hc24, hc2⟩
theorem sp_X5_linkSeats (E : jxE) (d : Nat) (hd : Nat.ble 3 d = true) (a0 b0 : Nat → Nat → Int) (hv0 : iv a0) : jt (jxC E d 84 [.inr (.inr (.inl 90))] (jxSH, a0, b0)) (jQ_X5_linkSeats a0 b0) := by
  obtain ⟨d, rfl⟩ := jd_succ hd
  refine jt_eq (bq_X5_linkSeats E d a0 b0) ?_
  exact (cp_X5_linkSeats_2 E d hd a0 b0 hv0 _).2.2.2.2.2.2 0 a0 (Nat.le_refl _) hv0 (jfr_rf _ _) (show 0 ≤ 0 from by omega) (show 0 ≤ 12 from by omega)
def jW_X5_seatOpenOffers : List (Nat × Nat) := [(90, 3), (91, 9999)]
abbrev jQ_X5_seatOpenOffers (a0 b0 : Nat → Nat → Int) : List jxV → (Nat → Nat → Int) → (Nat → Nat → Int) → Prop := rV (fun a b => (iv a) ∧ (jfr jW_X5_seatOpenOffers a0 a) ∧ (b0 = b) ∧ ((a0 83 6 = 0 → a 90 3 = 0)))
theorem cp_X5_seatOpenOffers_7 (E : jxE) (d : Nat) (hd : Nat.ble 3 (d + 1) = true) (a0 b0 : Nat → Nat → Int) (hv0 : iv a0) : ∀ n : Nat, (∀ (y1 : Int) (a : Nat → Nat → Int), (((20 - y1) * 1) + 0).toNat ≤ n → iv a → jfr jW_X5_seatOpenOffers a0 a → 0 ≤ y1 → y1 ≤ 19 → 1 ≤ a0 83 6 → jt (jxX E d 83 55 [some (.inr (.inr (.inl 90))), some (.inl y1)] [] (jxSH, a, b0)) (jQ_X5_seatOpenOffers a0 b0)) ∧ (∀ (y1 : Int) (a : Nat → Nat → Int), (((20 - y1) * 1) + 0).toNat ≤ n → iv a → jfr jW_X5_seatOpenOffers a0 a → 0 ≤ y1 → y1 ≤ 19 → a 90 3 ≤ 11 → 1 ≤ a0 83 6 → jt (jxX E d 83 38 [some (.inr (.inr (.inl 90))), some (.inl y1)] [] (jxSH, a, b0)) (jQ_X5_seatOpenOffers a0 b0)) ∧ (∀ (y1 : Int) (a : Nat → Nat → Int), (((20 - y1) * 1) + 0).toNat ≤ n → iv a → jfr jW_X5_seatOpenOffers a0 a → 0 ≤ y1 → y1 ≤ 20 → (a0 83 6 = 0 → a 90 3 = 0) → jt (jxX E d 83 7 [some (.inr (.inr (.inl 90))), some (.inl y1)] [] (jxSH, a, b0)) (jQ_X5_seatOpenOffers a0 b0)) := by
  refine jx_ind fun n ih => ?_
  have ih55 : ∀ (y1 : Int) (a : Nat → Nat → Int), (((20 - y1) * 1) + 0).toNat < n → iv a → jfr jW_X5_seatOpenOffers a0 a → 0 ≤ y1 → y1 ≤ 19 → 1 ≤ a0 83 6 → jt (jxX E d 83 55 [some (.inr (.inr (.inl 90))), some (.inl y1)] [] (jxSH, a, b0)) (jQ_X5_seatOpenOffers a0 b0) := fun y1 a hlt i0 i1 i2 i3 i4 => (ih _ hlt).1 y1 a (Nat.le_refl _) i0 i1 i2 i3 i4
  have ih38 : ∀ (y1 : Int) (a : Nat → Nat → Int), (((20 - y1) * 1) + 0).toNat < n → iv a → jfr jW_X5_seatOpenOffers a0 a → 0 ≤ y1 → y1 ≤ 19 → a 90 3 ≤ 11 → 1 ≤ a0 83 6 → jt (jxX E d 83 38 [some (.inr (.inr (.inl 90))), some (.inl y1)] [] (jxSH, a, b0)) (jQ_X5_seatOpenOffers a0 b0) := fun y1 a hlt i0 i1 i2 i3 i4 i5 => (ih _ hlt).2.1 y1 a (Nat.le_refl _) i0 i1 i2 i3 i4 i5
  have ih7 : ∀ (y1 : Int) (a : Nat → Nat → Int), (((20 - y1) * 1) + 0).toNat < n → iv a → jfr jW_X5_seatOpenOffers a0 a → 0 ≤ y1 → y1 ≤ 20 → (a0 83 6 = 0 → a 90 3 = 0) → jt (jxX E d 83 7 [some (.inr (.inr (.inl 90))), some (.inl y1)] [] (jxSH, a, b0)) (jQ_X5_seatOpenOffers a0 b0) := fun y1 a hlt i0 i1 i2 i3 i4 => (ih _ hlt).2.2 y1 a (Nat.le_refl _) i0 i1 i2 i3 i4
  have hc55 : ∀ (y1 : Int) (a : Nat → Nat → Int), (((20 - y1) * 1) + 0).toNat ≤ n → iv a → jfr jW_X5_seatOpenOffers a0 a → 0 ≤ y1 → y1 ≤ 19 → 1 ≤ a0 83 6 → jt (jxX E d 83 55 [some (.inr (.inr (.inl 90))), some (.inl y1)] [] (jxSH, a, b0)) (jQ_X5_seatOpenOffers a0 b0) := by
    intro y1 a hm hv hf hi0 hi1 hi2
    refine jt_eq (bq_X5_seatOpenOffers_55 E d y1 a b0) ?_
    have h1637_ := iv_get hv0 (k := 83) (j := 6) (l := 0) (u := 20) rfl
    have h1638_ : jxw (y1 + 1) = y1 + 1 := jxw_id (by omega) (by omega)
    have h1639_ := iv_get hv (k := 90) (j := 3) (l := 0) (u := 12) rfl
    exact ih7 (jxw (y1 + 1)) a (show (((20 - (jxw (y1 + 1))) * 1) + 0).toNat < n from by omega) hv hf (show 0 ≤ jxw (y1 + 1) from by omega) (show jxw (y1 + 1) ≤ 20 from by omega) (show (a0 83 6 = 0 → a 90 3 = 0) from by omega)
  have hc38 : ∀ (y1 : Int) (a : Nat → Nat → Int), (((20 - y1) * 1) + 0).toNat ≤ n → iv a → jfr jW_X5_seatOpenOffers a0 a → 0 ≤ y1 → y1 ≤ 19 → a 90 3 ≤ 11 → 1 ≤ a0 83 6 → jt (jxX E d 83 38 [some (.inr (.inr (.inl 90))), some (.inl y1)] [] (jxSH, a, b0)) (jQ_X5_seatOpenOffers a0 b0) := by
    intro y1 a hm hv hf hi0 hi1 hi2 hi3
    refine jt_eq (bq_X5_seatOpenOffers_38 E d y1 a b0) ?_
    have h1640_ := iv_get hv (k := 90) (j := 3) (l := 0) (u := 12) rfl
    have h1641_ := iv_get hv0 (k := 83) (j := 6) (l := 0) (u := 20) rfl
    refine jt_grd (by omega) ?_
    have h1643_ : jxw ((a 90 3) + 1) = (a 90 3) + 1 := jxw_id (by omega) (by omega)
    have hv1642_ : iv (jxu a 90 3 (jxw ((a 90 3) + 1))) := iv_put hv (l := 0) (u := 12) rfl (by omega) (by omega)
    have hv1644_ : iv (jxu (jxu a 90 3 (jxw ((a 90 3) + 1))) 91 ((a 90 3).toNat) y1) := iv_putf hv1642_ rfl
    have hf1645_ : jfr jW_X5_seatOpenOffers a0 (jxu a 90 3 (jxw ((a 90 3) + 1))) := jfr_put hf rfl
    have hf1646_ : jfr jW_X5_seatOpenOffers a0 (jxu (jxu a 90 3 (jxw ((a 90 3) + 1))) 91 ((a 90 3).toNat) y1) := jfr_put hf1645_ rfl
    exact hc55 y1 (jxu (jxu a 90 3 (jxw ((a 90 3) + 1))) 91 ((a 90 3).toNat) y1) (show (((20 - y1) * 1) + 0).toNat ≤ n from by omega) hv1644_ hf1646_ (show 0 ≤ y1 from by omega) (show y1 ≤ 19 from by omega) (show 1 ≤ a0 83 6 from by omega)
  have hc7 : ∀ (y1 : Int) (a : Nat → Nat → Int), (((20 - y1) * 1) + 0).toNat ≤ n → iv a → jfr jW_X5_seatOpenOffers a0 a → 0 ≤ y1 → y1 ≤ 20 → (a0 83 6 = 0 → a 90 3 = 0) → jt (jxX E d 83 7 [some (.inr (.inr (.inl 90))), some (.inl y1)] [] (jxSH, a, b0)) (jQ_X5_seatOpenOffers a0 b0) := by
    intro y1 a hm hv hf hi0 hi1 hi2
    refine jt_eq (bq_X5_seatOpenOffers_7 E d y1 a b0) ?_
    have h1647_ := iv_get hv0 (k := 83) (j := 6) (l := 0) (u := 20) rfl
    have h1648_ := iv_get hv (k := 90) (j := 3) (l := 0) (u := 12) rfl
    refine jt_eI (eq_X4_size E d (jd_le hd rfl) a b0) ?_
    have h1649_ := f_X4_size_eq a b0
    have h1650_ := iv_get hv (k := 83) (j := 6) (l := 0) (u := 20) rfl
    have h1651_ : a 83 6 = a0 83 6 := hf 83 6 rfl
    refine jt_ite (fun c1652_ => ?_) (fun c1652_ => ?_)
    ·
      refine jt_ite (fun c1653_ => ?_) (fun c1653_ => ?_)
      ·
        refine jt_eI (eq_X4_isOpen E d (jd_le hd rfl) y1 a b0) ?_
        have h1654_ := f_X4_isOpen_eq a b0 y1
        have h1655_ := f_X4_has_eq a b0 y1
        have h1656_ : a 87 (y1.toNat) = a0 87 (y1.toNat) := hf 87 (y1.toNat) rfl
        refine jt_ite (fun c1657_ => ?_) (fun c1657_ => ?_)
        ·
          exact hc55 y1 a (show (((20 - y1) * 1) + 0).toNat ≤ n from by omega) hv hf (show 0 ≤ y1 from by omega) (show y1 ≤ 19 from by omega) (show 1 ≤ a0 83 6 from by omega)
        ·
          exact hc38 y1 a (show (((20 - y1) * 1) + 0).toNat ≤ n from by omega) hv hf (show 0 ≤ y1 from by omega) (show y1 ≤ 19 from by omega) (show a 90 3 ≤ 11 from by omega) (show 1 ≤ a0 83 6 from by omega)
      ·
        exact jt_rV ⟨hv, hf, rfl, (show (a0 83 6 = 0 → a 90 3 = 0) from by omega)⟩
    ·
      exact jt_rV ⟨hv, hf, rfl, (show (a0 83 6 = 0 → a 90 3 = 0) from by omega)⟩
  exact ⟨hc55, hc38, hc7⟩
theorem sp_X5_seatOpenOffers (E : jxE) (d : Nat) (hd : Nat.ble 3 d = true) (a0 b0 : Nat → Nat → Int) (hv0 : iv a0) : jt (jxC E d 83 [.inr (.inr (.inl 90))] (jxSH, a0, b0)) (jQ_X5_seatOpenOffers a0 b0) := by
  obtain ⟨d, rfl⟩ := jd_succ hd
  refine jt_eq (bq_X5_seatOpenOffers E d a0 b0) ?_
  have hv1658_ : iv (jxu a0 90 3 0) := iv_put hv0 (l := 0) (u := 12) rfl (by omega) (by omega)
  have hf1659_ : jfr jW_X5_seatOpenOffers a0 (jxu a0 90 3 0) := jfr_put (jfr_rf _ _) rfl
  have h1660_ := iv_get hv0 (k := 83) (j := 6) (l := 0) (u := 20) rfl
  exact (cp_X5_seatOpenOffers_7 E d hd a0 b0 hv0 _).2.2 0 (jxu a0 90 3 0) (Nat.le_refl _) hv1658_ hf1659_ (show 0 ≤ 0 from by omega) (show 0 ≤ 20 from by omega) (show (a0 83 6 = 0 → 0 = 0) from by omega)
def jW_X5_keepRing : List (Nat × Nat) := [(90, 12), (97, 9999), (104, 9999)]
abbrev jQ_X5_keepRing (x1 : Int) (a0 b0 : Nat → Nat → Int) : List jxV → (Nat → Nat → Int) → (Nat → Nat → Int) → Prop := rI (fun r a b => (iv a) ∧ (jfr jW_X5_keepRing a0 a) ∧ (b0 = b) ∧ (0 ≤ r) ∧ (r ≤ 4095))
theorem cp_X5_keepRing_88 (E : jxE) (d : Nat) (hd : Nat.ble 1 (d + 1) = true) (x1 : Int) (a0 b0 : Nat → Nat → Int) (hv0 : iv a0) (hp0 : 1 ≤ x1) (hp1 : x1 ≤ 5) : ∀ (y2 : Int) (a : Nat → Nat → Int), iv a → jfr jW_X5_keepRing a0 a → 0 ≤ y2 → y2 ≤ 4095 → 1 ≤ a 90 12 → jt (jxX E d 96 88 [none, none, some (.inl y2), none] [] (jxSH, a, b0)) (jQ_X5_keepRing x1 a0 b0) := by
  intro y2 a hv hf hi0 hi1 hi2
  refine jt_eq (bq_X5_keepRing_88 E d y2 a b0) ?_
  have h1661_ := iv_get hv (k := 90) (j := 12) (l := 0) (u := 6) rfl
  exact jt_rI ⟨hv, hf, rfl, (show 0 ≤ y2 from by omega), (show y2 ≤ 4095 from by omega)⟩
theorem cp_X5_keepRing_62 (E : jxE) (d : Nat) (hd : Nat.ble 1 (d + 1) = true) (x1 : Int) (a0 b0 : Nat → Nat → Int) (hv0 : iv a0) (hp0 : 1 ≤ x1) (hp1 : x1 ≤ 5) : ∀ (y1 y2 : Int) (a : Nat → Nat → Int), iv a → jfr jW_X5_keepRing a0 a → 1 ≤ y1 → y1 ≤ 5 → 0 ≤ y2 → y2 ≤ 4095 → jt (jxX E d 96 62 [some (.inr (.inr (.inl 90))), some (.inl y1), some (.inl y2), none] [] (jxSH, a, b0)) (jQ_X5_keepRing x1 a0 b0) := by
  intro y1 y2 a hv hf hi0 hi1 hi2 hi3
  refine jt_eq (bq_X5_keepRing_62 E d y1 y2 a b0) ?_
  have h1662_ := iv_get hv (k := 90) (j := 12) (l := 0) (u := 6) rfl
  refine jt_ite (fun c1663_ => ?_) (fun c1663_ => ?_)
  ·
    refine jt_grd (by omega) ?_
    have h1665_ : jxw ((a 90 12) + 1) = (a 90 12) + 1 := jxw_id (by omega) (by omega)
    have hv1664_ : iv (jxu a 90 12 (jxw ((a 90 12) + 1))) := iv_put hv (l := 0) (u := 6) rfl (by omega) (by omega)
    have hv1666_ : iv (jxu (jxu a 90 12 (jxw ((a 90 12) + 1))) 104 ((a 90 12).toNat) y1) := iv_put hv1664_ (l := 0) (u := 5) rfl (by omega) (by omega)
    have hf1667_ : jfr jW_X5_keepRing a0 (jxu a 90 12 (jxw ((a 90 12) + 1))) := jfr_put hf rfl
    have hf1668_ : jfr jW_X5_keepRing a0 (jxu (jxu a 90 12 (jxw ((a 90 12) + 1))) 104 ((a 90 12).toNat) y1) := jfr_put hf1667_ rfl
    exact cp_X5_keepRing_88 E d hd x1 a0 b0 hv0 hp0 hp1 y2 (jxu (jxu a 90 12 (jxw ((a 90 12) + 1))) 104 ((a 90 12).toNat) y1) hv1666_ hf1668_ (show 0 ≤ y2 from by omega) (show y2 ≤ 4095 from by omega) (show 1 ≤ jxw ((a 90 12) + 1) from by omega)
  ·
    exact cp_X5_keepRing_88 E d hd x1 a0 b0 hv0 hp0 hp1 y2 a hv hf (show 0 ≤ y2 from by omega) (show y2 ≤ 4095 from by omega) (show 1 ≤ a 90 12 from by omega)
theorem cp_X5_keepRing_4 (E : jxE) (d : Nat) (hd : Nat.ble 1 (d + 1) = true) (x1 : Int) (a0 b0 : Nat → Nat → Int) (hv0 : iv a0) (hp0 : 1 ≤ x1) (hp1 : x1 ≤ 5) : ∀ n : Nat, (∀ (y1 y2 y3 : Int) (a : Nat → Nat → Int), (((5 - y3) * 1) + 0).toNat ≤ n → iv a → jfr jW_X5_keepRing a0 a → 1 ≤ y1 → y1 ≤ 5 → 0 ≤ y2 → y2 ≤ 4095 → 0 ≤ y3 → y3 ≤ 4 → jt (jxX E d 96 56 [some (.inr (.inr (.inl 90))), some (.inl y1), some (.inl y2), some (.inl y3)] [] (jxSH, a, b0)) (jQ_X5_keepRing x1 a0 b0)) ∧ (∀ (y1 y2 y3 : Int) (a : Nat → Nat → Int), (((5 - y3) * 1) + 0).toNat ≤ n → iv a → jfr jW_X5_keepRing a0 a → 1 ≤ y1 → y1 ≤ 5 → 0 ≤ y2 → y2 ≤ 4095 → 0 ≤ y3 → y3 ≤ 4 → jt (jxX E d 96 25 [some (.inr (.inr (.inl 90))), some (.inl y1), some (.inl y2), some (.inl y3)] [] (jxSH, a, b0)) (jQ_X5_keepRing x1 a0 b0)) ∧ (∀ (y1 y2 y3 : Int) (a : Nat → Nat → Int), (((5 - y3) * 1) + 0).toNat ≤ n → iv a → jfr jW_X5_keepRing a0 a → 1 ≤ y1 → y1 ≤ 5 → 0 ≤ y2 → y2 ≤ 4095 → 0 ≤ y3 → y3 ≤ 5 → jt (jxX E d 96 4 [some (.inr (.inr (.inl 90))), some (.inl y1), some (.inl y2), some (.inl y3)] [] (jxSH, a, b0)) (jQ_X5_keepRing x1 a0 b0)) := by
  refine jx_ind fun n ih => ?_
  have ih56 : ∀ (y1 y2 y3 : Int) (a : Nat → Nat → Int), (((5 - y3) * 1) + 0).toNat < n → iv a → jfr jW_X5_keepRing a0 a → 1 ≤ y1 → y1 ≤ 5 → 0 ≤ y2 → y2 ≤ 4095 → 0 ≤ y3 → y3 ≤ 4 → jt (jxX E d 96 56 [some (.inr (.inr (.inl 90))), some (.inl y1), some (.inl y2), some (.inl y3)] [] (jxSH, a, b0)) (jQ_X5_keepRing x1 a0 b0) := fun y1 y2 y3 a hlt i0 i1 i2 i3 i4 i5 i6 i7 => (ih _ hlt).1 y1 y2 y3 a (Nat.le_refl _) i0 i1 i2 i3 i4 i5 i6 i7
  have ih25 : ∀ (y1 y2 y3 : Int) (a : Nat → Nat → Int), (((5 - y3) * 1) + 0).toNat < n → iv a → jfr jW_X5_keepRing a0 a → 1 ≤ y1 → y1 ≤ 5 → 0 ≤ y2 → y2 ≤ 4095 → 0 ≤ y3 → y3 ≤ 4 → jt (jxX E d 96 25 [some (.inr (.inr (.inl 90))), some (.inl y1), some (.inl y2), some (.inl y3)] [] (jxSH, a, b0)) (jQ_X5_keepRing x1 a0 b0) := fun y1 y2 y3 a hlt i0 i1 i2 i3 i4 i5 i6 i7 => (ih _ hlt).2.1 y1 y2 y3 a (Nat.le_refl _) i0 i1 i2 i3 i4 i5 i6 i7
  have ih4 : ∀ (y1 y2 y3 : Int) (a : Nat → Nat → Int), (((5 - y3) * 1) + 0).toNat < n → iv a → jfr jW_X5_keepRing a0 a → 1 ≤ y1 → y1 ≤ 5 → 0 ≤ y2 → y2 ≤ 4095 → 0 ≤ y3 → y3 ≤ 5 → jt (jxX E d 96 4 [some (.inr (.inr (.inl 90))), some (.inl y1), some (.inl y2), some (.inl y3)] [] (jxSH, a, b0)) (jQ_X5_keepRing x1 a0 b0) := fun y1 y2 y3 a hlt i0 i1 i2 i3 i4 i5 i6 i7 => (ih _ hlt).2.2 y1 y2 y3 a (Nat.le_refl _) i0 i1 i2 i3 i4 i5 i6 i7
  have hc56 : ∀ (y1 y2 y3 : Int) (a : Nat → Nat → Int), (((5 - y3) * 1) + 0).toNat ≤ n → iv a → jfr jW_X5_keepRing a0 a → 1 ≤ y1 → y1 ≤ 5 → 0 ≤ y2 → y2 ≤ 4095 → 0 ≤ y3 → y3 ≤ 4 → jt (jxX E d 96 56 [some (.inr (.inr (.inl 90))), some (.inl y1), some (.inl y2), some (.inl y3)] [] (jxSH, a, b0)) (jQ_X5_keepRing x1 a0 b0) := by
    intro y1 y2 y3 a hm hv hf hi0 hi1 hi2 hi3 hi4 hi5
    refine jt_eq (bq_X5_keepRing_56 E d y1 y2 y3 a b0) ?_
    have h1669_ : jxw (y3 + 1) = y3 + 1 := jxw_id (by omega) (by omega)
    exact ih4 y1 y2 (jxw (y3 + 1)) a (show (((5 - (jxw (y3 + 1))) * 1) + 0).toNat < n from by omega) hv hf (show 1 ≤ y1 from by omega) (show y1 ≤ 5 from by omega) (show 0 ≤ y2 from by omega) (show y2 ≤ 4095 from by omega) (show 0 ≤ jxw (y3 + 1) from by omega) (show jxw (y3 + 1) ≤ 5 from by omega)
  have hc25 : ∀ (y1 y2 y3 : Int) (a : Nat → Nat → Int), (((5 - y3) * 1) + 0).toNat ≤ n → iv a → jfr jW_X5_keepRing a0 a → 1 ≤ y1 → y1 ≤ 5 → 0 ≤ y2 → y2 ≤ 4095 → 0 ≤ y3 → y3 ≤ 4 → jt (jxX E d 96 25 [some (.inr (.inr (.inl 90))), some (.inl y1), some (.inl y2), some (.inl y3)] [] (jxSH, a, b0)) (jQ_X5_keepRing x1 a0 b0) := by
    intro y1 y2 y3 a hm hv hf hi0 hi1 hi2 hi3 hi4 hi5
    refine jt_eq (bq_X5_keepRing_25 E d y1 y2 y3 a b0) ?_
    have h1670_ := iv_get hv (k := 90) (j := 12) (l := 0) (u := 6) rfl
    refine jt_ite (fun c1671_ => ?_) (fun c1671_ => ?_)
    ·
      refine jt_grd (by omega) ?_
      refine jt_grd (by omega) ?_
      have h1672_ := iv_get hv (k := 96) (j := y3.toNat) (l := 0) (u := 11) rfl
      have h1673_ : a 96 (y3.toNat) = a0 96 (y3.toNat) := hf 96 (y3.toNat) rfl
      have h1674_ := iv_get hv0 (k := 96) (j := y3.toNat) (l := 0) (u := 11) rfl
      refine jt_grd (by omega) ?_
      refine jt_grd (by omega) ?_
      refine jt_grd (by omega) ?_
      have hv1675_ : iv (jxu a 97 (((a 90 12).toNat) * 5 + (y3.toNat)) (a 91 ((a 96 (y3.toNat)).toNat))) := iv_putf hv rfl
      have hf1676_ : jfr jW_X5_keepRing a0 (jxu a 97 (((a 90 12).toNat) * 5 + (y3.toNat)) (a 91 ((a 96 (y3.toNat)).toNat))) := jfr_put hf rfl
      exact hc56 y1 y2 y3 (jxu a 97 (((a 90 12).toNat) * 5 + (y3.toNat)) (a 91 ((a 96 (y3.toNat)).toNat))) (show (((5 - y3) * 1) + 0).toNat ≤ n from by omega) hv1675_ hf1676_ (show 1 ≤ y1 from by omega) (show y1 ≤ 5 from by omega) (show 0 ≤ y2 from by omega) (show y2 ≤ 4095 from by omega) (show 0 ≤ y3 from by omega) (show y3 ≤ 4 from by omega)
    ·
      exact hc56 y1 y2 y3 a (show (((5 - y3) * 1) + 0).toNat ≤ n from by omega) hv hf (show 1 ≤ y1 from by omega) (show y1 ≤ 5 from by omega) (show 0 ≤ y2 from by omega) (show y2 ≤ 4095 from by omega) (show 0 ≤ y3 from by omega) (show y3 ≤ 4 from by omega)
  have hc4 : ∀ (y1 y2 y3 : Int) (a : Nat → Nat → Int), (((5 - y3) * 1) + 0).toNat ≤ n → iv a → jfr jW_X5_keepRing a0 a → 1 ≤ y1 → y1 ≤ 5 → 0 ≤ y2 → y2 ≤ 4095 → 0 ≤ y3 → y3 ≤ 5 → jt (jxX E d 96 4 [some (.inr (.inr (.inl 90))), some (.inl y1), some (.inl y2), some (.inl y3)] [] (jxSH, a, b0)) (jQ_X5_keepRing x1 a0 b0) := by
    intro y1 y2 y3 a hm hv hf hi0 hi1 hi2 hi3 hi4 hi5
    refine jt_eq (bq_X5_keepRing_4 E d y1 y2 y3 a b0) ?_
    refine jt_ite (fun c1677_ => ?_) (fun c1677_ => ?_)
    ·
      refine jt_ite (fun c1678_ => ?_) (fun c1678_ => ?_)
      ·
        refine jt_grd (by omega) ?_
        have h1679_ := iv_get hv (k := 96) (j := y3.toNat) (l := 0) (u := 11) rfl
        have h1680_ : a 96 (y3.toNat) = a0 96 (y3.toNat) := hf 96 (y3.toNat) rfl
        have h1681_ := iv_get hv0 (k := 96) (j := y3.toNat) (l := 0) (u := 11) rfl
        have h1682_ := jxshl1_b (a 96 (y3.toNat))
        have h1683_ := jxor_b y2 (jxshl 1 (a 96 (y3.toNat)))
        exact hc25 y1 (jxor y2 (jxshl 1 (a 96 (y3.toNat)))) y3 a (show (((5 - y3) * 1) + 0).toNat ≤ n from by omega) hv hf (show 1 ≤ y1 from by omega) (show y1 ≤ 5 from by omega) (show 0 ≤ jxor y2 (jxshl 1 (a 96 (y3.toNat))) from by omega) (show jxor y2 (jxshl 1 (a 96 (y3.toNat))) ≤ 4095 from by omega) (show 0 ≤ y3 from by omega) (show y3 ≤ 4 from by omega)
      ·
        exact cp_X5_keepRing_62 E d hd x1 a0 b0 hv0 hp0 hp1 y1 y2 a hv hf (show 1 ≤ y1 from by omega) (show y1 ≤ 5 from by omega) (show 0 ≤ y2 from by omega) (show y2 ≤ 4095 from by omega)
    ·
      exact cp_X5_keepRing_62 E d hd x1 a0 b0 hv0 hp0 hp1 y1 y2 a hv hf (show 1 ≤ y1 from by omega) (show y1 ≤ 5 from by omega) (show 0 ≤ y2 from by omega) (show y2 ≤ 4095 from by omega)
  exact ⟨hc56, hc25, hc4⟩
theorem sp_X5_keepRing (E : jxE) (d : Nat) (hd : Nat.ble 1 d = true) (x1 : Int) (a0 b0 : Nat → Nat → Int) (hv0 : iv a0) (hp0 : 1 ≤ x1) (hp1 : x1 ≤ 5) : jt (jxC E d 96 [.inr (.inr (.inl 90)), .inl x1] (jxSH, a0, b0)) (jQ_X5_keepRing x1 a0 b0) := by
  obtain ⟨d, rfl⟩ := jd_succ hd
  refine jt_eq (bq_X5_keepRing E d x1 a0 b0) ?_
  exact (cp_X5_keepRing_4 E d hd x1 a0 b0 hv0 hp0 hp1 _).2.2 x1 0 0 a0 (Nat.le_refl _) hv0 (jfr_rf _ _) (show 1 ≤ x1 from by omega) (show x1 ≤ 5 from by omega) (show 0 ≤ 0 from by omega) (show 0 ≤ 4095 from by omega) (show 0 ≤ 0 from by omega) (show 0 ≤ 5 from by omega)
abbrev jQ_X5_weigh (x1 : Int) (a0 b0 : Nat → Nat → Int) : List jxV → (Nat → Nat → Int) → (Nat → Nat → Int) → Prop := rI (fun r a b => (a0 = a) ∧ (b0 = b))
theorem cp_X5_weigh_29 (E : jxE) (d : Nat) (hd : Nat.ble 3 (d + 1) = true) (x1 : Int) (a0 b0 : Nat → Nat → Int) (hv0 : iv a0) (hp0 : 0 ≤ x1) (hp1 : x1 ≤ 4095) : ∀ n : Nat, (∀ (y2 y3 y4 y5 y6 : Int), ((y6 * 1) + 0).toNat ≤ n → 0 ≤ y2 → y2 ≤ 4095 → 0 ≤ y3 → y3 ≤ 4095 → 1 ≤ y6 → y6 ≤ 4095 → jt (jxX E d 91 79 [some (.inr (.inr (.inl 90))), none, some (.inl y2), some (.inl y3), some (.inl y4), some (.inl y5), some (.inl y6)] [] (jxSH, a0, b0)) (jQ_X5_weigh x1 a0 b0)) ∧ (∀ (y2 y3 y4 y5 y6 : Int), ((y6 * 1) + 0).toNat ≤ n → 0 ≤ y2 → y2 ≤ 4095 → 0 ≤ y3 → y3 ≤ 4095 → 0 ≤ y6 → y6 ≤ 4095 → jt (jxX E d 91 29 [some (.inr (.inr (.inl 90))), none, some (.inl y2), some (.inl y3), some (.inl y4), some (.inl y5), some (.inl y6)] [] (jxSH, a0, b0)) (jQ_X5_weigh x1 a0 b0)) := by
  refine jx_ind fun n ih => ?_
  have ih79 : ∀ (y2 y3 y4 y5 y6 : Int), ((y6 * 1) + 0).toNat < n → 0 ≤ y2 → y2 ≤ 4095 → 0 ≤ y3 → y3 ≤ 4095 → 1 ≤ y6 → y6 ≤ 4095 → jt (jxX E d 91 79 [some (.inr (.inr (.inl 90))), none, some (.inl y2), some (.inl y3), some (.inl y4), some (.inl y5), some (.inl y6)] [] (jxSH, a0, b0)) (jQ_X5_weigh x1 a0 b0) := fun y2 y3 y4 y5 y6 hlt i0 i1 i2 i3 i4 i5 => (ih _ hlt).1 y2 y3 y4 y5 y6 (Nat.le_refl _) i0 i1 i2 i3 i4 i5
  have ih29 : ∀ (y2 y3 y4 y5 y6 : Int), ((y6 * 1) + 0).toNat < n → 0 ≤ y2 → y2 ≤ 4095 → 0 ≤ y3 → y3 ≤ 4095 → 0 ≤ y6 → y6 ≤ 4095 → jt (jxX E d 91 29 [some (.inr (.inr (.inl 90))), none, some (.inl y2), some (.inl y3), some (.inl y4), some (.inl y5), some (.inl y6)] [] (jxSH, a0, b0)) (jQ_X5_weigh x1 a0 b0) := fun y2 y3 y4 y5 y6 hlt i0 i1 i2 i3 i4 i5 => (ih _ hlt).2 y2 y3 y4 y5 y6 (Nat.le_refl _) i0 i1 i2 i3 i4 i5
  have hc79 : ∀ (y2 y3 y4 y5 y6 : Int), ((y6 * 1) + 0).toNat ≤ n → 0 ≤ y2 → y2 ≤ 4095 → 0 ≤ y3 → y3 ≤ 4095 → 1 ≤ y6 → y6 ≤ 4095 → jt (jxX E d 91 79 [some (.inr (.inr (.inl 90))), none, some (.inl y2), some (.inl y3), some (.inl y4), some (.inl y5), some (.inl y6)] [] (jxSH, a0, b0)) (jQ_X5_weigh x1 a0 b0) := by
    intro y2 y3 y4 y5 y6 hm hi0 hi1 hi2 hi3 hi4 hi5
    refine jt_eq (bq_X5_weigh_79 E d y2 y3 y4 y5 y6 a0 b0) ?_
    have h1684_ : jxw (y6 - 1) = y6 - 1 := jxw_id (by omega) (by omega)
    have h1685_ := jxand_b (jxw (y6 - 1)) y3
    exact ih29 y2 y3 y4 y5 (jxand (jxw (y6 - 1)) y3) (show (((jxand (jxw (y6 - 1)) y3) * 1) + 0).toNat < n from by omega) (show 0 ≤ y2 from by omega) (show y2 ≤ 4095 from by omega) (show 0 ≤ y3 from by omega) (show y3 ≤ 4095 from by omega) (show 0 ≤ jxand (jxw (y6 - 1)) y3 from by omega) (show jxand (jxw (y6 - 1)) y3 ≤ 4095 from by omega)
  have hc29 : ∀ (y2 y3 y4 y5 y6 : Int), ((y6 * 1) + 0).toNat ≤ n → 0 ≤ y2 → y2 ≤ 4095 → 0 ≤ y3 → y3 ≤ 4095 → 0 ≤ y6 → y6 ≤ 4095 → jt (jxX E d 91 29 [some (.inr (.inr (.inl 90))), none, some (.inl y2), some (.inl y3), some (.inl y4), some (.inl y5), some (.inl y6)] [] (jxSH, a0, b0)) (jQ_X5_weigh x1 a0 b0) := by
    intro y2 y3 y4 y5 y6 hm hi0 hi1 hi2 hi3 hi4 hi5
    refine jt_eq (bq_X5_weigh_29 E d y2 y3 y4 y5 y6 a0 b0) ?_
    refine jt_ite (fun c1686_ => ?_) (fun c1686_ => ?_)
    ·
      refine jt_ite (fun c1687_ => ?_) (fun c1687_ => ?_)
      ·
        refine jt_eI (eq_X5_isRingSet E d (jd_le hd rfl) (jxor y2 y6) a0 b0) ?_
        have h1688_ := jxor_b y2 y6
        have h1689_ := f_X5_isRingSet_bool a0 b0 (jxor y2 y6)
        refine jt_ite (fun c1690_ => ?_) (fun c1690_ => ?_)
        ·
          exact hc79 y2 y3 y4 y5 y6 (show ((y6 * 1) + 0).toNat ≤ n from by omega) (show 0 ≤ y2 from by omega) (show y2 ≤ 4095 from by omega) (show 0 ≤ y3 from by omega) (show y3 ≤ 4095 from by omega) (show 1 ≤ y6 from by omega) (show y6 ≤ 4095 from by omega)
        ·
          have h1691_ := jxxor_b y3 y6
          refine jt_grd (by omega) ?_
          refine jt_eI (eq_J6_bitCount_0f7a4 E d (jd_le hd rfl) y6 a0 b0) ?_
          refine jt_eI (eq_X5_worth E d (jd_le hd rfl) (jxw (1 + (f_J6_bitCount_0f7a4 a0 b0 y6))) a0 b0) ?_
          refine jt_eI (eq_J9_max_7cf53 E d (jd_le hd rfl) y5 (jxw ((a0 95 ((jxxor y3 y6).toNat)) + (f_X5_worth a0 b0 (jxw (1 + (f_J6_bitCount_0f7a4 a0 b0 y6)))))) a0 b0) ?_
          exact hc79 y2 y3 y4 (f_J9_max_7cf53 a0 b0 y5 (jxw ((a0 95 ((jxxor y3 y6).toNat)) + (f_X5_worth a0 b0 (jxw (1 + (f_J6_bitCount_0f7a4 a0 b0 y6))))))) y6 (show ((y6 * 1) + 0).toNat ≤ n from by omega) (show 0 ≤ y2 from by omega) (show y2 ≤ 4095 from by omega) (show 0 ≤ y3 from by omega) (show y3 ≤ 4095 from by omega) (show 1 ≤ y6 from by omega) (show y6 ≤ 4095 from by omega)
      ·
        exact jt_rI ⟨rfl, rfl⟩
    ·
      exact jt_rI ⟨rfl, rfl⟩
  exact ⟨hc79, hc29⟩
theorem cp_X5_weigh_26 (E : jxE) (d : Nat) (hd : Nat.ble 3 (d + 1) = true) (x1 : Int) (a0 b0 : Nat → Nat → Int) (hv0 : iv a0) (hp0 : 0 ≤ x1) (hp1 : x1 ≤ 4095) : ∀ (y2 y3 y4 y5 : Int), 0 ≤ y2 → y2 ≤ 4095 → 0 ≤ y3 → y3 ≤ 4095 → jt (jxX E d 91 26 [some (.inr (.inr (.inl 90))), none, some (.inl y2), some (.inl y3), some (.inl y4), some (.inl y5), none] [] (jxSH, a0, b0)) (jQ_X5_weigh x1 a0 b0) := by
  intro y2 y3 y4 y5 hi0 hi1 hi2 hi3
  refine jt_eq (bq_X5_weigh_26 E d y2 y3 y4 y5 a0 b0) ?_
  exact (cp_X5_weigh_29 E d hd x1 a0 b0 hv0 hp0 hp1 _).2 y2 y3 y4 y5 y3 (Nat.le_refl _) (show 0 ≤ y2 from by omega) (show y2 ≤ 4095 from by omega) (show 0 ≤ y3 from by omega) (show y3 ≤ 4095 from by omega) (show 0 ≤ y3 from by omega) (show y3 ≤ 4095 from by omega)
theorem sp_X5_weigh (E : jxE) (d : Nat) (hd : Nat.ble 3 d = true) (x1 : Int) (a0 b0 : Nat → Nat → Int) (hv0 : iv a0) (hp0 : 0 ≤ x1) (hp1 : x1 ≤ 4095) : jt (jxC E d 91 [.inr (.inr (.inl 90)), .inl x1] (jxSH, a0, b0)) (jQ_X5_weigh x1 a0 b0) := by
  obtain ⟨d, rfl⟩ := jd_succ hd
  refine jt_eq (bq_X5_weigh E d x1 a0 b0) ?_
  refine jt_eI (eq_J6_bitCount_0f7a4 E d (jd_le hd rfl) x1 a0 b0) ?_
  refine jt_eI (eq_X5_mostWorth E d (jd_le hd rfl) (f_J6_bitCount_0f7a4 a0 b0 x1) a0 b0) ?_
  have h1692_ : jxw (-x1) = -x1 := jxw_id (by omega) (by omega)
  have h1693_ := jxand_b x1 (jxw (-x1))
  have h1694_ := jxxor_b x1 (jxand x1 (jxw (-x1)))
  refine jt_grd (by omega) ?_
  exact cp_X5_weigh_26 E d hd x1 a0 b0 hv0 hp0 hp1 (jxand x1 (jxw (-x1))) (jxxor x1 (jxand x1 (jxw (-x1)))) (f_X5_mostWorth a0 b0 (f_J6_bitCount_0f7a4 a0 b0 x1)) (a0 95 ((jxxor x1 (jxand x1 (jxw (-x1)))).toNat)) (show 0 ≤ jxand x1 (jxw (-x1)) from by omega) (show jxand x1 (jxw (-x1)) ≤ 4095 from by omega) (show 0 ≤ jxxor x1 (jxand x1 (jxw (-x1))) from by omega) (show jxxor x1 (jxand x1 (jxw (-x1))) ≤ 4095 from by omega)
def jW_X5_weighSets : List (Nat × Nat) := [(95, 9999)]
abbrev jQ_X5_weighSets (a0 b0 : Nat → Nat → Int) : List jxV → (Nat → Nat → Int) → (Nat → Nat → Int) → Prop := rV (fun a b => (iv a) ∧ (jfr jW_X5_weighSets a0 a) ∧ (b0 = b))
theorem cp_X5_weighSets_11 (E : jxE) (d : Nat) (hd : Nat.ble 4 (d + 1) = true) (a0 b0 : Nat → Nat → Int) (hv0 : iv a0) : ∀ n : Nat, (∀ (y1 y2 : Int) (a : Nat → Nat → Int), (((4096 - y2) * 1) + 0).toNat ≤ n → iv a → jfr jW_X5_weighSets a0 a → 1 ≤ y1 → y1 ≤ 4095 → 1 ≤ y2 → y2 ≤ 4095 → jt (jxX E d 90 46 [some (.inr (.inr (.inl 90))), some (.inl y1), some (.inl y2)] [] (jxSH, a, b0)) (jQ_X5_weighSets a0 b0)) ∧ (∀ (y1 y2 : Int) (a : Nat → Nat → Int), (((4096 - y2) * 1) + 0).toNat ≤ n → iv a → jfr jW_X5_weighSets a0 a → 0 ≤ y1 → y1 ≤ 4095 → 1 ≤ y2 → y2 ≤ 4096 → jt (jxX E d 90 11 [some (.inr (.inr (.inl 90))), some (.inl y1), some (.inl y2)] [] (jxSH, a, b0)) (jQ_X5_weighSets a0 b0)) := by
  refine jx_ind fun n ih => ?_
  have ih46 : ∀ (y1 y2 : Int) (a : Nat → Nat → Int), (((4096 - y2) * 1) + 0).toNat < n → iv a → jfr jW_X5_weighSets a0 a → 1 ≤ y1 → y1 ≤ 4095 → 1 ≤ y2 → y2 ≤ 4095 → jt (jxX E d 90 46 [some (.inr (.inr (.inl 90))), some (.inl y1), some (.inl y2)] [] (jxSH, a, b0)) (jQ_X5_weighSets a0 b0) := fun y1 y2 a hlt i0 i1 i2 i3 i4 i5 => (ih _ hlt).1 y1 y2 a (Nat.le_refl _) i0 i1 i2 i3 i4 i5
  have ih11 : ∀ (y1 y2 : Int) (a : Nat → Nat → Int), (((4096 - y2) * 1) + 0).toNat < n → iv a → jfr jW_X5_weighSets a0 a → 0 ≤ y1 → y1 ≤ 4095 → 1 ≤ y2 → y2 ≤ 4096 → jt (jxX E d 90 11 [some (.inr (.inr (.inl 90))), some (.inl y1), some (.inl y2)] [] (jxSH, a, b0)) (jQ_X5_weighSets a0 b0) := fun y1 y2 a hlt i0 i1 i2 i3 i4 i5 => (ih _ hlt).2 y1 y2 a (Nat.le_refl _) i0 i1 i2 i3 i4 i5
  have hc46 : ∀ (y1 y2 : Int) (a : Nat → Nat → Int), (((4096 - y2) * 1) + 0).toNat ≤ n → iv a → jfr jW_X5_weighSets a0 a → 1 ≤ y1 → y1 ≤ 4095 → 1 ≤ y2 → y2 ≤ 4095 → jt (jxX E d 90 46 [some (.inr (.inr (.inl 90))), some (.inl y1), some (.inl y2)] [] (jxSH, a, b0)) (jQ_X5_weighSets a0 b0) := by
    intro y1 y2 a hm hv hf hi0 hi1 hi2 hi3
    refine jt_eq (bq_X5_weighSets_46 E d y1 y2 a b0) ?_
    have h1695_ : jxw (y2 + 1) = y2 + 1 := jxw_id (by omega) (by omega)
    exact ih11 y1 (jxw (y2 + 1)) a (show (((4096 - (jxw (y2 + 1))) * 1) + 0).toNat < n from by omega) hv hf (show 0 ≤ y1 from by omega) (show y1 ≤ 4095 from by omega) (show 1 ≤ jxw (y2 + 1) from by omega) (show jxw (y2 + 1) ≤ 4096 from by omega)
  have hc11 : ∀ (y1 y2 : Int) (a : Nat → Nat → Int), (((4096 - y2) * 1) + 0).toNat ≤ n → iv a → jfr jW_X5_weighSets a0 a → 0 ≤ y1 → y1 ≤ 4095 → 1 ≤ y2 → y2 ≤ 4096 → jt (jxX E d 90 11 [some (.inr (.inr (.inl 90))), some (.inl y1), some (.inl y2)] [] (jxSH, a, b0)) (jQ_X5_weighSets a0 b0) := by
    intro y1 y2 a hm hv hf hi0 hi1 hi2 hi3
    refine jt_eq (bq_X5_weighSets_11 E d y1 y2 a b0) ?_
    refine jt_ite (fun c1696_ => ?_) (fun c1696_ => ?_)
    ·
      have h1697_ := iv_get hv (k := 90) (j := 8) (l := 0) (u := 4095) rfl
      have h1698_ : a 90 8 = a0 90 8 := hf 90 8 rfl
      have h1699_ := iv_get hv0 (k := 90) (j := 8) (l := 0) (u := 4095) rfl
      have h1700_ : jxw (y1 - (a 90 8)) = y1 - (a 90 8) := jxw_id (by omega) (by omega)
      have h1701_ := jxand_b (jxw (y1 - (a 90 8))) (a 90 8)
      refine jt_ite (fun c1702_ => ?_) (fun c1702_ => ?_)
      ·
        exact jt_rV ⟨hv, hf, rfl⟩
      ·
        refine jt_bI (sp_X5_weigh E d (jd_le hd rfl) (jxand (jxw (y1 - (a 90 8))) (a 90 8)) a b0 hv (show 0 ≤ jxand (jxw (y1 - (a 90 8))) (a 90 8) from by omega) (show jxand (jxw (y1 - (a 90 8))) (a 90 8) ≤ 4095 from by omega)) (fun r1703_ a1703_ b1703_ h1703_ => ?_)
        obtain ⟨rfl, rfl⟩ := h1703_
        refine jt_grd (by omega) ?_
        have hv1704_ : iv (jxu a 95 ((jxand (jxw (y1 - (a 90 8))) (a 90 8)).toNat) r1703_) := iv_putf hv rfl
        have hf1705_ : jfr jW_X5_weighSets a0 (jxu a 95 ((jxand (jxw (y1 - (a 90 8))) (a 90 8)).toNat) r1703_) := jfr_put hf rfl
        exact hc46 (jxand (jxw (y1 - (a 90 8))) (a 90 8)) y2 (jxu a 95 ((jxand (jxw (y1 - (a 90 8))) (a 90 8)).toNat) r1703_) (show (((4096 - y2) * 1) + 0).toNat ≤ n from by omega) hv1704_ hf1705_ (show 1 ≤ jxand (jxw (y1 - (a 90 8))) (a 90 8) from by omega) (show jxand (jxw (y1 - (a 90 8))) (a 90 8) ≤ 4095 from by omega) (show 1 ≤ y2 from by omega) (show y2 ≤ 4095 from by omega)
    ·
      exact jt_rV ⟨hv, hf, rfl⟩
  exact ⟨hc46, hc11⟩
theorem sp_X5_weighSets (E : jxE) (d : Nat) (hd : Nat.ble 4 d = true) (a0 b0 : Nat → Nat → Int) (hv0 : iv a0) : jt (jxC E d 90 [.inr (.inr (.inl 90))] (jxSH, a0, b0)) (jQ_X5_weighSets a0 b0) := by
  obtain ⟨d, rfl⟩ := jd_succ hd
  refine jt_eq (bq_X5_weighSets E d a0 b0) ?_
  have hv1706_ : iv (jxu a0 95 0 0) := iv_putf hv0 rfl
  have hf1707_ : jfr jW_X5_weighSets a0 (jxu a0 95 0 0) := jfr_put (jfr_rf _ _) rfl
  exact (cp_X5_weighSets_11 E d hd a0 b0 hv0 _).2 0 1 (jxu a0 95 0 0) (Nat.le_refl _) hv1706_ hf1707_ (show 0 ≤ 0 from by omega) (show 0 ≤ 4095 from by omega) (show 1 ≤ 1 from by omega) (show 1 ≤ 4096 from by omega)
def jW_X6_takeRuleWord_r2 : List (Nat × Nat) := [(2, 2)]
abbrev jQ_X6_takeRuleWord_r2 (a0 b0 : Nat → Nat → Int) : List jxV → (Nat → Nat → Int) → (Nat → Nat → Int) → Prop := rI (fun r a b => (iv a) ∧ (jfr jW_X6_takeRuleWord_r2 a0 a) ∧ (b0 = b) ∧ (r = WI (a0 3) (a0 2 1).toNat (a0 2 2).toNat) ∧ (0 ≤ r → a 2 2 = (SK (a0 3) (a0 2 1).toNat ((a0 2 2).toNat + wdn (10 + r.toNat)) : Int)) ∧ (r < 0 → a 2 2 = a0 2 2))
theorem cp_X6_takeRuleWord_r2_42 (E : jxE) (d : Nat) (hd : Nat.ble 6 (d + 1) = true) (a0 b0 : Nat → Nat → Int) (hv0 : iv a0) (hp0 : a0 2 3 = 0) : ∀ (a : Nat → Nat → Int), iv a → jfr jW_X6_takeRuleWord_r2 a0 a → (TW (a0 3) (a0 2 1).toNat (a0 2 2).toNat 13) → (a 2 2 = (SK (a0 3) (a0 2 1).toNat ((a0 2 2).toNat + wdn 13) : Int)) → jt (jxX E d 106 42 [none] [] (jxSH, a, b0)) (jQ_X6_takeRuleWord_r2 a0 b0) := by
  intro a hv hf htw hat
  refine jt_eq (bq_X6_takeRuleWord_r2_42 E d a b0) ?_
  have h3 : a 3 = a0 3 := funext fun j => hf 3 j rfl
  have h21 := hf 2 1 rfl
  exact jt_rI ⟨hv, hf, rfl, (WI_3 htw).symm, (fun _ => hat), (fun h => absurd h (by decide))⟩
theorem cp_X6_takeRuleWord_r2_44 (E : jxE) (d : Nat) (hd : Nat.ble 6 (d + 1) = true) (a0 b0 : Nat → Nat → Int) (hv0 : iv a0) (hp0 : a0 2 3 = 0) : ∀ (a : Nat → Nat → Int), iv a → jfr jW_X6_takeRuleWord_r2 a0 a → (¬ TW (a0 3) (a0 2 1).toNat (a0 2 2).toNat 10 ∧ ¬ TW (a0 3) (a0 2 1).toNat (a0 2 2).toNat 11 ∧ ¬ TW (a0 3) (a0 2 1).toNat (a0 2 2).toNat 12 ∧ ¬ TW (a0 3) (a0 2 1).toNat (a0 2 2).toNat 13) → a 2 2 = a0 2 2 → a 2 3 = 0 → jt (jxX E d 106 44 [some (.inr (.inr (.inl 2)))] [] (jxSH, a, b0)) (jQ_X6_takeRuleWord_r2 a0 b0) := by
  intro a hv hf hn hi1 hi2
  refine jt_eq (bq_X6_takeRuleWord_r2_44 E d a b0) ?_
  have h1708_ := iv_get hv (k := 2) (j := 2) (l := 0) (u := 200) rfl
  have h1709_ := iv_get hv0 (k := 2) (j := 2) (l := 0) (u := 200) rfl
  have h1710_ : a 2 3 = a0 2 3 := hf 2 3 rfl
  have h3 : a 3 = a0 3 := funext fun j => hf 3 j rfl
  have h21 := hf 2 1 rfl
  refine jt_bI (sp_X8_takesWord_r1014 E d (jd_le hd rfl) a b0 hv) (fun r1711_ a1711_ b1711_ h1711_ => ?_)
  obtain ⟨hv1711_, hf1711_, rfl, hq1711_0, hq1711_1, hq1711_2, hq1711_3, hq1711_4⟩ := h1711_
  have h1712_ := iv_get hv (k := 2) (j := 1) (l := 0) (u := 200) rfl
  have h1713_ : a 2 1 = a0 2 1 := hf 2 1 rfl
  have h1714_ := iv_get hv0 (k := 2) (j := 1) (l := 0) (u := 200) rfl
  have h1715_ := iv_get hv1711_ (k := 2) (j := 2) (l := 0) (u := 200) rfl
  have hz1711 := hf1711_ 2 3 rfl
  refine jt_ite (fun c1716_ => ?_) (fun c1716_ => ?_)
  ·
    have hf1717_ : jfr jW_X6_takeRuleWord_r2 a0 a1711_ := jfr_tr hf hf1711_ rfl
    exact jt_rI ⟨hv1711_, hf1717_, rfl, (WI_no hn.1 hn.2.1 hn.2.2.1 hn.2.2.2 (by have q := (hq1711_4 (by omega)).resolve_left (fun h => h (by omega)); rw [show a 3 = a0 3 from funext (fun j => hf 3 j rfl), show a 2 1 = a0 2 1 from hf 2 1 rfl, show a 2 2 = a0 2 2 from by omega] at q; exact q)).symm, (fun h => absurd h (by decide)), (fun _ => by omega)⟩
  ·
    have hf1718_ : jfr jW_X6_takeRuleWord_r2 a0 a1711_ := jfr_tr hf hf1711_ rfl
    exact jt_rI ⟨hv1711_, hf1718_, rfl, (by have q := (hq1711_3 (by omega)).2.1; rw [show a 3 = a0 3 from funext (fun j => hf 3 j rfl), show a 2 1 = a0 2 1 from hf 2 1 rfl, show a 2 2 = a0 2 2 from by omega] at q; exact (WI_4 q).symm), (fun _ => by have q := (hq1711_3 (by omega)).2.2; rw [show a 3 = a0 3 from funext (fun j => hf 3 j rfl), show a 2 1 = a0 2 1 from hf 2 1 rfl, show a 2 2 = a0 2 2 from by omega] at q; exact q), (fun h => absurd h (by decide))⟩
theorem sp_X6_takeRuleWord_r2 (E : jxE) (d : Nat) (hd : Nat.ble 6 d = true) (a0 b0 : Nat → Nat → Int) (hv0 : iv a0) (hp0 : a0 2 3 = 0) : jt (jxC E d 106 [.inr (.inr (.inl 2))] (jxSH, a0, b0)) (jQ_X6_takeRuleWord_r2 a0 b0) := by
  obtain ⟨d, rfl⟩ := jd_succ hd
  refine jt_eq (bq_X6_takeRuleWord_r2 E d a0 b0) ?_
  refine jt_bI (sp_X8_takesWord_r1010 E d (jd_le hd rfl) a0 b0 hv0) (fun r1719_ a1719_ b1719_ h1719_ => ?_)
  obtain ⟨hv1719_, hf1719_, rfl, hq1719_0, hq1719_1, hq1719_2, hq1719_3, hq1719_4⟩ := h1719_
  have h1720_ := iv_get hv0 (k := 2) (j := 1) (l := 0) (u := 200) rfl
  have h1721_ := iv_get hv0 (k := 2) (j := 2) (l := 0) (u := 200) rfl
  have h1722_ := iv_get hv1719_ (k := 2) (j := 2) (l := 0) (u := 200) rfl
  have hz1719 := hf1719_ 2 3 rfl
  refine jt_ite (fun c1723_ => ?_) (fun c1723_ => ?_)
  ·
    refine jt_bI (sp_X8_takesWord_r1011 E d (jd_le hd rfl) a1719_ b0 hv1719_) (fun r1724_ a1724_ b1724_ h1724_ => ?_)
    obtain ⟨hv1724_, hf1724_, rfl, hq1724_0, hq1724_1, hq1724_2, hq1724_3, hq1724_4⟩ := h1724_
    have h1725_ : a1719_ 2 3 = a0 2 3 := hf1719_ 2 3 rfl
    have h1726_ := iv_get hv1719_ (k := 2) (j := 1) (l := 0) (u := 200) rfl
    have h1727_ : a1719_ 2 1 = a0 2 1 := hf1719_ 2 1 rfl
    have h1728_ := iv_get hv1724_ (k := 2) (j := 2) (l := 0) (u := 200) rfl
    have hz1724 := hf1724_ 2 3 rfl
    refine jt_ite (fun c1729_ => ?_) (fun c1729_ => ?_)
    ·
      refine jt_bI (sp_X8_takesWord_r1012 E d (jd_le hd rfl) a1724_ b0 hv1724_) (fun r1730_ a1730_ b1730_ h1730_ => ?_)
      obtain ⟨hv1730_, hf1730_, rfl, hq1730_0, hq1730_1, hq1730_2, hq1730_3, hq1730_4⟩ := h1730_
      have h1731_ : a1724_ 2 3 = a1719_ 2 3 := hf1724_ 2 3 rfl
      have h1732_ := iv_get hv1724_ (k := 2) (j := 1) (l := 0) (u := 200) rfl
      have h1733_ : a1724_ 2 1 = a1719_ 2 1 := hf1724_ 2 1 rfl
      have h1734_ := iv_get hv1730_ (k := 2) (j := 2) (l := 0) (u := 200) rfl
      have hz1730 := hf1730_ 2 3 rfl
      refine jt_ite (fun c1735_ => ?_) (fun c1735_ => ?_)
      ·
        refine jt_bI (sp_X8_takesWord_r1013 E d (jd_le hd rfl) a1730_ b0 hv1730_) (fun r1736_ a1736_ b1736_ h1736_ => ?_)
        obtain ⟨hv1736_, hf1736_, rfl, hq1736_0, hq1736_1, hq1736_2, hq1736_3, hq1736_4⟩ := h1736_
        have h1737_ : a1730_ 2 3 = a1724_ 2 3 := hf1730_ 2 3 rfl
        have h1738_ := iv_get hv1730_ (k := 2) (j := 1) (l := 0) (u := 200) rfl
        have h1739_ : a1730_ 2 1 = a1724_ 2 1 := hf1730_ 2 1 rfl
        have h1740_ := iv_get hv1736_ (k := 2) (j := 2) (l := 0) (u := 200) rfl
        have hz1736 := hf1736_ 2 3 rfl
        refine jt_ite (fun c1741_ => ?_) (fun c1741_ => ?_)
        ·
          have hf1742_ : jfr jW_X6_takeRuleWord_r2 a0 a1719_ := jfr_tr (jfr_rf _ _) hf1719_ rfl
          have hf1743_ : jfr jW_X6_takeRuleWord_r2 a0 a1724_ := jfr_tr hf1742_ hf1724_ rfl
          have hf1744_ : jfr jW_X6_takeRuleWord_r2 a0 a1730_ := jfr_tr hf1743_ hf1730_ rfl
          have hf1745_ : jfr jW_X6_takeRuleWord_r2 a0 a1736_ := jfr_tr hf1744_ hf1736_ rfl
          have h1746_ : a1736_ 2 3 = a1730_ 2 3 := hf1736_ 2 3 rfl
          exact cp_X6_takeRuleWord_r2_44 E d hd a0 b0 hv0 hp0 a1736_ hv1736_ hf1745_ ⟨(by have q := (hq1719_4 (by omega)).resolve_left (fun h => h (by omega)); exact q), (by have q := (hq1724_4 (by omega)).resolve_left (fun h => h (by omega)); rw [show a1719_ 3 = a0 3 from funext (fun j => hf1742_ 3 j rfl), show a1719_ 2 1 = a0 2 1 from hf1742_ 2 1 rfl, show a1719_ 2 2 = a0 2 2 from by omega] at q; exact q), (by have q := (hq1730_4 (by omega)).resolve_left (fun h => h (by omega)); rw [show a1724_ 3 = a0 3 from funext (fun j => hf1743_ 3 j rfl), show a1724_ 2 1 = a0 2 1 from hf1743_ 2 1 rfl, show a1724_ 2 2 = a0 2 2 from by omega] at q; exact q), (by have q := (hq1736_4 (by omega)).resolve_left (fun h => h (by omega)); rw [show a1730_ 3 = a0 3 from funext (fun j => hf1744_ 3 j rfl), show a1730_ 2 1 = a0 2 1 from hf1744_ 2 1 rfl, show a1730_ 2 2 = a0 2 2 from by omega] at q; exact q)⟩ (show a1736_ 2 2 = a0 2 2 from by omega) (show a1736_ 2 3 = 0 from by omega)
        ·
          have hf1747_ : jfr jW_X6_takeRuleWord_r2 a0 a1719_ := jfr_tr (jfr_rf _ _) hf1719_ rfl
          have hf1748_ : jfr jW_X6_takeRuleWord_r2 a0 a1724_ := jfr_tr hf1747_ hf1724_ rfl
          have hf1749_ : jfr jW_X6_takeRuleWord_r2 a0 a1730_ := jfr_tr hf1748_ hf1730_ rfl
          have hf1750_ : jfr jW_X6_takeRuleWord_r2 a0 a1736_ := jfr_tr hf1749_ hf1736_ rfl
          exact cp_X6_takeRuleWord_r2_42 E d hd a0 b0 hv0 hp0 a1736_ hv1736_ hf1750_ (by have q := (hq1736_3 (by omega)).2.1; rw [show a1730_ 3 = a0 3 from funext (fun j => hf1749_ 3 j rfl), show a1730_ 2 1 = a0 2 1 from hf1749_ 2 1 rfl, show a1730_ 2 2 = a0 2 2 from by omega] at q; exact q) (by have q := (hq1736_3 (by omega)).2.2; rw [show a1730_ 3 = a0 3 from funext (fun j => hf1749_ 3 j rfl), show a1730_ 2 1 = a0 2 1 from hf1749_ 2 1 rfl, show a1730_ 2 2 = a0 2 2 from by omega] at q; exact q)
      ·
        have hf1751_ : jfr jW_X6_takeRuleWord_r2 a0 a1719_ := jfr_tr (jfr_rf _ _) hf1719_ rfl
        have hf1752_ : jfr jW_X6_takeRuleWord_r2 a0 a1724_ := jfr_tr hf1751_ hf1724_ rfl
        have hf1753_ : jfr jW_X6_takeRuleWord_r2 a0 a1730_ := jfr_tr hf1752_ hf1730_ rfl
        exact jt_rI ⟨hv1730_, hf1753_, rfl, (by have q := (hq1730_3 (by omega)).2.1; rw [show a1724_ 3 = a0 3 from funext (fun j => hf1752_ 3 j rfl), show a1724_ 2 1 = a0 2 1 from hf1752_ 2 1 rfl, show a1724_ 2 2 = a0 2 2 from by omega] at q; exact (WI_2 q).symm), (fun _ => by have q := (hq1730_3 (by omega)).2.2; rw [show a1724_ 3 = a0 3 from funext (fun j => hf1752_ 3 j rfl), show a1724_ 2 1 = a0 2 1 from hf1752_ 2 1 rfl, show a1724_ 2 2 = a0 2 2 from by omega] at q; exact q), (fun h => absurd h (by decide))⟩
    ·
      have hf1754_ : jfr jW_X6_takeRuleWord_r2 a0 a1719_ := jfr_tr (jfr_rf _ _) hf1719_ rfl
      have hf1755_ : jfr jW_X6_takeRuleWord_r2 a0 a1724_ := jfr_tr hf1754_ hf1724_ rfl
      exact jt_rI ⟨hv1724_, hf1755_, rfl, (by have q := (hq1724_3 (by omega)).2.1; rw [show a1719_ 3 = a0 3 from funext (fun j => hf1754_ 3 j rfl), show a1719_ 2 1 = a0 2 1 from hf1754_ 2 1 rfl, show a1719_ 2 2 = a0 2 2 from by omega] at q; exact (WI_1 q).symm), (fun _ => by have q := (hq1724_3 (by omega)).2.2; rw [show a1719_ 3 = a0 3 from funext (fun j => hf1754_ 3 j rfl), show a1719_ 2 1 = a0 2 1 from hf1754_ 2 1 rfl, show a1719_ 2 2 = a0 2 2 from by omega] at q; exact q), (fun h => absurd h (by decide))⟩
  ·
    have hf1756_ : jfr jW_X6_takeRuleWord_r2 a0 a1719_ := jfr_tr (jfr_rf _ _) hf1719_ rfl
    exact jt_rI ⟨hv1719_, hf1756_, rfl, (by have q := (hq1719_3 (by omega)).2.1; exact (WI_0 q).symm), (fun _ => by have q := (hq1719_3 (by omega)).2.2; exact q), (fun h => absurd h (by decide))⟩
def jW_X6_readWord_r2 : List (Nat × Nat) := [(2, 2), (2, 3), (55, 2), (57, 9999)]
abbrev jQ_X6_readWord_r2 (a0 b0 : Nat → Nat → Int) : List jxV → (Nat → Nat → Int) → (Nat → Nat → Int) → Prop := rV (fun a b => (iv a) ∧ (jfr jW_X6_readWord_r2 a0 a) ∧ (b0 = b) ∧ (a 2 3 = RWF (a0 3) (a0 2 1).toNat (a0 2 2).toNat (a0 55 2)) ∧ (RWF (a0 3) (a0 2 1).toNat (a0 2 2).toNat (a0 55 2) = 0 → a 2 2 = (RE (a0 3) (a0 2 1).toNat (a0 2 2).toNat : Int) ∧ a 55 2 = jxor (a0 55 2) (jxshl 1 (WI (a0 3) (a0 2 1).toNat (a0 2 2).toNat)) ∧ UP (a0 57) (a 57) (WI (a0 3) (a0 2 1).toNat (a0 2 2).toNat).toNat (NV (a0 3) (a0 2 1).toNat (RQ (a0 3) (a0 2 1).toNat (a0 2 2).toNat))))
theorem cp_X6_readWord_r2_36 (E : jxE) (d : Nat) (hd : Nat.ble 7 (d + 1) = true) (a0 b0 : Nat → Nat → Int) (hv0 : iv a0) (hp0 : a0 2 3 = 0) : ∀ (y2 : Int) (a : Nat → Nat → Int), iv a → jfr jW_X6_readWord_r2 a0 a → 0 ≤ y2 → y2 ≤ 200 → (RWF (a0 3) (a0 2 1).toNat (a0 2 2).toNat (a0 55 2) = 3 + 8 * ((a0 2 2).toNat : Int)) → (y2 = a0 2 2) → a 2 3 = 0 → jt (jxX E d 105 36 [none, some (.inr (.inr (.inl 2))), some (.inl y2), none] [] (jxSH, a, b0)) (jQ_X6_readWord_r2 a0 b0) := by
  intro y2 a hv hf hi0 hi1 hrw hy2 hi4
  refine jt_eq (bq_X6_readWord_r2_36 E d y2 a b0) ?_
  have h3 : a 3 = a0 3 := funext fun j => hf 3 j rfl
  have h21 := hf 2 1 rfl
  refine jt_bV (sp_X8_noteFault E d (jd_le hd rfl) y2 2 a b0 hv) (fun a1757_ b1757_ h1757_ => ?_)
  obtain ⟨hv1757_, hf1757_, rfl, hq1757_0, hq1757_1⟩ := h1757_
  have hf1758_ : jfr jW_X6_readWord_r2 a0 a1757_ := jfr_tr hf hf1757_ rfl
  exact jt_rV ⟨hv1757_, hf1758_, rfl, (by rw [hrw]; omega), (fun h => absurd h (by rw [hrw]; omega))⟩
theorem cp_X6_readWord_r2_75 (E : jxE) (d : Nat) (hd : Nat.ble 7 (d + 1) = true) (a0 b0 : Nat → Nat → Int) (hv0 : iv a0) (hp0 : a0 2 3 = 0) : ∀ (a : Nat → Nat → Int), iv a → jfr jW_X6_readWord_r2 a0 a → (a 2 3 = RWF (a0 3) (a0 2 1).toNat (a0 2 2).toNat (a0 55 2)) → (a 2 2 = (RE (a0 3) (a0 2 1).toNat (a0 2 2).toNat : Int)) → (a 55 2 = jxor (a0 55 2) (jxshl 1 (WI (a0 3) (a0 2 1).toNat (a0 2 2).toNat))) → (UP (a0 57) (a 57) (WI (a0 3) (a0 2 1).toNat (a0 2 2).toNat).toNat (NV (a0 3) (a0 2 1).toNat (RQ (a0 3) (a0 2 1).toNat (a0 2 2).toNat))) → jt (jxX E d 105 75 [none, none, none, none] [] (jxSH, a, b0)) (jQ_X6_readWord_r2 a0 b0) := by
  intro a hv hf hcf hat hmk hu
  refine jt_eq (bq_X6_readWord_r2_75 E d a b0) ?_
  have h3 : a 3 = a0 3 := funext fun j => hf 3 j rfl
  have h21 := hf 2 1 rfl
  exact jt_rV ⟨hv, hf, rfl, hcf, (fun _ => ⟨hat, hmk, hu⟩)⟩
theorem cp_X6_readWord_r2_43 (E : jxE) (d : Nat) (hd : Nat.ble 7 (d + 1) = true) (a0 b0 : Nat → Nat → Int) (hv0 : iv a0) (hp0 : a0 2 3 = 0) : ∀ (y3 : Int) (a : Nat → Nat → Int), iv a → jfr jW_X6_readWord_r2 a0 a → 0 ≤ y3 → y3 ≤ 4 → (y3 = WI (a0 3) (a0 2 1).toNat (a0 2 2).toNat) → 0 ≤ y3 → y3 ≤ 4 → (a 2 2 = (RQ (a0 3) (a0 2 1).toNat (a0 2 2).toNat : Int)) → (¬ jxand (jxshr (a0 55 2) y3) 1 = 1) → a 2 3 = 0 → a 55 2 = a0 55 2 → (∀ j, a 57 j = a0 57 j) → jt (jxX E d 105 43 [some (.inr (.inr (.inl 55))), some (.inr (.inr (.inl 2))), none, some (.inl y3)] [] (jxSH, a, b0)) (jQ_X6_readWord_r2 a0 b0) := by
  intro y3 a hv hf hi0 hi1 hy3 hi3 hi4 hat hnb hi7 hi8 hs57
  refine jt_eq (bq_X6_readWord_r2_43 E d y3 a b0) ?_
  have h3 : a 3 = a0 3 := funext fun j => hf 3 j rfl
  have h21 := hf 2 1 rfl
  have hP : (a 2 2).toNat = RQ (a0 3) (a0 2 1).toNat (a0 2 2).toNat := by rw [hat]; exact Int.toNat_natCast _
  have hlo := RLO_g (w := y3) (by omega) (by omega)
  have hhi := RHI_g (w := y3) (by omega) (by omega)
  refine jt_grd (by omega) ?_
  refine jt_grd (by omega) ?_
  have hv1759_ : iv (jxu a 55 2 (jxor (a 55 2) (jxshl 1 y3))) := iv_putf hv rfl
  refine jt_bI (sp_X8_takeNumber E d (jd_le hd rfl) (([1, 0, 0, 1, 0] : List Int).getD (y3.toNat) 0) (([20, 99, 20, 400, 2] : List Int).getD (y3.toNat) 0) (jxu a 55 2 (jxor (a 55 2) (jxshl 1 y3))) b0 hv1759_) (fun r1760_ a1760_ b1760_ h1760_ => ?_)
  obtain ⟨hv1760_, hf1760_, rfl, hq1760_0, hq1760_1, hq1760_2, hq1760_3⟩ := h1760_
  have h1761_ : (0 ≤ r1760_ ∧ r1760_ ≤ 999) := hq1760_3
  refine jt_grd (by omega) ?_
  have hv1762_ : iv (jxu a1760_ 57 (y3.toNat) r1760_) := iv_putf hv1760_ rfl
  have hf1763_ : jfr jW_X6_readWord_r2 a0 (jxu a 55 2 (jxor (a 55 2) (jxshl 1 y3))) := jfr_put hf rfl
  have hf1764_ : jfr jW_X6_readWord_r2 a0 a1760_ := jfr_tr hf1763_ hf1760_ rfl
  have hf1765_ : jfr jW_X6_readWord_r2 a0 (jxu a1760_ 57 (y3.toNat) r1760_) := jfr_put hf1764_ rfl
  exact cp_X6_readWord_r2_75 E d hd a0 b0 hv0 hp0 (jxu a1760_ 57 (y3.toNat) r1760_) hv1762_ hf1765_ (by have e0 := hq1760_0; have e1 := hq1760_1; have e2 := hq1760_2; have hj : jxu a 55 2 (jxor (a 55 2) (jxshl 1 y3)) 3 = a 3 := rfl; have hj1 : jxu a 55 2 (jxor (a 55 2) (jxshl 1 y3)) 2 1 = a 2 1 := rfl; have hj2 : jxu a 55 2 (jxor (a 55 2) (jxshl 1 y3)) 2 2 = a 2 2 := rfl; have hj3 : jxu a 55 2 (jxor (a 55 2) (jxshl 1 y3)) 2 3 = a 2 3 := rfl; rw [hj, hj1, hj2, h3, h21, hP] at e0 e1 e2; rw [hj3] at e2; rw [if_pos (by omega), hlo, hhi] at e2; rw [RWF_go (by omega) (by rw [← hy3]; exact hnb), ← hy3]; exact e2) (by have e0 := hq1760_0; have e1 := hq1760_1; have e2 := hq1760_2; have hj : jxu a 55 2 (jxor (a 55 2) (jxshl 1 y3)) 3 = a 3 := rfl; have hj1 : jxu a 55 2 (jxor (a 55 2) (jxshl 1 y3)) 2 1 = a 2 1 := rfl; have hj2 : jxu a 55 2 (jxor (a 55 2) (jxshl 1 y3)) 2 2 = a 2 2 := rfl; have hj3 : jxu a 55 2 (jxor (a 55 2) (jxshl 1 y3)) 2 3 = a 2 3 := rfl; rw [hj, hj1, hj2, h3, h21, hP] at e0 e1 e2; rw [hj3] at e2; exact e1) (by show a1760_ 55 2 = _; rw [hf1760_ 55 2 rfl, ← hy3, ← (by omega : a 55 2 = a0 55 2)]; simp [jxu]) (by have e0 := hq1760_0; have e1 := hq1760_1; have e2 := hq1760_2; have hj : jxu a 55 2 (jxor (a 55 2) (jxshl 1 y3)) 3 = a 3 := rfl; have hj1 : jxu a 55 2 (jxor (a 55 2) (jxshl 1 y3)) 2 1 = a 2 1 := rfl; have hj2 : jxu a 55 2 (jxor (a 55 2) (jxshl 1 y3)) 2 2 = a 2 2 := rfl; have hj3 : jxu a 55 2 (jxor (a 55 2) (jxshl 1 y3)) 2 3 = a 2 3 := rfl; rw [hj, hj1, hj2, h3, h21, hP] at e0 e1 e2; rw [hj3] at e2; rw [← hy3, ← e0]; exact UP_put (fun j => (hf1760_ 57 j rfl).trans (hs57 j)))
theorem sp_X6_readWord_r2 (E : jxE) (d : Nat) (hd : Nat.ble 7 d = true) (a0 b0 : Nat → Nat → Int) (hv0 : iv a0) (hp0 : a0 2 3 = 0) : jt (jxC E d 105 [.inr (.inr (.inl 55)), .inr (.inr (.inl 2))] (jxSH, a0, b0)) (jQ_X6_readWord_r2 a0 b0) := by
  obtain ⟨d, rfl⟩ := jd_succ hd
  refine jt_eq (bq_X6_readWord_r2 E d a0 b0) ?_
  refine jt_eI (eq_X8_place E d (jd_le hd rfl) a0 b0) ?_
  refine jt_bI (sp_X6_takeRuleWord_r2 E d (jd_le hd rfl) a0 b0 hv0 (show a0 2 3 = 0 from by omega)) (fun r1766_ a1766_ b1766_ h1766_ => ?_)
  obtain ⟨hv1766_, hf1766_, rfl, hq1766_0, hq1766_1, hq1766_2⟩ := h1766_
  have hws1766 := WI_sp (a0 3) (a0 2 1).toNat (a0 2 2).toNat
  have hwi1766 : r1766_ = WI (a0 3) (a0 2 1).toNat (a0 2 2).toNat := hq1766_0
  have hz1766 := hf1766_ 2 3 rfl
  have h5521766 := hf1766_ 55 2 rfl
  refine jt_ite (fun c1767_ => ?_) (fun c1767_ => ?_)
  ·
    refine jt_bV (sp_X8_noteCannotStand E d (jd_le hd rfl) a1766_ b0 hv1766_) (fun a1768_ b1768_ h1768_ => ?_)
    obtain ⟨hv1768_, hf1768_, rfl, hq1768_0, hq1768_1⟩ := h1768_
    have h1769_ : a1766_ 2 3 = a0 2 3 := hf1766_ 2 3 rfl
    have h1770_ := iv_get hv1766_ (k := 2) (j := 2) (l := 0) (u := 200) rfl
    have hf1771_ : jfr jW_X6_readWord_r2 a0 a1766_ := jfr_tr (jfr_rf _ _) hf1766_ rfl
    have hf1772_ : jfr jW_X6_readWord_r2 a0 a1768_ := jfr_tr hf1771_ hf1768_ rfl
    exact jt_rV ⟨hv1768_, hf1772_, rfl, (by first | (rw [RWF_no (by omega)]; omega) | exact absurd (by omega : False) id), (fun h => absurd h (by first | (rw [RWF_no (by omega)]; omega) | exact absurd (by omega : False) id))⟩
  ·
    refine jt_ite (fun c1773_ => ?_) (fun c1773_ => ?_)
    ·
      have h1774_ : a1766_ 55 2 = a0 55 2 := hf1766_ 55 2 rfl
      have h1775_ := jxshr_b (a1766_ 55 2) r1766_
      have h1776_ := jxand_r (jxshr (a1766_ 55 2) r1766_) 1 (by decide) (by decide)
      refine jt_ite (fun c1777_ => ?_) (fun c1777_ => ?_)
      ·
        have hf1778_ : jfr jW_X6_readWord_r2 a0 a1766_ := jfr_tr (jfr_rf _ _) hf1766_ rfl
        have h1779_ := f_X8_place_eq a0 b0
        have h1780_ := iv_get hv0 (k := 2) (j := 2) (l := 0) (u := 200) rfl
        have h1781_ : a1766_ 2 3 = a0 2 3 := hf1766_ 2 3 rfl
        exact cp_X6_readWord_r2_36 E d hd a0 b0 hv0 hp0 (f_X8_place a0 b0) a1766_ hv1766_ hf1778_ (show 0 ≤ f_X8_place a0 b0 from by omega) (show f_X8_place a0 b0 ≤ 200 from by omega) (RWF_two (by omega) (by rw [← hwi1766, ← h5521766]; assumption)) rfl (show a1766_ 2 3 = 0 from by omega)
      ·
        have hf1782_ : jfr jW_X6_readWord_r2 a0 a1766_ := jfr_tr (jfr_rf _ _) hf1766_ rfl
        have h1783_ : a1766_ 2 3 = a0 2 3 := hf1766_ 2 3 rfl
        exact cp_X6_readWord_r2_43 E d hd a0 b0 hv0 hp0 r1766_ a1766_ hv1766_ hf1782_ (show 0 ≤ r1766_ from by omega) (show r1766_ ≤ 4 from by omega) hwi1766 (show 0 ≤ r1766_ from by omega) (show r1766_ ≤ 4 from by omega) (by have q := hq1766_1 (by omega); rw [hwi1766] at q; exact q) (by rw [← h5521766]; assumption) (show a1766_ 2 3 = 0 from by omega) (show a1766_ 55 2 = a0 55 2 from by omega) (fun j => (hf1766_ 57 j rfl))
    ·
      refine jt_bV (sp_X8_noteCannotStand E d (jd_le hd rfl) a1766_ b0 hv1766_) (fun a1784_ b1784_ h1784_ => ?_)
      obtain ⟨hv1784_, hf1784_, rfl, hq1784_0, hq1784_1⟩ := h1784_
      have h1785_ : a1766_ 2 3 = a0 2 3 := hf1766_ 2 3 rfl
      have h1786_ := iv_get hv1766_ (k := 2) (j := 2) (l := 0) (u := 200) rfl
      have hf1787_ : jfr jW_X6_readWord_r2 a0 a1766_ := jfr_tr (jfr_rf _ _) hf1766_ rfl
      have hf1788_ : jfr jW_X6_readWord_r2 a0 a1784_ := jfr_tr hf1787_ hf1784_ rfl
      exact jt_rV ⟨hv1784_, hf1788_, rfl, (by first | (rw [RWF_no (by omega)]; omega) | exact absurd (by omega : False) id), (fun h => absurd h (by first | (rw [RWF_no (by omega)]; omega) | exact absurd (by omega : False) id))⟩
def jW_X6_readWords_r2 : List (Nat × Nat) := [(2, 2), (2, 3), (55, 2), (57, 9999)]
abbrev jQ_X6_readWords_r2 (a0 b0 : Nat → Nat → Int) : List jxV → (Nat → Nat → Int) → (Nat → Nat → Int) → Prop := rI (fun r a b => (iv a) ∧ (jfr jW_X6_readWords_r2 a0 a) ∧ (b0 = b) ∧ (RUR a0 a r))
theorem cp_X6_readWords_r2_32 (E : jxE) (d : Nat) (hd : Nat.ble 8 (d + 1) = true) (a0 b0 : Nat → Nat → Int) (hv0 : iv a0) (hp0 : a0 2 3 = 0) (hp1 : a0 2 2 < a0 2 1) (hp2 : RUL a0 a0 0) : ∀ (y2 : Int) (a : Nat → Nat → Int), iv a → jfr jW_X6_readWords_r2 a0 a → 0 ≤ y2 → y2 ≤ 100 → (RUE a0 a y2) → jt (jxX E d 104 32 [none, some (.inr (.inr (.inl 2))), some (.inl y2), none] [] (jxSH, a, b0)) (jQ_X6_readWords_r2 a0 b0) := by
  intro y2 a hv hf hi0 hi1 hre
  refine jt_eq (bq_X6_readWords_r2_32 E d y2 a b0) ?_
  have h3 : a 3 = a0 3 := funext fun j => hf 3 j rfl
  have h21 := hf 2 1 rfl
  refine jt_eI (eq_X8_isAtEnd E d (jd_le hd rfl) a b0) ?_
  have h1789_ := f_X8_isAtEnd_eq a b0
  have h1790_ := iv_get hv (k := 2) (j := 2) (l := 0) (u := 200) rfl
  have h1791_ := iv_get hv (k := 2) (j := 1) (l := 0) (u := 200) rfl
  have h1792_ : a 2 1 = a0 2 1 := hf 2 1 rfl
  have h1793_ := iv_get hv0 (k := 2) (j := 1) (l := 0) (u := 200) rfl
  refine jt_ite (fun c1794_ => ?_) (fun c1794_ => ?_)
  ·
    refine jt_bV (sp_X8_noteCannotStand E d (jd_le hd rfl) a b0 hv) (fun a1795_ b1795_ h1795_ => ?_)
    obtain ⟨hv1795_, hf1795_, rfl, hq1795_0, hq1795_1⟩ := h1795_
    have hf1796_ : jfr jW_X6_readWords_r2 a0 a1795_ := jfr_tr hf hf1795_ rfl
    exact jt_rI ⟨hv1795_, hf1796_, rfl, (RU_end2 hre (by have q := hp2.2.1; have q2 : SK (a0 3) (a0 2 1).toNat 0 = RP (a0 3) (a0 2 1).toNat 0 := rfl; omega) (hf 2 1 rfl) (by omega) (by omega) hq1795_0 hq1795_1)⟩
  ·
    exact jt_rI ⟨hv, hf, rfl, (RU_end1 hre (by have q := hp2.2.1; have q2 : SK (a0 3) (a0 2 1).toNat 0 = RP (a0 3) (a0 2 1).toNat 0 := rfl; omega) (hf 2 1 rfl) (by omega))⟩
theorem cp_X6_readWords_r2_4 (E : jxE) (d : Nat) (hd : Nat.ble 8 (d + 1) = true) (a0 b0 : Nat → Nat → Int) (hv0 : iv a0) (hp0 : a0 2 3 = 0) (hp1 : a0 2 2 < a0 2 1) (hp2 : RUL a0 a0 0) : ∀ n : Nat, (∀ (y2 y3 : Int) (a : Nat → Nat → Int), (((100 - y2) * 1) + 0).toNat ≤ n → iv a → jfr jW_X6_readWords_r2 a0 a → 0 ≤ y2 → y2 ≤ 100 → 0 ≤ y3 → y3 ≤ 1 → (¬ y3 = 0 → RUL a0 a y2.toNat) → (y3 = 0 → RUE a0 a y2) → jt (jxX E d 104 4 [some (.inr (.inr (.inl 55))), some (.inr (.inr (.inl 2))), some (.inl y2), some (.inl y3)] [] (jxSH, a, b0)) (jQ_X6_readWords_r2 a0 b0)) := by
  refine jx_ind fun n ih => ?_
  have ih4 : ∀ (y2 y3 : Int) (a : Nat → Nat → Int), (((100 - y2) * 1) + 0).toNat < n → iv a → jfr jW_X6_readWords_r2 a0 a → 0 ≤ y2 → y2 ≤ 100 → 0 ≤ y3 → y3 ≤ 1 → (¬ y3 = 0 → RUL a0 a y2.toNat) → (y3 = 0 → RUE a0 a y2) → jt (jxX E d 104 4 [some (.inr (.inr (.inl 55))), some (.inr (.inr (.inl 2))), some (.inl y2), some (.inl y3)] [] (jxSH, a, b0)) (jQ_X6_readWords_r2 a0 b0) := fun y2 y3 a hlt i0 i1 i2 i3 i4 i5 i6 i7 => (ih _ hlt) y2 y3 a (Nat.le_refl _) i0 i1 i2 i3 i4 i5 i6 i7
  have hc4 : ∀ (y2 y3 : Int) (a : Nat → Nat → Int), (((100 - y2) * 1) + 0).toNat ≤ n → iv a → jfr jW_X6_readWords_r2 a0 a → 0 ≤ y2 → y2 ≤ 100 → 0 ≤ y3 → y3 ≤ 1 → (¬ y3 = 0 → RUL a0 a y2.toNat) → (y3 = 0 → RUE a0 a y2) → jt (jxX E d 104 4 [some (.inr (.inr (.inl 55))), some (.inr (.inr (.inl 2))), some (.inl y2), some (.inl y3)] [] (jxSH, a, b0)) (jQ_X6_readWords_r2 a0 b0) := by
    intro y2 y3 a hm hv hf hi0 hi1 hi2 hi3 hrl hre
    refine jt_eq (bq_X6_readWords_r2_4 E d y2 y3 a b0) ?_
    have h3 : a 3 = a0 3 := funext fun j => hf 3 j rfl
    have h21 := hf 2 1 rfl
    have hf0 : ¬ y3 = 0 → a 2 3 = 0 := fun h => (hrl h).1
    have hbig : ¬ y3 = 0 → y2.toNat ≤ 5 := fun h => RUL_big (hrl h)
    refine jt_ite (fun c1797_ => ?_) (fun c1797_ => ?_)
    ·
      exact cp_X6_readWords_r2_32 E d hd a0 b0 hv0 hp0 hp1 hp2 y2 a hv hf (show 0 ≤ y2 from by omega) (show y2 ≤ 100 from by omega) (by first | exact hre (by omega) | exact absurd (by omega : False) id)
    ·
      refine jt_ite (fun c1798_ => ?_) (fun c1798_ => ?_)
      ·
        refine jt_bV (sp_X6_readWord_r2 E d (jd_le hd rfl) a b0 hv (show a 2 3 = 0 from by omega)) (fun a1799_ b1799_ h1799_ => ?_)
        obtain ⟨hv1799_, hf1799_, rfl, hq1799_0, hq1799_1⟩ := h1799_
        refine jt_bI (sp_X8_takesSign E d (jd_le hd rfl) 59 a1799_ b0 hv1799_) (fun r1800_ a1800_ b1800_ h1800_ => ?_)
        obtain ⟨hv1800_, hf1800_, rfl, hq1800_0, hq1800_1, hq1800_2, hq1800_3, hq1800_4⟩ := h1800_
        have h1801_ := iv_get hv1799_ (k := 2) (j := 1) (l := 0) (u := 200) rfl
        have h1802_ : a1799_ 2 1 = a 2 1 := hf1799_ 2 1 rfl
        have h1803_ := iv_get hv (k := 2) (j := 1) (l := 0) (u := 200) rfl
        have h1804_ : a 2 1 = a0 2 1 := hf 2 1 rfl
        have h1805_ := iv_get hv0 (k := 2) (j := 1) (l := 0) (u := 200) rfl
        have h1806_ := iv_get hv1799_ (k := 2) (j := 2) (l := 0) (u := 200) rfl
        have h1807_ := iv_get hv1800_ (k := 2) (j := 2) (l := 0) (u := 200) rfl
        have hstep := RU_step (i := y2) (r := r1800_) (by omega) (hrl (by omega)) h3 (hf 2 1 rfl) hq1799_0 hq1799_1 (funext fun j => hf1799_ 3 j rfl) (hf1799_ 2 1 rfl) hq1800_2 hq1800_3 hq1800_4 (hf1800_ 2 3 rfl) (hf1800_ 55 2 rfl) (fun j => hf1800_ 57 j rfl) (by omega)
        have hf1808_ : jfr jW_X6_readWords_r2 a0 a1799_ := jfr_tr hf hf1799_ rfl
        have hf1809_ : jfr jW_X6_readWords_r2 a0 a1800_ := jfr_tr hf1808_ hf1800_ rfl
        have h1810_ : jxw (y2 + 1) = y2 + 1 := jxw_id (by omega) (by omega)
        exact ih4 (jxw (y2 + 1)) r1800_ a1800_ (show (((100 - (jxw (y2 + 1))) * 1) + 0).toNat < n from by omega) hv1800_ hf1809_ (show 0 ≤ jxw (y2 + 1) from by omega) (show jxw (y2 + 1) ≤ 100 from by omega) (show 0 ≤ r1800_ from by omega) (show r1800_ ≤ 1 from by omega) (by first | exact (fun _ => hp2) | (rw [show (jxw (y2 + 1)).toNat = y2.toNat + 1 from by omega]; exact hstep.1)) (by first | exact (fun h => absurd h (by decide)) | (rw [show jxw (y2 + 1) = y2 + 1 from by omega]; exact hstep.2))
      ·
        exact cp_X6_readWords_r2_32 E d hd a0 b0 hv0 hp0 hp1 hp2 y2 a hv hf (show 0 ≤ y2 from by omega) (show y2 ≤ 100 from by omega) (by first | exact hre (by omega) | exact absurd (by omega : False) id)
  exact hc4
theorem sp_X6_readWords_r2 (E : jxE) (d : Nat) (hd : Nat.ble 8 d = true) (a0 b0 : Nat → Nat → Int) (hv0 : iv a0) (hp0 : a0 2 3 = 0) (hp1 : a0 2 2 < a0 2 1) (hp2 : RUL a0 a0 0) : jt (jxC E d 104 [.inr (.inr (.inl 55)), .inr (.inr (.inl 2))] (jxSH, a0, b0)) (jQ_X6_readWords_r2 a0 b0) := by
  obtain ⟨d, rfl⟩ := jd_succ hd
  refine jt_eq (bq_X6_readWords_r2 E d a0 b0) ?_
  have h1811_ := iv_get hv0 (k := 2) (j := 2) (l := 0) (u := 200) rfl
  have h1812_ := iv_get hv0 (k := 2) (j := 1) (l := 0) (u := 200) rfl
  exact (cp_X6_readWords_r2_4 E d hd a0 b0 hv0 hp0 hp1 hp2 _) 0 1 a0 (Nat.le_refl _) hv0 (jfr_rf _ _) (show 0 ≤ 0 from by omega) (show 0 ≤ 100 from by omega) (show 0 ≤ 1 from by omega) (show 1 ≤ 1 from by omega) (by first | exact (fun _ => hp2) | (rw [show (jxw (y2 + 1)).toNat = y2.toNat + 1 from by omega]; exact hstep.1)) (by first | exact (fun h => absurd h (by decide)) | (rw [show jxw (y2 + 1) = y2 + 1 from by omega]; exact hstep.2))
def jW_X6_read_r2 : List (Nat × Nat) := [(2, 2), (2, 3), (55, 2), (56, 9999), (57, 9999)]
abbrev jQ_X6_read_r2 (a0 b0 : Nat → Nat → Int) : List jxV → (Nat → Nat → Int) → (Nat → Nat → Int) → Prop := rI (fun r a b => (iv a) ∧ (jfr jW_X6_read_r2 a0 a) ∧ (b0 = b) ∧ ((a0 2 1 = 0 → r = 0)) ∧ (RRS (a0 3) (a0 2 1).toNat r) ∧ (0 ≤ r → ∀ w : Nat, w < 5 → a 56 w = DRF (a0 3) (a0 2 1).toNat r.toNat w) ∧ (r < 0 → ∀ j, a 56 j = a0 56 j))
theorem cp_X6_read_r2_64 (E : jxE) (d : Nat) (hd : Nat.ble 9 (d + 1) = true) (a0 b0 : Nat → Nat → Int) (hv0 : iv a0) : ∀ n : Nat, (∀ (y2 y3 : Int) (a : Nat → Nat → Int), (((5 - y3) * 1) + 0).toNat ≤ n → iv a → jfr jW_X6_read_r2 a0 a → 0 ≤ y3 → y3 ≤ 5 → (a0 2 1 = 0 → y2 = 0) → (RRS (a0 3) (a0 2 1).toNat y2 ∧ 0 ≤ y2 ∧ ∀ w : Nat, w < 5 → a 57 w = DRF (a0 3) (a0 2 1).toNat y2.toNat w) → (∀ w : Nat, (w : Int) < y3 → a 56 w = DRF (a0 3) (a0 2 1).toNat y2.toNat w) → jt (jxX E d 103 64 [some (.inr (.inr (.inl 55))), none, some (.inl y2), some (.inl y3)] [] (jxSH, a, b0)) (jQ_X6_read_r2 a0 b0)) := by
  refine jx_ind fun n ih => ?_
  have ih64 : ∀ (y2 y3 : Int) (a : Nat → Nat → Int), (((5 - y3) * 1) + 0).toNat < n → iv a → jfr jW_X6_read_r2 a0 a → 0 ≤ y3 → y3 ≤ 5 → (a0 2 1 = 0 → y2 = 0) → (RRS (a0 3) (a0 2 1).toNat y2 ∧ 0 ≤ y2 ∧ ∀ w : Nat, w < 5 → a 57 w = DRF (a0 3) (a0 2 1).toNat y2.toNat w) → (∀ w : Nat, (w : Int) < y3 → a 56 w = DRF (a0 3) (a0 2 1).toNat y2.toNat w) → jt (jxX E d 103 64 [some (.inr (.inr (.inl 55))), none, some (.inl y2), some (.inl y3)] [] (jxSH, a, b0)) (jQ_X6_read_r2 a0 b0) := fun y2 y3 a hlt i0 i1 i2 i3 i4 i5 i6 => (ih _ hlt) y2 y3 a (Nat.le_refl _) i0 i1 i2 i3 i4 i5 i6
  have hc64 : ∀ (y2 y3 : Int) (a : Nat → Nat → Int), (((5 - y3) * 1) + 0).toNat ≤ n → iv a → jfr jW_X6_read_r2 a0 a → 0 ≤ y3 → y3 ≤ 5 → (a0 2 1 = 0 → y2 = 0) → (RRS (a0 3) (a0 2 1).toNat y2 ∧ 0 ≤ y2 ∧ ∀ w : Nat, w < 5 → a 57 w = DRF (a0 3) (a0 2 1).toNat y2.toNat w) → (∀ w : Nat, (w : Int) < y3 → a 56 w = DRF (a0 3) (a0 2 1).toNat y2.toNat w) → jt (jxX E d 103 64 [some (.inr (.inr (.inl 55))), none, some (.inl y2), some (.inl y3)] [] (jxSH, a, b0)) (jQ_X6_read_r2 a0 b0) := by
    intro y2 y3 a hm hv hf hi0 hi1 hi2 hrs hh
    refine jt_eq (bq_X6_read_r2_64 E d y2 y3 a b0) ?_
    have h1813_ := iv_get hv0 (k := 2) (j := 1) (l := 0) (u := 200) rfl
    have h3 : a 3 = a0 3 := funext fun j => hf 3 j rfl
    have h21 := hf 2 1 rfl
    refine jt_ite (fun c1814_ => ?_) (fun c1814_ => ?_)
    ·
      refine jt_grd (by omega) ?_
      refine jt_grd (by omega) ?_
      have hv1815_ : iv (jxu a 56 (y3.toNat) (a 57 (y3.toNat))) := iv_putf hv rfl
      have hf1816_ : jfr jW_X6_read_r2 a0 (jxu a 56 (y3.toNat) (a 57 (y3.toNat))) := jfr_put hf rfl
      have h1817_ : jxw (y3 + 1) = y3 + 1 := jxw_id (by omega) (by omega)
      exact ih64 y2 (jxw (y3 + 1)) (jxu a 56 (y3.toNat) (a 57 (y3.toNat))) (show (((5 - (jxw (y3 + 1))) * 1) + 0).toNat < n from by omega) hv1815_ hf1816_ (show 0 ≤ jxw (y3 + 1) from by omega) (show jxw (y3 + 1) ≤ 5 from by omega) (show (a0 2 1 = 0 → y2 = 0) from by omega) (by first | exact hrs | exact hru.1 (by omega)) (by first | exact (fun w h => absurd h (by omega)) | (intro w hw; show (if w = y3.toNat then a 57 (y3.toNat) else a 56 w) = _; by_cases e : w = y3.toNat <;> first | (rw [if_pos e, ← e]; exact hrs.2.2 w (by omega)) | (rw [if_neg e]; exact hh w (by omega))))
    ·
      exact jt_rI ⟨hv, hf, rfl, (show (a0 2 1 = 0 → y2 = 0) from by omega), hrs.1, (fun _ w hw => hh w (by omega)), (fun h => absurd h (by have q := hrs.2.1; omega))⟩
  exact hc64
theorem cp_X6_read_r2_49 (E : jxE) (d : Nat) (hd : Nat.ble 9 (d + 1) = true) (a0 b0 : Nat → Nat → Int) (hv0 : iv a0) : ∀ (s0 : Int) (a : Nat → Nat → Int), iv a → jfr jW_X6_read_r2 a0 a → (a0 2 1 = 0 → (s0 = 0 ∧ a 2 3 = 0)) → (RUR a0 a s0) → (∀ j, a 56 j = a0 56 j) → jt (jxX E d 103 49 [some (.inr (.inr (.inl 55))), some (.inr (.inr (.inl 2))), none, none] [.inl s0] (jxSH, a, b0)) (jQ_X6_read_r2 a0 b0) := by
  intro s0 a hv hf hi0 hru hs56
  refine jt_eq (bq_X6_read_r2_49 E d s0 a b0) ?_
  have h1818_ := iv_get hv0 (k := 2) (j := 1) (l := 0) (u := 200) rfl
  have h3 : a 3 = a0 3 := funext fun j => hf 3 j rfl
  have h21 := hf 2 1 rfl
  refine jt_eI (eq_X8_isFaulty E d (jd_le hd rfl) a b0) ?_
  have h1819_ := f_X8_isFaulty_eq a b0
  refine jt_ite (fun c1820_ => ?_) (fun c1820_ => ?_)
  ·
    exact (cp_X6_read_r2_64 E d hd a0 b0 hv0 _) s0 0 a (Nat.le_refl _) hv hf (show 0 ≤ 0 from by omega) (show 0 ≤ 5 from by omega) (show (a0 2 1 = 0 → s0 = 0) from by omega) (by first | exact hrs | exact hru.1 (by omega)) (by first | exact (fun w h => absurd h (by omega)) | (intro w hw; show (if w = y3.toNat then a 57 (y3.toNat) else a 56 w) = _; by_cases e : w = y3.toNat <;> first | (rw [if_pos e, ← e]; exact hrs.2.2 w (by omega)) | (rw [if_neg e]; exact hh w (by omega))))
  ·
    refine jt_eI (eq_X8_answerOfFault E d (jd_le hd rfl) a b0) ?_
    have h1821_ := f_X8_answerOfFault_eq a b0
    have h1822_ := jxw_im ((-2) - (a 2 3))
    have h1823_ := jxw_rg ((-2) - (a 2 3))
    exact jt_rI ⟨hv, hf, rfl, (show (a0 2 1 = 0 → f_X8_answerOfFault a b0 = 0) from by omega), (by have q := hru.2 (by omega); have q2 := RRS_bd q.1 (tn200 hv0); rw [show f_X8_answerOfFault a b0 = -2 - a 2 3 from by omega]; exact q.1), (fun h => absurd h (by have q := hru.2 (by omega); have q2 := RRS_bd q.1 (tn200 hv0); omega)), (fun _ => hs56)⟩
theorem cp_X6_read_r2_2 (E : jxE) (d : Nat) (hd : Nat.ble 9 (d + 1) = true) (a0 b0 : Nat → Nat → Int) (hv0 : iv a0) : ∀ n : Nat, (∀ (y2 : Int) (a : Nat → Nat → Int), (((5 - y2) * 1) + 0).toNat ≤ n → iv a → jfr jW_X6_read_r2 a0 a → 0 ≤ y2 → y2 ≤ 5 → (∀ w : Nat, (w : Int) < y2 → a 57 w = RDF w) → (∀ j, a 56 j = a0 56 j) → jt (jxX E d 103 2 [some (.inr (.inr (.inl 55))), some (.inr (.inr (.inl 2))), some (.inl y2), none] [] (jxSH, a, b0)) (jQ_X6_read_r2 a0 b0)) := by
  refine jx_ind fun n ih => ?_
  have ih2 : ∀ (y2 : Int) (a : Nat → Nat → Int), (((5 - y2) * 1) + 0).toNat < n → iv a → jfr jW_X6_read_r2 a0 a → 0 ≤ y2 → y2 ≤ 5 → (∀ w : Nat, (w : Int) < y2 → a 57 w = RDF w) → (∀ j, a 56 j = a0 56 j) → jt (jxX E d 103 2 [some (.inr (.inr (.inl 55))), some (.inr (.inr (.inl 2))), some (.inl y2), none] [] (jxSH, a, b0)) (jQ_X6_read_r2 a0 b0) := fun y2 a hlt i0 i1 i2 i3 i4 i5 => (ih _ hlt) y2 a (Nat.le_refl _) i0 i1 i2 i3 i4 i5
  have hc2 : ∀ (y2 : Int) (a : Nat → Nat → Int), (((5 - y2) * 1) + 0).toNat ≤ n → iv a → jfr jW_X6_read_r2 a0 a → 0 ≤ y2 → y2 ≤ 5 → (∀ w : Nat, (w : Int) < y2 → a 57 w = RDF w) → (∀ j, a 56 j = a0 56 j) → jt (jxX E d 103 2 [some (.inr (.inr (.inl 55))), some (.inr (.inr (.inl 2))), some (.inl y2), none] [] (jxSH, a, b0)) (jQ_X6_read_r2 a0 b0) := by
    intro y2 a hm hv hf hi0 hi1 hdr hs56
    refine jt_eq (bq_X6_read_r2_2 E d y2 a b0) ?_
    have h3 : a 3 = a0 3 := funext fun j => hf 3 j rfl
    have h21 := hf 2 1 rfl
    refine jt_ite (fun c1824_ => ?_) (fun c1824_ => ?_)
    ·
      refine jt_grd (by omega) ?_
      refine jt_grd (by omega) ?_
      have hv1825_ : iv (jxu a 57 (y2.toNat) (([5, 10, 3, 60, 2] : List Int).getD (y2.toNat) 0)) := iv_putf hv rfl
      have hf1826_ : jfr jW_X6_read_r2 a0 (jxu a 57 (y2.toNat) (([5, 10, 3, 60, 2] : List Int).getD (y2.toNat) 0)) := jfr_put hf rfl
      have h1827_ : jxw (y2 + 1) = y2 + 1 := jxw_id (by omega) (by omega)
      exact ih2 (jxw (y2 + 1)) (jxu a 57 (y2.toNat) (([5, 10, 3, 60, 2] : List Int).getD (y2.toNat) 0)) (show (((5 - (jxw (y2 + 1))) * 1) + 0).toNat < n from by omega) hv1825_ hf1826_ (show 0 ≤ jxw (y2 + 1) from by omega) (show jxw (y2 + 1) ≤ 5 from by omega) (by first | exact (fun w h => absurd h (by omega)) | (intro w hw; show (if w = y2.toNat then _ else a 57 w) = RDF w; by_cases e : w = y2.toNat <;> first | (rw [if_pos e, RDF_g (by omega) (by omega), e, Int.toNat_of_nonneg (by omega)]) | (rw [if_neg e]; exact hdr (w) (by omega)))) (fun j => (rfl).trans (hs56 j))
    ·
      have hv1828_ : iv (jxu a 55 2 0) := iv_putf hv rfl
      refine jt_bV (sp_X8_startReading E d (jd_le hd rfl) (jxu a 55 2 0) b0 hv1828_) (fun a1829_ b1829_ h1829_ => ?_)
      obtain ⟨hv1829_, hf1829_, rfl, hq1829_0, hq1829_1, hq1829_2⟩ := h1829_
      have h1830_ : a1829_ 2 3 = 0 := hq1829_0
      have h1831_ := iv_get hv (k := 2) (j := 1) (l := 0) (u := 200) rfl
      have h1832_ : a 2 1 = a0 2 1 := hf 2 1 rfl
      have h1833_ := iv_get hv0 (k := 2) (j := 1) (l := 0) (u := 200) rfl
      have h1834_ := iv_get hv1829_ (k := 2) (j := 2) (l := 0) (u := 200) rfl
      have h1835_ : (a 2 1 = 0 → a1829_ 2 2 = 0) := hq1829_1
      have h57_1829 : ∀ j, a1829_ 57 j = a 57 j := fun j => hf1829_ 57 j rfl
      have e3_1829 : a1829_ 3 = a0 3 := funext fun j => (hf1829_ 3 j rfl).trans (hf 3 j rfl)
      have e21_1829 : a1829_ 2 1 = a0 2 1 := (hf1829_ 2 1 rfl).trans (hf 2 1 rfl)
      have hat1829 : a1829_ 2 2 = (SK (a0 3) (a0 2 1).toNat 0 : Int) := by have q := hq1829_2; rw [show jxu a 55 2 0 3 = a 3 from rfl, show jxu a 55 2 0 2 1 = a 2 1 from rfl, h3, h21] at q; exact q
      have hrul1829 : RUL a1829_ a1829_ 0 := ⟨by omega, by rw [e3_1829, e21_1829]; exact hat1829, (hf1829_ 55 2 rfl).trans (by simp [jxu]; rfl), fun k hk => absurd hk (Nat.not_lt_zero _), fun w hw => by rw [h57_1829, hdr w (by omega)]; rfl⟩
      refine jt_eI (eq_X8_isAtEnd E d (jd_le hd rfl) a1829_ b0) ?_
      have h1836_ := f_X8_isAtEnd_eq a1829_ b0
      have h1837_ := iv_get hv1829_ (k := 2) (j := 1) (l := 0) (u := 200) rfl
      have h1838_ : a1829_ 2 1 = a 2 1 := hf1829_ 2 1 rfl
      refine jt_ite (fun c1839_ => ?_) (fun c1839_ => ?_)
      ·
        refine jt_bI (sp_X6_readWords_r2 E d (jd_le hd rfl) a1829_ b0 hv1829_ (show a1829_ 2 3 = 0 from by omega) (show a1829_ 2 2 < a1829_ 2 1 from by omega) (by assumption)) (fun r1840_ a1840_ b1840_ h1840_ => ?_)
        obtain ⟨hv1840_, hf1840_, rfl, hq1840_0⟩ := h1840_
        have hf1841_ : jfr jW_X6_read_r2 a0 (jxu a 55 2 0) := jfr_put hf rfl
        have hf1842_ : jfr jW_X6_read_r2 a0 a1829_ := jfr_tr hf1841_ hf1829_ rfl
        have hf1843_ : jfr jW_X6_read_r2 a0 a1840_ := jfr_tr hf1842_ hf1840_ rfl
        exact cp_X6_read_r2_49 E d hd a0 b0 hv0 r1840_ a1840_ hv1840_ hf1843_ (show (a0 2 1 = 0 → (r1840_ = 0 ∧ a1840_ 2 3 = 0)) from by omega) (by have q := hq1840_0; unfold RUR at q; rw [e3_1829, e21_1829] at q; exact q) (fun j => (((hf1840_ 56 j rfl).trans (hf1829_ 56 j rfl))).trans (hs56 j))
      ·
        have hf1844_ : jfr jW_X6_read_r2 a0 (jxu a 55 2 0) := jfr_put hf rfl
        have hf1845_ : jfr jW_X6_read_r2 a0 a1829_ := jfr_tr hf1844_ hf1829_ rfl
        exact cp_X6_read_r2_49 E d hd a0 b0 hv0 0 a1829_ hv1829_ hf1845_ (show (a0 2 1 = 0 → (0 = 0 ∧ a1829_ 2 3 = 0)) from by omega) ⟨fun _ => ⟨Or.inl ⟨by omega, rfl⟩, by decide, fun w hw => by rw [h57_1829, hdr w (by omega)]; rfl⟩, fun h => absurd (by omega) h⟩ (fun j => ((hf1829_ 56 j rfl)).trans (hs56 j))
  exact hc2
theorem sp_X6_read_r2 (E : jxE) (d : Nat) (hd : Nat.ble 9 d = true) (a0 b0 : Nat → Nat → Int) (hv0 : iv a0) : jt (jxC E d 103 [.inr (.inr (.inl 55)), .inr (.inr (.inl 2))] (jxSH, a0, b0)) (jQ_X6_read_r2 a0 b0) := by
  obtain ⟨d, rfl⟩ := jd_succ hd
  refine jt_eq (bq_X6_read_r2 E d a0 b0) ?_
  exact (cp_X6_read_r2_2 E d hd a0 b0 hv0 _) 0 a0 (Nat.le_refl _) hv0 (jfr_rf _ _) (show 0 ≤ 0 from by omega) (show 0 ≤ 5 from by omega) (by first | exact (fun w h => absurd h (by omega)) | (intro w hw; show (if w = y2.toNat then _ else a 57 w) = RDF w; by_cases e : w = y2.toNat <;> first | (rw [if_pos e, RDF_g (by omega) (by omega), e, Int.toNat_of_nonneg (by omega)]) | (rw [if_neg e]; exact hdr (w) (by omega)))) (fun j => rfl)
def jW_X11_rules : List (Nat × Nat) := [(2, 1), (2, 2), (2, 3), (55, 2), (56, 9999), (57, 9999)]
abbrev jQ_X11_rules (a0 b0 : Nat → Nat → Int) : List jxV → (Nat → Nat → Int) → (Nat → Nat → Int) → Prop := rI (fun r a b => (iv a) ∧ (jfr jW_X11_rules a0 a) ∧ (b0 = b) ∧ ((a0 2 1 = 0 → r = 0)) ∧ ((a0 2 1 ≤ 100 → a 2 1 = 0)) ∧ ((100 < a0 2 1 → a 2 1 = a0 2 1)) ∧ (a0 2 1 ≤ 100 → RRS (a0 3) (a0 2 1).toNat r) ∧ (0 ≤ r → ∀ w : Nat, w < 5 → a 56 w = DRF (a0 3) (a0 2 1).toNat r.toNat w) ∧ (r < 0 → ∀ j, a 56 j = a0 56 j) ∧ ((100 < a0 2 1 → r = 0 - 1)))
theorem cp_X11_rules_34 (E : jxE) (d : Nat) (hd : Nat.ble 10 (d + 1) = true) (a0 b0 : Nat → Nat → Int) (hv0 : iv a0) : ∀ (y1 : Int) (a : Nat → Nat → Int), iv a → jfr jW_X11_rules a0 a → (a0 2 1 = 0 → y1 = 0) → a 2 1 = 0 → a0 2 1 ≤ 100 → (RRS (a0 3) (a0 2 1).toNat y1 ∧ (0 ≤ y1 → ∀ w : Nat, w < 5 → a 56 w = DRF (a0 3) (a0 2 1).toNat y1.toNat w) ∧ (y1 < 0 → ∀ j, a 56 j = a0 56 j)) → jt (jxX E d 164 34 [none, some (.inl y1)] [] (jxSH, a, b0)) (jQ_X11_rules a0 b0) := by
  intro y1 a hv hf hi0 hi1 hi2 hru
  refine jt_eq (bq_X11_rules_34 E d y1 a b0) ?_
  have h1846_ := iv_get hv0 (k := 2) (j := 1) (l := 0) (u := 200) rfl
  have h1847_ := iv_get hv (k := 2) (j := 1) (l := 0) (u := 200) rfl
  exact jt_rI ⟨hv, hf, rfl, (show (a0 2 1 = 0 → y1 = 0) from by omega), (show (a0 2 1 ≤ 100 → a 2 1 = 0) from by omega), (show (100 < a0 2 1 → a 2 1 = a0 2 1) from by omega), (fun _ => hru.1), hru.2.1, hru.2.2, (show (100 < a0 2 1 → y1 = 0 - 1) from by omega)⟩
theorem sp_X11_rules (E : jxE) (d : Nat) (hd : Nat.ble 10 d = true) (a0 b0 : Nat → Nat → Int) (hv0 : iv a0) : jt (jxC E d 164 [.inr (.inr (.inl 0))] (jxSH, a0, b0)) (jQ_X11_rules a0 b0) := by
  obtain ⟨d, rfl⟩ := jd_succ hd
  refine jt_eq (bq_X11_rules E d a0 b0) ?_
  refine jt_eI (eq_X8_length E d (jd_le hd rfl) a0 b0) ?_
  have h1848_ := f_X8_length_eq a0 b0
  have h1849_ := iv_get hv0 (k := 2) (j := 1) (l := 0) (u := 200) rfl
  refine jt_ite (fun c1850_ => ?_) (fun c1850_ => ?_)
  ·
    exact jt_rI ⟨hv0, (jfr_rf _ _), rfl, (show (a0 2 1 = 0 → (-1) = 0) from by omega), (show (a0 2 1 ≤ 100 → a0 2 1 = 0) from by omega), (show (100 < a0 2 1 → a0 2 1 = a0 2 1) from by omega), (fun h => absurd h (by omega)), (fun h => absurd h (by decide)), (fun _ _ => rfl), (show (100 < a0 2 1 → (-1) = 0 - 1) from by omega)⟩
  ·
    refine jt_bI (sp_X6_read_r2 E d (jd_le hd rfl) a0 b0 hv0) (fun r1851_ a1851_ b1851_ h1851_ => ?_)
    obtain ⟨hv1851_, hf1851_, rfl, hq1851_0, hq1851_1, hq1851_2, hq1851_3⟩ := h1851_
    refine jt_bV (sp_X8_cut E d (jd_le hd rfl) 0 a1851_ b0 hv1851_) (fun a1852_ b1852_ h1852_ => ?_)
    obtain ⟨hv1852_, hf1852_, rfl, hq1852_0⟩ := h1852_
    have h1853_ := iv_get hv1851_ (k := 2) (j := 1) (l := 0) (u := 200) rfl
    have h1854_ : a1851_ 2 1 = a0 2 1 := hf1851_ 2 1 rfl
    have h1855_ := iv_get hv1852_ (k := 2) (j := 1) (l := 0) (u := 200) rfl
    have hf1856_ : jfr jW_X11_rules a0 a1851_ := jfr_tr (jfr_rf _ _) hf1851_ rfl
    have hf1857_ : jfr jW_X11_rules a0 a1852_ := jfr_tr hf1856_ hf1852_ rfl
    exact cp_X11_rules_34 E d hd a0 b0 hv0 r1851_ a1852_ hv1852_ hf1857_ (show (a0 2 1 = 0 → r1851_ = 0) from by omega) (show a1852_ 2 1 = 0 from by omega) (show a0 2 1 ≤ 100 from by omega) ⟨hq1851_1, fun q w hw => (hf1852_ 56 w rfl).trans (hq1851_2 q w hw), fun q j => (hf1852_ 56 j rfl).trans (hq1851_3 q j)⟩
def jW_X11_span : List (Nat × Nat) := [(58, 13), (58, 14), (58, 15)]
abbrev jQ_X11_span (x1 x2 x3 : Int) (a0 b0 : Nat → Nat → Int) : List jxV → (Nat → Nat → Int) → (Nat → Nat → Int) → Prop := rI (fun r a b => (iv a) ∧ (jfr jW_X11_span a0 a) ∧ (b0 = b) ∧ ((a0 58 12 = 0 → ((((((0 ≤ x1 ∧ x1 ≤ 15) ∧ 0 ≤ x2) ∧ x2 ≤ 15) ∧ x3 = 2) ∧ r = 0) ∨ (((((x1 < 0 ∨ 15 < x1) ∨ x2 < 0) ∨ 15 < x2) ∨ ¬ x3 = 2) ∧ r = 0 - 1)))))
theorem cp_X11_span_34 (E : jxE) (d : Nat) (hd : Nat.ble 4 (d + 1) = true) (x1 x2 x3 : Int) (a0 b0 : Nat → Nat → Int) (hv0 : iv a0) : ∀ (y3 : Int) (a : Nat → Nat → Int), iv a → jfr jW_X11_span a0 a → 0 ≤ y3 → y3 ≤ 2 → (((0 ≤ x1 ∧ x1 ≤ 15) ∧ 0 ≤ x2) ∧ x2 ≤ 15) → y3 = x3 → (a0 58 12 = 0 → ((a 58 13 = 0 ∧ a 58 14 = 0 - 1) ∧ a 58 15 = 0 - 1)) → jt (jxX E d 183 34 [some (.inr (.inr (.inl 0))), none, none, some (.inl y3)] [] (jxSH, a, b0)) (jQ_X11_span x1 x2 x3 a0 b0) := by
  intro y3 a hv hf hi0 hi1 hi2 hi3 hi4
  refine jt_eq (bq_X11_span_34 E d y3 a b0) ?_
  have h1858_ := iv_get hv0 (k := 58) (j := 12) (l := 0) (u := 600) rfl
  have h1859_ := iv_get hv (k := 58) (j := 13) (l := 0) (u := 10) rfl
  refine jt_ite (fun c1860_ => ?_) (fun c1860_ => ?_)
  ·
    refine jt_eI (eq_X0_measuredArrivals E d (jd_le hd rfl) a b0) ?_
    have h1861_ := f_X0_measuredArrivals_eq a b0
    exact jt_rI ⟨hv, hf, rfl, (show (a0 58 12 = 0 → ((((((0 ≤ x1 ∧ x1 ≤ 15) ∧ 0 ≤ x2) ∧ x2 ≤ 15) ∧ x3 = 2) ∧ f_X0_measuredArrivals a b0 = 0) ∨ (((((x1 < 0 ∨ 15 < x1) ∨ x2 < 0) ∨ 15 < x2) ∨ ¬ x3 = 2) ∧ f_X0_measuredArrivals a b0 = 0 - 1))) from by omega)⟩
  ·
    refine jt_ite (fun c1862_ => ?_) (fun c1862_ => ?_)
    ·
      refine jt_eI (eq_X0_measuredLeast E d (jd_le hd rfl) a b0) ?_
      have h1863_ := f_X0_measuredLeast_eq a b0
      exact jt_rI ⟨hv, hf, rfl, (show (a0 58 12 = 0 → ((((((0 ≤ x1 ∧ x1 ≤ 15) ∧ 0 ≤ x2) ∧ x2 ≤ 15) ∧ x3 = 2) ∧ f_X0_measuredLeast a b0 = 0) ∨ (((((x1 < 0 ∨ 15 < x1) ∨ x2 < 0) ∨ 15 < x2) ∨ ¬ x3 = 2) ∧ f_X0_measuredLeast a b0 = 0 - 1))) from by omega)⟩
    ·
      refine jt_eI (eq_X0_measuredGreatest E d (jd_le hd rfl) a b0) ?_
      have h1864_ := f_X0_measuredGreatest_eq a b0
      exact jt_rI ⟨hv, hf, rfl, (show (a0 58 12 = 0 → ((((((0 ≤ x1 ∧ x1 ≤ 15) ∧ 0 ≤ x2) ∧ x2 ≤ 15) ∧ x3 = 2) ∧ f_X0_measuredGreatest a b0 = 0) ∨ (((((x1 < 0 ∨ 15 < x1) ∨ x2 < 0) ∨ 15 < x2) ∨ ¬ x3 = 2) ∧ f_X0_measuredGreatest a b0 = 0 - 1))) from by omega)⟩
theorem sp_X11_span (E : jxE) (d : Nat) (hd : Nat.ble 4 d = true) (x1 x2 x3 : Int) (a0 b0 : Nat → Nat → Int) (hv0 : iv a0) : jt (jxC E d 183 [.inr (.inr (.inl 0)), .inl x1, .inl x2, .inl x3] (jxSH, a0, b0)) (jQ_X11_span x1 x2 x3 a0 b0) := by
  obtain ⟨d, rfl⟩ := jd_succ hd
  refine jt_eq (bq_X11_span E d x1 x2 x3 a0 b0) ?_
  refine jt_eI (eq_X11_isLand E d (jd_le hd rfl) x1 a0 b0) ?_
  have h1865_ := f_X11_isLand_eq a0 b0 x1
  have h1866_ := f_X11_within_eq a0 b0 x1 0 15
  refine jt_ite (fun c1867_ => ?_) (fun c1867_ => ?_)
  ·
    have h1868_ := iv_get hv0 (k := 58) (j := 12) (l := 0) (u := 600) rfl
    exact jt_rI ⟨hv0, (jfr_rf _ _), rfl, (show (a0 58 12 = 0 → ((((((0 ≤ x1 ∧ x1 ≤ 15) ∧ 0 ≤ x2) ∧ x2 ≤ 15) ∧ x3 = 2) ∧ (-1) = 0) ∨ (((((x1 < 0 ∨ 15 < x1) ∨ x2 < 0) ∨ 15 < x2) ∨ ¬ x3 = 2) ∧ (-1) = 0 - 1))) from by omega)⟩
  ·
    refine jt_eI (eq_X11_isLand E d (jd_le hd rfl) x2 a0 b0) ?_
    have h1869_ := f_X11_isLand_eq a0 b0 x2
    have h1870_ := f_X11_within_eq a0 b0 x2 0 15
    refine jt_ite (fun c1871_ => ?_) (fun c1871_ => ?_)
    ·
      have h1872_ := iv_get hv0 (k := 58) (j := 12) (l := 0) (u := 600) rfl
      exact jt_rI ⟨hv0, (jfr_rf _ _), rfl, (show (a0 58 12 = 0 → ((((((0 ≤ x1 ∧ x1 ≤ 15) ∧ 0 ≤ x2) ∧ x2 ≤ 15) ∧ x3 = 2) ∧ (-1) = 0) ∨ (((((x1 < 0 ∨ 15 < x1) ∨ x2 < 0) ∨ 15 < x2) ∨ ¬ x3 = 2) ∧ (-1) = 0 - 1))) from by omega)⟩
    ·
      refine jt_eI (eq_X11_within E d (jd_le hd rfl) x3 0 2 a0 b0) ?_
      have h1873_ := f_X11_within_eq a0 b0 x3 0 2
      refine jt_ite (fun c1874_ => ?_) (fun c1874_ => ?_)
      ·
        have h1875_ := iv_get hv0 (k := 58) (j := 12) (l := 0) (u := 600) rfl
        exact jt_rI ⟨hv0, (jfr_rf _ _), rfl, (show (a0 58 12 = 0 → ((((((0 ≤ x1 ∧ x1 ≤ 15) ∧ 0 ≤ x2) ∧ x2 ≤ 15) ∧ x3 = 2) ∧ (-1) = 0) ∨ (((((x1 < 0 ∨ 15 < x1) ∨ x2 < 0) ∨ 15 < x2) ∨ ¬ x3 = 2) ∧ (-1) = 0 - 1))) from by omega)⟩
      ·
        refine jt_bV (sp_X0_measure E d (jd_le hd rfl) x1 x2 a0 b0 hv0) (fun a1876_ b1876_ h1876_ => ?_)
        obtain ⟨hv1876_, hf1876_, rfl, hq1876_0⟩ := h1876_
        have h1877_ := iv_get hv0 (k := 58) (j := 12) (l := 0) (u := 600) rfl
        have h1878_ := iv_get hv1876_ (k := 58) (j := 13) (l := 0) (u := 10) rfl
        have hf1879_ : jfr jW_X11_span a0 a1876_ := jfr_tr (jfr_rf _ _) hf1876_ rfl
        exact cp_X11_span_34 E d hd x1 x2 x3 a0 b0 hv0 x3 a1876_ hv1876_ hf1879_ (show 0 ≤ x3 from by omega) (show x3 ≤ 2 from by omega) (show (((0 ≤ x1 ∧ x1 ≤ 15) ∧ 0 ≤ x2) ∧ x2 ≤ 15) from by omega) (show x3 = x3 from by omega) (show (a0 58 12 = 0 → ((a1876_ 58 13 = 0 ∧ a1876_ 58 14 = 0 - 1) ∧ a1876_ 58 15 = 0 - 1)) from by omega)
def jW_X1_put : List (Nat × Nat) := [(142, 9999), (143, 9999)]
abbrev jQ_X1_put (x1 x2 x3 : Int) (a0 b0 : Nat → Nat → Int) : List jxV → (Nat → Nat → Int) → (Nat → Nat → Int) → Prop := rI (fun r a b => (iv a) ∧ (jfr jW_X1_put a0 a) ∧ (b0 = b) ∧ ((0 ≤ r ∧ r ≤ 1)) ∧ ((((((((r = 1 ∧ 0 ≤ x1) ∧ x1 ≤ 7) ∧ 1 ≤ x2) ∧ x2 ≤ 500) ∧ 0 ≤ x3) ∧ x3 ≤ 50) ∨ (r = 0 ∧ (((((x1 < 0 ∨ 7 < x1) ∨ x2 < 1) ∨ 500 < x2) ∨ x3 < 0) ∨ 50 < x3)))))
theorem cp_X1_put_36 (E : jxE) (d : Nat) (hd : Nat.ble 2 (d + 1) = true) (x1 x2 x3 : Int) (a0 b0 : Nat → Nat → Int) (hv0 : iv a0) : ∀ (y1 y2 y3 s0 : Int) (a : Nat → Nat → Int), iv a → jfr jW_X1_put a0 a → 0 ≤ s0 → s0 ≤ 1 → y1 = x1 → y2 = x2 → y3 = x3 → (((((((s0 = 1 ∧ 0 ≤ x1) ∧ x1 ≤ 7) ∧ 1 ≤ x2) ∧ x2 ≤ 500) ∧ 0 ≤ x3) ∧ x3 ≤ 50) ∨ (s0 = 0 ∧ (((((x1 < 0 ∨ 7 < x1) ∨ x2 < 1) ∨ 500 < x2) ∨ x3 < 0) ∨ 50 < x3))) → (s0 = 1 → (((((0 ≤ y1 ∧ y1 ≤ 7) ∧ 1 ≤ y2) ∧ y2 ≤ 500) ∧ 0 ≤ y3) ∧ y3 ≤ 50)) → jt (jxX E d 29 36 [some (.inr (.inr (.inl 141))), some (.inl y1), some (.inl y2), some (.inl y3), none] [.inl s0] (jxSH, a, b0)) (jQ_X1_put x1 x2 x3 a0 b0) := by
  intro y1 y2 y3 s0 a hv hf hi0 hi1 hi2 hi3 hi4 hi5 hi6
  refine jt_eq (bq_X1_put_36 E d y1 y2 y3 s0 a b0) ?_
  refine jt_ite (fun c1880_ => ?_) (fun c1880_ => ?_)
  ·
    refine jt_grd (by omega) ?_
    exact jt_rI ⟨hv, hf, rfl, (show (0 ≤ s0 ∧ s0 ≤ 1) from by omega), (show (((((((s0 = 1 ∧ 0 ≤ x1) ∧ x1 ≤ 7) ∧ 1 ≤ x2) ∧ x2 ≤ 500) ∧ 0 ≤ x3) ∧ x3 ≤ 50) ∨ (s0 = 0 ∧ (((((x1 < 0 ∨ 7 < x1) ∨ x2 < 1) ∨ 500 < x2) ∨ x3 < 0) ∨ 50 < x3))) from by omega)⟩
  ·
    refine jt_grd (by omega) ?_
    refine jt_grd (by omega) ?_
    refine jt_grd (by omega) ?_
    have hv1881_ : iv (jxu a 142 (y1.toNat) y2) := iv_putf hv rfl
    have hv1882_ : iv (jxu (jxu a 142 (y1.toNat) y2) 143 (y1.toNat) y3) := iv_putf hv1881_ rfl
    have hf1883_ : jfr jW_X1_put a0 (jxu a 142 (y1.toNat) y2) := jfr_put hf rfl
    have hf1884_ : jfr jW_X1_put a0 (jxu (jxu a 142 (y1.toNat) y2) 143 (y1.toNat) y3) := jfr_put hf1883_ rfl
    exact jt_rI ⟨hv1882_, hf1884_, rfl, (show (0 ≤ s0 ∧ s0 ≤ 1) from by omega), (show (((((((s0 = 1 ∧ 0 ≤ x1) ∧ x1 ≤ 7) ∧ 1 ≤ x2) ∧ x2 ≤ 500) ∧ 0 ≤ x3) ∧ x3 ≤ 50) ∨ (s0 = 0 ∧ (((((x1 < 0 ∨ 7 < x1) ∨ x2 < 1) ∨ 500 < x2) ∨ x3 < 0) ∨ 50 < x3))) from by omega)⟩
theorem cp_X1_put_31 (E : jxE) (d : Nat) (hd : Nat.ble 2 (d + 1) = true) (x1 x2 x3 : Int) (a0 b0 : Nat → Nat → Int) (hv0 : iv a0) : ∀ (y1 y2 y3 : Int) (a : Nat → Nat → Int), iv a → jfr jW_X1_put a0 a → 0 ≤ y1 → y1 ≤ 7 → 1 ≤ y2 → y2 ≤ 500 → 0 ≤ y3 → y3 ≤ 50 → y1 = x1 → y2 = x2 → y3 = x3 → (((((0 ≤ x1 ∧ x1 ≤ 7) ∧ 1 ≤ x2) ∧ x2 ≤ 500) ∧ 0 ≤ x3) ∧ x3 ≤ 50) → jt (jxX E d 29 31 [some (.inr (.inr (.inl 141))), some (.inl y1), some (.inl y2), some (.inl y3), none] [] (jxSH, a, b0)) (jQ_X1_put x1 x2 x3 a0 b0) := by
  intro y1 y2 y3 a hv hf hi0 hi1 hi2 hi3 hi4 hi5 hi6 hi7 hi8 hi9
  refine jt_eq (bq_X1_put_31 E d y1 y2 y3 a b0) ?_
  exact cp_X1_put_36 E d hd x1 x2 x3 a0 b0 hv0 y1 y2 y3 1 a hv hf (show 0 ≤ 1 from by omega) (show 1 ≤ 1 from by omega) (show y1 = x1 from by omega) (show y2 = x2 from by omega) (show y3 = x3 from by omega) (show (((((((1 = 1 ∧ 0 ≤ x1) ∧ x1 ≤ 7) ∧ 1 ≤ x2) ∧ x2 ≤ 500) ∧ 0 ≤ x3) ∧ x3 ≤ 50) ∨ (1 = 0 ∧ (((((x1 < 0 ∨ 7 < x1) ∨ x2 < 1) ∨ 500 < x2) ∨ x3 < 0) ∨ 50 < x3))) from by omega) (show (1 = 1 → (((((0 ≤ y1 ∧ y1 ≤ 7) ∧ 1 ≤ y2) ∧ y2 ≤ 500) ∧ 0 ≤ y3) ∧ y3 ≤ 50)) from by omega)
theorem cp_X1_put_35 (E : jxE) (d : Nat) (hd : Nat.ble 2 (d + 1) = true) (x1 x2 x3 : Int) (a0 b0 : Nat → Nat → Int) (hv0 : iv a0) : ∀ (y1 y2 y3 : Int) (a : Nat → Nat → Int), iv a → jfr jW_X1_put a0 a → y1 = x1 → y2 = x2 → y3 = x3 → (((((x1 < 0 ∨ 7 < x1) ∨ x2 < 1) ∨ 500 < x2) ∨ x3 < 0) ∨ 50 < x3) → jt (jxX E d 29 35 [some (.inr (.inr (.inl 141))), some (.inl y1), some (.inl y2), some (.inl y3), none] [] (jxSH, a, b0)) (jQ_X1_put x1 x2 x3 a0 b0) := by
  intro y1 y2 y3 a hv hf hi0 hi1 hi2 hi3
  refine jt_eq (bq_X1_put_35 E d y1 y2 y3 a b0) ?_
  exact cp_X1_put_36 E d hd x1 x2 x3 a0 b0 hv0 y1 y2 y3 0 a hv hf (show 0 ≤ 0 from by omega) (show 0 ≤ 1 from by omega) (show y1 = x1 from by omega) (show y2 = x2 from by omega) (show y3 = x3 from by omega) (show (((((((0 = 1 ∧ 0 ≤ x1) ∧ x1 ≤ 7) ∧ 1 ≤ x2) ∧ x2 ≤ 500) ∧ 0 ≤ x3) ∧ x3 ≤ 50) ∨ (0 = 0 ∧ (((((x1 < 0 ∨ 7 < x1) ∨ x2 < 1) ∨ 500 < x2) ∨ x3 < 0) ∨ 50 < x3))) from by omega) (show (0 = 1 → (((((0 ≤ y1 ∧ y1 ≤ 7) ∧ 1 ≤ y2) ∧ y2 ≤ 500) ∧ 0 ≤ y3) ∧ y3 ≤ 50)) from by omega)
theorem sp_X1_put (E : jxE) (d : Nat) (hd : Nat.ble 2 d = true) (x1 x2 x3 : Int) (a0 b0 : Nat → Nat → Int) (hv0 : iv a0) : jt (jxC E d 29 [.inr (.inr (.inl 141)), .inl x1, .inl x2, .inl x3] (jxSH, a0, b0)) (jQ_X1_put x1 x2 x3 a0 b0) := by
  obtain ⟨d, rfl⟩ := jd_succ hd
  refine jt_eq (bq_X1_put E d x1 x2 x3 a0 b0) ?_
  refine jt_eI (eq_X11_within E d (jd_le hd rfl) x1 0 7 a0 b0) ?_
  have h1885_ := f_X11_within_eq a0 b0 x1 0 7
  refine jt_ite (fun c1886_ => ?_) (fun c1886_ => ?_)
  ·
    exact cp_X1_put_35 E d hd x1 x2 x3 a0 b0 hv0 x1 x2 x3 a0 hv0 (jfr_rf _ _) (show x1 = x1 from by omega) (show x2 = x2 from by omega) (show x3 = x3 from by omega) (show (((((x1 < 0 ∨ 7 < x1) ∨ x2 < 1) ∨ 500 < x2) ∨ x3 < 0) ∨ 50 < x3) from by omega)
  ·
    refine jt_eI (eq_X11_within E d (jd_le hd rfl) x2 1 500 a0 b0) ?_
    have h1887_ := f_X11_within_eq a0 b0 x2 1 500
    refine jt_ite (fun c1888_ => ?_) (fun c1888_ => ?_)
    ·
      exact cp_X1_put_35 E d hd x1 x2 x3 a0 b0 hv0 x1 x2 x3 a0 hv0 (jfr_rf _ _) (show x1 = x1 from by omega) (show x2 = x2 from by omega) (show x3 = x3 from by omega) (show (((((x1 < 0 ∨ 7 < x1) ∨ x2 < 1) ∨ 500 < x2) ∨ x3 < 0) ∨ 50 < x3) from by omega)
    ·
      refine jt_eI (eq_X11_within E d (jd_le hd rfl) x3 0 50 a0 b0) ?_
      have h1889_ := f_X11_within_eq a0 b0 x3 0 50
      refine jt_ite (fun c1890_ => ?_) (fun c1890_ => ?_)
      ·
        exact cp_X1_put_35 E d hd x1 x2 x3 a0 b0 hv0 x1 x2 x3 a0 hv0 (jfr_rf _ _) (show x1 = x1 from by omega) (show x2 = x2 from by omega) (show x3 = x3 from by omega) (show (((((x1 < 0 ∨ 7 < x1) ∨ x2 < 1) ∨ 500 < x2) ∨ x3 < 0) ∨ 50 < x3) from by omega)
      ·
        exact cp_X1_put_31 E d hd x1 x2 x3 a0 b0 hv0 x1 x2 x3 a0 hv0 (jfr_rf _ _) (show 0 ≤ x1 from by omega) (show x1 ≤ 7 from by omega) (show 1 ≤ x2 from by omega) (show x2 ≤ 500 from by omega) (show 0 ≤ x3 from by omega) (show x3 ≤ 50 from by omega) (show x1 = x1 from by omega) (show x2 = x2 from by omega) (show x3 = x3 from by omega) (show (((((0 ≤ x1 ∧ x1 ≤ 7) ∧ 1 ≤ x2) ∧ x2 ≤ 500) ∧ 0 ≤ x3) ∧ x3 ≤ 50) from by omega)
def jW_X11_stamps : List (Nat × Nat) := [(142, 9999), (143, 9999)]
abbrev jQ_X11_stamps (x1 x2 x3 : Int) (a0 b0 : Nat → Nat → Int) : List jxV → (Nat → Nat → Int) → (Nat → Nat → Int) → Prop := rI (fun r a b => (iv a) ∧ (jfr jW_X11_stamps a0 a) ∧ (b0 = b) ∧ ((0 ≤ r ∧ r ≤ 1)) ∧ ((((((((r = 1 ∧ 0 ≤ x1) ∧ x1 ≤ 7) ∧ 1 ≤ x2) ∧ x2 ≤ 500) ∧ 0 ≤ x3) ∧ x3 ≤ 50) ∨ (r = 0 ∧ (((((x1 < 0 ∨ 7 < x1) ∨ x2 < 1) ∨ 500 < x2) ∨ x3 < 0) ∨ 50 < x3)))))
theorem sp_X11_stamps (E : jxE) (d : Nat) (hd : Nat.ble 3 d = true) (x1 x2 x3 : Int) (a0 b0 : Nat → Nat → Int) (hv0 : iv a0) : jt (jxC E d 193 [.inr (.inr (.inl 0)), .inl x1, .inl x2, .inl x3] (jxSH, a0, b0)) (jQ_X11_stamps x1 x2 x3 a0 b0) := by
  obtain ⟨d, rfl⟩ := jd_succ hd
  refine jt_eq (bq_X11_stamps E d x1 x2 x3 a0 b0) ?_
  refine jt_bI (sp_X1_put E d (jd_le hd rfl) x1 x2 x3 a0 b0 hv0) (fun r1891_ a1891_ b1891_ h1891_ => ?_)
  obtain ⟨hv1891_, hf1891_, rfl, hq1891_0, hq1891_1⟩ := h1891_
  refine jt_grd (by omega) ?_
  have hf1892_ : jfr jW_X11_stamps a0 a1891_ := jfr_tr (jfr_rf _ _) hf1891_ rfl
  exact jt_rI ⟨hv1891_, hf1892_, rfl, (show (0 ≤ r1891_ ∧ r1891_ ≤ 1) from by omega), (show (((((((r1891_ = 1 ∧ 0 ≤ x1) ∧ x1 ≤ 7) ∧ 1 ≤ x2) ∧ x2 ≤ 500) ∧ 0 ≤ x3) ∧ x3 ≤ 50) ∨ (r1891_ = 0 ∧ (((((x1 < 0 ∨ 7 < x1) ∨ x2 < 1) ∨ 500 < x2) ∨ x3 < 0) ∨ 50 < x3))) from by omega)⟩
abbrev jQ_X11_state (x1 x2 x3 : Int) (a0 b0 : Nat → Nat → Int) : List jxV → (Nat → Nat → Int) → (Nat → Nat → Int) → Prop := rI (fun r a b => (a0 = a) ∧ (b0 = b) ∧ ((a0 58 8 = 0 → r = 0 - 1)))
theorem sp_X11_state (E : jxE) (d : Nat) (hd : Nat.ble 4 d = true) (x1 x2 x3 : Int) (a0 b0 : Nat → Nat → Int) (hv0 : iv a0) : jt (jxC E d 180 [.inr (.inr (.inl 0)), .inl x1, .inl x2, .inl x3] (jxSH, a0, b0)) (jQ_X11_state x1 x2 x3 a0 b0) := by
  obtain ⟨d, rfl⟩ := jd_succ hd
  refine jt_eq (bq_X11_state E d x1 x2 x3 a0 b0) ?_
  refine jt_eI (eq_X0_has E d (jd_le hd rfl) x1 a0 b0) ?_
  have h1893_ := f_X0_has_eq a0 b0 x1
  have h1894_ := iv_get hv0 (k := 58) (j := 8) (l := 0) (u := 300) rfl
  refine jt_ite (fun c1895_ => ?_) (fun c1895_ => ?_)
  ·
    exact jt_rI ⟨rfl, rfl, (show (a0 58 8 = 0 → (-1) = 0 - 1) from by omega)⟩
  ·
    refine jt_eI (eq_X11_isDay E d (jd_le hd rfl) x2 a0 b0) ?_
    have h1896_ := f_X11_isDay_eq a0 b0 x2
    have h1897_ := f_X11_within_eq a0 b0 x2 0 1999
    refine jt_ite (fun c1898_ => ?_) (fun c1898_ => ?_)
    ·
      exact jt_rI ⟨rfl, rfl, (show (a0 58 8 = 0 → (-1) = 0 - 1) from by omega)⟩
    ·
      refine jt_eI (eq_X11_isDay E d (jd_le hd rfl) x3 a0 b0) ?_
      have h1899_ := f_X11_isDay_eq a0 b0 x3
      have h1900_ := f_X11_within_eq a0 b0 x3 0 1999
      refine jt_ite (fun c1901_ => ?_) (fun c1901_ => ?_)
      ·
        exact jt_rI ⟨rfl, rfl, (show (a0 58 8 = 0 → (-1) = 0 - 1) from by omega)⟩
      ·
        refine jt_bI (sp_X0_stateAsKnown E d (jd_le hd rfl) x1 x2 x3 a0 b0 hv0) (fun r1902_ a1902_ b1902_ h1902_ => ?_)
        obtain ⟨rfl, rfl⟩ := h1902_
        exact jt_rI ⟨rfl, rfl, (show (a0 58 8 = 0 → r1902_ = 0 - 1) from by omega)⟩
