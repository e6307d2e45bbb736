def jW_X0_add : List (Nat × Nat) := [(58, 8), (59, 9999), (60, 9999), (61, 9999), (62, 9999), (63, 9999), (64, 9999), (65, 9999)]
abbrev jQ_X0_add (x1 x2 x3 x4 x5 : Int) (a0 b0 : Nat → Nat → Int) : List jxV → (Nat → Nat → Int) → (Nat → Nat → Int) → Prop := rI (fun r a b => (iv a) ∧ (jfr jW_X0_add a0 a) ∧ (b0 = b))
theorem cp_X0_add_64 (E : jxE) (d : Nat) (hd : Nat.ble 1 (d + 1) = true) (x1 x2 x3 x4 x5 : Int) (a0 b0 : Nat → Nat → Int) (hv0 : iv a0) : ∀ (a : Nat → Nat → Int), iv a → jfr jW_X0_add a0 a → a 58 8 ≤ 299 → jt (jxX E d 5 64 [some (.inr (.inr (.inl 58))), none, none, none, none, none] [] (jxSH, a, b0)) (jQ_X0_add x1 x2 x3 x4 x5 a0 b0) := by
  intro a hv hf hi0
  refine jt_eq (bq_X0_add_64 E d a b0) ?_
  have h1_ := iv_get hv (k := 58) (j := 8) (l := 0) (u := 300) rfl
  refine jt_grd (by omega) ?_
  refine jt_grd (by omega) ?_
  have hv2_ : iv (jxu a 64 ((a 58 8).toNat) (-1)) := iv_putf hv rfl
  have hv3_ : iv (jxu (jxu a 64 ((a 58 8).toNat) (-1)) 65 ((a 58 8).toNat) (-1)) := iv_putf hv2_ rfl
  have h5_ : jxw ((a 58 8) + 1) = (a 58 8) + 1 := jxw_id (by omega) (by omega)
  have hv4_ : iv (jxu (jxu (jxu a 64 ((a 58 8).toNat) (-1)) 65 ((a 58 8).toNat) (-1)) 58 8 (jxw ((a 58 8) + 1))) := iv_put hv3_ (l := 0) (u := 300) rfl (by omega) (by omega)
  have hf6_ : jfr jW_X0_add a0 (jxu a 64 ((a 58 8).toNat) (-1)) := jfr_put hf rfl
  have hf7_ : jfr jW_X0_add a0 (jxu (jxu a 64 ((a 58 8).toNat) (-1)) 65 ((a 58 8).toNat) (-1)) := jfr_put hf6_ rfl
  have hf8_ : jfr jW_X0_add a0 (jxu (jxu (jxu a 64 ((a 58 8).toNat) (-1)) 65 ((a 58 8).toNat) (-1)) 58 8 (jxw ((a 58 8) + 1))) := jfr_put hf7_ rfl
  exact jt_rI ⟨hv4_, hf8_, rfl⟩
theorem cp_X0_add_32 (E : jxE) (d : Nat) (hd : Nat.ble 1 (d + 1) = true) (x1 x2 x3 x4 x5 : Int) (a0 b0 : Nat → Nat → Int) (hv0 : iv a0) : ∀ (y3 y4 y5 : Int) (a : Nat → Nat → Int), iv a → jfr jW_X0_add a0 a → a 58 8 ≤ 299 → jt (jxX E d 5 32 [some (.inr (.inr (.inl 58))), none, none, some (.inl y3), some (.inl y4), some (.inl y5)] [] (jxSH, a, b0)) (jQ_X0_add x1 x2 x3 x4 x5 a0 b0) := by
  intro y3 y4 y5 a hv hf hi0
  refine jt_eq (bq_X0_add_32 E d y3 y4 y5 a b0) ?_
  have h9_ := iv_get hv (k := 58) (j := 8) (l := 0) (u := 300) rfl
  refine jt_grd (by omega) ?_
  refine jt_grd (by omega) ?_
  refine jt_grd (by omega) ?_
  have hv10_ : iv (jxu a 61 ((a 58 8).toNat) y3) := iv_putf hv rfl
  have hv11_ : iv (jxu (jxu a 61 ((a 58 8).toNat) y3) 62 ((a 58 8).toNat) y4) := iv_putf hv10_ rfl
  have hv12_ : iv (jxu (jxu (jxu a 61 ((a 58 8).toNat) y3) 62 ((a 58 8).toNat) y4) 63 ((a 58 8).toNat) y5) := iv_putf hv11_ rfl
  have hf13_ : jfr jW_X0_add a0 (jxu a 61 ((a 58 8).toNat) y3) := jfr_put hf rfl
  have hf14_ : jfr jW_X0_add a0 (jxu (jxu a 61 ((a 58 8).toNat) y3) 62 ((a 58 8).toNat) y4) := jfr_put hf13_ rfl
  have hf15_ : jfr jW_X0_add a0 (jxu (jxu (jxu a 61 ((a 58 8).toNat) y3) 62 ((a 58 8).toNat) y4) 63 ((a 58 8).toNat) y5) := jfr_put hf14_ rfl
  exact cp_X0_add_64 E d hd x1 x2 x3 x4 x5 a0 b0 hv0 (jxu (jxu (jxu a 61 ((a 58 8).toNat) y3) 62 ((a 58 8).toNat) y4) 63 ((a 58 8).toNat) y5) hv12_ hf15_ (show a 58 8 ≤ 299 from by omega)
theorem sp_X0_add (E : jxE) (d : Nat) (hd : Nat.ble 1 d = true) (x1 x2 x3 x4 x5 : Int) (a0 b0 : Nat → Nat → Int) (hv0 : iv a0) : jt (jxC E d 5 [.inr (.inr (.inl 58)), .inl x1, .inl x2, .inl x3, .inl x4, .inl x5] (jxSH, a0, b0)) (jQ_X0_add x1 x2 x3 x4 x5 a0 b0) := by
  obtain ⟨d, rfl⟩ := jd_succ hd
  refine jt_eq (bq_X0_add E d x1 x2 x3 x4 x5 a0 b0) ?_
  have h16_ := iv_get hv0 (k := 58) (j := 8) (l := 0) (u := 300) rfl
  refine jt_ite (fun c17_ => ?_) (fun c17_ => ?_)
  ·
    refine jt_grd (by omega) ?_
    refine jt_grd (by omega) ?_
    have hv18_ : iv (jxu a0 59 ((a0 58 8).toNat) x1) := iv_putf hv0 rfl
    have hv19_ : iv (jxu (jxu a0 59 ((a0 58 8).toNat) x1) 60 ((a0 58 8).toNat) x2) := iv_putf hv18_ rfl
    have hf20_ : jfr jW_X0_add a0 (jxu a0 59 ((a0 58 8).toNat) x1) := jfr_put (jfr_rf _ _) rfl
    have hf21_ : jfr jW_X0_add a0 (jxu (jxu a0 59 ((a0 58 8).toNat) x1) 60 ((a0 58 8).toNat) x2) := jfr_put hf20_ rfl
    exact cp_X0_add_32 E d hd x1 x2 x3 x4 x5 a0 b0 hv0 x3 x4 x5 (jxu (jxu a0 59 ((a0 58 8).toNat) x1) 60 ((a0 58 8).toNat) x2) hv19_ hf21_ (show a0 58 8 ≤ 299 from by omega)
  ·
    exact jt_rI ⟨hv0, (jfr_rf _ _), rfl⟩
def jW_X0_addMeasured : List (Nat × Nat) := [(58, 13), (58, 14), (58, 15)]
abbrev jQ_X0_addMeasured (x1 : Int) (a0 b0 : Nat → Nat → Int) : List jxV → (Nat → Nat → Int) → (Nat → Nat → Int) → Prop := rV (fun a b => (iv a) ∧ (jfr jW_X0_addMeasured a0 a) ∧ (b0 = b))
theorem cp_X0_addMeasured_20 (E : jxE) (d : Nat) (hd : Nat.ble 2 (d + 1) = true) (x1 : Int) (a0 b0 : Nat → Nat → Int) (hv0 : iv a0) (hp0 : a0 58 13 < 10) : ∀ (y1 s1 : Int) (a : Nat → Nat → Int), iv a → jfr jW_X0_addMeasured a0 a → a 58 13 ≤ 9 → jt (jxX E d 24 20 [some (.inr (.inr (.inl 58))), some (.inl y1)] [.inl s1, .inr (.inr (.inl 58))] (jxSH, a, b0)) (jQ_X0_addMeasured x1 a0 b0) := by
  intro y1 s1 a hv hf hi0
  refine jt_eq (bq_X0_addMeasured_20 E d y1 s1 a b0) ?_
  have h22_ := iv_get hv (k := 58) (j := 13) (l := 0) (u := 10) rfl
  refine jt_eI (eq_J9_max_7cf53 E d (jd_le hd rfl) (a 58 15) y1 (jxu a 58 14 s1) b0) ?_
  have hv23_ : iv (jxu a 58 14 s1) := iv_putf hv rfl
  have hv24_ : iv (jxu (jxu a 58 14 s1) 58 15 (f_J9_max_7cf53 (jxu a 58 14 s1) b0 (a 58 15) y1)) := iv_putf hv23_ rfl
  have h26_ : jxw ((a 58 13) + 1) = (a 58 13) + 1 := jxw_id (by omega) (by omega)
  have hv25_ : iv (jxu (jxu (jxu a 58 14 s1) 58 15 (f_J9_max_7cf53 (jxu a 58 14 s1) b0 (a 58 15) y1)) 58 13 (jxw ((a 58 13) + 1))) := iv_put hv24_ (l := 0) (u := 10) rfl (by omega) (by omega)
  have hf27_ : jfr jW_X0_addMeasured a0 (jxu a 58 14 s1) := jfr_put hf rfl
  have hf28_ : jfr jW_X0_addMeasured a0 (jxu (jxu a 58 14 s1) 58 15 (f_J9_max_7cf53 (jxu a 58 14 s1) b0 (a 58 15) y1)) := jfr_put hf27_ rfl
  have hf29_ : jfr jW_X0_addMeasured a0 (jxu (jxu (jxu a 58 14 s1) 58 15 (f_J9_max_7cf53 (jxu a 58 14 s1) b0 (a 58 15) y1)) 58 13 (jxw ((a 58 13) + 1))) := jfr_put hf28_ rfl
  exact jt_rV ⟨hv25_, hf29_, rfl⟩
theorem sp_X0_addMeasured (E : jxE) (d : Nat) (hd : Nat.ble 2 d = true) (x1 : Int) (a0 b0 : Nat → Nat → Int) (hv0 : iv a0) (hp0 : a0 58 13 < 10) : jt (jxC E d 24 [.inr (.inr (.inl 58)), .inl x1] (jxSH, a0, b0)) (jQ_X0_addMeasured x1 a0 b0) := by
  obtain ⟨d, rfl⟩ := jd_succ hd
  refine jt_eq (bq_X0_addMeasured E d x1 a0 b0) ?_
  have h30_ := iv_get hv0 (k := 58) (j := 13) (l := 0) (u := 10) rfl
  refine jt_ite (fun c31_ => ?_) (fun c31_ => ?_)
  ·
    exact cp_X0_addMeasured_20 E d hd x1 a0 b0 hv0 hp0 x1 x1 a0 hv0 (jfr_rf _ _) (show a0 58 13 ≤ 9 from by omega)
  ·
    refine jt_eI (eq_J9_min_7cf53 E d (jd_le hd rfl) (a0 58 14) x1 a0 b0) ?_
    exact cp_X0_addMeasured_20 E d hd x1 a0 b0 hv0 hp0 x1 (f_J9_min_7cf53 a0 b0 (a0 58 14) x1) a0 hv0 (jfr_rf _ _) (show a0 58 13 ≤ 9 from by omega)
def jW_X0_measure : List (Nat × Nat) := [(58, 13), (58, 14), (58, 15)]
abbrev jQ_X0_measure (x1 x2 : Int) (a0 b0 : Nat → Nat → Int) : List jxV → (Nat → Nat → Int) → (Nat → Nat → Int) → Prop := rV (fun a b => (iv a) ∧ (jfr jW_X0_measure a0 a) ∧ (b0 = b) ∧ ((a0 58 12 = 0 → ((a 58 13 = 0 ∧ a 58 14 = 0 - 1) ∧ a 58 15 = 0 - 1))))
theorem cp_X0_measure_22 (E : jxE) (d : Nat) (hd : Nat.ble 3 (d + 1) = true) (x1 x2 : Int) (a0 b0 : Nat → Nat → Int) (hv0 : iv a0) : ∀ n : Nat, (∀ (y1 y2 y3 : Int) (a : Nat → Nat → Int), (((y3 + 1) * 1) + 0).toNat ≤ n → iv a → jfr jW_X0_measure a0 a → 0 ≤ y3 → y3 ≤ 599 → 1 ≤ a0 58 12 → jt (jxX E d 23 139 [some (.inr (.inr (.inl 58))), some (.inl y1), some (.inl y2), some (.inl y3), none, none] [] (jxSH, a, b0)) (jQ_X0_measure x1 x2 a0 b0)) ∧ (∀ (y1 y2 y3 y4 : Int) (a : Nat → Nat → Int), (((y3 + 1) * 1) + 0).toNat ≤ n → iv a → jfr jW_X0_measure a0 a → 0 ≤ y3 → y3 ≤ 599 → 0 ≤ y4 → y4 ≤ 299 → a 58 13 ≤ 9 → 1 ≤ a0 58 12 → jt (jxX E d 23 121 [some (.inr (.inr (.inl 58))), some (.inl y1), some (.inl y2), some (.inl y3), some (.inl y4), none] [] (jxSH, a, b0)) (jQ_X0_measure x1 x2 a0 b0)) ∧ (∀ (y1 y2 y3 y4 s0 : Int) (a : Nat → Nat → Int), (((y3 + 1) * 1) + 0).toNat ≤ n → iv a → jfr jW_X0_measure a0 a → 0 ≤ y3 → y3 ≤ 599 → 0 ≤ s0 → s0 ≤ 1 → a 58 13 ≤ 9 → 1 ≤ a0 58 12 → (s0 = 1 → (0 ≤ y4 ∧ y4 ≤ 299)) → jt (jxX E d 23 78 [some (.inr (.inr (.inl 58))), some (.inl y1), some (.inl y2), some (.inl y3), some (.inl y4), none] [.inl s0] (jxSH, a, b0)) (jQ_X0_measure x1 x2 a0 b0)) ∧ (∀ (y1 y2 y3 y4 : Int) (a : Nat → Nat → Int), (((y3 + 1) * 1) + 0).toNat ≤ n → iv a → jfr jW_X0_measure a0 a → 0 ≤ y3 → y3 ≤ 599 → a 58 13 ≤ 9 → 1 ≤ a0 58 12 → jt (jxX E d 23 77 [some (.inr (.inr (.inl 58))), some (.inl y1), some (.inl y2), some (.inl y3), some (.inl y4), none] [] (jxSH, a, b0)) (jQ_X0_measure x1 x2 a0 b0)) ∧ (∀ (y1 y2 y3 y4 : Int) (a : Nat → Nat → Int), (((y3 + 1) * 1) + 0).toNat ≤ n → iv a → jfr jW_X0_measure a0 a → 0 ≤ y3 → y3 ≤ 599 → 0 ≤ y4 → y4 ≤ 299 → a 58 13 ≤ 9 → 1 ≤ a0 58 12 → jt (jxX E d 23 52 [some (.inr (.inr (.inl 58))), some (.inl y1), some (.inl y2), some (.inl y3), some (.inl y4), none] [] (jxSH, a, b0)) (jQ_X0_measure x1 x2 a0 b0)) ∧ (∀ (y1 y2 y3 : Int) (a : Nat → Nat → Int), (((y3 + 1) * 1) + 0).toNat ≤ n → iv a → jfr jW_X0_measure a0 a → 0 - 1 ≤ y3 → y3 ≤ 599 → (a0 58 12 = 0 → (((y3 < 0 ∧ a 58 13 = 0) ∧ a 58 14 = 0 - 1) ∧ a 58 15 = 0 - 1)) → jt (jxX E d 23 22 [some (.inr (.inr (.inl 58))), some (.inl y1), some (.inl y2), some (.inl y3), none, none] [] (jxSH, a, b0)) (jQ_X0_measure x1 x2 a0 b0)) := by
  refine jx_ind fun n ih => ?_
  have ih139 : ∀ (y1 y2 y3 : Int) (a : Nat → Nat → Int), (((y3 + 1) * 1) + 0).toNat < n → iv a → jfr jW_X0_measure a0 a → 0 ≤ y3 → y3 ≤ 599 → 1 ≤ a0 58 12 → jt (jxX E d 23 139 [some (.inr (.inr (.inl 58))), some (.inl y1), some (.inl y2), some (.inl y3), none, none] [] (jxSH, a, b0)) (jQ_X0_measure x1 x2 a0 b0) := fun y1 y2 y3 a hlt i0 i1 i2 i3 i4 => (ih _ hlt).1 y1 y2 y3 a (Nat.le_refl _) i0 i1 i2 i3 i4
  have ih121 : ∀ (y1 y2 y3 y4 : Int) (a : Nat → Nat → Int), (((y3 + 1) * 1) + 0).toNat < n → iv a → jfr jW_X0_measure a0 a → 0 ≤ y3 → y3 ≤ 599 → 0 ≤ y4 → y4 ≤ 299 → a 58 13 ≤ 9 → 1 ≤ a0 58 12 → jt (jxX E d 23 121 [some (.inr (.inr (.inl 58))), some (.inl y1), some (.inl y2), some (.inl y3), some (.inl y4), none] [] (jxSH, a, b0)) (jQ_X0_measure x1 x2 a0 b0) := fun y1 y2 y3 y4 a hlt i0 i1 i2 i3 i4 i5 i6 i7 => (ih _ hlt).2.1 y1 y2 y3 y4 a (Nat.le_refl _) i0 i1 i2 i3 i4 i5 i6 i7
  have ih78 : ∀ (y1 y2 y3 y4 s0 : Int) (a : Nat → Nat → Int), (((y3 + 1) * 1) + 0).toNat < n → iv a → jfr jW_X0_measure a0 a → 0 ≤ y3 → y3 ≤ 599 → 0 ≤ s0 → s0 ≤ 1 → a 58 13 ≤ 9 → 1 ≤ a0 58 12 → (s0 = 1 → (0 ≤ y4 ∧ y4 ≤ 299)) → jt (jxX E d 23 78 [some (.inr (.inr (.inl 58))), some (.inl y1), some (.inl y2), some (.inl y3), some (.inl y4), none] [.inl s0] (jxSH, a, b0)) (jQ_X0_measure x1 x2 a0 b0) := fun y1 y2 y3 y4 s0 a hlt i0 i1 i2 i3 i4 i5 i6 i7 i8 => (ih _ hlt).2.2.1 y1 y2 y3 y4 s0 a (Nat.le_refl _) i0 i1 i2 i3 i4 i5 i6 i7 i8
  have ih77 : ∀ (y1 y2 y3 y4 : Int) (a : Nat → Nat → Int), (((y3 + 1) * 1) + 0).toNat < n → iv a → jfr jW_X0_measure a0 a → 0 ≤ y3 → y3 ≤ 599 → a 58 13 ≤ 9 → 1 ≤ a0 58 12 → jt (jxX E d 23 77 [some (.inr (.inr (.inl 58))), some (.inl y1), some (.inl y2), some (.inl y3), some (.inl y4), none] [] (jxSH, a, b0)) (jQ_X0_measure x1 x2 a0 b0) := fun y1 y2 y3 y4 a hlt i0 i1 i2 i3 i4 i5 => (ih _ hlt).2.2.2.1 y1 y2 y3 y4 a (Nat.le_refl _) i0 i1 i2 i3 i4 i5
  have ih52 : ∀ (y1 y2 y3 y4 : Int) (a : Nat → Nat → Int), (((y3 + 1) * 1) + 0).toNat < n → iv a → jfr jW_X0_measure a0 a → 0 ≤ y3 → y3 ≤ 599 → 0 ≤ y4 → y4 ≤ 299 → a 58 13 ≤ 9 → 1 ≤ a0 58 12 → jt (jxX E d 23 52 [some (.inr (.inr (.inl 58))), some (.inl y1), some (.inl y2), some (.inl y3), some (.inl y4), none] [] (jxSH, a, b0)) (jQ_X0_measure x1 x2 a0 b0) := fun y1 y2 y3 y4 a hlt i0 i1 i2 i3 i4 i5 i6 i7 => (ih _ hlt).2.2.2.2.1 y1 y2 y3 y4 a (Nat.le_refl _) i0 i1 i2 i3 i4 i5 i6 i7
  have ih22 : ∀ (y1 y2 y3 : Int) (a : Nat → Nat → Int), (((y3 + 1) * 1) + 0).toNat < n → iv a → jfr jW_X0_measure a0 a → 0 - 1 ≤ y3 → y3 ≤ 599 → (a0 58 12 = 0 → (((y3 < 0 ∧ a 58 13 = 0) ∧ a 58 14 = 0 - 1) ∧ a 58 15 = 0 - 1)) → jt (jxX E d 23 22 [some (.inr (.inr (.inl 58))), some (.inl y1), some (.inl y2), some (.inl y3), none, none] [] (jxSH, a, b0)) (jQ_X0_measure x1 x2 a0 b0) := fun y1 y2 y3 a hlt i0 i1 i2 i3 i4 => (ih _ hlt).2.2.2.2.2 y1 y2 y3 a (Nat.le_refl _) i0 i1 i2 i3 i4
  have hc139 : ∀ (y1 y2 y3 : Int) (a : Nat → Nat → Int), (((y3 + 1) * 1) + 0).toNat ≤ n → iv a → jfr jW_X0_measure a0 a → 0 ≤ y3 → y3 ≤ 599 → 1 ≤ a0 58 12 → jt (jxX E d 23 139 [some (.inr (.inr (.inl 58))), some (.inl y1), some (.inl y2), some (.inl y3), none, none] [] (jxSH, a, b0)) (jQ_X0_measure x1 x2 a0 b0) := by
    intro y1 y2 y3 a hm hv hf hi0 hi1 hi2
    refine jt_eq (bq_X0_measure_139 E d y1 y2 y3 a b0) ?_
    have h32_ := iv_get hv0 (k := 58) (j := 12) (l := 0) (u := 600) rfl
    have h33_ : jxw (y3 + (-1)) = y3 + (-1) := jxw_id (by omega) (by omega)
    have h34_ := iv_get hv (k := 58) (j := 13) (l := 0) (u := 10) rfl
    exact ih22 y1 y2 (jxw (y3 + (-1))) a (show ((((jxw (y3 + (-1))) + 1) * 1) + 0).toNat < n from by omega) hv hf (show 0 - 1 ≤ jxw (y3 + (-1)) from by omega) (show jxw (y3 + (-1)) ≤ 599 from by omega) (show (a0 58 12 = 0 → (((jxw (y3 + (-1)) < 0 ∧ a 58 13 = 0) ∧ a 58 14 = 0 - 1) ∧ a 58 15 = 0 - 1)) from by omega)
  have hc121 : ∀ (y1 y2 y3 y4 : Int) (a : Nat → Nat → Int), (((y3 + 1) * 1) + 0).toNat ≤ n → iv a → jfr jW_X0_measure a0 a → 0 ≤ y3 → y3 ≤ 599 → 0 ≤ y4 → y4 ≤ 299 → a 58 13 ≤ 9 → 1 ≤ a0 58 12 → jt (jxX E d 23 121 [some (.inr (.inr (.inl 58))), some (.inl y1), some (.inl y2), some (.inl y3), some (.inl y4), none] [] (jxSH, a, b0)) (jQ_X0_measure x1 x2 a0 b0) := by
    intro y1 y2 y3 y4 a hm hv hf hi0 hi1 hi2 hi3 hi4 hi5
    refine jt_eq (bq_X0_measure_121 E d y1 y2 y3 y4 a b0) ?_
    have h35_ := iv_get hv (k := 58) (j := 13) (l := 0) (u := 10) rfl
    have h36_ := iv_get hv0 (k := 58) (j := 12) (l := 0) (u := 600) rfl
    refine jt_grd (by omega) ?_
    refine jt_grd (by omega) ?_
    refine jt_bV (sp_X0_addMeasured E d (jd_le hd rfl) (jxw ((a 67 (y3.toNat)) - (a 61 (y4.toNat)))) a b0 hv (show a 58 13 < 10 from by omega)) (fun a37_ b37_ h37_ => ?_)
    obtain ⟨hv37_, hf37_, rfl⟩ := h37_
    have hf38_ : jfr jW_X0_measure a0 a37_ := jfr_tr hf hf37_ rfl
    exact hc139 y1 y2 y3 a37_ (show (((y3 + 1) * 1) + 0).toNat ≤ n from by omega) hv37_ hf38_ (show 0 ≤ y3 from by omega) (show y3 ≤ 599 from by omega) (show 1 ≤ a0 58 12 from by omega)
  have hc78 : ∀ (y1 y2 y3 y4 s0 : Int) (a : Nat → Nat → Int), (((y3 + 1) * 1) + 0).toNat ≤ n → iv a → jfr jW_X0_measure a0 a → 0 ≤ y3 → y3 ≤ 599 → 0 ≤ s0 → s0 ≤ 1 → a 58 13 ≤ 9 → 1 ≤ a0 58 12 → (s0 = 1 → (0 ≤ y4 ∧ y4 ≤ 299)) → jt (jxX E d 23 78 [some (.inr (.inr (.inl 58))), some (.inl y1), some (.inl y2), some (.inl y3), some (.inl y4), none] [.inl s0] (jxSH, a, b0)) (jQ_X0_measure x1 x2 a0 b0) := by
    intro y1 y2 y3 y4 s0 a hm hv hf hi0 hi1 hi2 hi3 hi4 hi5 hi6
    refine jt_eq (bq_X0_measure_78 E d y1 y2 y3 y4 s0 a b0) ?_
    have h39_ := iv_get hv (k := 58) (j := 13) (l := 0) (u := 10) rfl
    have h40_ := iv_get hv0 (k := 58) (j := 12) (l := 0) (u := 600) rfl
    refine jt_ite (fun c41_ => ?_) (fun c41_ => ?_)
    ·
      exact hc139 y1 y2 y3 a (show (((y3 + 1) * 1) + 0).toNat ≤ n from by omega) hv hf (show 0 ≤ y3 from by omega) (show y3 ≤ 599 from by omega) (show 1 ≤ a0 58 12 from by omega)
    ·
      refine jt_grd (by omega) ?_
      refine jt_eI (eq_X3_landOf E d (jd_le hd rfl) (a 59 (y4.toNat)) a b0) ?_
      have h42_ : a 59 (y4.toNat) = a0 59 (y4.toNat) := hf 59 (y4.toNat) rfl
      have h43_ := f_X3_landOf_eq a b0 (a 59 (y4.toNat))
      have h44_ := iv_get hv (k := 4) (j := 6) (l := 0) (u := 40) rfl
      have h45_ : a 4 6 = a0 4 6 := hf 4 6 rfl
      have h46_ := iv_get hv0 (k := 4) (j := 6) (l := 0) (u := 40) rfl
      have h47_ := f_X11_entry_r5_eq a b0 (a 4 6) (a 59 (y4.toNat))
      have h48_ : a 5 ((a 59 (y4.toNat)).toNat) = a0 5 ((a 59 (y4.toNat)).toNat) := hf 5 ((a 59 (y4.toNat)).toNat) rfl
      refine jt_ite (fun c49_ => ?_) (fun c49_ => ?_)
      ·
        refine jt_grd (by omega) ?_
        refine jt_eI (eq_X3_landOf E d (jd_le hd rfl) (a 60 (y4.toNat)) a b0) ?_
        have h50_ : a 60 (y4.toNat) = a0 60 (y4.toNat) := hf 60 (y4.toNat) rfl
        have h51_ := f_X3_landOf_eq a b0 (a 60 (y4.toNat))
        have h52_ := f_X11_entry_r5_eq a b0 (a 4 6) (a 60 (y4.toNat))
        have h53_ : a 5 ((a 60 (y4.toNat)).toNat) = a0 5 ((a 60 (y4.toNat)).toNat) := hf 5 ((a 60 (y4.toNat)).toNat) rfl
        refine jt_ite (fun c54_ => ?_) (fun c54_ => ?_)
        ·
          exact hc121 y1 y2 y3 y4 a (show (((y3 + 1) * 1) + 0).toNat ≤ n from by omega) hv hf (show 0 ≤ y3 from by omega) (show y3 ≤ 599 from by omega) (show 0 ≤ y4 from by omega) (show y4 ≤ 299 from by omega) (show a 58 13 ≤ 9 from by omega) (show 1 ≤ a0 58 12 from by omega)
        ·
          exact hc139 y1 y2 y3 a (show (((y3 + 1) * 1) + 0).toNat ≤ n from by omega) hv hf (show 0 ≤ y3 from by omega) (show y3 ≤ 599 from by omega) (show 1 ≤ a0 58 12 from by omega)
      ·
        exact hc139 y1 y2 y3 a (show (((y3 + 1) * 1) + 0).toNat ≤ n from by omega) hv hf (show 0 ≤ y3 from by omega) (show y3 ≤ 599 from by omega) (show 1 ≤ a0 58 12 from by omega)
  have hc77 : ∀ (y1 y2 y3 y4 : Int) (a : Nat → Nat → Int), (((y3 + 1) * 1) + 0).toNat ≤ n → iv a → jfr jW_X0_measure a0 a → 0 ≤ y3 → y3 ≤ 599 → a 58 13 ≤ 9 → 1 ≤ a0 58 12 → jt (jxX E d 23 77 [some (.inr (.inr (.inl 58))), some (.inl y1), some (.inl y2), some (.inl y3), some (.inl y4), none] [] (jxSH, a, b0)) (jQ_X0_measure x1 x2 a0 b0) := by
    intro y1 y2 y3 y4 a hm hv hf hi0 hi1 hi2 hi3
    refine jt_eq (bq_X0_measure_77 E d y1 y2 y3 y4 a b0) ?_
    have h55_ := iv_get hv (k := 58) (j := 13) (l := 0) (u := 10) rfl
    have h56_ := iv_get hv0 (k := 58) (j := 12) (l := 0) (u := 600) rfl
    exact hc78 y1 y2 y3 y4 0 a (show (((y3 + 1) * 1) + 0).toNat ≤ n from by omega) hv hf (show 0 ≤ y3 from by omega) (show y3 ≤ 599 from by omega) (show 0 ≤ 0 from by omega) (show 0 ≤ 1 from by omega) (show a 58 13 ≤ 9 from by omega) (show 1 ≤ a0 58 12 from by omega) (show (0 = 1 → (0 ≤ y4 ∧ y4 ≤ 299)) from by omega)
  have hc52 : ∀ (y1 y2 y3 y4 : Int) (a : Nat → Nat → Int), (((y3 + 1) * 1) + 0).toNat ≤ n → iv a → jfr jW_X0_measure a0 a → 0 ≤ y3 → y3 ≤ 599 → 0 ≤ y4 → y4 ≤ 299 → a 58 13 ≤ 9 → 1 ≤ a0 58 12 → jt (jxX E d 23 52 [some (.inr (.inr (.inl 58))), some (.inl y1), some (.inl y2), some (.inl y3), some (.inl y4), none] [] (jxSH, a, b0)) (jQ_X0_measure x1 x2 a0 b0) := by
    intro y1 y2 y3 y4 a hm hv hf hi0 hi1 hi2 hi3 hi4 hi5
    refine jt_eq (bq_X0_measure_52 E d y1 y2 y3 y4 a b0) ?_
    have h57_ := iv_get hv (k := 58) (j := 13) (l := 0) (u := 10) rfl
    have h58_ := iv_get hv0 (k := 58) (j := 12) (l := 0) (u := 600) rfl
    refine jt_grd (by omega) ?_
    have h59_ : a 65 (y4.toNat) = a0 65 (y4.toNat) := hf 65 (y4.toNat) rfl
    refine jt_ite (fun c60_ => ?_) (fun c60_ => ?_)
    ·
      refine jt_grd (by omega) ?_
      have h61_ : a 67 (y3.toNat) = a0 67 (y3.toNat) := hf 67 (y3.toNat) rfl
      refine jt_ite (fun c62_ => ?_) (fun c62_ => ?_)
      ·
        exact hc77 y1 y2 y3 y4 a (show (((y3 + 1) * 1) + 0).toNat ≤ n from by omega) hv hf (show 0 ≤ y3 from by omega) (show y3 ≤ 599 from by omega) (show a 58 13 ≤ 9 from by omega) (show 1 ≤ a0 58 12 from by omega)
      ·
        exact hc78 y1 y2 y3 y4 1 a (show (((y3 + 1) * 1) + 0).toNat ≤ n from by omega) hv hf (show 0 ≤ y3 from by omega) (show y3 ≤ 599 from by omega) (show 0 ≤ 1 from by omega) (show 1 ≤ 1 from by omega) (show a 58 13 ≤ 9 from by omega) (show 1 ≤ a0 58 12 from by omega) (show (1 = 1 → (0 ≤ y4 ∧ y4 ≤ 299)) from by omega)
    ·
      exact hc77 y1 y2 y3 y4 a (show (((y3 + 1) * 1) + 0).toNat ≤ n from by omega) hv hf (show 0 ≤ y3 from by omega) (show y3 ≤ 599 from by omega) (show a 58 13 ≤ 9 from by omega) (show 1 ≤ a0 58 12 from by omega)
  have hc22 : ∀ (y1 y2 y3 : Int) (a : Nat → Nat → Int), (((y3 + 1) * 1) + 0).toNat ≤ n → iv a → jfr jW_X0_measure a0 a → 0 - 1 ≤ y3 → y3 ≤ 599 → (a0 58 12 = 0 → (((y3 < 0 ∧ a 58 13 = 0) ∧ a 58 14 = 0 - 1) ∧ a 58 15 = 0 - 1)) → jt (jxX E d 23 22 [some (.inr (.inr (.inl 58))), some (.inl y1), some (.inl y2), some (.inl y3), none, none] [] (jxSH, a, b0)) (jQ_X0_measure x1 x2 a0 b0) := by
    intro y1 y2 y3 a hm hv hf hi0 hi1 hi2
    refine jt_eq (bq_X0_measure_22 E d y1 y2 y3 a b0) ?_
    have h63_ := iv_get hv0 (k := 58) (j := 12) (l := 0) (u := 600) rfl
    have h64_ := iv_get hv (k := 58) (j := 13) (l := 0) (u := 10) rfl
    refine jt_ite (fun c65_ => ?_) (fun c65_ => ?_)
    ·
      exact jt_rV ⟨hv, hf, rfl, (show (a0 58 12 = 0 → ((a 58 13 = 0 ∧ a 58 14 = 0 - 1) ∧ a 58 15 = 0 - 1)) from by omega)⟩
    ·
      refine jt_ite (fun c66_ => ?_) (fun c66_ => ?_)
      ·
        refine jt_grd (by omega) ?_
        refine jt_eI (eq_X0_has E d (jd_le hd rfl) (a 66 (y3.toNat)) a b0) ?_
        have h67_ : a 66 (y3.toNat) = a0 66 (y3.toNat) := hf 66 (y3.toNat) rfl
        have h68_ := f_X0_has_eq a b0 (a 66 (y3.toNat))
        have h69_ := iv_get hv (k := 58) (j := 8) (l := 0) (u := 300) rfl
        have h70_ : a 58 8 = a0 58 8 := hf 58 8 rfl
        have h71_ := iv_get hv0 (k := 58) (j := 8) (l := 0) (u := 300) rfl
        refine jt_ite (fun c72_ => ?_) (fun c72_ => ?_)
        ·
          exact hc77 y1 y2 y3 (a 66 (y3.toNat)) a (show (((y3 + 1) * 1) + 0).toNat ≤ n from by omega) hv hf (show 0 ≤ y3 from by omega) (show y3 ≤ 599 from by omega) (show a 58 13 ≤ 9 from by omega) (show 1 ≤ a0 58 12 from by omega)
        ·
          exact hc52 y1 y2 y3 (a 66 (y3.toNat)) a (show (((y3 + 1) * 1) + 0).toNat ≤ n from by omega) hv hf (show 0 ≤ y3 from by omega) (show y3 ≤ 599 from by omega) (show 0 ≤ a 66 (y3.toNat) from by omega) (show a 66 (y3.toNat) ≤ 299 from by omega) (show a 58 13 ≤ 9 from by omega) (show 1 ≤ a0 58 12 from by omega)
      ·
        exact jt_rV ⟨hv, hf, rfl, (show (a0 58 12 = 0 → ((a 58 13 = 0 ∧ a 58 14 = 0 - 1) ∧ a 58 15 = 0 - 1)) from by omega)⟩
  exact ⟨hc139, hc121, hc78, hc77, hc52, hc22⟩
theorem sp_X0_measure (E : jxE) (d : Nat) (hd : Nat.ble 3 d = true) (x1 x2 : Int) (a0 b0 : Nat → Nat → Int) (hv0 : iv a0) : jt (jxC E d 23 [.inr (.inr (.inl 58)), .inl x1, .inl x2] (jxSH, a0, b0)) (jQ_X0_measure x1 x2 a0 b0) := by
  obtain ⟨d, rfl⟩ := jd_succ hd
  refine jt_eq (bq_X0_measure E d x1 x2 a0 b0) ?_
  have hv73_ : iv (jxu a0 58 13 0) := iv_put hv0 (l := 0) (u := 10) rfl (by omega) (by omega)
  have hv74_ : iv (jxu (jxu a0 58 13 0) 58 14 (-1)) := iv_putf hv73_ rfl
  have hv75_ : iv (jxu (jxu (jxu a0 58 13 0) 58 14 (-1)) 58 15 (-1)) := iv_putf hv74_ rfl
  have hf76_ : jfr jW_X0_measure a0 (jxu a0 58 13 0) := jfr_put (jfr_rf _ _) rfl
  have hf77_ : jfr jW_X0_measure a0 (jxu (jxu a0 58 13 0) 58 14 (-1)) := jfr_put hf76_ rfl
  have hf78_ : jfr jW_X0_measure a0 (jxu (jxu (jxu a0 58 13 0) 58 14 (-1)) 58 15 (-1)) := jfr_put hf77_ rfl
  have h79_ := iv_get hv0 (k := 58) (j := 12) (l := 0) (u := 600) rfl
  have h80_ : jxw ((a0 58 12) - 1) = (a0 58 12) - 1 := jxw_id (by omega) (by omega)
  exact (cp_X0_measure_22 E d hd x1 x2 a0 b0 hv0 _).2.2.2.2.2 x1 x2 (jxw ((a0 58 12) - 1)) (jxu (jxu (jxu a0 58 13 0) 58 14 (-1)) 58 15 (-1)) (Nat.le_refl _) hv75_ hf78_ (show 0 - 1 ≤ jxw ((a0 58 12) - 1) from by omega) (show jxw ((a0 58 12) - 1) ≤ 599 from by omega) (show (a0 58 12 = 0 → (((jxw ((a0 58 12) - 1) < 0 ∧ 0 = 0) ∧ (-1) = 0 - 1) ∧ (-1) = 0 - 1)) from by omega)
def jW_X0_boundBetween : List (Nat × Nat) := [(58, 13), (58, 14), (58, 15)]
abbrev jQ_X0_boundBetween (x1 x2 x3 : Int) (a0 b0 : Nat → Nat → Int) : List jxV → (Nat → Nat → Int) → (Nat → Nat → Int) → Prop := rI (fun r a b => (iv a) ∧ (jfr jW_X0_boundBetween a0 a) ∧ (b0 = b))
theorem sp_X0_boundBetween (E : jxE) (d : Nat) (hd : Nat.ble 4 d = true) (x1 x2 x3 : Int) (a0 b0 : Nat → Nat → Int) (hv0 : iv a0) : jt (jxC E d 22 [.inr (.inr (.inl 58)), .inl x1, .inl x2, .inl x3] (jxSH, a0, b0)) (jQ_X0_boundBetween x1 x2 x3 a0 b0) := by
  obtain ⟨d, rfl⟩ := jd_succ hd
  refine jt_eq (bq_X0_boundBetween E d x1 x2 x3 a0 b0) ?_
  refine jt_bV (sp_X0_measure E d (jd_le hd rfl) x1 x2 a0 b0 hv0) (fun a81_ b81_ h81_ => ?_)
  obtain ⟨hv81_, hf81_, rfl, hq81_0⟩ := h81_
  have h82_ := iv_get hv0 (k := 58) (j := 12) (l := 0) (u := 600) rfl
  have h83_ := iv_get hv81_ (k := 58) (j := 13) (l := 0) (u := 10) rfl
  refine jt_ite (fun c84_ => ?_) (fun c84_ => ?_)
  ·
    have hf85_ : jfr jW_X0_boundBetween a0 a81_ := jfr_tr (jfr_rf _ _) hf81_ rfl
    exact jt_rI ⟨hv81_, hf85_, rfl⟩
  ·
    refine jt_eI (eq_J9_min_7cf53 E d (jd_le hd rfl) x3 (jxw ((jxw (2 * (a81_ 58 15))) + 7)) a81_ b0) ?_
    have hf86_ : jfr jW_X0_boundBetween a0 a81_ := jfr_tr (jfr_rf _ _) hf81_ rfl
    exact jt_rI ⟨hv81_, hf86_, rfl⟩
def jW_X0_cancel : List (Nat × Nat) := [(64, 9999)]
abbrev jQ_X0_cancel (x1 x2 : Int) (a0 b0 : Nat → Nat → Int) : List jxV → (Nat → Nat → Int) → (Nat → Nat → Int) → Prop := rV (fun a b => (iv a) ∧ (jfr jW_X0_cancel a0 a) ∧ (b0 = b))
theorem sp_X0_cancel (E : jxE) (d : Nat) (hd : Nat.ble 2 d = true) (x1 x2 : Int) (a0 b0 : Nat → Nat → Int) (hv0 : iv a0) : jt (jxC E d 13 [.inr (.inr (.inl 58)), .inl x1, .inl x2] (jxSH, a0, b0)) (jQ_X0_cancel x1 x2 a0 b0) := by
  obtain ⟨d, rfl⟩ := jd_succ hd
  refine jt_eq (bq_X0_cancel E d x1 x2 a0 b0) ?_
  refine jt_eI (eq_X0_has E d (jd_le hd rfl) x1 a0 b0) ?_
  have h87_ := f_X0_has_eq a0 b0 x1
  have h88_ := iv_get hv0 (k := 58) (j := 8) (l := 0) (u := 300) rfl
  refine jt_ite (fun c89_ => ?_) (fun c89_ => ?_)
  ·
    exact jt_rV ⟨hv0, (jfr_rf _ _), rfl⟩
  ·
    refine jt_grd (by omega) ?_
    have hv90_ : iv (jxu a0 64 (x1.toNat) x2) := iv_putf hv0 rfl
    have hf91_ : jfr jW_X0_cancel a0 (jxu a0 64 (x1.toNat) x2) := jfr_put (jfr_rf _ _) rfl
    exact jt_rV ⟨hv90_, hf91_, rfl⟩
abbrev jQ_X0_landsArrivedTo (x1 x2 : Int) (a0 b0 : Nat → Nat → Int) : List jxV → (Nat → Nat → Int) → (Nat → Nat → Int) → Prop := rI (fun r a b => (a0 = a) ∧ (b0 = b))
theorem cp_X0_landsArrivedTo_5 (E : jxE) (d : Nat) (hd : Nat.ble 4 (d + 1) = true) (x1 x2 : Int) (a0 b0 : Nat → Nat → Int) (hv0 : iv a0) : ∀ n : Nat, (∀ (y1 y2 y3 y4 : Int), (((300 - y4) * 1) + 0).toNat ≤ n → 0 ≤ y4 → y4 ≤ 299 → jt (jxX E d 21 65 [some (.inr (.inr (.inl 58))), some (.inl y1), some (.inl y2), some (.inl y3), some (.inl y4), none] [] (jxSH, a0, b0)) (jQ_X0_landsArrivedTo x1 x2 a0 b0)) ∧ (∀ (y1 y2 y3 y4 : Int), (((300 - y4) * 1) + 0).toNat ≤ n → 0 ≤ y4 → y4 ≤ 299 → jt (jxX E d 21 46 [some (.inr (.inr (.inl 58))), some (.inl y1), some (.inl y2), some (.inl y3), some (.inl y4), none] [] (jxSH, a0, b0)) (jQ_X0_landsArrivedTo x1 x2 a0 b0)) ∧ (∀ (y1 y2 y3 y4 y5 : Int), (((300 - y4) * 1) + 0).toNat ≤ n → 0 ≤ y4 → y4 ≤ 299 → jt (jxX E d 21 34 [some (.inr (.inr (.inl 58))), some (.inl y1), some (.inl y2), some (.inl y3), some (.inl y4), some (.inl y5)] [] (jxSH, a0, b0)) (jQ_X0_landsArrivedTo x1 x2 a0 b0)) ∧ (∀ (y1 y2 y3 y4 : Int), (((300 - y4) * 1) + 0).toNat ≤ n → 0 ≤ y4 → y4 ≤ 300 → jt (jxX E d 21 5 [some (.inr (.inr (.inl 58))), some (.inl y1), some (.inl y2), some (.inl y3), some (.inl y4), none] [] (jxSH, a0, b0)) (jQ_X0_landsArrivedTo x1 x2 a0 b0)) := by
  refine jx_ind fun n ih => ?_
  have ih65 : ∀ (y1 y2 y3 y4 : Int), (((300 - y4) * 1) + 0).toNat < n → 0 ≤ y4 → y4 ≤ 299 → jt (jxX E d 21 65 [some (.inr (.inr (.inl 58))), some (.inl y1), some (.inl y2), some (.inl y3), some (.inl y4), none] [] (jxSH, a0, b0)) (jQ_X0_landsArrivedTo x1 x2 a0 b0) := fun y1 y2 y3 y4 hlt i0 i1 => (ih _ hlt).1 y1 y2 y3 y4 (Nat.le_refl _) i0 i1
  have ih46 : ∀ (y1 y2 y3 y4 : Int), (((300 - y4) * 1) + 0).toNat < n → 0 ≤ y4 → y4 ≤ 299 → jt (jxX E d 21 46 [some (.inr (.inr (.inl 58))), some (.inl y1), some (.inl y2), some (.inl y3), some (.inl y4), none] [] (jxSH, a0, b0)) (jQ_X0_landsArrivedTo x1 x2 a0 b0) := fun y1 y2 y3 y4 hlt i0 i1 => (ih _ hlt).2.1 y1 y2 y3 y4 (Nat.le_refl _) i0 i1
  have ih34 : ∀ (y1 y2 y3 y4 y5 : Int), (((300 - y4) * 1) + 0).toNat < n → 0 ≤ y4 → y4 ≤ 299 → jt (jxX E d 21 34 [some (.inr (.inr (.inl 58))), some (.inl y1), some (.inl y2), some (.inl y3), some (.inl y4), some (.inl y5)] [] (jxSH, a0, b0)) (jQ_X0_landsArrivedTo x1 x2 a0 b0) := fun y1 y2 y3 y4 y5 hlt i0 i1 => (ih _ hlt).2.2.1 y1 y2 y3 y4 y5 (Nat.le_refl _) i0 i1
  have ih5 : ∀ (y1 y2 y3 y4 : Int), (((300 - y4) * 1) + 0).toNat < n → 0 ≤ y4 → y4 ≤ 300 → jt (jxX E d 21 5 [some (.inr (.inr (.inl 58))), some (.inl y1), some (.inl y2), some (.inl y3), some (.inl y4), none] [] (jxSH, a0, b0)) (jQ_X0_landsArrivedTo x1 x2 a0 b0) := fun y1 y2 y3 y4 hlt i0 i1 => (ih _ hlt).2.2.2 y1 y2 y3 y4 (Nat.le_refl _) i0 i1
  have hc65 : ∀ (y1 y2 y3 y4 : Int), (((300 - y4) * 1) + 0).toNat ≤ n → 0 ≤ y4 → y4 ≤ 299 → jt (jxX E d 21 65 [some (.inr (.inr (.inl 58))), some (.inl y1), some (.inl y2), some (.inl y3), some (.inl y4), none] [] (jxSH, a0, b0)) (jQ_X0_landsArrivedTo x1 x2 a0 b0) := by
    intro y1 y2 y3 y4 hm hi0 hi1
    refine jt_eq (bq_X0_landsArrivedTo_65 E d y1 y2 y3 y4 a0 b0) ?_
    have h92_ : jxw (y4 + 1) = y4 + 1 := jxw_id (by omega) (by omega)
    exact ih5 y1 y2 y3 (jxw (y4 + 1)) (show (((300 - (jxw (y4 + 1))) * 1) + 0).toNat < n from by omega) (show 0 ≤ jxw (y4 + 1) from by omega) (show jxw (y4 + 1) ≤ 300 from by omega)
  have hc46 : ∀ (y1 y2 y3 y4 : Int), (((300 - y4) * 1) + 0).toNat ≤ n → 0 ≤ y4 → y4 ≤ 299 → jt (jxX E d 21 46 [some (.inr (.inr (.inl 58))), some (.inl y1), some (.inl y2), some (.inl y3), some (.inl y4), none] [] (jxSH, a0, b0)) (jQ_X0_landsArrivedTo x1 x2 a0 b0) := by
    intro y1 y2 y3 y4 hm hi0 hi1
    refine jt_eq (bq_X0_landsArrivedTo_46 E d y1 y2 y3 y4 a0 b0) ?_
    refine jt_grd (by omega) ?_
    refine jt_eI (eq_X3_landOf E d (jd_le hd rfl) (a0 59 (y4.toNat)) a0 b0) ?_
    exact hc65 y1 y2 (jxor y3 (jxshl 1 (f_X3_landOf a0 b0 (a0 59 (y4.toNat))))) y4 (show (((300 - y4) * 1) + 0).toNat ≤ n from by omega) (show 0 ≤ y4 from by omega) (show y4 ≤ 299 from by omega)
  have hc34 : ∀ (y1 y2 y3 y4 y5 : Int), (((300 - y4) * 1) + 0).toNat ≤ n → 0 ≤ y4 → y4 ≤ 299 → jt (jxX E d 21 34 [some (.inr (.inr (.inl 58))), some (.inl y1), some (.inl y2), some (.inl y3), some (.inl y4), some (.inl y5)] [] (jxSH, a0, b0)) (jQ_X0_landsArrivedTo x1 x2 a0 b0) := by
    intro y1 y2 y3 y4 y5 hm hi0 hi1
    refine jt_eq (bq_X0_landsArrivedTo_34 E d y1 y2 y3 y4 y5 a0 b0) ?_
    refine jt_ite (fun c93_ => ?_) (fun c93_ => ?_)
    ·
      exact hc46 y1 y2 y3 y4 (show (((300 - y4) * 1) + 0).toNat ≤ n from by omega) (show 0 ≤ y4 from by omega) (show y4 ≤ 299 from by omega)
    ·
      refine jt_ite (fun c94_ => ?_) (fun c94_ => ?_)
      ·
        exact hc46 y1 y2 y3 y4 (show (((300 - y4) * 1) + 0).toNat ≤ n from by omega) (show 0 ≤ y4 from by omega) (show y4 ≤ 299 from by omega)
      ·
        exact hc65 y1 y2 y3 y4 (show (((300 - y4) * 1) + 0).toNat ≤ n from by omega) (show 0 ≤ y4 from by omega) (show y4 ≤ 299 from by omega)
  have hc5 : ∀ (y1 y2 y3 y4 : Int), (((300 - y4) * 1) + 0).toNat ≤ n → 0 ≤ y4 → y4 ≤ 300 → jt (jxX E d 21 5 [some (.inr (.inr (.inl 58))), some (.inl y1), some (.inl y2), some (.inl y3), some (.inl y4), none] [] (jxSH, a0, b0)) (jQ_X0_landsArrivedTo x1 x2 a0 b0) := by
    intro y1 y2 y3 y4 hm hi0 hi1
    refine jt_eq (bq_X0_landsArrivedTo_5 E d y1 y2 y3 y4 a0 b0) ?_
    have h95_ := iv_get hv0 (k := 58) (j := 8) (l := 0) (u := 300) rfl
    refine jt_ite (fun c96_ => ?_) (fun c96_ => ?_)
    ·
      refine jt_eI (eq_X0_stateNow E d (jd_le hd rfl) y4 y2 a0 b0) ?_
      refine jt_grd (by omega) ?_
      refine jt_ite (fun c97_ => ?_) (fun c97_ => ?_)
      ·
        exact hc34 y1 y2 y3 y4 (f_X0_stateNow a0 b0 y4 y2) (show (((300 - y4) * 1) + 0).toNat ≤ n from by omega) (show 0 ≤ y4 from by omega) (show y4 ≤ 299 from by omega)
      ·
        exact hc65 y1 y2 y3 y4 (show (((300 - y4) * 1) + 0).toNat ≤ n from by omega) (show 0 ≤ y4 from by omega) (show y4 ≤ 299 from by omega)
    ·
      exact jt_rI ⟨rfl, rfl⟩
  exact ⟨hc65, hc46, hc34, hc5⟩
theorem sp_X0_landsArrivedTo (E : jxE) (d : Nat) (hd : Nat.ble 4 d = true) (x1 x2 : Int) (a0 b0 : Nat → Nat → Int) (hv0 : iv a0) : jt (jxC E d 21 [.inr (.inr (.inl 58)), .inl x1, .inl x2] (jxSH, a0, b0)) (jQ_X0_landsArrivedTo x1 x2 a0 b0) := by
  obtain ⟨d, rfl⟩ := jd_succ hd
  refine jt_eq (bq_X0_landsArrivedTo E d x1 x2 a0 b0) ?_
  exact (cp_X0_landsArrivedTo_5 E d hd x1 x2 a0 b0 hv0 _).2.2.2 x1 x2 0 0 (Nat.le_refl _) (show 0 ≤ 0 from by omega) (show 0 ≤ 300 from by omega)
abbrev jQ_X0_reachedBy (x1 : Int) (a0 b0 : Nat → Nat → Int) : List jxV → (Nat → Nat → Int) → (Nat → Nat → Int) → Prop := rJ (fun r a b => (a0 = a) ∧ (b0 = b))
theorem cp_X0_reachedBy_5 (E : jxE) (d : Nat) (hd : Nat.ble 3 (d + 1) = true) (x1 : Int) (a0 b0 : Nat → Nat → Int) (hv0 : iv a0) : ∀ n : Nat, (∀ (y1 y2 y4 : Int), (((300 - y4) * 1) + 0).toNat ≤ n → 0 ≤ y4 → y4 ≤ 299 → jt (jxX E d 20 44 [some (.inr (.inr (.inl 58))), some (.inl y1), some (.inr (.inl y2)), none, some (.inl y4)] [] (jxSH, a0, b0)) (jQ_X0_reachedBy x1 a0 b0)) ∧ (∀ (y1 y2 y4 : Int), (((300 - y4) * 1) + 0).toNat ≤ n → 0 ≤ y4 → y4 ≤ 300 → jt (jxX E d 20 5 [some (.inr (.inr (.inl 58))), some (.inl y1), some (.inr (.inl y2)), none, some (.inl y4)] [] (jxSH, a0, b0)) (jQ_X0_reachedBy x1 a0 b0)) := by
  refine jx_ind fun n ih => ?_
  have ih44 : ∀ (y1 y2 y4 : Int), (((300 - y4) * 1) + 0).toNat < n → 0 ≤ y4 → y4 ≤ 299 → jt (jxX E d 20 44 [some (.inr (.inr (.inl 58))), some (.inl y1), some (.inr (.inl y2)), none, some (.inl y4)] [] (jxSH, a0, b0)) (jQ_X0_reachedBy x1 a0 b0) := fun y1 y2 y4 hlt i0 i1 => (ih _ hlt).1 y1 y2 y4 (Nat.le_refl _) i0 i1
  have ih5 : ∀ (y1 y2 y4 : Int), (((300 - y4) * 1) + 0).toNat < n → 0 ≤ y4 → y4 ≤ 300 → jt (jxX E d 20 5 [some (.inr (.inr (.inl 58))), some (.inl y1), some (.inr (.inl y2)), none, some (.inl y4)] [] (jxSH, a0, b0)) (jQ_X0_reachedBy x1 a0 b0) := fun y1 y2 y4 hlt i0 i1 => (ih _ hlt).2 y1 y2 y4 (Nat.le_refl _) i0 i1
  have hc44 : ∀ (y1 y2 y4 : Int), (((300 - y4) * 1) + 0).toNat ≤ n → 0 ≤ y4 → y4 ≤ 299 → jt (jxX E d 20 44 [some (.inr (.inr (.inl 58))), some (.inl y1), some (.inr (.inl y2)), none, some (.inl y4)] [] (jxSH, a0, b0)) (jQ_X0_reachedBy x1 a0 b0) := by
    intro y1 y2 y4 hm hi0 hi1
    refine jt_eq (bq_X0_reachedBy_44 E d y1 y2 y4 a0 b0) ?_
    have h98_ : jxw (y4 + 1) = y4 + 1 := jxw_id (by omega) (by omega)
    exact ih5 y1 y2 (jxw (y4 + 1)) (show (((300 - (jxw (y4 + 1))) * 1) + 0).toNat < n from by omega) (show 0 ≤ jxw (y4 + 1) from by omega) (show jxw (y4 + 1) ≤ 300 from by omega)
  have hc5 : ∀ (y1 y2 y4 : Int), (((300 - y4) * 1) + 0).toNat ≤ n → 0 ≤ y4 → y4 ≤ 300 → jt (jxX E d 20 5 [some (.inr (.inr (.inl 58))), some (.inl y1), some (.inr (.inl y2)), none, some (.inl y4)] [] (jxSH, a0, b0)) (jQ_X0_reachedBy x1 a0 b0) := by
    intro y1 y2 y4 hm hi0 hi1
    refine jt_eq (bq_X0_reachedBy_5 E d y1 y2 y4 a0 b0) ?_
    have h99_ := iv_get hv0 (k := 58) (j := 8) (l := 0) (u := 300) rfl
    refine jt_ite (fun c100_ => ?_) (fun c100_ => ?_)
    ·
      refine jt_grd (by omega) ?_
      refine jt_eI (eq_X3_areKin E d (jd_le hd rfl) y1 (a0 59 (y4.toNat)) a0 b0) ?_
      have h101_ := f_X3_areKin_bool a0 b0 y1 (a0 59 (y4.toNat))
      refine jt_ite (fun c102_ => ?_) (fun c102_ => ?_)
      ·
        exact hc44 y1 y2 y4 (show (((300 - y4) * 1) + 0).toNat ≤ n from by omega) (show 0 ≤ y4 from by omega) (show y4 ≤ 299 from by omega)
      ·
        refine jt_grd (by omega) ?_
        exact hc44 y1 (jxorl y2 (jxshll 1 (a0 60 (y4.toNat)))) y4 (show (((300 - y4) * 1) + 0).toNat ≤ n from by omega) (show 0 ≤ y4 from by omega) (show y4 ≤ 299 from by omega)
    ·
      exact jt_rJ ⟨rfl, rfl⟩
  exact ⟨hc44, hc5⟩
theorem sp_X0_reachedBy (E : jxE) (d : Nat) (hd : Nat.ble 3 d = true) (x1 : Int) (a0 b0 : Nat → Nat → Int) (hv0 : iv a0) : jt (jxC E d 20 [.inr (.inr (.inl 58)), .inl x1] (jxSH, a0, b0)) (jQ_X0_reachedBy x1 a0 b0) := by
  obtain ⟨d, rfl⟩ := jd_succ hd
  refine jt_eq (bq_X0_reachedBy E d x1 a0 b0) ?_
  exact (cp_X0_reachedBy_5 E d hd x1 a0 b0 hv0 _).2 x1 0 0 (Nat.le_refl _) (show 0 ≤ 0 from by omega) (show 0 ≤ 300 from by omega)
abbrev jQ_X0_stateAsKnown (x1 x2 x3 : Int) (a0 b0 : Nat → Nat → Int) : List jxV → (Nat → Nat → Int) → (Nat → Nat → Int) → Prop := rI (fun r a b => (a0 = a) ∧ (b0 = b))
theorem cp_X0_stateAsKnown_6 (E : jxE) (d : Nat) (hd : Nat.ble 3 (d + 1) = true) (x1 x2 x3 : Int) (a0 b0 : Nat → Nat → Int) (hv0 : iv a0) : ∀ n : Nat, (∀ (y1 y2 y3 y4 y5 : Int), (((600 - y5) * 1) + 0).toNat ≤ n → 0 ≤ y5 → y5 ≤ 599 → jt (jxX E d 18 46 [some (.inr (.inr (.inl 58))), some (.inl y1), some (.inl y2), some (.inl y3), some (.inl y4), some (.inl y5)] [] (jxSH, a0, b0)) (jQ_X0_stateAsKnown x1 x2 x3 a0 b0)) ∧ (∀ (y1 y2 y3 y5 : Int), (((600 - y5) * 1) + 0).toNat ≤ n → 0 ≤ y5 → y5 ≤ 599 → jt (jxX E d 18 37 [some (.inr (.inr (.inl 58))), some (.inl y1), some (.inl y2), some (.inl y3), none, some (.inl y5)] [] (jxSH, a0, b0)) (jQ_X0_stateAsKnown x1 x2 x3 a0 b0)) ∧ (∀ (y1 y2 y3 y4 y5 : Int), (((600 - y5) * 1) + 0).toNat ≤ n → 0 ≤ y5 → y5 ≤ 600 → jt (jxX E d 18 6 [some (.inr (.inr (.inl 58))), some (.inl y1), some (.inl y2), some (.inl y3), some (.inl y4), some (.inl y5)] [] (jxSH, a0, b0)) (jQ_X0_stateAsKnown x1 x2 x3 a0 b0)) := by
  refine jx_ind fun n ih => ?_
  have ih46 : ∀ (y1 y2 y3 y4 y5 : Int), (((600 - y5) * 1) + 0).toNat < n → 0 ≤ y5 → y5 ≤ 599 → jt (jxX E d 18 46 [some (.inr (.inr (.inl 58))), some (.inl y1), some (.inl y2), some (.inl y3), some (.inl y4), some (.inl y5)] [] (jxSH, a0, b0)) (jQ_X0_stateAsKnown x1 x2 x3 a0 b0) := fun y1 y2 y3 y4 y5 hlt i0 i1 => (ih _ hlt).1 y1 y2 y3 y4 y5 (Nat.le_refl _) i0 i1
  have ih37 : ∀ (y1 y2 y3 y5 : Int), (((600 - y5) * 1) + 0).toNat < n → 0 ≤ y5 → y5 ≤ 599 → jt (jxX E d 18 37 [some (.inr (.inr (.inl 58))), some (.inl y1), some (.inl y2), some (.inl y3), none, some (.inl y5)] [] (jxSH, a0, b0)) (jQ_X0_stateAsKnown x1 x2 x3 a0 b0) := fun y1 y2 y3 y5 hlt i0 i1 => (ih _ hlt).2.1 y1 y2 y3 y5 (Nat.le_refl _) i0 i1
  have ih6 : ∀ (y1 y2 y3 y4 y5 : Int), (((600 - y5) * 1) + 0).toNat < n → 0 ≤ y5 → y5 ≤ 600 → jt (jxX E d 18 6 [some (.inr (.inr (.inl 58))), some (.inl y1), some (.inl y2), some (.inl y3), some (.inl y4), some (.inl y5)] [] (jxSH, a0, b0)) (jQ_X0_stateAsKnown x1 x2 x3 a0 b0) := fun y1 y2 y3 y4 y5 hlt i0 i1 => (ih _ hlt).2.2 y1 y2 y3 y4 y5 (Nat.le_refl _) i0 i1
  have hc46 : ∀ (y1 y2 y3 y4 y5 : Int), (((600 - y5) * 1) + 0).toNat ≤ n → 0 ≤ y5 → y5 ≤ 599 → jt (jxX E d 18 46 [some (.inr (.inr (.inl 58))), some (.inl y1), some (.inl y2), some (.inl y3), some (.inl y4), some (.inl y5)] [] (jxSH, a0, b0)) (jQ_X0_stateAsKnown x1 x2 x3 a0 b0) := by
    intro y1 y2 y3 y4 y5 hm hi0 hi1
    refine jt_eq (bq_X0_stateAsKnown_46 E d y1 y2 y3 y4 y5 a0 b0) ?_
    have h103_ : jxw (y5 + 1) = y5 + 1 := jxw_id (by omega) (by omega)
    exact ih6 y1 y2 y3 y4 (jxw (y5 + 1)) (show (((600 - (jxw (y5 + 1))) * 1) + 0).toNat < n from by omega) (show 0 ≤ jxw (y5 + 1) from by omega) (show jxw (y5 + 1) ≤ 600 from by omega)
  have hc37 : ∀ (y1 y2 y3 y5 : Int), (((600 - y5) * 1) + 0).toNat ≤ n → 0 ≤ y5 → y5 ≤ 599 → jt (jxX E d 18 37 [some (.inr (.inr (.inl 58))), some (.inl y1), some (.inl y2), some (.inl y3), none, some (.inl y5)] [] (jxSH, a0, b0)) (jQ_X0_stateAsKnown x1 x2 x3 a0 b0) := by
    intro y1 y2 y3 y5 hm hi0 hi1
    refine jt_eq (bq_X0_stateAsKnown_37 E d y1 y2 y3 y5 a0 b0) ?_
    refine jt_grd (by omega) ?_
    exact hc46 y1 y2 y3 (a0 67 (y5.toNat)) y5 (show (((600 - y5) * 1) + 0).toNat ≤ n from by omega) (show 0 ≤ y5 from by omega) (show y5 ≤ 599 from by omega)
  have hc6 : ∀ (y1 y2 y3 y4 y5 : Int), (((600 - y5) * 1) + 0).toNat ≤ n → 0 ≤ y5 → y5 ≤ 600 → jt (jxX E d 18 6 [some (.inr (.inr (.inl 58))), some (.inl y1), some (.inl y2), some (.inl y3), some (.inl y4), some (.inl y5)] [] (jxSH, a0, b0)) (jQ_X0_stateAsKnown x1 x2 x3 a0 b0) := by
    intro y1 y2 y3 y4 y5 hm hi0 hi1
    refine jt_eq (bq_X0_stateAsKnown_6 E d y1 y2 y3 y4 y5 a0 b0) ?_
    have h104_ := iv_get hv0 (k := 58) (j := 12) (l := 0) (u := 600) rfl
    refine jt_ite (fun c105_ => ?_) (fun c105_ => ?_)
    ·
      refine jt_grd (by omega) ?_
      refine jt_ite (fun c106_ => ?_) (fun c106_ => ?_)
      ·
        refine jt_grd (by omega) ?_
        refine jt_ite (fun c107_ => ?_) (fun c107_ => ?_)
        ·
          exact hc46 y1 y2 y3 y4 y5 (show (((600 - y5) * 1) + 0).toNat ≤ n from by omega) (show 0 ≤ y5 from by omega) (show y5 ≤ 599 from by omega)
        ·
          exact hc37 y1 y2 y3 y5 (show (((600 - y5) * 1) + 0).toNat ≤ n from by omega) (show 0 ≤ y5 from by omega) (show y5 ≤ 599 from by omega)
      ·
        exact hc46 y1 y2 y3 y4 y5 (show (((600 - y5) * 1) + 0).toNat ≤ n from by omega) (show 0 ≤ y5 from by omega) (show y5 ≤ 599 from by omega)
    ·
      refine jt_eI (eq_X0_stateOn E d (jd_le hd rfl) y1 y2 y3 y4 a0 b0) ?_
      exact jt_rI ⟨rfl, rfl⟩
  exact ⟨hc46, hc37, hc6⟩
theorem sp_X0_stateAsKnown (E : jxE) (d : Nat) (hd : Nat.ble 3 d = true) (x1 x2 x3 : Int) (a0 b0 : Nat → Nat → Int) (hv0 : iv a0) : jt (jxC E d 18 [.inr (.inr (.inl 58)), .inl x1, .inl x2, .inl x3] (jxSH, a0, b0)) (jQ_X0_stateAsKnown x1 x2 x3 a0 b0) := by
  obtain ⟨d, rfl⟩ := jd_succ hd
  refine jt_eq (bq_X0_stateAsKnown E d x1 x2 x3 a0 b0) ?_
  exact (cp_X0_stateAsKnown_6 E d hd x1 x2 x3 a0 b0 hv0 _).2.2 x1 x2 x3 (-1) 0 (Nat.le_refl _) (show 0 ≤ 0 from by omega) (show 0 ≤ 600 from by omega)
def jW_X0_tell : List (Nat × Nat) := [(58, 12), (65, 9999), (66, 9999), (67, 9999), (68, 9999)]
abbrev jQ_X0_tell (x1 x2 x3 : Int) (a0 b0 : Nat → Nat → Int) : List jxV → (Nat → Nat → Int) → (Nat → Nat → Int) → Prop := rI (fun r a b => (iv a) ∧ (jfr jW_X0_tell a0 a) ∧ (b0 = b) ∧ ((0 ≤ r ∧ r ≤ 1)))
theorem cp_X0_tell_28 (E : jxE) (d : Nat) (hd : Nat.ble 2 (d + 1) = true) (x1 x2 x3 : Int) (a0 b0 : Nat → Nat → Int) (hv0 : iv a0) : ∀ (a : Nat → Nat → Int), iv a → jfr jW_X0_tell a0 a → jt (jxX E d 16 28 [none, none, none, none] [] (jxSH, a, b0)) (jQ_X0_tell x1 x2 x3 a0 b0) := by
  intro a hv hf
  refine jt_eq (bq_X0_tell_28 E d a b0) ?_
  exact jt_rI ⟨hv, hf, rfl, (show (0 ≤ 0 ∧ 0 ≤ 1) from by omega)⟩
theorem cp_X0_tell_60 (E : jxE) (d : Nat) (hd : Nat.ble 2 (d + 1) = true) (x1 x2 x3 : Int) (a0 b0 : Nat → Nat → Int) (hv0 : iv a0) : ∀ (y1 : Int) (a : Nat → Nat → Int), iv a → jfr jW_X0_tell a0 a → 0 ≤ y1 → y1 ≤ 299 → a 58 12 ≤ 599 → jt (jxX E d 16 60 [some (.inr (.inr (.inl 58))), some (.inl y1), none, none] [] (jxSH, a, b0)) (jQ_X0_tell x1 x2 x3 a0 b0) := by
  intro y1 a hv hf hi0 hi1 hi2
  refine jt_eq (bq_X0_tell_60 E d y1 a b0) ?_
  have h108_ := iv_get hv (k := 58) (j := 12) (l := 0) (u := 600) rfl
  refine jt_grd (by omega) ?_
  have hv109_ : iv (jxu a 65 (y1.toNat) (a 58 12)) := iv_putf hv rfl
  have h111_ : jxw ((a 58 12) + 1) = (a 58 12) + 1 := jxw_id (by omega) (by omega)
  have hv110_ : iv (jxu (jxu a 65 (y1.toNat) (a 58 12)) 58 12 (jxw ((a 58 12) + 1))) := iv_put hv109_ (l := 0) (u := 600) rfl (by omega) (by omega)
  have hf112_ : jfr jW_X0_tell a0 (jxu a 65 (y1.toNat) (a 58 12)) := jfr_put hf rfl
  have hf113_ : jfr jW_X0_tell a0 (jxu (jxu a 65 (y1.toNat) (a 58 12)) 58 12 (jxw ((a 58 12) + 1))) := jfr_put hf112_ rfl
  exact jt_rI ⟨hv110_, hf113_, rfl, (show (0 ≤ 1 ∧ 1 ≤ 1) from by omega)⟩
theorem cp_X0_tell_30 (E : jxE) (d : Nat) (hd : Nat.ble 2 (d + 1) = true) (x1 x2 x3 : Int) (a0 b0 : Nat → Nat → Int) (hv0 : iv a0) : ∀ (y1 y2 y3 : Int) (a : Nat → Nat → Int), iv a → jfr jW_X0_tell a0 a → 0 ≤ y1 → y1 ≤ 299 → a 58 12 ≤ 599 → jt (jxX E d 16 30 [some (.inr (.inr (.inl 58))), some (.inl y1), some (.inl y2), some (.inl y3)] [] (jxSH, a, b0)) (jQ_X0_tell x1 x2 x3 a0 b0) := by
  intro y1 y2 y3 a hv hf hi0 hi1 hi2
  refine jt_eq (bq_X0_tell_30 E d y1 y2 y3 a b0) ?_
  have h114_ := iv_get hv (k := 58) (j := 12) (l := 0) (u := 600) rfl
  refine jt_grd (by omega) ?_
  refine jt_grd (by omega) ?_
  refine jt_grd (by omega) ?_
  have hv115_ : iv (jxu a 66 ((a 58 12).toNat) y1) := iv_putf hv rfl
  have hv116_ : iv (jxu (jxu a 66 ((a 58 12).toNat) y1) 67 ((a 58 12).toNat) y2) := iv_putf hv115_ rfl
  have hv117_ : iv (jxu (jxu (jxu a 66 ((a 58 12).toNat) y1) 67 ((a 58 12).toNat) y2) 68 ((a 58 12).toNat) y3) := iv_putf hv116_ rfl
  have hf118_ : jfr jW_X0_tell a0 (jxu a 66 ((a 58 12).toNat) y1) := jfr_put hf rfl
  have hf119_ : jfr jW_X0_tell a0 (jxu (jxu a 66 ((a 58 12).toNat) y1) 67 ((a 58 12).toNat) y2) := jfr_put hf118_ rfl
  have hf120_ : jfr jW_X0_tell a0 (jxu (jxu (jxu a 66 ((a 58 12).toNat) y1) 67 ((a 58 12).toNat) y2) 68 ((a 58 12).toNat) y3) := jfr_put hf119_ rfl
  exact cp_X0_tell_60 E d hd x1 x2 x3 a0 b0 hv0 y1 (jxu (jxu (jxu a 66 ((a 58 12).toNat) y1) 67 ((a 58 12).toNat) y2) 68 ((a 58 12).toNat) y3) hv117_ hf120_ (show 0 ≤ y1 from by omega) (show y1 ≤ 299 from by omega) (show a 58 12 ≤ 599 from by omega)
theorem sp_X0_tell (E : jxE) (d : Nat) (hd : Nat.ble 2 d = true) (x1 x2 x3 : Int) (a0 b0 : Nat → Nat → Int) (hv0 : iv a0) : jt (jxC E d 16 [.inr (.inr (.inl 58)), .inl x1, .inl x2, .inl x3] (jxSH, a0, b0)) (jQ_X0_tell x1 x2 x3 a0 b0) := by
  obtain ⟨d, rfl⟩ := jd_succ hd
  refine jt_eq (bq_X0_tell E d x1 x2 x3 a0 b0) ?_
  refine jt_eI (eq_X0_has E d (jd_le hd rfl) x1 a0 b0) ?_
  have h121_ := f_X0_has_eq a0 b0 x1
  have h122_ := iv_get hv0 (k := 58) (j := 8) (l := 0) (u := 300) rfl
  refine jt_ite (fun c123_ => ?_) (fun c123_ => ?_)
  ·
    exact cp_X0_tell_28 E d hd x1 x2 x3 a0 b0 hv0 a0 hv0 (jfr_rf _ _)
  ·
    refine jt_grd (by omega) ?_
    refine jt_ite (fun c124_ => ?_) (fun c124_ => ?_)
    ·
      have h125_ := iv_get hv0 (k := 58) (j := 12) (l := 0) (u := 600) rfl
      refine jt_ite (fun c126_ => ?_) (fun c126_ => ?_)
      ·
        exact cp_X0_tell_30 E d hd x1 x2 x3 a0 b0 hv0 x1 x2 x3 a0 hv0 (jfr_rf _ _) (show 0 ≤ x1 from by omega) (show x1 ≤ 299 from by omega) (show a0 58 12 ≤ 599 from by omega)
      ·
        exact cp_X0_tell_28 E d hd x1 x2 x3 a0 b0 hv0 a0 hv0 (jfr_rf _ _)
    ·
      exact cp_X0_tell_28 E d hd x1 x2 x3 a0 b0 hv0 a0 hv0 (jfr_rf _ _)
def jW_X0_takeBack : List (Nat × Nat) := [(58, 12), (65, 9999), (66, 9999), (67, 9999), (68, 9999)]
abbrev jQ_X0_takeBack (x1 x2 : Int) (a0 b0 : Nat → Nat → Int) : List jxV → (Nat → Nat → Int) → (Nat → Nat → Int) → Prop := rI (fun r a b => (iv a) ∧ (jfr jW_X0_takeBack a0 a) ∧ (b0 = b) ∧ ((0 ≤ r ∧ r ≤ 1)) ∧ ((a0 58 8 = 0 → r = 0)))
theorem sp_X0_takeBack (E : jxE) (d : Nat) (hd : Nat.ble 3 d = true) (x1 x2 : Int) (a0 b0 : Nat → Nat → Int) (hv0 : iv a0) : jt (jxC E d 15 [.inr (.inr (.inl 58)), .inl x1, .inl x2] (jxSH, a0, b0)) (jQ_X0_takeBack x1 x2 a0 b0) := by
  obtain ⟨d, rfl⟩ := jd_succ hd
  refine jt_eq (bq_X0_takeBack E d x1 x2 a0 b0) ?_
  refine jt_eI (eq_X0_arrivedOnOf E d (jd_le hd rfl) x1 a0 b0) ?_
  have h127_ := f_X0_arrivedOnOf_eq a0 b0 x1
  have h128_ := iv_get hv0 (k := 58) (j := 12) (l := 0) (u := 600) rfl
  have h129_ := iv_get hv0 (k := 58) (j := 8) (l := 0) (u := 300) rfl
  have h130_ := f_X11_entry_r65_eq a0 b0 (a0 58 8) x1
  have h131_ := f_X11_entry_r67_eq a0 b0 (a0 58 12) (f_X11_entry_r65 a0 b0 (a0 58 8) x1)
  refine jt_ite (fun c132_ => ?_) (fun c132_ => ?_)
  ·
    exact jt_rI ⟨hv0, (jfr_rf _ _), rfl, (show (0 ≤ 0 ∧ 0 ≤ 1) from by omega), (show (a0 58 8 = 0 → 0 = 0) from by omega)⟩
  ·
    refine jt_bI (sp_X0_tell E d (jd_le hd rfl) x1 (-1) x2 a0 b0 hv0) (fun r133_ a133_ b133_ h133_ => ?_)
    obtain ⟨hv133_, hf133_, rfl, hq133_0⟩ := h133_
    refine jt_ite (fun c134_ => ?_) (fun c134_ => ?_)
    ·
      have hf135_ : jfr jW_X0_takeBack a0 a133_ := jfr_tr (jfr_rf _ _) hf133_ rfl
      exact jt_rI ⟨hv133_, hf135_, rfl, (show (0 ≤ 0 ∧ 0 ≤ 1) from by omega), (show (a0 58 8 = 0 → 0 = 0) from by omega)⟩
    ·
      have hf136_ : jfr jW_X0_takeBack a0 a133_ := jfr_tr (jfr_rf _ _) hf133_ rfl
      exact jt_rI ⟨hv133_, hf136_, rfl, (show (0 ≤ 1 ∧ 1 ≤ 1) from by omega), (show (a0 58 8 = 0 → 1 = 0) from by omega)⟩
def jW_X0_tellArrival : List (Nat × Nat) := [(58, 12), (65, 9999), (66, 9999), (67, 9999), (68, 9999)]
abbrev jQ_X0_tellArrival (x1 x2 x3 : Int) (a0 b0 : Nat → Nat → Int) : List jxV → (Nat → Nat → Int) → (Nat → Nat → Int) → Prop := rI (fun r a b => (iv a) ∧ (jfr jW_X0_tellArrival a0 a) ∧ (b0 = b) ∧ ((0 ≤ r ∧ r ≤ 1)) ∧ ((a0 58 8 = 0 → r = 0)))
theorem sp_X0_tellArrival (E : jxE) (d : Nat) (hd : Nat.ble 3 d = true) (x1 x2 x3 : Int) (a0 b0 : Nat → Nat → Int) (hv0 : iv a0) : jt (jxC E d 14 [.inr (.inr (.inl 58)), .inl x1, .inl x2, .inl x3] (jxSH, a0, b0)) (jQ_X0_tellArrival x1 x2 x3 a0 b0) := by
  obtain ⟨d, rfl⟩ := jd_succ hd
  refine jt_eq (bq_X0_tellArrival E d x1 x2 x3 a0 b0) ?_
  refine jt_eI (eq_X0_has E d (jd_le hd rfl) x1 a0 b0) ?_
  have h137_ := f_X0_has_eq a0 b0 x1
  have h138_ := iv_get hv0 (k := 58) (j := 8) (l := 0) (u := 300) rfl
  refine jt_ite (fun c139_ => ?_) (fun c139_ => ?_)
  ·
    exact jt_rI ⟨hv0, (jfr_rf _ _), rfl, (show (0 ≤ 0 ∧ 0 ≤ 1) from by omega), (show (a0 58 8 = 0 → 0 = 0) from by omega)⟩
  ·
    refine jt_grd (by omega) ?_
    refine jt_eI (eq_X11_within E d (jd_le hd rfl) x2 (a0 61 (x1.toNat)) x3 a0 b0) ?_
    have h140_ := f_X11_within_eq a0 b0 x2 (a0 61 (x1.toNat)) x3
    refine jt_ite (fun c141_ => ?_) (fun c141_ => ?_)
    ·
      exact jt_rI ⟨hv0, (jfr_rf _ _), rfl, (show (0 ≤ 0 ∧ 0 ≤ 1) from by omega), (show (a0 58 8 = 0 → 0 = 0) from by omega)⟩
    ·
      refine jt_bI (sp_X0_tell E d (jd_le hd rfl) x1 x2 x3 a0 b0 hv0) (fun r142_ a142_ b142_ h142_ => ?_)
      obtain ⟨hv142_, hf142_, rfl, hq142_0⟩ := h142_
      refine jt_grd (by omega) ?_
      have hf143_ : jfr jW_X0_tellArrival a0 a142_ := jfr_tr (jfr_rf _ _) hf142_ rfl
      exact jt_rI ⟨hv142_, hf143_, rfl, (show (0 ≤ r142_ ∧ r142_ ≤ 1) from by omega), (show (a0 58 8 = 0 → r142_ = 0) from by omega)⟩
def jW_X10_addStep : List (Nat × Nat) := [(11, 6), (54, 9999)]
abbrev jQ_X10_addStep (x1 x2 : Int) (a0 b0 : Nat → Nat → Int) : List jxV → (Nat → Nat → Int) → (Nat → Nat → Int) → Prop := rV (fun a b => (iv a) ∧ (jfr jW_X10_addStep a0 a) ∧ (b0 = b) ∧ (a0 11 6 ≤ a 11 6) ∧ ((a0 11 6 < 40 → a 11 6 = (a0 11 6) + 1)) ∧ (a0 11 6 < 40 → UP (a0 54) (a 54) (a0 11 6).toNat (jxw ((jxw (x1 * 1000)) + x2))))
theorem cp_X10_addStep_35 (E : jxE) (d : Nat) (hd : Nat.ble 1 (d + 1) = true) (x1 x2 : Int) (a0 b0 : Nat → Nat → Int) (hv0 : iv a0) : ∀ (a : Nat → Nat → Int), iv a → jfr jW_X10_addStep a0 a → 1 ≤ a 11 6 → a0 11 6 ≤ a 11 6 → (a0 11 6 < 40 → a 11 6 = (a0 11 6) + 1) → (a0 11 6 < 40 → UP (a0 54) (a 54) (a0 11 6).toNat (jxw ((jxw (x1 * 1000)) + x2))) → jt (jxX E d 149 35 [none, none, none] [] (jxSH, a, b0)) (jQ_X10_addStep x1 x2 a0 b0) := by
  intro a hv hf hi0 hi1 hi2 hu
  refine jt_eq (bq_X10_addStep_35 E d a b0) ?_
  have h144_ := iv_get hv (k := 11) (j := 6) (l := 0) (u := 40) rfl
  have h145_ := iv_get hv0 (k := 11) (j := 6) (l := 0) (u := 40) rfl
  exact jt_rV ⟨hv, hf, rfl, (show a0 11 6 ≤ a 11 6 from by omega), (show (a0 11 6 < 40 → a 11 6 = (a0 11 6) + 1) from by omega), hu⟩
theorem sp_X10_addStep (E : jxE) (d : Nat) (hd : Nat.ble 1 d = true) (x1 x2 : Int) (a0 b0 : Nat → Nat → Int) (hv0 : iv a0) : jt (jxC E d 149 [.inr (.inr (.inl 11)), .inl x1, .inl x2] (jxSH, a0, b0)) (jQ_X10_addStep x1 x2 a0 b0) := by
  obtain ⟨d, rfl⟩ := jd_succ hd
  refine jt_eq (bq_X10_addStep E d x1 x2 a0 b0) ?_
  have h146_ := iv_get hv0 (k := 11) (j := 6) (l := 0) (u := 40) rfl
  refine jt_ite (fun c147_ => ?_) (fun c147_ => ?_)
  ·
    refine jt_grd (by omega) ?_
    have h149_ : jxw ((a0 11 6) + 1) = (a0 11 6) + 1 := jxw_id (by omega) (by omega)
    have hv148_ : iv (jxu a0 11 6 (jxw ((a0 11 6) + 1))) := iv_put hv0 (l := 0) (u := 40) rfl (by omega) (by omega)
    have hv150_ : iv (jxu (jxu a0 11 6 (jxw ((a0 11 6) + 1))) 54 ((a0 11 6).toNat) (jxw ((jxw (x1 * 1000)) + x2))) := iv_putf hv148_ rfl
    have hf151_ : jfr jW_X10_addStep a0 (jxu a0 11 6 (jxw ((a0 11 6) + 1))) := jfr_put (jfr_rf _ _) rfl
    have hf152_ : jfr jW_X10_addStep a0 (jxu (jxu a0 11 6 (jxw ((a0 11 6) + 1))) 54 ((a0 11 6).toNat) (jxw ((jxw (x1 * 1000)) + x2))) := jfr_put hf151_ rfl
    exact cp_X10_addStep_35 E d hd x1 x2 a0 b0 hv0 (jxu (jxu a0 11 6 (jxw ((a0 11 6) + 1))) 54 ((a0 11 6).toNat) (jxw ((jxw (x1 * 1000)) + x2))) hv150_ hf152_ (show 1 ≤ jxw ((a0 11 6) + 1) from by omega) (show a0 11 6 ≤ jxw ((a0 11 6) + 1) from by omega) (show (a0 11 6 < 40 → jxw ((a0 11 6) + 1) = (a0 11 6) + 1) from by omega) (by first | exact (fun _ => UP_put (fun _ => rfl)) | exact (fun h => absurd h (by omega)))
  ·
    exact cp_X10_addStep_35 E d hd x1 x2 a0 b0 hv0 a0 hv0 (jfr_rf _ _) (show 1 ≤ a0 11 6 from by omega) (show a0 11 6 ≤ a0 11 6 from by omega) (show (a0 11 6 < 40 → a0 11 6 = (a0 11 6) + 1) from by omega) (by first | exact (fun _ => UP_put (fun _ => rfl)) | exact (fun h => absurd h (by omega)))
abbrev jQ_X10_isMet (x1 x2 x3 : Int) (a0 b0 : Nat → Nat → Int) : List jxV → (Nat → Nat → Int) → (Nat → Nat → Int) → Prop := rI (fun r a b => (a0 = a) ∧ (b0 = b) ∧ ((0 ≤ r ∧ r ≤ 1)) ∧ (0 ≤ x1 → x1 < a0 4 6 → 0 ≤ x2 → x2 < a0 4 6 → r = METX a0 b0 x1 x2 x3))
theorem cp_X10_isMet_31 (E : jxE) (d : Nat) (hd : Nat.ble 5 (d + 1) = true) (x1 x2 x3 : Int) (a0 b0 : Nat → Nat → Int) (hv0 : iv a0) (hp0 : WISHR a0) : (0 ≤ x1 → x1 < a0 4 6 → 0 ≤ x2 → x2 < a0 4 6 → a0 53 x1.toNat = 0) → jt (jxX E d 150 31 [none, none, none, none, none, none, none, none, none] [] (jxSH, a0, b0)) (jQ_X10_isMet x1 x2 x3 a0 b0) := by
  intro h53
  refine jt_eq (bq_X10_isMet_31 E d a0 b0) ?_
  exact jt_rI ⟨rfl, rfl, (show (0 ≤ 1 ∧ 1 ≤ 1) from by omega), (fun h1 h2 h3 h4 => by unfold METX; rw [if_pos (h53 h1 h2 h3 h4)])⟩
theorem cp_X10_isMet_182 (E : jxE) (d : Nat) (hd : Nat.ble 5 (d + 1) = true) (x1 x2 x3 : Int) (a0 b0 : Nat → Nat → Int) (hv0 : iv a0) (hp0 : WISHR a0) : ∀ (y4 : Int), (0 ≤ x1 ∧ x1 ≤ 39) → ¬ a0 53 (x1.toNat) = 0 → (y4 = BN (EST (TRC a0 b0 x1 x2 x3) (fun k => a0 12 (x1.toNat * 40 + k)) (a0 53 x1.toNat).toNat)) → jt (jxX E d 150 182 [none, none, none, none, some (.inl y4), none, none, none, none] [] (jxSH, a0, b0)) (jQ_X10_isMet x1 x2 x3 a0 b0) := by
  intro y4 hi0 hi1 hb
  refine jt_eq (bq_X10_isMet_182 E d y4 a0 b0) ?_
  have h153_ := iv_get hv0 (k := 53) (j := x1.toNat) (l := 0) (u := 40) rfl
  have hwf := (WISHR_at hp0 (x := x1) (by omega) (by omega)).1
  have hir := IM_ret (TRC_b a0 b0 x1 x2 x3) hwf hb
  have h154_ := jxand_r y4 1 (by decide) (by decide)
  refine jt_ite (fun c155_ => ?_) (fun c155_ => ?_)
  ·
    exact jt_rI ⟨rfl, rfl, (show (0 ≤ 1 ∧ 1 ≤ 1) from by omega), (fun _ _ _ _ => by unfold METX; rw [if_neg (by omega)]; exact (hir.1 (by assumption)).symm)⟩
  ·
    exact jt_rI ⟨rfl, rfl, (show (0 ≤ 0 ∧ 0 ≤ 1) from by omega), (fun _ _ _ _ => by unfold METX; rw [if_neg (by omega)]; exact (hir.2 (by assumption)).symm)⟩
theorem cp_X10_isMet_39 (E : jxE) (d : Nat) (hd : Nat.ble 5 (d + 1) = true) (x1 x2 x3 : Int) (a0 b0 : Nat → Nat → Int) (hv0 : iv a0) (hp0 : WISHR a0) : ∀ n : Nat, (∀ (y1 y2 y3 y4 y5 : Int), (((40 - y5) * 1) + 0).toNat ≤ n → 0 ≤ y1 → y1 ≤ 39 → 0 ≤ y2 → y2 ≤ 39 → 0 ≤ y5 → y5 ≤ 39 → y1 = x1 → y2 = x2 → y3 = x3 → (0 ≤ x1 ∧ x1 ≤ 39) → ¬ a0 53 (x1.toNat) = 0 → 0 ≤ y5 → y5 ≤ a0 53 (x1.toNat) → y5 < a0 53 (x1.toNat) → y5 ≤ 39 → (y4 = BN (EST (TRC a0 b0 x1 x2 x3) (fun k => a0 12 (x1.toNat * 40 + k)) (y5.toNat + 1))) → jt (jxX E d 150 113 [some (.inr (.inr (.inl 11))), some (.inl y1), some (.inl y2), some (.inl y3), some (.inl y4), some (.inl y5), none, none, none] [] (jxSH, a0, b0)) (jQ_X10_isMet x1 x2 x3 a0 b0)) ∧ (∀ (y1 y2 y3 y4 y5 : Int), (((40 - y5) * 1) + 0).toNat ≤ n → 0 ≤ y1 → y1 ≤ 39 → 0 ≤ y2 → y2 ≤ 39 → 0 ≤ y5 → y5 ≤ 39 → y1 = x1 → y2 = x2 → y3 = x3 → (0 ≤ x1 ∧ x1 ≤ 39) → ¬ a0 53 (x1.toNat) = 0 → 0 ≤ y5 → y5 ≤ a0 53 (x1.toNat) → y5 < a0 53 (x1.toNat) → y5 ≤ 39 → (y4 = BN (EST (TRC a0 b0 x1 x2 x3) (fun k => a0 12 (x1.toNat * 40 + k)) (y5.toNat + 1))) → jt (jxX E d 150 132 [some (.inr (.inr (.inl 11))), some (.inl y1), some (.inl y2), some (.inl y3), some (.inl y4), some (.inl y5), none, none, none] [] (jxSH, a0, b0)) (jQ_X10_isMet x1 x2 x3 a0 b0)) ∧ (∀ (y1 y2 y3 y4 y5 y8 : Int), (((40 - y5) * 1) + 0).toNat ≤ n → 0 ≤ y1 → y1 ≤ 39 → 0 ≤ y2 → y2 ≤ 39 → 0 ≤ y5 → y5 ≤ 39 → 0 ≤ y8 → y8 ≤ 1 → y1 = x1 → y2 = x2 → y3 = x3 → (0 ≤ x1 ∧ x1 ≤ 39) → ¬ a0 53 (x1.toNat) = 0 → 0 ≤ y5 → y5 ≤ a0 53 (x1.toNat) → y5 < a0 53 (x1.toNat) → y5 ≤ 39 → (jxor (jxshl y4 1) (if y8 = 0 then 0 else 1) = BN (EST (TRC a0 b0 x1 x2 x3) (fun k => a0 12 (x1.toNat * 40 + k)) (y5.toNat + 1))) → jt (jxX E d 150 159 [some (.inr (.inr (.inl 11))), some (.inl y1), some (.inl y2), some (.inl y3), some (.inl y4), some (.inl y5), none, none, some (.inl y8)] [] (jxSH, a0, b0)) (jQ_X10_isMet x1 x2 x3 a0 b0)) ∧ (∀ (y1 y2 y3 y4 y5 y6 : Int), (((40 - y5) * 1) + 0).toNat ≤ n → 0 ≤ y1 → y1 ≤ 39 → 0 ≤ y2 → y2 ≤ 39 → 0 ≤ y5 → y5 ≤ 39 → y1 = x1 → y2 = x2 → y3 = x3 → (0 ≤ x1 ∧ x1 ≤ 39) → ¬ a0 53 (x1.toNat) = 0 → 0 ≤ y5 → y5 ≤ a0 53 (x1.toNat) → y5 < a0 53 (x1.toNat) → y5 ≤ 39 → (y4 = BN (EST (TRC a0 b0 x1 x2 x3) (fun k => a0 12 (x1.toNat * 40 + k)) y5.toNat)) → (y6 = jxw (Int.tdiv (a0 12 (x1.toNat * 40 + y5.toNat)) 1000)) → jt (jxX E d 150 72 [some (.inr (.inr (.inl 11))), some (.inl y1), some (.inl y2), some (.inl y3), some (.inl y4), some (.inl y5), some (.inl y6), none, none] [] (jxSH, a0, b0)) (jQ_X10_isMet x1 x2 x3 a0 b0)) ∧ (∀ (y1 y2 y3 y4 y5 : Int), (((40 - y5) * 1) + 0).toNat ≤ n → 0 ≤ y1 → y1 ≤ 39 → 0 ≤ y2 → y2 ≤ 39 → 0 ≤ y5 → y5 ≤ 40 → y1 = x1 → y2 = x2 → y3 = x3 → (0 ≤ x1 ∧ x1 ≤ 39) → ¬ a0 53 (x1.toNat) = 0 → 0 ≤ y5 → y5 ≤ a0 53 (x1.toNat) → (y4 = BN (EST (TRC a0 b0 x1 x2 x3) (fun k => a0 12 (x1.toNat * 40 + k)) y5.toNat)) → jt (jxX E d 150 39 [some (.inr (.inr (.inl 11))), some (.inl y1), some (.inl y2), some (.inl y3), some (.inl y4), some (.inl y5), none, none, none] [] (jxSH, a0, b0)) (jQ_X10_isMet x1 x2 x3 a0 b0)) := by
  refine jx_ind fun n ih => ?_
  have ih113 : ∀ (y1 y2 y3 y4 y5 : Int), (((40 - y5) * 1) + 0).toNat < n → 0 ≤ y1 → y1 ≤ 39 → 0 ≤ y2 → y2 ≤ 39 → 0 ≤ y5 → y5 ≤ 39 → y1 = x1 → y2 = x2 → y3 = x3 → (0 ≤ x1 ∧ x1 ≤ 39) → ¬ a0 53 (x1.toNat) = 0 → 0 ≤ y5 → y5 ≤ a0 53 (x1.toNat) → y5 < a0 53 (x1.toNat) → y5 ≤ 39 → (y4 = BN (EST (TRC a0 b0 x1 x2 x3) (fun k => a0 12 (x1.toNat * 40 + k)) (y5.toNat + 1))) → jt (jxX E d 150 113 [some (.inr (.inr (.inl 11))), some (.inl y1), some (.inl y2), some (.inl y3), some (.inl y4), some (.inl y5), none, none, none] [] (jxSH, a0, b0)) (jQ_X10_isMet x1 x2 x3 a0 b0) := fun y1 y2 y3 y4 y5 hlt i0 i1 i2 i3 i4 i5 i6 i7 i8 i9 i10 i11 i12 i13 i14 i15 => (ih _ hlt).1 y1 y2 y3 y4 y5 (Nat.le_refl _) i0 i1 i2 i3 i4 i5 i6 i7 i8 i9 i10 i11 i12 i13 i14 i15
  have ih132 : ∀ (y1 y2 y3 y4 y5 : Int), (((40 - y5) * 1) + 0).toNat < n → 0 ≤ y1 → y1 ≤ 39 → 0 ≤ y2 → y2 ≤ 39 → 0 ≤ y5 → y5 ≤ 39 → y1 = x1 → y2 = x2 → y3 = x3 → (0 ≤ x1 ∧ x1 ≤ 39) → ¬ a0 53 (x1.toNat) = 0 → 0 ≤ y5 → y5 ≤ a0 53 (x1.toNat) → y5 < a0 53 (x1.toNat) → y5 ≤ 39 → (y4 = BN (EST (TRC a0 b0 x1 x2 x3) (fun k => a0 12 (x1.toNat * 40 + k)) (y5.toNat + 1))) → jt (jxX E d 150 132 [some (.inr (.inr (.inl 11))), some (.inl y1), some (.inl y2), some (.inl y3), some (.inl y4), some (.inl y5), none, none, none] [] (jxSH, a0, b0)) (jQ_X10_isMet x1 x2 x3 a0 b0) := fun y1 y2 y3 y4 y5 hlt i0 i1 i2 i3 i4 i5 i6 i7 i8 i9 i10 i11 i12 i13 i14 i15 => (ih _ hlt).2.1 y1 y2 y3 y4 y5 (Nat.le_refl _) i0 i1 i2 i3 i4 i5 i6 i7 i8 i9 i10 i11 i12 i13 i14 i15
  have ih159 : ∀ (y1 y2 y3 y4 y5 y8 : Int), (((40 - y5) * 1) + 0).toNat < n → 0 ≤ y1 → y1 ≤ 39 → 0 ≤ y2 → y2 ≤ 39 → 0 ≤ y5 → y5 ≤ 39 → 0 ≤ y8 → y8 ≤ 1 → y1 = x1 → y2 = x2 → y3 = x3 → (0 ≤ x1 ∧ x1 ≤ 39) → ¬ a0 53 (x1.toNat) = 0 → 0 ≤ y5 → y5 ≤ a0 53 (x1.toNat) → y5 < a0 53 (x1.toNat) → y5 ≤ 39 → (jxor (jxshl y4 1) (if y8 = 0 then 0 else 1) = BN (EST (TRC a0 b0 x1 x2 x3) (fun k => a0 12 (x1.toNat * 40 + k)) (y5.toNat + 1))) → jt (jxX E d 150 159 [some (.inr (.inr (.inl 11))), some (.inl y1), some (.inl y2), some (.inl y3), some (.inl y4), some (.inl y5), none, none, some (.inl y8)] [] (jxSH, a0, b0)) (jQ_X10_isMet x1 x2 x3 a0 b0) := fun y1 y2 y3 y4 y5 y8 hlt i0 i1 i2 i3 i4 i5 i6 i7 i8 i9 i10 i11 i12 i13 i14 i15 i16 i17 => (ih _ hlt).2.2.1 y1 y2 y3 y4 y5 y8 (Nat.le_refl _) i0 i1 i2 i3 i4 i5 i6 i7 i8 i9 i10 i11 i12 i13 i14 i15 i16 i17
  have ih72 : ∀ (y1 y2 y3 y4 y5 y6 : Int), (((40 - y5) * 1) + 0).toNat < n → 0 ≤ y1 → y1 ≤ 39 → 0 ≤ y2 → y2 ≤ 39 → 0 ≤ y5 → y5 ≤ 39 → y1 = x1 → y2 = x2 → y3 = x3 → (0 ≤ x1 ∧ x1 ≤ 39) → ¬ a0 53 (x1.toNat) = 0 → 0 ≤ y5 → y5 ≤ a0 53 (x1.toNat) → y5 < a0 53 (x1.toNat) → y5 ≤ 39 → (y4 = BN (EST (TRC a0 b0 x1 x2 x3) (fun k => a0 12 (x1.toNat * 40 + k)) y5.toNat)) → (y6 = jxw (Int.tdiv (a0 12 (x1.toNat * 40 + y5.toNat)) 1000)) → jt (jxX E d 150 72 [some (.inr (.inr (.inl 11))), some (.inl y1), some (.inl y2), some (.inl y3), some (.inl y4), some (.inl y5), some (.inl y6), none, none] [] (jxSH, a0, b0)) (jQ_X10_isMet x1 x2 x3 a0 b0) := fun y1 y2 y3 y4 y5 y6 hlt i0 i1 i2 i3 i4 i5 i6 i7 i8 i9 i10 i11 i12 i13 i14 i15 i16 => (ih _ hlt).2.2.2.1 y1 y2 y3 y4 y5 y6 (Nat.le_refl _) i0 i1 i2 i3 i4 i5 i6 i7 i8 i9 i10 i11 i12 i13 i14 i15 i16
  have ih39 : ∀ (y1 y2 y3 y4 y5 : Int), (((40 - y5) * 1) + 0).toNat < n → 0 ≤ y1 → y1 ≤ 39 → 0 ≤ y2 → y2 ≤ 39 → 0 ≤ y5 → y5 ≤ 40 → y1 = x1 → y2 = x2 → y3 = x3 → (0 ≤ x1 ∧ x1 ≤ 39) → ¬ a0 53 (x1.toNat) = 0 → 0 ≤ y5 → y5 ≤ a0 53 (x1.toNat) → (y4 = BN (EST (TRC a0 b0 x1 x2 x3) (fun k => a0 12 (x1.toNat * 40 + k)) y5.toNat)) → jt (jxX E d 150 39 [some (.inr (.inr (.inl 11))), some (.inl y1), some (.inl y2), some (.inl y3), some (.inl y4), some (.inl y5), none, none, none] [] (jxSH, a0, b0)) (jQ_X10_isMet x1 x2 x3 a0 b0) := fun y1 y2 y3 y4 y5 hlt i0 i1 i2 i3 i4 i5 i6 i7 i8 i9 i10 i11 i12 i13 => (ih _ hlt).2.2.2.2 y1 y2 y3 y4 y5 (Nat.le_refl _) i0 i1 i2 i3 i4 i5 i6 i7 i8 i9 i10 i11 i12 i13
  have hc113 : ∀ (y1 y2 y3 y4 y5 : Int), (((40 - y5) * 1) + 0).toNat ≤ n → 0 ≤ y1 → y1 ≤ 39 → 0 ≤ y2 → y2 ≤ 39 → 0 ≤ y5 → y5 ≤ 39 → y1 = x1 → y2 = x2 → y3 = x3 → (0 ≤ x1 ∧ x1 ≤ 39) → ¬ a0 53 (x1.toNat) = 0 → 0 ≤ y5 → y5 ≤ a0 53 (x1.toNat) → y5 < a0 53 (x1.toNat) → y5 ≤ 39 → (y4 = BN (EST (TRC a0 b0 x1 x2 x3) (fun k => a0 12 (x1.toNat * 40 + k)) (y5.toNat + 1))) → jt (jxX E d 150 113 [some (.inr (.inr (.inl 11))), some (.inl y1), some (.inl y2), some (.inl y3), some (.inl y4), some (.inl y5), none, none, none] [] (jxSH, a0, b0)) (jQ_X10_isMet x1 x2 x3 a0 b0) := by
    intro y1 y2 y3 y4 y5 hm hi0 hi1 hi2 hi3 hi4 hi5 hi6 hi7 hi8 hi9 hi10 hi11 hi12 hi13 hi14 hb
    refine jt_eq (bq_X10_isMet_113 E d y1 y2 y3 y4 y5 a0 b0) ?_
    have h156_ := iv_get hv0 (k := 53) (j := x1.toNat) (l := 0) (u := 40) rfl
    have h157_ : jxw (y5 + 1) = y5 + 1 := jxw_id (by omega) (by omega)
    exact ih39 y1 y2 y3 y4 (jxw (y5 + 1)) (show (((40 - (jxw (y5 + 1))) * 1) + 0).toNat < n from by omega) (show 0 ≤ y1 from by omega) (show y1 ≤ 39 from by omega) (show 0 ≤ y2 from by omega) (show y2 ≤ 39 from by omega) (show 0 ≤ jxw (y5 + 1) from by omega) (show jxw (y5 + 1) ≤ 40 from by omega) (show y1 = x1 from by omega) (show y2 = x2 from by omega) (show y3 = x3 from by omega) (show (0 ≤ x1 ∧ x1 ≤ 39) from by omega) (show ¬ a0 53 (x1.toNat) = 0 from by omega) (show 0 ≤ jxw (y5 + 1) from by omega) (show jxw (y5 + 1) ≤ a0 53 (x1.toNat) from by omega) (by rw [show (jxw (y5 + 1)).toNat = y5.toNat + 1 from by omega]; exact hb)
  have hc132 : ∀ (y1 y2 y3 y4 y5 : Int), (((40 - y5) * 1) + 0).toNat ≤ n → 0 ≤ y1 → y1 ≤ 39 → 0 ≤ y2 → y2 ≤ 39 → 0 ≤ y5 → y5 ≤ 39 → y1 = x1 → y2 = x2 → y3 = x3 → (0 ≤ x1 ∧ x1 ≤ 39) → ¬ a0 53 (x1.toNat) = 0 → 0 ≤ y5 → y5 ≤ a0 53 (x1.toNat) → y5 < a0 53 (x1.toNat) → y5 ≤ 39 → (y4 = BN (EST (TRC a0 b0 x1 x2 x3) (fun k => a0 12 (x1.toNat * 40 + k)) (y5.toNat + 1))) → jt (jxX E d 150 132 [some (.inr (.inr (.inl 11))), some (.inl y1), some (.inl y2), some (.inl y3), some (.inl y4), some (.inl y5), none, none, none] [] (jxSH, a0, b0)) (jQ_X10_isMet x1 x2 x3 a0 b0) := by
    intro y1 y2 y3 y4 y5 hm hi0 hi1 hi2 hi3 hi4 hi5 hi6 hi7 hi8 hi9 hi10 hi11 hi12 hi13 hi14 hb
    refine jt_eq (bq_X10_isMet_132 E d y1 y2 y3 y4 y5 a0 b0) ?_
    have h158_ := iv_get hv0 (k := 53) (j := x1.toNat) (l := 0) (u := 40) rfl
    have h159_ : jxw (y5 + 1) = y5 + 1 := jxw_id (by omega) (by omega)
    exact ih39 y1 y2 y3 y4 (jxw (y5 + 1)) (show (((40 - (jxw (y5 + 1))) * 1) + 0).toNat < n from by omega) (show 0 ≤ y1 from by omega) (show y1 ≤ 39 from by omega) (show 0 ≤ y2 from by omega) (show y2 ≤ 39 from by omega) (show 0 ≤ jxw (y5 + 1) from by omega) (show jxw (y5 + 1) ≤ 40 from by omega) (show y1 = x1 from by omega) (show y2 = x2 from by omega) (show y3 = x3 from by omega) (show (0 ≤ x1 ∧ x1 ≤ 39) from by omega) (show ¬ a0 53 (x1.toNat) = 0 from by omega) (show 0 ≤ jxw (y5 + 1) from by omega) (show jxw (y5 + 1) ≤ a0 53 (x1.toNat) from by omega) (by rw [show (jxw (y5 + 1)).toNat = y5.toNat + 1 from by omega]; exact hb)
  have hc159 : ∀ (y1 y2 y3 y4 y5 y8 : Int), (((40 - y5) * 1) + 0).toNat ≤ n → 0 ≤ y1 → y1 ≤ 39 → 0 ≤ y2 → y2 ≤ 39 → 0 ≤ y5 → y5 ≤ 39 → 0 ≤ y8 → y8 ≤ 1 → y1 = x1 → y2 = x2 → y3 = x3 → (0 ≤ x1 ∧ x1 ≤ 39) → ¬ a0 53 (x1.toNat) = 0 → 0 ≤ y5 → y5 ≤ a0 53 (x1.toNat) → y5 < a0 53 (x1.toNat) → y5 ≤ 39 → (jxor (jxshl y4 1) (if y8 = 0 then 0 else 1) = BN (EST (TRC a0 b0 x1 x2 x3) (fun k => a0 12 (x1.toNat * 40 + k)) (y5.toNat + 1))) → jt (jxX E d 150 159 [some (.inr (.inr (.inl 11))), some (.inl y1), some (.inl y2), some (.inl y3), some (.inl y4), some (.inl y5), none, none, some (.inl y8)] [] (jxSH, a0, b0)) (jQ_X10_isMet x1 x2 x3 a0 b0) := by
    intro y1 y2 y3 y4 y5 y8 hm hi0 hi1 hi2 hi3 hi4 hi5 hi6 hi7 hi8 hi9 hi10 hi11 hi12 hi13 hi14 hi15 hi16 hb2
    refine jt_eq (bq_X10_isMet_159 E d y1 y2 y3 y4 y5 y8 a0 b0) ?_
    have h160_ := iv_get hv0 (k := 53) (j := x1.toNat) (l := 0) (u := 40) rfl
    refine jt_ite (fun c161_ => ?_) (fun c161_ => ?_)
    ·
      have h162_ : jxw (y5 + 1) = y5 + 1 := jxw_id (by omega) (by omega)
      have h163_ := jxor_b (jxshl y4 1) 0
      exact ih39 y1 y2 y3 (jxor (jxshl y4 1) 0) (jxw (y5 + 1)) (show (((40 - (jxw (y5 + 1))) * 1) + 0).toNat < n from by omega) (show 0 ≤ y1 from by omega) (show y1 ≤ 39 from by omega) (show 0 ≤ y2 from by omega) (show y2 ≤ 39 from by omega) (show 0 ≤ jxw (y5 + 1) from by omega) (show jxw (y5 + 1) ≤ 40 from by omega) (show y1 = x1 from by omega) (show y2 = x2 from by omega) (show y3 = x3 from by omega) (show (0 ≤ x1 ∧ x1 ≤ 39) from by omega) (show ¬ a0 53 (x1.toNat) = 0 from by omega) (show 0 ≤ jxw (y5 + 1) from by omega) (show jxw (y5 + 1) ≤ a0 53 (x1.toNat) from by omega) (by rw [show (jxw (y5 + 1)).toNat = y5.toNat + 1 from by omega]; have q := hb2; first | (rw [if_pos (by omega)] at q; exact q) | (rw [if_neg (by omega)] at q; exact q))
    ·
      have h164_ : jxw (y5 + 1) = y5 + 1 := jxw_id (by omega) (by omega)
      have h165_ := jxor_b (jxshl y4 1) 1
      exact ih39 y1 y2 y3 (jxor (jxshl y4 1) 1) (jxw (y5 + 1)) (show (((40 - (jxw (y5 + 1))) * 1) + 0).toNat < n from by omega) (show 0 ≤ y1 from by omega) (show y1 ≤ 39 from by omega) (show 0 ≤ y2 from by omega) (show y2 ≤ 39 from by omega) (show 0 ≤ jxw (y5 + 1) from by omega) (show jxw (y5 + 1) ≤ 40 from by omega) (show y1 = x1 from by omega) (show y2 = x2 from by omega) (show y3 = x3 from by omega) (show (0 ≤ x1 ∧ x1 ≤ 39) from by omega) (show ¬ a0 53 (x1.toNat) = 0 from by omega) (show 0 ≤ jxw (y5 + 1) from by omega) (show jxw (y5 + 1) ≤ a0 53 (x1.toNat) from by omega) (by rw [show (jxw (y5 + 1)).toNat = y5.toNat + 1 from by omega]; have q := hb2; first | (rw [if_pos (by omega)] at q; exact q) | (rw [if_neg (by omega)] at q; exact q))
  have hc72 : ∀ (y1 y2 y3 y4 y5 y6 : Int), (((40 - y5) * 1) + 0).toNat ≤ n → 0 ≤ y1 → y1 ≤ 39 → 0 ≤ y2 → y2 ≤ 39 → 0 ≤ y5 → y5 ≤ 39 → y1 = x1 → y2 = x2 → y3 = x3 → (0 ≤ x1 ∧ x1 ≤ 39) → ¬ a0 53 (x1.toNat) = 0 → 0 ≤ y5 → y5 ≤ a0 53 (x1.toNat) → y5 < a0 53 (x1.toNat) → y5 ≤ 39 → (y4 = BN (EST (TRC a0 b0 x1 x2 x3) (fun k => a0 12 (x1.toNat * 40 + k)) y5.toNat)) → (y6 = jxw (Int.tdiv (a0 12 (x1.toNat * 40 + y5.toNat)) 1000)) → jt (jxX E d 150 72 [some (.inr (.inr (.inl 11))), some (.inl y1), some (.inl y2), some (.inl y3), some (.inl y4), some (.inl y5), some (.inl y6), none, none] [] (jxSH, a0, b0)) (jQ_X10_isMet x1 x2 x3 a0 b0) := by
    intro y1 y2 y3 y4 y5 y6 hm hi0 hi1 hi2 hi3 hi4 hi5 hi6 hi7 hi8 hi9 hi10 hi11 hi12 hi13 hi14 hb hy6
    refine jt_eq (bq_X10_isMet_72 E d y1 y2 y3 y4 y5 y6 a0 b0) ?_
    have h166_ := iv_get hv0 (k := 53) (j := x1.toNat) (l := 0) (u := 40) rfl
    have hwf := (WISHR_at hp0 (x := x1) (by omega) (by omega)).1
    have him := IMC (t := TRC a0 b0 x1 x2 x3) (f := fun k => a0 12 (x1.toNat * 40 + k)) (n := (a0 53 x1.toNat).toNat) (v := a0 12 (x1.toNat * 40 + y5.toNat)) (TRC_b a0 b0 x1 x2 x3) hwf (by omega) (by omega) rfl hy6 hb
    refine jt_ite (fun c167_ => ?_) (fun c167_ => ?_)
    ·
      have h168_ : jxw (y5 + 1) = y5 + 1 := jxw_id (by omega) (by omega)
      have h169_ := jxxor_b y4 1
      exact ih39 y1 y2 y3 (jxxor y4 1) (jxw (y5 + 1)) (show (((40 - (jxw (y5 + 1))) * 1) + 0).toNat < n from by omega) (show 0 ≤ y1 from by omega) (show y1 ≤ 39 from by omega) (show 0 ≤ y2 from by omega) (show y2 ≤ 39 from by omega) (show 0 ≤ jxw (y5 + 1) from by omega) (show jxw (y5 + 1) ≤ 40 from by omega) (show y1 = x1 from by omega) (show y2 = x2 from by omega) (show y3 = x3 from by omega) (show (0 ≤ x1 ∧ x1 ≤ 39) from by omega) (show ¬ a0 53 (x1.toNat) = 0 from by omega) (show 0 ≤ jxw (y5 + 1) from by omega) (show jxw (y5 + 1) ≤ a0 53 (x1.toNat) from by omega) (by rw [show (jxw (y5 + 1)).toNat = y5.toNat + 1 from by omega]; exact him.1 (by omega))
    ·
      refine jt_ite (fun c170_ => ?_) (fun c170_ => ?_)
      ·
        have h171_ := jxshr_b y4 1
        have h172_ := jxand_r y4 1 (by decide) (by decide)
        have h173_ := jxor_b (jxand y4 1) (-2)
        have h174_ := jxand_b (jxshr y4 1) (jxor (jxand y4 1) (-2))
        exact hc113 y1 y2 y3 (jxand (jxshr y4 1) (jxor (jxand y4 1) (-2))) y5 (show (((40 - y5) * 1) + 0).toNat ≤ n from by omega) (show 0 ≤ y1 from by omega) (show y1 ≤ 39 from by omega) (show 0 ≤ y2 from by omega) (show y2 ≤ 39 from by omega) (show 0 ≤ y5 from by omega) (show y5 ≤ 39 from by omega) (show y1 = x1 from by omega) (show y2 = x2 from by omega) (show y3 = x3 from by omega) (show (0 ≤ x1 ∧ x1 ≤ 39) from by omega) (show ¬ a0 53 (x1.toNat) = 0 from by omega) (show 0 ≤ y5 from by omega) (show y5 ≤ a0 53 (x1.toNat) from by omega) (show y5 < a0 53 (x1.toNat) from by omega) (show y5 ≤ 39 from by omega) (him.2.1 (by omega))
      ·
        refine jt_ite (fun c175_ => ?_) (fun c175_ => ?_)
        ·
          have h176_ := jxshr_b y4 1
          have h177_ := jxand_r y4 1 (by decide) (by decide)
          have h178_ := jxor_b (jxshr y4 1) (jxand y4 1)
          exact hc132 y1 y2 y3 (jxor (jxshr y4 1) (jxand y4 1)) y5 (show (((40 - y5) * 1) + 0).toNat ≤ n from by omega) (show 0 ≤ y1 from by omega) (show y1 ≤ 39 from by omega) (show 0 ≤ y2 from by omega) (show y2 ≤ 39 from by omega) (show 0 ≤ y5 from by omega) (show y5 ≤ 39 from by omega) (show y1 = x1 from by omega) (show y2 = x2 from by omega) (show y3 = x3 from by omega) (show (0 ≤ x1 ∧ x1 ≤ 39) from by omega) (show ¬ a0 53 (x1.toNat) = 0 from by omega) (show 0 ≤ y5 from by omega) (show y5 ≤ a0 53 (x1.toNat) from by omega) (show y5 < a0 53 (x1.toNat) from by omega) (show y5 ≤ 39 from by omega) (him.2.2.1 (by omega))
        ·
          refine jt_grd (by omega) ?_
          refine jt_grd (by omega) ?_
          refine jt_grd (by omega) ?_
          refine jt_eI (eq_X10_holdsAtom E d (jd_le hd rfl) y6 (jxw (Int.tmod (a0 12 ((y1.toNat) * 40 + (y5.toNat))) 1000)) y1 y2 y3 a0 b0) ?_
          have h179_ := jx_tm (a0 12 ((y1.toNat) * 40 + (y5.toNat))) 1000
          have h180_ := jx_tmr (a0 12 ((y1.toNat) * 40 + (y5.toNat))) 1000 (by decide)
          have h181_ : jxw (Int.tmod (a0 12 ((y1.toNat) * 40 + (y5.toNat))) 1000) = Int.tmod (a0 12 ((y1.toNat) * 40 + (y5.toNat))) 1000 := jxw_id (by omega) (by omega)
          have h182_ := f_X10_holdsAtom_bool a0 b0 y6 (jxw (Int.tmod (a0 12 ((y1.toNat) * 40 + (y5.toNat))) 1000)) y1 y2 y3
          exact hc159 y1 y2 y3 y4 y5 (f_X10_holdsAtom a0 b0 y6 (jxw (Int.tmod (a0 12 ((y1.toNat) * 40 + (y5.toNat))) 1000)) y1 y2 y3) (show (((40 - y5) * 1) + 0).toNat ≤ n from by omega) (show 0 ≤ y1 from by omega) (show y1 ≤ 39 from by omega) (show 0 ≤ y2 from by omega) (show y2 ≤ 39 from by omega) (show 0 ≤ y5 from by omega) (show y5 ≤ 39 from by omega) (show 0 ≤ f_X10_holdsAtom a0 b0 y6 (jxw (Int.tmod (a0 12 ((y1.toNat) * 40 + (y5.toNat))) 1000)) y1 y2 y3 from by omega) (show f_X10_holdsAtom a0 b0 y6 (jxw (Int.tmod (a0 12 ((y1.toNat) * 40 + (y5.toNat))) 1000)) y1 y2 y3 ≤ 1 from by omega) (show y1 = x1 from by omega) (show y2 = x2 from by omega) (show y3 = x3 from by omega) (show (0 ≤ x1 ∧ x1 ≤ 39) from by omega) (show ¬ a0 53 (x1.toNat) = 0 from by omega) (show 0 ≤ y5 from by omega) (show y5 ≤ a0 53 (x1.toNat) from by omega) (show y5 < a0 53 (x1.toNat) from by omega) (show y5 ≤ 39 from by omega) (by have q := him.2.2.2 (by omega) (by omega) (by omega); unfold TRC at q; rw [← hy6] at q; rw [show y1 = x1 from by omega, show y2 = x2 from by omega, show y3 = x3 from by omega]; exact q)
  have hc39 : ∀ (y1 y2 y3 y4 y5 : Int), (((40 - y5) * 1) + 0).toNat ≤ n → 0 ≤ y1 → y1 ≤ 39 → 0 ≤ y2 → y2 ≤ 39 → 0 ≤ y5 → y5 ≤ 40 → y1 = x1 → y2 = x2 → y3 = x3 → (0 ≤ x1 ∧ x1 ≤ 39) → ¬ a0 53 (x1.toNat) = 0 → 0 ≤ y5 → y5 ≤ a0 53 (x1.toNat) → (y4 = BN (EST (TRC a0 b0 x1 x2 x3) (fun k => a0 12 (x1.toNat * 40 + k)) y5.toNat)) → jt (jxX E d 150 39 [some (.inr (.inr (.inl 11))), some (.inl y1), some (.inl y2), some (.inl y3), some (.inl y4), some (.inl y5), none, none, none] [] (jxSH, a0, b0)) (jQ_X10_isMet x1 x2 x3 a0 b0) := by
    intro y1 y2 y3 y4 y5 hm hi0 hi1 hi2 hi3 hi4 hi5 hi6 hi7 hi8 hi9 hi10 hi11 hi12 hb
    refine jt_eq (bq_X10_isMet_39 E d y1 y2 y3 y4 y5 a0 b0) ?_
    have h183_ := iv_get hv0 (k := 53) (j := x1.toNat) (l := 0) (u := 40) rfl
    have e53 : a0 53 (y1.toNat) = a0 53 (x1.toNat) := by rw [show y1 = x1 from by omega]
    refine jt_grd (by omega) ?_
    have h184_ := iv_get hv0 (k := 53) (j := y1.toNat) (l := 0) (u := 40) rfl
    refine jt_ite (fun c185_ => ?_) (fun c185_ => ?_)
    ·
      refine jt_ite (fun c186_ => ?_) (fun c186_ => ?_)
      ·
        refine jt_grd (by omega) ?_
        refine jt_grd (by omega) ?_
        refine jt_grd (by omega) ?_
        have h187_ := jx_td (a0 12 ((y1.toNat) * 40 + (y5.toNat))) 1000
        have h188_ := jx_tdr (a0 12 ((y1.toNat) * 40 + (y5.toNat))) 1000 (by decide)
        have h189_ := jxw_im (Int.tdiv (a0 12 ((y1.toNat) * 40 + (y5.toNat))) 1000)
        have h190_ := jxw_rg (Int.tdiv (a0 12 ((y1.toNat) * 40 + (y5.toNat))) 1000)
        exact hc72 y1 y2 y3 y4 y5 (jxw (Int.tdiv (a0 12 ((y1.toNat) * 40 + (y5.toNat))) 1000)) (show (((40 - y5) * 1) + 0).toNat ≤ n from by omega) (show 0 ≤ y1 from by omega) (show y1 ≤ 39 from by omega) (show 0 ≤ y2 from by omega) (show y2 ≤ 39 from by omega) (show 0 ≤ y5 from by omega) (show y5 ≤ 39 from by omega) (show y1 = x1 from by omega) (show y2 = x2 from by omega) (show y3 = x3 from by omega) (show (0 ≤ x1 ∧ x1 ≤ 39) from by omega) (show ¬ a0 53 (x1.toNat) = 0 from by omega) (show 0 ≤ y5 from by omega) (show y5 ≤ a0 53 (x1.toNat) from by omega) (show y5 < a0 53 (x1.toNat) from by omega) (show y5 ≤ 39 from by omega) hb (by rw [show y1 = x1 from by omega])
      ·
        exact cp_X10_isMet_182 E d hd x1 x2 x3 a0 b0 hv0 hp0 y4 (show (0 ≤ x1 ∧ x1 ≤ 39) from by omega) (show ¬ a0 53 (x1.toNat) = 0 from by omega) (by have i53 := iv_get hv0 (k := 53) (j := x1.toNat) (l := 0) (u := 40) rfl; rw [show (a0 53 x1.toNat).toNat = y5.toNat from by omega]; exact hb)
    ·
      exact cp_X10_isMet_182 E d hd x1 x2 x3 a0 b0 hv0 hp0 y4 (show (0 ≤ x1 ∧ x1 ≤ 39) from by omega) (show ¬ a0 53 (x1.toNat) = 0 from by omega) (by have i53 := iv_get hv0 (k := 53) (j := x1.toNat) (l := 0) (u := 40) rfl; rw [show (a0 53 x1.toNat).toNat = y5.toNat from by omega]; exact hb)
  exact ⟨hc113, hc132, hc159, hc72, hc39⟩
theorem cp_X10_isMet_33 (E : jxE) (d : Nat) (hd : Nat.ble 5 (d + 1) = true) (x1 x2 x3 : Int) (a0 b0 : Nat → Nat → Int) (hv0 : iv a0) (hp0 : WISHR a0) : ∀ (y1 y2 y3 : Int), 0 ≤ y1 → y1 ≤ 39 → 0 ≤ y2 → y2 ≤ 39 → y1 = x1 → y2 = x2 → y3 = x3 → (0 ≤ x1 ∧ x1 ≤ 39) → ¬ a0 53 (x1.toNat) = 0 → jt (jxX E d 150 33 [some (.inr (.inr (.inl 11))), some (.inl y1), some (.inl y2), some (.inl y3), none, none, none, none, none] [] (jxSH, a0, b0)) (jQ_X10_isMet x1 x2 x3 a0 b0) := by
  intro y1 y2 y3 hi0 hi1 hi2 hi3 hi4 hi5 hi6 hi7 hi8
  refine jt_eq (bq_X10_isMet_33 E d y1 y2 y3 a0 b0) ?_
  have h191_ := iv_get hv0 (k := 53) (j := x1.toNat) (l := 0) (u := 40) rfl
  exact (cp_X10_isMet_39 E d hd x1 x2 x3 a0 b0 hv0 hp0 _).2.2.2.2 y1 y2 y3 0 0 (Nat.le_refl _) (show 0 ≤ y1 from by omega) (show y1 ≤ 39 from by omega) (show 0 ≤ y2 from by omega) (show y2 ≤ 39 from by omega) (show 0 ≤ 0 from by omega) (show 0 ≤ 40 from by omega) (show y1 = x1 from by omega) (show y2 = x2 from by omega) (show y3 = x3 from by omega) (show (0 ≤ x1 ∧ x1 ≤ 39) from by omega) (show ¬ a0 53 (x1.toNat) = 0 from by omega) (show 0 ≤ 0 from by omega) (show 0 ≤ a0 53 (x1.toNat) from by omega) rfl
theorem sp_X10_isMet (E : jxE) (d : Nat) (hd : Nat.ble 5 d = true) (x1 x2 x3 : Int) (a0 b0 : Nat → Nat → Int) (hv0 : iv a0) (hp0 : WISHR a0) : jt (jxC E d 150 [.inr (.inr (.inl 11)), .inl x1, .inl x2, .inl x3] (jxSH, a0, b0)) (jQ_X10_isMet x1 x2 x3 a0 b0) := by
  obtain ⟨d, rfl⟩ := jd_succ hd
  refine jt_eq (bq_X10_isMet E d x1 x2 x3 a0 b0) ?_
  refine jt_eI (eq_X3_has E d (jd_le hd rfl) x1 a0 b0) ?_
  have h192_ := f_X3_has_eq a0 b0 x1
  have h193_ := iv_get hv0 (k := 4) (j := 6) (l := 0) (u := 40) rfl
  refine jt_ite (fun c194_ => ?_) (fun c194_ => ?_)
  ·
    exact cp_X10_isMet_31 E d hd x1 x2 x3 a0 b0 hv0 hp0 (fun h1 h2 h3 h4 => by omega)
  ·
    refine jt_eI (eq_X3_has E d (jd_le hd rfl) x2 a0 b0) ?_
    have h195_ := f_X3_has_eq a0 b0 x2
    refine jt_ite (fun c196_ => ?_) (fun c196_ => ?_)
    ·
      exact cp_X10_isMet_31 E d hd x1 x2 x3 a0 b0 hv0 hp0 (fun h1 h2 h3 h4 => by omega)
    ·
      refine jt_grd (by omega) ?_
      have h197_ := iv_get hv0 (k := 53) (j := x1.toNat) (l := 0) (u := 40) rfl
      refine jt_ite (fun c198_ => ?_) (fun c198_ => ?_)
      ·
        exact cp_X10_isMet_31 E d hd x1 x2 x3 a0 b0 hv0 hp0 (fun h1 h2 h3 h4 => by omega)
      ·
        exact cp_X10_isMet_33 E d hd x1 x2 x3 a0 b0 hv0 hp0 x1 x2 x3 (show 0 ≤ x1 from by omega) (show x1 ≤ 39 from by omega) (show 0 ≤ x2 from by omega) (show x2 ≤ 39 from by omega) (show x1 = x1 from by omega) (show x2 = x2 from by omega) (show x3 = x3 from by omega) (show (0 ≤ x1 ∧ x1 ≤ 39) from by omega) (show ¬ a0 53 (x1.toNat) = 0 from by omega)
def jW_X10_keepDraft : List (Nat × Nat) := [(12, 9999), (53, 9999)]
abbrev jQ_X10_keepDraft (x1 : Int) (a0 b0 : Nat → Nat → Int) : List jxV → (Nat → Nat → Int) → (Nat → Nat → Int) → Prop := rV (fun a b => (iv a) ∧ (jfr jW_X10_keepDraft a0 a) ∧ (b0 = b) ∧ (0 ≤ x1 → x1 < a0 4 6 → x1 < 40 → UP (a0 53) (a 53) x1.toNat (a0 11 6) ∧ (∀ k : Nat, (k : Int) < a0 11 6 → a 12 (x1.toNat * 40 + k) = a0 54 k) ∧ ∀ j : Nat, (j < x1.toNat * 40 ∨ x1.toNat * 40 + 40 ≤ j) → a 12 j = a0 12 j))
theorem cp_X10_keepDraft_14 (E : jxE) (d : Nat) (hd : Nat.ble 2 (d + 1) = true) (x1 : Int) (a0 b0 : Nat → Nat → Int) (hv0 : iv a0) : ∀ n : Nat, (∀ (y1 y2 : Int) (a : Nat → Nat → Int), (((40 - y2) * 1) + 0).toNat ≤ n → iv a → jfr jW_X10_keepDraft a0 a → 0 ≤ y1 → y1 ≤ 39 → 0 ≤ y2 → y2 ≤ 39 → 1 ≤ a 11 6 → y1 = x1 → 0 ≤ y2 → (∀ j, a 53 j = a0 53 j) → (∀ k : Nat, (k : Int) < y2 + 1 → a 12 (x1.toNat * 40 + k) = a0 54 k) → (∀ j : Nat, (j < x1.toNat * 40 ∨ x1.toNat * 40 + 40 ≤ j) → a 12 j = a0 12 j) → jt (jxX E d 142 36 [some (.inr (.inr (.inl 11))), some (.inl y1), some (.inl y2)] [] (jxSH, a, b0)) (jQ_X10_keepDraft x1 a0 b0)) ∧ (∀ (y1 y2 : Int) (a : Nat → Nat → Int), (((40 - y2) * 1) + 0).toNat ≤ n → iv a → jfr jW_X10_keepDraft a0 a → 0 ≤ y1 → y1 ≤ 39 → 0 ≤ y2 → y2 ≤ 40 → y1 = x1 → 0 ≤ y2 → (∀ j, a 53 j = a0 53 j) → (∀ k : Nat, (k : Int) < y2 → a 12 (x1.toNat * 40 + k) = a0 54 k) → (∀ j : Nat, (j < x1.toNat * 40 ∨ x1.toNat * 40 + 40 ≤ j) → a 12 j = a0 12 j) → jt (jxX E d 142 14 [some (.inr (.inr (.inl 11))), some (.inl y1), some (.inl y2)] [] (jxSH, a, b0)) (jQ_X10_keepDraft x1 a0 b0)) := by
  refine jx_ind fun n ih => ?_
  have ih36 : ∀ (y1 y2 : Int) (a : Nat → Nat → Int), (((40 - y2) * 1) + 0).toNat < n → iv a → jfr jW_X10_keepDraft a0 a → 0 ≤ y1 → y1 ≤ 39 → 0 ≤ y2 → y2 ≤ 39 → 1 ≤ a 11 6 → y1 = x1 → 0 ≤ y2 → (∀ j, a 53 j = a0 53 j) → (∀ k : Nat, (k : Int) < y2 + 1 → a 12 (x1.toNat * 40 + k) = a0 54 k) → (∀ j : Nat, (j < x1.toNat * 40 ∨ x1.toNat * 40 + 40 ≤ j) → a 12 j = a0 12 j) → jt (jxX E d 142 36 [some (.inr (.inr (.inl 11))), some (.inl y1), some (.inl y2)] [] (jxSH, a, b0)) (jQ_X10_keepDraft x1 a0 b0) := fun y1 y2 a hlt i0 i1 i2 i3 i4 i5 i6 i7 i8 i9 i10 i11 => (ih _ hlt).1 y1 y2 a (Nat.le_refl _) i0 i1 i2 i3 i4 i5 i6 i7 i8 i9 i10 i11
  have ih14 : ∀ (y1 y2 : Int) (a : Nat → Nat → Int), (((40 - y2) * 1) + 0).toNat < n → iv a → jfr jW_X10_keepDraft a0 a → 0 ≤ y1 → y1 ≤ 39 → 0 ≤ y2 → y2 ≤ 40 → y1 = x1 → 0 ≤ y2 → (∀ j, a 53 j = a0 53 j) → (∀ k : Nat, (k : Int) < y2 → a 12 (x1.toNat * 40 + k) = a0 54 k) → (∀ j : Nat, (j < x1.toNat * 40 ∨ x1.toNat * 40 + 40 ≤ j) → a 12 j = a0 12 j) → jt (jxX E d 142 14 [some (.inr (.inr (.inl 11))), some (.inl y1), some (.inl y2)] [] (jxSH, a, b0)) (jQ_X10_keepDraft x1 a0 b0) := fun y1 y2 a hlt i0 i1 i2 i3 i4 i5 i6 i7 i8 i9 i10 => (ih _ hlt).2 y1 y2 a (Nat.le_refl _) i0 i1 i2 i3 i4 i5 i6 i7 i8 i9 i10
  have hc36 : ∀ (y1 y2 : Int) (a : Nat → Nat → Int), (((40 - y2) * 1) + 0).toNat ≤ n → iv a → jfr jW_X10_keepDraft a0 a → 0 ≤ y1 → y1 ≤ 39 → 0 ≤ y2 → y2 ≤ 39 → 1 ≤ a 11 6 → y1 = x1 → 0 ≤ y2 → (∀ j, a 53 j = a0 53 j) → (∀ k : Nat, (k : Int) < y2 + 1 → a 12 (x1.toNat * 40 + k) = a0 54 k) → (∀ j : Nat, (j < x1.toNat * 40 ∨ x1.toNat * 40 + 40 ≤ j) → a 12 j = a0 12 j) → jt (jxX E d 142 36 [some (.inr (.inr (.inl 11))), some (.inl y1), some (.inl y2)] [] (jxSH, a, b0)) (jQ_X10_keepDraft x1 a0 b0) := by
    intro y1 y2 a hm hv hf hi0 hi1 hi2 hi3 hi4 hi5 hi6 hs53 hk ho
    refine jt_eq (bq_X10_keepDraft_36 E d y1 y2 a b0) ?_
    have h199_ := iv_get hv (k := 11) (j := 6) (l := 0) (u := 40) rfl
    have h200_ : a 11 6 = a0 11 6 := hf 11 6 rfl
    have h201_ := iv_get hv0 (k := 11) (j := 6) (l := 0) (u := 40) rfl
    have h202_ : jxw (y2 + 1) = y2 + 1 := jxw_id (by omega) (by omega)
    exact ih14 y1 (jxw (y2 + 1)) a (show (((40 - (jxw (y2 + 1))) * 1) + 0).toNat < n from by omega) hv hf (show 0 ≤ y1 from by omega) (show y1 ≤ 39 from by omega) (show 0 ≤ jxw (y2 + 1) from by omega) (show jxw (y2 + 1) ≤ 40 from by omega) (show y1 = x1 from by omega) (show 0 ≤ jxw (y2 + 1) from by omega) (fun j => (rfl).trans (hs53 j)) (by first | exact (fun k h => absurd h (by omega)) | exact (fun k h => hk k (by omega))) (by first | exact ho | exact (fun _ _ => rfl))
  have hc14 : ∀ (y1 y2 : Int) (a : Nat → Nat → Int), (((40 - y2) * 1) + 0).toNat ≤ n → iv a → jfr jW_X10_keepDraft a0 a → 0 ≤ y1 → y1 ≤ 39 → 0 ≤ y2 → y2 ≤ 40 → y1 = x1 → 0 ≤ y2 → (∀ j, a 53 j = a0 53 j) → (∀ k : Nat, (k : Int) < y2 → a 12 (x1.toNat * 40 + k) = a0 54 k) → (∀ j : Nat, (j < x1.toNat * 40 ∨ x1.toNat * 40 + 40 ≤ j) → a 12 j = a0 12 j) → jt (jxX E d 142 14 [some (.inr (.inr (.inl 11))), some (.inl y1), some (.inl y2)] [] (jxSH, a, b0)) (jQ_X10_keepDraft x1 a0 b0) := by
    intro y1 y2 a hm hv hf hi0 hi1 hi2 hi3 hi4 hi5 hs53 hk ho
    refine jt_eq (bq_X10_keepDraft_14 E d y1 y2 a b0) ?_
    have h203_ := iv_get hv (k := 11) (j := 6) (l := 0) (u := 40) rfl
    have h204_ : a 11 6 = a0 11 6 := hf 11 6 rfl
    have h205_ := iv_get hv0 (k := 11) (j := 6) (l := 0) (u := 40) rfl
    refine jt_ite (fun c206_ => ?_) (fun c206_ => ?_)
    ·
      refine jt_grd (by omega) ?_
      refine jt_grd (by omega) ?_
      refine jt_grd (by omega) ?_
      refine jt_grd (by omega) ?_
      have hv207_ : iv (jxu a 12 ((y1.toNat) * 40 + (y2.toNat)) (a 54 (y2.toNat))) := iv_putf hv rfl
      have hf208_ : jfr jW_X10_keepDraft a0 (jxu a 12 ((y1.toNat) * 40 + (y2.toNat)) (a 54 (y2.toNat))) := jfr_put hf rfl
      exact hc36 y1 y2 (jxu a 12 ((y1.toNat) * 40 + (y2.toNat)) (a 54 (y2.toNat))) (show (((40 - y2) * 1) + 0).toNat ≤ n from by omega) hv207_ hf208_ (show 0 ≤ y1 from by omega) (show y1 ≤ 39 from by omega) (show 0 ≤ y2 from by omega) (show y2 ≤ 39 from by omega) (show 1 ≤ a 11 6 from by omega) (show y1 = x1 from by omega) (show 0 ≤ y2 from by omega) (fun j => (rfl).trans (hs53 j)) (by intro k h; show (if x1.toNat * 40 + k = (y1.toNat) * 40 + (y2.toNat) then a 54 (y2.toNat) else a 12 (x1.toNat * 40 + k)) = a0 54 k; by_cases e : k = y2.toNat <;> first | (rw [if_pos (by omega), e]; exact hf 54 _ rfl) | (rw [if_neg (by omega)]; exact hk k (by omega))) (by intro j h; show (if j = (y1.toNat) * 40 + (y2.toNat) then a 54 (y2.toNat) else a 12 j) = _; rw [if_neg (by omega)]; exact ho j h)
    ·
      refine jt_grd (by omega) ?_
      have hv209_ : iv (jxu a 53 (y1.toNat) (a 11 6)) := iv_put hv (l := 0) (u := 40) rfl (by omega) (by omega)
      have hf210_ : jfr jW_X10_keepDraft a0 (jxu a 53 (y1.toNat) (a 11 6)) := jfr_put hf rfl
      exact jt_rV ⟨hv209_, hf210_, rfl, (fun _ _ _ => ⟨by rw [show x1.toNat = y1.toNat from by omega, show a0 11 6 = a 11 6 from (hf 11 6 rfl).symm]; exact UP_put hs53, fun k h => hk k (by have e := hf 11 6 rfl; omega), ho⟩)⟩
  exact ⟨hc36, hc14⟩
theorem sp_X10_keepDraft (E : jxE) (d : Nat) (hd : Nat.ble 2 d = true) (x1 : Int) (a0 b0 : Nat → Nat → Int) (hv0 : iv a0) : jt (jxC E d 142 [.inr (.inr (.inl 11)), .inl x1] (jxSH, a0, b0)) (jQ_X10_keepDraft x1 a0 b0) := by
  obtain ⟨d, rfl⟩ := jd_succ hd
  refine jt_eq (bq_X10_keepDraft E d x1 a0 b0) ?_
  refine jt_eI (eq_X3_has E d (jd_le hd rfl) x1 a0 b0) ?_
  have h211_ := f_X3_has_eq a0 b0 x1
  have h212_ := iv_get hv0 (k := 4) (j := 6) (l := 0) (u := 40) rfl
  refine jt_ite (fun c213_ => ?_) (fun c213_ => ?_)
  ·
    exact jt_rV ⟨hv0, (jfr_rf _ _), rfl, (fun h1 h2 h3 => by omega)⟩
  ·
    exact (cp_X10_keepDraft_14 E d hd x1 a0 b0 hv0 _).2 x1 0 a0 (Nat.le_refl _) hv0 (jfr_rf _ _) (show 0 ≤ x1 from by omega) (show x1 ≤ 39 from by omega) (show 0 ≤ 0 from by omega) (show 0 ≤ 40 from by omega) (show x1 = x1 from by omega) (show 0 ≤ 0 from by omega) (fun j => rfl) (by first | exact (fun k h => absurd h (by omega)) | exact (fun k h => hk k (by omega))) (by first | exact ho | exact (fun _ _ => rfl))
def jW_X10_takeAtomWord : List (Nat × Nat) := [(2, 2)]
abbrev jQ_X10_takeAtomWord (a0 b0 : Nat → Nat → Int) : List jxV → (Nat → Nat → Int) → (Nat → Nat → Int) → Prop := rI (fun r a b => (iv a) ∧ (jfr jW_X10_takeAtomWord a0 a) ∧ (b0 = b) ∧ (a0 2 3 = 0 → r = AK (a0 3) (a0 2 1).toNat (a0 2 2).toNat) ∧ (a0 2 3 = 0 → 0 ≤ r → a 2 2 = (AQ (a0 3) (a0 2 1).toNat (a0 2 2).toNat : Int)) ∧ (a0 2 3 = 0 → r < 0 → a 2 2 = a0 2 2) ∧ (¬ a0 2 3 = 0 → r = -1))
theorem cp_X10_takeAtomWord_40 (E : jxE) (d : Nat) (hd : Nat.ble 6 (d + 1) = true) (a0 b0 : Nat → Nat → Int) (hv0 : iv a0) : ∀ (a : Nat → Nat → Int), iv a → jfr jW_X10_takeAtomWord a0 a → a0 2 3 = 0 → (TW (a0 3) (a0 2 1).toNat (a0 2 2).toNat 5) → (a 2 2 = (SK (a0 3) (a0 2 1).toNat ((a0 2 2).toNat + wdn 5) : Int)) → jt (jxX E d 147 40 [none] [] (jxSH, a, b0)) (jQ_X10_takeAtomWord a0 b0) := by
  intro a hv hf hi0 htw hat
  refine jt_eq (bq_X10_takeAtomWord_40 E d a b0) ?_
  have h3 : a 3 = a0 3 := funext fun j => hf 3 j rfl
  have h21 := hf 2 1 rfl
  exact jt_rI ⟨hv, hf, rfl, (fun _ => (AK_w (w := 2) (by decide) htw).symm), (fun _ _ => by rw [AQ_w (w := 2) (by decide) htw]; exact hat), (fun _ h => absurd h (by decide)), (fun h => absurd (by omega) h)⟩
theorem cp_X10_takeAtomWord_82 (E : jxE) (d : Nat) (hd : Nat.ble 6 (d + 1) = true) (a0 b0 : Nat → Nat → Int) (hv0 : iv a0) : ∀ (a : Nat → Nat → Int), iv a → jfr jW_X10_takeAtomWord a0 a → a0 2 3 = 0 → (TW (a0 3) (a0 2 1).toNat (a0 2 2).toNat 8) → (a 2 2 = (SK (a0 3) (a0 2 1).toNat ((a0 2 2).toNat + wdn 8) : Int)) → jt (jxX E d 147 82 [none] [] (jxSH, a, b0)) (jQ_X10_takeAtomWord a0 b0) := by
  intro a hv hf hi0 htw hat
  refine jt_eq (bq_X10_takeAtomWord_82 E d a b0) ?_
  have h3 : a 3 = a0 3 := funext fun j => hf 3 j rfl
  have h21 := hf 2 1 rfl
  exact jt_rI ⟨hv, hf, rfl, (fun _ => (AK_w (w := 5) (by decide) htw).symm), (fun _ _ => by rw [AQ_w (w := 5) (by decide) htw]; exact hat), (fun _ h => absurd h (by decide)), (fun h => absurd (by omega) h)⟩
theorem cp_X10_takeAtomWord_84 (E : jxE) (d : Nat) (hd : Nat.ble 6 (d + 1) = true) (a0 b0 : Nat → Nat → Int) (hv0 : iv a0) : ∀ (a : Nat → Nat → Int), iv a → jfr jW_X10_takeAtomWord a0 a → (a0 2 3 = 0 → (¬ TW (a0 3) (a0 2 1).toNat (a0 2 2).toNat 3 ∧ ¬ TW (a0 3) (a0 2 1).toNat (a0 2 2).toNat 4 ∧ ¬ TW (a0 3) (a0 2 1).toNat (a0 2 2).toNat 5) ∧ ¬ TW (a0 3) (a0 2 1).toNat (a0 2 2).toNat 6 ∧ ¬ TW (a0 3) (a0 2 1).toNat (a0 2 2).toNat 7 ∧ ¬ TW (a0 3) (a0 2 1).toNat (a0 2 2).toNat 8) → a 2 2 = a0 2 2 → a 2 3 = a0 2 3 → jt (jxX E d 147 84 [some (.inr (.inr (.inl 11)))] [] (jxSH, a, b0)) (jQ_X10_takeAtomWord a0 b0) := by
  intro a hv hf hn hi1 hi2
  refine jt_eq (bq_X10_takeAtomWord_84 E d a b0) ?_
  have h214_ := iv_get hv (k := 2) (j := 2) (l := 0) (u := 200) rfl
  have h215_ := iv_get hv0 (k := 2) (j := 2) (l := 0) (u := 200) rfl
  have h216_ : a 2 3 = a0 2 3 := hf 2 3 rfl
  have h3 : a 3 = a0 3 := funext fun j => hf 3 j rfl
  have h21 := hf 2 1 rfl
  refine jt_bI (sp_X8_takesWord_r1007 E d (jd_le hd rfl) a b0 hv) (fun r217_ a217_ b217_ h217_ => ?_)
  obtain ⟨hv217_, hf217_, rfl, hq217_0, hq217_1, hq217_2, hq217_3, hq217_4⟩ := h217_
  have h218_ := iv_get hv (k := 2) (j := 1) (l := 0) (u := 200) rfl
  have h219_ : a 2 1 = a0 2 1 := hf 2 1 rfl
  have h220_ := iv_get hv0 (k := 2) (j := 1) (l := 0) (u := 200) rfl
  have h221_ := iv_get hv217_ (k := 2) (j := 2) (l := 0) (u := 200) rfl
  have hz217 := hf217_ 2 3 rfl
  refine jt_ite (fun c222_ => ?_) (fun c222_ => ?_)
  ·
    have hf223_ : jfr jW_X10_takeAtomWord a0 a217_ := jfr_tr hf hf217_ rfl
    exact jt_rI ⟨hv217_, hf223_, rfl, (fun hz0 => by have n9 := (by have q := (hq217_4 (by omega)).resolve_left (fun h => h (by omega)); rw [show a 3 = a0 3 from funext (fun j => hf 3 j rfl), show a 2 1 = a0 2 1 from hf 2 1 rfl, show a 2 2 = a0 2 2 from by omega] at q; exact q); obtain ⟨⟨n3, n4, n5⟩, n6, n7, n8⟩ := hn hz0; refine (AK_no (fun w hw => ?_)).symm; have hc : w = 0 ∨ w = 1 ∨ w = 2 ∨ w = 3 ∨ w = 4 ∨ w = 5 ∨ w = 6 := (by omega); rcases hc with rfl | rfl | rfl | rfl | rfl | rfl | rfl <;> assumption), (fun _ h => absurd h (by decide)), (fun _ _ => by omega), (fun _ => rfl)⟩
  ·
    have hf224_ : jfr jW_X10_takeAtomWord a0 a217_ := jfr_tr hf hf217_ rfl
    exact jt_rI ⟨hv217_, hf224_, rfl, (fun _ => by have q := (hq217_3 (by omega)).2.1; rw [show a 3 = a0 3 from funext (fun j => hf 3 j rfl), show a 2 1 = a0 2 1 from hf 2 1 rfl, show a 2 2 = a0 2 2 from by omega] at q; exact (AK_w (w := 6) (by decide) q).symm), (fun _ _ => by have q := (hq217_3 (by omega)).2.1; have q2 := (hq217_3 (by omega)).2.2; rw [show a 3 = a0 3 from funext (fun j => hf 3 j rfl), show a 2 1 = a0 2 1 from hf 2 1 rfl, show a 2 2 = a0 2 2 from by omega] at q; rw [show a 3 = a0 3 from funext (fun j => hf 3 j rfl), show a 2 1 = a0 2 1 from hf 2 1 rfl, show a 2 2 = a0 2 2 from by omega] at q2; rw [AQ_w (w := 6) (by decide) q]; exact q2), (fun _ h => absurd h (by decide)), (fun h => absurd (by omega) h)⟩
theorem cp_X10_takeAtomWord_42 (E : jxE) (d : Nat) (hd : Nat.ble 6 (d + 1) = true) (a0 b0 : Nat → Nat → Int) (hv0 : iv a0) : ∀ (a : Nat → Nat → Int), iv a → jfr jW_X10_takeAtomWord a0 a → (a0 2 3 = 0 → ¬ TW (a0 3) (a0 2 1).toNat (a0 2 2).toNat 3 ∧ ¬ TW (a0 3) (a0 2 1).toNat (a0 2 2).toNat 4 ∧ ¬ TW (a0 3) (a0 2 1).toNat (a0 2 2).toNat 5) → a 2 2 = a0 2 2 → a 2 3 = a0 2 3 → jt (jxX E d 147 42 [some (.inr (.inr (.inl 11)))] [] (jxSH, a, b0)) (jQ_X10_takeAtomWord a0 b0) := by
  intro a hv hf hn hi1 hi2
  refine jt_eq (bq_X10_takeAtomWord_42 E d a b0) ?_
  have h225_ := iv_get hv (k := 2) (j := 2) (l := 0) (u := 200) rfl
  have h226_ := iv_get hv0 (k := 2) (j := 2) (l := 0) (u := 200) rfl
  have h227_ : a 2 3 = a0 2 3 := hf 2 3 rfl
  have h3 : a 3 = a0 3 := funext fun j => hf 3 j rfl
  have h21 := hf 2 1 rfl
  refine jt_bI (sp_X8_takesWord_r1004 E d (jd_le hd rfl) a b0 hv) (fun r228_ a228_ b228_ h228_ => ?_)
  obtain ⟨hv228_, hf228_, rfl, hq228_0, hq228_1, hq228_2, hq228_3, hq228_4⟩ := h228_
  have h229_ := iv_get hv (k := 2) (j := 1) (l := 0) (u := 200) rfl
  have h230_ : a 2 1 = a0 2 1 := hf 2 1 rfl
  have h231_ := iv_get hv0 (k := 2) (j := 1) (l := 0) (u := 200) rfl
  have h232_ := iv_get hv228_ (k := 2) (j := 2) (l := 0) (u := 200) rfl
  have hz228 := hf228_ 2 3 rfl
  refine jt_ite (fun c233_ => ?_) (fun c233_ => ?_)
  ·
    refine jt_bI (sp_X8_takesWord_r1005 E d (jd_le hd rfl) a228_ b0 hv228_) (fun r234_ a234_ b234_ h234_ => ?_)
    obtain ⟨hv234_, hf234_, rfl, hq234_0, hq234_1, hq234_2, hq234_3, hq234_4⟩ := h234_
    have h235_ : a228_ 2 3 = a 2 3 := hf228_ 2 3 rfl
    have h236_ := iv_get hv228_ (k := 2) (j := 1) (l := 0) (u := 200) rfl
    have h237_ : a228_ 2 1 = a 2 1 := hf228_ 2 1 rfl
    have h238_ := iv_get hv234_ (k := 2) (j := 2) (l := 0) (u := 200) rfl
    have hz234 := hf234_ 2 3 rfl
    refine jt_ite (fun c239_ => ?_) (fun c239_ => ?_)
    ·
      refine jt_bI (sp_X8_takesWord_r1006 E d (jd_le hd rfl) a234_ b0 hv234_) (fun r240_ a240_ b240_ h240_ => ?_)
      obtain ⟨hv240_, hf240_, rfl, hq240_0, hq240_1, hq240_2, hq240_3, hq240_4⟩ := h240_
      have h241_ : a234_ 2 3 = a228_ 2 3 := hf234_ 2 3 rfl
      have h242_ := iv_get hv234_ (k := 2) (j := 1) (l := 0) (u := 200) rfl
      have h243_ : a234_ 2 1 = a228_ 2 1 := hf234_ 2 1 rfl
      have h244_ := iv_get hv240_ (k := 2) (j := 2) (l := 0) (u := 200) rfl
      have hz240 := hf240_ 2 3 rfl
      refine jt_ite (fun c245_ => ?_) (fun c245_ => ?_)
      ·
        have hf246_ : jfr jW_X10_takeAtomWord a0 a228_ := jfr_tr hf hf228_ rfl
        have hf247_ : jfr jW_X10_takeAtomWord a0 a234_ := jfr_tr hf246_ hf234_ rfl
        have hf248_ : jfr jW_X10_takeAtomWord a0 a240_ := jfr_tr hf247_ hf240_ rfl
        have h249_ : a240_ 2 3 = a234_ 2 3 := hf240_ 2 3 rfl
        exact cp_X10_takeAtomWord_84 E d hd a0 b0 hv0 a240_ hv240_ hf248_ (fun hz0 => ⟨hn hz0, (by have q := (hq228_4 (by omega)).resolve_left (fun h => h (by omega)); rw [show a 3 = a0 3 from funext (fun j => hf 3 j rfl), show a 2 1 = a0 2 1 from hf 2 1 rfl, show a 2 2 = a0 2 2 from by omega] at q; exact q), (by have q := (hq234_4 (by omega)).resolve_left (fun h => h (by omega)); rw [show a228_ 3 = a0 3 from funext (fun j => hf246_ 3 j rfl), show a228_ 2 1 = a0 2 1 from hf246_ 2 1 rfl, show a228_ 2 2 = a0 2 2 from by omega] at q; exact q), (by have q := (hq240_4 (by omega)).resolve_left (fun h => h (by omega)); rw [show a234_ 3 = a0 3 from funext (fun j => hf247_ 3 j rfl), show a234_ 2 1 = a0 2 1 from hf247_ 2 1 rfl, show a234_ 2 2 = a0 2 2 from by omega] at q; exact q)⟩) (show a240_ 2 2 = a0 2 2 from by omega) (show a240_ 2 3 = a0 2 3 from by omega)
      ·
        have hf250_ : jfr jW_X10_takeAtomWord a0 a228_ := jfr_tr hf hf228_ rfl
        have hf251_ : jfr jW_X10_takeAtomWord a0 a234_ := jfr_tr hf250_ hf234_ rfl
        have hf252_ : jfr jW_X10_takeAtomWord a0 a240_ := jfr_tr hf251_ hf240_ rfl
        exact cp_X10_takeAtomWord_82 E d hd a0 b0 hv0 a240_ hv240_ hf252_ (show a0 2 3 = 0 from by omega) (by have q := (hq240_3 (by omega)).2.1; rw [show a234_ 3 = a0 3 from funext (fun j => hf251_ 3 j rfl), show a234_ 2 1 = a0 2 1 from hf251_ 2 1 rfl, show a234_ 2 2 = a0 2 2 from by omega] at q; exact q) (by have q := (hq240_3 (by omega)).2.2; rw [show a234_ 3 = a0 3 from funext (fun j => hf251_ 3 j rfl), show a234_ 2 1 = a0 2 1 from hf251_ 2 1 rfl, show a234_ 2 2 = a0 2 2 from by omega] at q; exact q)
    ·
      have hf253_ : jfr jW_X10_takeAtomWord a0 a228_ := jfr_tr hf hf228_ rfl
      have hf254_ : jfr jW_X10_takeAtomWord a0 a234_ := jfr_tr hf253_ hf234_ rfl
      exact jt_rI ⟨hv234_, hf254_, rfl, (fun _ => by have q := (hq234_3 (by omega)).2.1; rw [show a228_ 3 = a0 3 from funext (fun j => hf253_ 3 j rfl), show a228_ 2 1 = a0 2 1 from hf253_ 2 1 rfl, show a228_ 2 2 = a0 2 2 from by omega] at q; exact (AK_w (w := 4) (by decide) q).symm), (fun _ _ => by have q := (hq234_3 (by omega)).2.1; have q2 := (hq234_3 (by omega)).2.2; rw [show a228_ 3 = a0 3 from funext (fun j => hf253_ 3 j rfl), show a228_ 2 1 = a0 2 1 from hf253_ 2 1 rfl, show a228_ 2 2 = a0 2 2 from by omega] at q; rw [show a228_ 3 = a0 3 from funext (fun j => hf253_ 3 j rfl), show a228_ 2 1 = a0 2 1 from hf253_ 2 1 rfl, show a228_ 2 2 = a0 2 2 from by omega] at q2; rw [AQ_w (w := 4) (by decide) q]; exact q2), (fun _ h => absurd h (by decide)), (fun h => absurd (by omega) h)⟩
  ·
    have hf255_ : jfr jW_X10_takeAtomWord a0 a228_ := jfr_tr hf hf228_ rfl
    exact jt_rI ⟨hv228_, hf255_, rfl, (fun _ => by have q := (hq228_3 (by omega)).2.1; rw [show a 3 = a0 3 from funext (fun j => hf 3 j rfl), show a 2 1 = a0 2 1 from hf 2 1 rfl, show a 2 2 = a0 2 2 from by omega] at q; exact (AK_w (w := 3) (by decide) q).symm), (fun _ _ => by have q := (hq228_3 (by omega)).2.1; have q2 := (hq228_3 (by omega)).2.2; rw [show a 3 = a0 3 from funext (fun j => hf 3 j rfl), show a 2 1 = a0 2 1 from hf 2 1 rfl, show a 2 2 = a0 2 2 from by omega] at q; rw [show a 3 = a0 3 from funext (fun j => hf 3 j rfl), show a 2 1 = a0 2 1 from hf 2 1 rfl, show a 2 2 = a0 2 2 from by omega] at q2; rw [AQ_w (w := 3) (by decide) q]; exact q2), (fun _ h => absurd h (by decide)), (fun h => absurd (by omega) h)⟩
theorem sp_X10_takeAtomWord (E : jxE) (d : Nat) (hd : Nat.ble 6 d = true) (a0 b0 : Nat → Nat → Int) (hv0 : iv a0) : jt (jxC E d 147 [.inr (.inr (.inl 11))] (jxSH, a0, b0)) (jQ_X10_takeAtomWord a0 b0) := by
  obtain ⟨d, rfl⟩ := jd_succ hd
  refine jt_eq (bq_X10_takeAtomWord E d a0 b0) ?_
  refine jt_bI (sp_X8_takesWord_r1001 E d (jd_le hd rfl) a0 b0 hv0) (fun r256_ a256_ b256_ h256_ => ?_)
  obtain ⟨hv256_, hf256_, rfl, hq256_0, hq256_1, hq256_2, hq256_3, hq256_4⟩ := h256_
  have h257_ := iv_get hv0 (k := 2) (j := 1) (l := 0) (u := 200) rfl
  have h258_ := iv_get hv0 (k := 2) (j := 2) (l := 0) (u := 200) rfl
  have h259_ := iv_get hv256_ (k := 2) (j := 2) (l := 0) (u := 200) rfl
  have hz256 := hf256_ 2 3 rfl
  refine jt_ite (fun c260_ => ?_) (fun c260_ => ?_)
  ·
    refine jt_bI (sp_X8_takesWord_r1002 E d (jd_le hd rfl) a256_ b0 hv256_) (fun r261_ a261_ b261_ h261_ => ?_)
    obtain ⟨hv261_, hf261_, rfl, hq261_0, hq261_1, hq261_2, hq261_3, hq261_4⟩ := h261_
    have h262_ : a256_ 2 3 = a0 2 3 := hf256_ 2 3 rfl
    have h263_ := iv_get hv256_ (k := 2) (j := 1) (l := 0) (u := 200) rfl
    have h264_ : a256_ 2 1 = a0 2 1 := hf256_ 2 1 rfl
    have h265_ := iv_get hv261_ (k := 2) (j := 2) (l := 0) (u := 200) rfl
    have hz261 := hf261_ 2 3 rfl
    refine jt_ite (fun c266_ => ?_) (fun c266_ => ?_)
    ·
      refine jt_bI (sp_X8_takesWord_r1003 E d (jd_le hd rfl) a261_ b0 hv261_) (fun r267_ a267_ b267_ h267_ => ?_)
      obtain ⟨hv267_, hf267_, rfl, hq267_0, hq267_1, hq267_2, hq267_3, hq267_4⟩ := h267_
      have h268_ : a261_ 2 3 = a256_ 2 3 := hf261_ 2 3 rfl
      have h269_ := iv_get hv261_ (k := 2) (j := 1) (l := 0) (u := 200) rfl
      have h270_ : a261_ 2 1 = a256_ 2 1 := hf261_ 2 1 rfl
      have h271_ := iv_get hv267_ (k := 2) (j := 2) (l := 0) (u := 200) rfl
      have hz267 := hf267_ 2 3 rfl
      refine jt_ite (fun c272_ => ?_) (fun c272_ => ?_)
      ·
        have hf273_ : jfr jW_X10_takeAtomWord a0 a256_ := jfr_tr (jfr_rf _ _) hf256_ rfl
        have hf274_ : jfr jW_X10_takeAtomWord a0 a261_ := jfr_tr hf273_ hf261_ rfl
        have hf275_ : jfr jW_X10_takeAtomWord a0 a267_ := jfr_tr hf274_ hf267_ rfl
        have h276_ : a267_ 2 3 = a261_ 2 3 := hf267_ 2 3 rfl
        exact cp_X10_takeAtomWord_42 E d hd a0 b0 hv0 a267_ hv267_ hf275_ (fun hz0 => ⟨(by have q := (hq256_4 (by omega)).resolve_left (fun h => h (by omega)); exact q), (by have q := (hq261_4 (by omega)).resolve_left (fun h => h (by omega)); rw [show a256_ 3 = a0 3 from funext (fun j => hf273_ 3 j rfl), show a256_ 2 1 = a0 2 1 from hf273_ 2 1 rfl, show a256_ 2 2 = a0 2 2 from by omega] at q; exact q), (by have q := (hq267_4 (by omega)).resolve_left (fun h => h (by omega)); rw [show a261_ 3 = a0 3 from funext (fun j => hf274_ 3 j rfl), show a261_ 2 1 = a0 2 1 from hf274_ 2 1 rfl, show a261_ 2 2 = a0 2 2 from by omega] at q; exact q)⟩) (show a267_ 2 2 = a0 2 2 from by omega) (show a267_ 2 3 = a0 2 3 from by omega)
      ·
        have hf277_ : jfr jW_X10_takeAtomWord a0 a256_ := jfr_tr (jfr_rf _ _) hf256_ rfl
        have hf278_ : jfr jW_X10_takeAtomWord a0 a261_ := jfr_tr hf277_ hf261_ rfl
        have hf279_ : jfr jW_X10_takeAtomWord a0 a267_ := jfr_tr hf278_ hf267_ rfl
        exact cp_X10_takeAtomWord_40 E d hd a0 b0 hv0 a267_ hv267_ hf279_ (show a0 2 3 = 0 from by omega) (by have q := (hq267_3 (by omega)).2.1; rw [show a261_ 3 = a0 3 from funext (fun j => hf278_ 3 j rfl), show a261_ 2 1 = a0 2 1 from hf278_ 2 1 rfl, show a261_ 2 2 = a0 2 2 from by omega] at q; exact q) (by have q := (hq267_3 (by omega)).2.2; rw [show a261_ 3 = a0 3 from funext (fun j => hf278_ 3 j rfl), show a261_ 2 1 = a0 2 1 from hf278_ 2 1 rfl, show a261_ 2 2 = a0 2 2 from by omega] at q; exact q)
    ·
      have hf280_ : jfr jW_X10_takeAtomWord a0 a256_ := jfr_tr (jfr_rf _ _) hf256_ rfl
      have hf281_ : jfr jW_X10_takeAtomWord a0 a261_ := jfr_tr hf280_ hf261_ rfl
      exact jt_rI ⟨hv261_, hf281_, rfl, (fun _ => by have q := (hq261_3 (by omega)).2.1; rw [show a256_ 3 = a0 3 from funext (fun j => hf280_ 3 j rfl), show a256_ 2 1 = a0 2 1 from hf280_ 2 1 rfl, show a256_ 2 2 = a0 2 2 from by omega] at q; exact (AK_w (w := 1) (by decide) q).symm), (fun _ _ => by have q := (hq261_3 (by omega)).2.1; have q2 := (hq261_3 (by omega)).2.2; rw [show a256_ 3 = a0 3 from funext (fun j => hf280_ 3 j rfl), show a256_ 2 1 = a0 2 1 from hf280_ 2 1 rfl, show a256_ 2 2 = a0 2 2 from by omega] at q; rw [show a256_ 3 = a0 3 from funext (fun j => hf280_ 3 j rfl), show a256_ 2 1 = a0 2 1 from hf280_ 2 1 rfl, show a256_ 2 2 = a0 2 2 from by omega] at q2; rw [AQ_w (w := 1) (by decide) q]; exact q2), (fun _ h => absurd h (by decide)), (fun h => absurd (by omega) h)⟩
  ·
    have hf282_ : jfr jW_X10_takeAtomWord a0 a256_ := jfr_tr (jfr_rf _ _) hf256_ rfl
    exact jt_rI ⟨hv256_, hf282_, rfl, (fun _ => by have q := (hq256_3 (by omega)).2.1; exact (AK_w (w := 0) (by decide) q).symm), (fun _ _ => by have q := (hq256_3 (by omega)).2.1; have q2 := (hq256_3 (by omega)).2.2; rw [AQ_w (w := 0) (by decide) q]; exact q2), (fun _ h => absurd h (by decide)), (fun h => absurd (by omega) h)⟩
def jW_X10_readAtom : List (Nat × Nat) := [(2, 2), (2, 3), (11, 6), (11, 7), (54, 9999)]
abbrev jQ_X10_readAtom (x1 : Int) (a0 b0 : Nat → Nat → Int) : List jxV → (Nat → Nat → Int) → (Nat → Nat → Int) → Prop := rV (fun a b => (iv a) ∧ (jfr jW_X10_readAtom a0 a) ∧ (b0 = b) ∧ (PAtom a0 a x1) ∧ (¬ a0 2 3 = 0 → a 2 3 = a0 2 3) ∧ (a0 11 6 ≤ a 11 6))
theorem cp_X10_readAtom_36 (E : jxE) (d : Nat) (hd : Nat.ble 7 (d + 1) = true) (x1 : Int) (a0 b0 : Nat → Nat → Int) (hv0 : iv a0) : ∀ (a : Nat → Nat → Int), iv a → jfr jW_X10_readAtom a0 a → 12 ≤ a 11 7 → (PAtom a0 a x1) → (¬ a0 2 3 = 0 → a 2 3 = a0 2 3) → a0 11 6 ≤ a 11 6 → jt (jxX E d 146 36 [none, none, none, none] [] (jxSH, a, b0)) (jQ_X10_readAtom x1 a0 b0) := by
  intro a hv hf hi0 hpa hfk hi3
  refine jt_eq (bq_X10_readAtom_36 E d a b0) ?_
  have h283_ := iv_get hv (k := 11) (j := 7) (l := 0) (u := 12) rfl
  have h284_ := iv_get hv0 (k := 11) (j := 6) (l := 0) (u := 40) rfl
  have h285_ := iv_get hv (k := 11) (j := 6) (l := 0) (u := 40) rfl
  have h3 : a 3 = a0 3 := funext fun j => hf 3 j rfl
  have h21 := hf 2 1 rfl
  exact jt_rV ⟨hv, hf, rfl, hpa, hfk, (show a0 11 6 ≤ a 11 6 from by omega)⟩
theorem cp_X10_readAtom_75 (E : jxE) (d : Nat) (hd : Nat.ble 7 (d + 1) = true) (x1 : Int) (a0 b0 : Nat → Nat → Int) (hv0 : iv a0) : ∀ (a : Nat → Nat → Int), iv a → jfr jW_X10_readAtom a0 a → 1 ≤ a 11 7 → (PAtom a0 a x1) → (¬ a0 2 3 = 0 → a 2 3 = a0 2 3) → a0 11 6 ≤ a 11 6 → jt (jxX E d 146 75 [none, none, none, none] [] (jxSH, a, b0)) (jQ_X10_readAtom x1 a0 b0) := by
  intro a hv hf hi0 hpa hfk hi3
  refine jt_eq (bq_X10_readAtom_75 E d a b0) ?_
  have h286_ := iv_get hv (k := 11) (j := 7) (l := 0) (u := 12) rfl
  have h287_ := iv_get hv0 (k := 11) (j := 6) (l := 0) (u := 40) rfl
  have h288_ := iv_get hv (k := 11) (j := 6) (l := 0) (u := 40) rfl
  have h3 : a 3 = a0 3 := funext fun j => hf 3 j rfl
  have h21 := hf 2 1 rfl
  exact jt_rV ⟨hv, hf, rfl, hpa, hfk, (show a0 11 6 ≤ a 11 6 from by omega)⟩
theorem cp_X10_readAtom_47 (E : jxE) (d : Nat) (hd : Nat.ble 7 (d + 1) = true) (x1 : Int) (a0 b0 : Nat → Nat → Int) (hv0 : iv a0) : ∀ (y2 : Int) (a : Nat → Nat → Int), iv a → jfr jW_X10_readAtom a0 a → 1 ≤ a 11 7 → a0 2 3 = 0 → a 2 3 = 0 → (y2 = AK (a0 3) (a0 2 1).toNat (a0 2 2).toNat) → 0 ≤ y2 → y2 ≤ 6 → (a 2 2 = (AQ (a0 3) (a0 2 1).toNat (a0 2 2).toNat : Int)) → a 11 6 = a0 11 6 → a 11 7 = (a0 11 7) + 1 → a0 11 7 ≤ 11 → (∀ j, a 54 j = a0 54 j) → jt (jxX E d 146 47 [some (.inr (.inr (.inl 11))), none, some (.inl y2), none] [] (jxSH, a, b0)) (jQ_X10_readAtom x1 a0 b0) := by
  intro y2 a hv hf hi0 hi1 hi2 hy2 hi4 hi5 hat hi7 hi8 hi9 hs54
  refine jt_eq (bq_X10_readAtom_47 E d y2 a b0) ?_
  have h289_ := iv_get hv (k := 11) (j := 7) (l := 0) (u := 12) rfl
  have h290_ := iv_get hv (k := 11) (j := 6) (l := 0) (u := 40) rfl
  have h291_ := iv_get hv0 (k := 11) (j := 6) (l := 0) (u := 40) rfl
  have h292_ := iv_get hv0 (k := 11) (j := 7) (l := 0) (u := 12) rfl
  have h3 : a 3 = a0 3 := funext fun j => hf 3 j rfl
  have h21 := hf 2 1 rfl
  have hgn := gn10 a b0 y2 (by omega) (by omega)
  have hP : (a 2 2).toNat = AQ (a0 3) (a0 2 1).toNat (a0 2 2).toNat := by rw [hat]; exact Int.toNat_natCast _
  have hnb := NV_bd (a0 3) (a0 2 1).toNat (AQ (a0 3) (a0 2 1).toNat (a0 2 2).toNat)
  refine jt_eI (eq_X10_greatestNumber E d (jd_le hd rfl) y2 a b0) ?_
  refine jt_ite (fun c293_ => ?_) (fun c293_ => ?_)
  ·
    refine jt_bV (sp_X10_addStep E d (jd_le hd rfl) y2 0 a b0 hv) (fun a294_ b294_ h294_ => ?_)
    obtain ⟨hv294_, hf294_, rfl, hq294_0, hq294_1, hq294_2⟩ := h294_
    have h295_ := iv_get hv294_ (k := 11) (j := 6) (l := 0) (u := 40) rfl
    have hf296_ : jfr jW_X10_readAtom a0 a294_ := jfr_tr hf hf294_ rfl
    have h297_ := iv_get hv294_ (k := 11) (j := 7) (l := 0) (u := 12) rfl
    have h298_ : a294_ 11 7 = a 11 7 := hf294_ 11 7 rfl
    exact cp_X10_readAtom_75 E d hd x1 a0 b0 hv0 a294_ hv294_ hf296_ (show 1 ≤ a294_ 11 7 from by omega) (PAtom_p (by omega) (by omega) (by rw [← hy2, ← hgn]; assumption) (by omega) (by rw [hf294_ 2 3 rfl]; omega) (fun h => ⟨by omega, by have q := hq294_2 (by omega); rw [show jxw ((jxw (y2 * 1000)) + 0) = y2 * 1000 from by rw [jxw_id (x := y2 * 1000) (by omega) (by omega), jxw_id (by omega) (by omega)]; omega, hy2, show (a 11 6).toNat = (a0 11 6).toNat from by omega] at q; exact UP_cl q hs54⟩) (by rw [hf294_ 2 2 rfl]; exact hat) (by rw [hf294_ 11 7 rfl]; omega)) (fun h => by omega) (show a0 11 6 ≤ a294_ 11 6 from by omega)
  ·
    refine jt_bI (sp_X8_takeNumber E d (jd_le hd rfl) 0 (f_X10_greatestNumber a b0 y2) a b0 hv) (fun r299_ a299_ b299_ h299_ => ?_)
    obtain ⟨hv299_, hf299_, rfl, hq299_0, hq299_1, hq299_2, hq299_3⟩ := h299_
    refine jt_bV (sp_X10_addStep E d (jd_le hd rfl) y2 r299_ a299_ b0 hv299_) (fun a300_ b300_ h300_ => ?_)
    obtain ⟨hv300_, hf300_, rfl, hq300_0, hq300_1, hq300_2⟩ := h300_
    have h301_ := iv_get hv299_ (k := 11) (j := 6) (l := 0) (u := 40) rfl
    have h302_ : a299_ 11 6 = a 11 6 := hf299_ 11 6 rfl
    have h303_ := iv_get hv300_ (k := 11) (j := 6) (l := 0) (u := 40) rfl
    have hf304_ : jfr jW_X10_readAtom a0 a299_ := jfr_tr hf hf299_ rfl
    have hf305_ : jfr jW_X10_readAtom a0 a300_ := jfr_tr hf304_ hf300_ rfl
    have h306_ := iv_get hv300_ (k := 11) (j := 7) (l := 0) (u := 12) rfl
    have h307_ : a300_ 11 7 = a299_ 11 7 := hf300_ 11 7 rfl
    have h308_ := iv_get hv299_ (k := 11) (j := 7) (l := 0) (u := 12) rfl
    have h309_ : a299_ 11 7 = a 11 7 := hf299_ 11 7 rfl
    exact cp_X10_readAtom_75 E d hd x1 a0 b0 hv0 a300_ hv300_ hf305_ (show 1 ≤ a300_ 11 7 from by omega) (PAtom_n (by omega) (by omega) (by rw [← hy2, ← hgn]; assumption) (by omega) (by have e0 := hq299_0; have e1 := hq299_1; have e2 := hq299_2; rw [h3, h21, hP] at e0 e1 e2; rw [if_pos (show a 2 3 = 0 from by omega), hgn, hy2] at e2; rw [hf300_ 2 3 rfl]; exact e2) (fun h => by have e0 := hq299_0; have e1 := hq299_1; have e2 := hq299_2; rw [h3, h21, hP] at e0 e1 e2; rw [if_pos (show a 2 3 = 0 from by omega), hgn, hy2] at e2; have h6 := hf299_ 11 6 rfl; refine ⟨by omega, ?_⟩; have q := hq300_2 (by omega); rw [show jxw ((jxw (y2 * 1000)) + r299_) = y2 * 1000 + r299_ from by rw [jxw_id (x := y2 * 1000) (by omega) (by omega), jxw_id (by omega) (by omega)], hy2, e0, show (a299_ 11 6).toNat = (a0 11 6).toNat from by omega] at q; exact UP_cl q (fun j => (hf299_ 54 j rfl).trans (hs54 j))) (by have e0 := hq299_0; have e1 := hq299_1; have e2 := hq299_2; rw [h3, h21, hP] at e0 e1 e2; rw [if_pos (show a 2 3 = 0 from by omega), hgn, hy2] at e2; rw [hf300_ 2 2 rfl]; exact e1) (by rw [hf300_ 11 7 rfl, hf299_ 11 7 rfl]; omega)) (fun h => by omega) (show a0 11 6 ≤ a300_ 11 6 from by omega)
theorem sp_X10_readAtom (E : jxE) (d : Nat) (hd : Nat.ble 7 d = true) (x1 : Int) (a0 b0 : Nat → Nat → Int) (hv0 : iv a0) : jt (jxC E d 146 [.inr (.inr (.inl 11)), .inl x1] (jxSH, a0, b0)) (jQ_X10_readAtom x1 a0 b0) := by
  obtain ⟨d, rfl⟩ := jd_succ hd
  refine jt_eq (bq_X10_readAtom E d x1 a0 b0) ?_
  refine jt_bI (sp_X10_takeAtomWord E d (jd_le hd rfl) a0 b0 hv0) (fun r310_ a310_ b310_ h310_ => ?_)
  obtain ⟨hv310_, hf310_, rfl, hq310_0, hq310_1, hq310_2, hq310_3⟩ := h310_
  have hta0_310 := hq310_0
  have hta1_310 := hq310_1
  have hta2_310 := hq310_2
  have hta3_310 := hq310_3
  have hz310 := hf310_ 2 3 rfl
  have h117_310 := hf310_ 11 7 rfl
  have h116_310 := hf310_ 11 6 rfl
  have hak310 := AK_sp (a0 3) (a0 2 1).toNat (a0 2 2).toNat
  have i117_310 := iv_get hv0 (k := 11) (j := 7) (l := 0) (u := 12) rfl
  have i22_310 := iv_get hv0 (k := 2) (j := 2) (l := 0) (u := 200) rfl
  refine jt_ite (fun c311_ => ?_) (fun c311_ => ?_)
  ·
    refine jt_bV (sp_X8_noteCannotStand E d (jd_le hd rfl) a310_ b0 hv310_) (fun a312_ b312_ h312_ => ?_)
    obtain ⟨hv312_, hf312_, rfl, hq312_0, hq312_1⟩ := h312_
    have h313_ : a310_ 2 3 = a0 2 3 := hf310_ 2 3 rfl
    have h314_ := iv_get hv310_ (k := 2) (j := 2) (l := 0) (u := 200) rfl
    have hf315_ : jfr jW_X10_readAtom a0 a310_ := jfr_tr (jfr_rf _ _) hf310_ rfl
    have hf316_ : jfr jW_X10_readAtom a0 a312_ := jfr_tr hf315_ hf312_ rfl
    have h317_ := iv_get hv0 (k := 11) (j := 6) (l := 0) (u := 40) rfl
    have h318_ := iv_get hv312_ (k := 11) (j := 6) (l := 0) (u := 40) rfl
    have h319_ : a312_ 11 6 = a310_ 11 6 := hf312_ 11 6 rfl
    have h320_ := iv_get hv310_ (k := 11) (j := 6) (l := 0) (u := 40) rfl
    have h321_ : a310_ 11 6 = a0 11 6 := hf310_ 11 6 rfl
    exact jt_rV ⟨hv312_, hf316_, rfl, (fun hz0 => PAtom_0 (by have e := hta0_310 hz0; omega) (by omega) (fun hz => by have e := hta2_310 hz (by omega); omega) hz0), (fun h => by omega), (show a0 11 6 ≤ a312_ 11 6 from by omega)⟩
  ·
    have h322_ := iv_get hv310_ (k := 11) (j := 7) (l := 0) (u := 12) rfl
    have h323_ : a310_ 11 7 = a0 11 7 := hf310_ 11 7 rfl
    have h324_ := iv_get hv0 (k := 11) (j := 7) (l := 0) (u := 12) rfl
    refine jt_ite (fun c325_ => ?_) (fun c325_ => ?_)
    ·
      have h327_ : jxw ((a310_ 11 7) + 1) = (a310_ 11 7) + 1 := jxw_id (by omega) (by omega)
      have hv326_ : iv (jxu a310_ 11 7 (jxw ((a310_ 11 7) + 1))) := iv_put hv310_ (l := 0) (u := 12) rfl (by omega) (by omega)
      have hf328_ : jfr jW_X10_readAtom a0 a310_ := jfr_tr (jfr_rf _ _) hf310_ rfl
      have hf329_ : jfr jW_X10_readAtom a0 (jxu a310_ 11 7 (jxw ((a310_ 11 7) + 1))) := jfr_put hf328_ rfl
      have h330_ : a310_ 2 3 = a0 2 3 := hf310_ 2 3 rfl
      have h331_ := iv_get hv310_ (k := 11) (j := 6) (l := 0) (u := 40) rfl
      have h332_ : a310_ 11 6 = a0 11 6 := hf310_ 11 6 rfl
      have h333_ := iv_get hv0 (k := 11) (j := 6) (l := 0) (u := 40) rfl
      exact cp_X10_readAtom_47 E d hd x1 a0 b0 hv0 r310_ (jxu a310_ 11 7 (jxw ((a310_ 11 7) + 1))) hv326_ hf329_ (show 1 ≤ jxw ((a310_ 11 7) + 1) from by omega) (show a0 2 3 = 0 from by omega) (show a310_ 2 3 = 0 from by omega) (hta0_310 (by have z := hta3_310; omega)) (show 0 ≤ r310_ from by omega) (show r310_ ≤ 6 from by omega) (hta1_310 (by have z := hta3_310; omega) (by have z := hta3_310; have z2 := hta0_310; omega)) (show a310_ 11 6 = a0 11 6 from by omega) (show jxw ((a310_ 11 7) + 1) = (a0 11 7) + 1 from by omega) (show a0 11 7 ≤ 11 from by omega) (fun j => (hf310_ 54 j rfl))
    ·
      refine jt_bV (sp_X8_noteFault E d (jd_le hd rfl) x1 2 a310_ b0 hv310_) (fun a334_ b334_ h334_ => ?_)
      obtain ⟨hv334_, hf334_, rfl, hq334_0, hq334_1⟩ := h334_
      have h335_ : a310_ 2 3 = a0 2 3 := hf310_ 2 3 rfl
      have hf336_ : jfr jW_X10_readAtom a0 a310_ := jfr_tr (jfr_rf _ _) hf310_ rfl
      have hf337_ : jfr jW_X10_readAtom a0 a334_ := jfr_tr hf336_ hf334_ rfl
      have h338_ := iv_get hv334_ (k := 11) (j := 7) (l := 0) (u := 12) rfl
      have h339_ : a334_ 11 7 = a310_ 11 7 := hf334_ 11 7 rfl
      have h340_ := iv_get hv0 (k := 11) (j := 6) (l := 0) (u := 40) rfl
      have h341_ := iv_get hv334_ (k := 11) (j := 6) (l := 0) (u := 40) rfl
      have h342_ : a334_ 11 6 = a310_ 11 6 := hf334_ 11 6 rfl
      have h343_ := iv_get hv310_ (k := 11) (j := 6) (l := 0) (u := 40) rfl
      have h344_ : a310_ 11 6 = a0 11 6 := hf310_ 11 6 rfl
      exact cp_X10_readAtom_36 E d hd x1 a0 b0 hv0 a334_ hv334_ hf337_ (show 12 ≤ a334_ 11 7 from by omega) (PAtom_13 (by have z := hta3_310; have z2 := hta0_310; omega) (by omega) (by omega) (fun hz hx => by omega)) (fun h => by omega) (show a0 11 6 ≤ a334_ 11 6 from by omega)
def jW_X8_takesSign : List (Nat × Nat) := [(2, 2)]
abbrev jQ_X8_takesSign (x1 : Int) (a0 b0 : Nat → Nat → Int) : List jxV → (Nat → Nat → Int) → (Nat → Nat → Int) → Prop := rI (fun r a b => (iv a) ∧ (jfr jW_X8_takesSign a0 a) ∧ (b0 = b) ∧ ((0 ≤ r ∧ r ≤ 1)) ∧ (((¬ a0 2 3 = 0 ∨ a0 2 1 ≤ a0 2 2) → (r = 0 ∧ a 2 2 = a0 2 2))) ∧ (r = 1 → a0 2 3 = 0 ∧ (a0 2 2).toNat < (a0 2 1).toNat ∧ (a0 3) (a0 2 2).toNat = x1 ∧ a 2 2 = ((SK (a0 3) (a0 2 1).toNat ((a0 2 2).toNat + 1) : Nat) : Int)) ∧ (r = 0 → ¬ a0 2 3 = 0 ∨ (a0 2 1).toNat ≤ (a0 2 2).toNat ∨ ¬ (a0 3) (a0 2 2).toNat = x1) ∧ ((r = 0 → a 2 2 = a0 2 2)))
theorem cp_X8_takesSign_31 (E : jxE) (d : Nat) (hd : Nat.ble 2 (d + 1) = true) (x1 : Int) (a0 b0 : Nat → Nat → Int) (hv0 : iv a0) : ∀ (a : Nat → Nat → Int), iv a → jfr jW_X8_takesSign a0 a → a 2 2 = a0 2 2 → (¬ a0 2 3 = 0 ∨ (a0 2 1).toNat ≤ (a0 2 2).toNat ∨ ¬ (a0 3) (a0 2 2).toNat = x1) → jt (jxX E d 129 31 [none, none] [] (jxSH, a, b0)) (jQ_X8_takesSign x1 a0 b0) := by
  intro a hv hf hi0 hno
  refine jt_eq (bq_X8_takesSign_31 E d a b0) ?_
  have h345_ := iv_get hv (k := 2) (j := 2) (l := 0) (u := 200) rfl
  have h346_ := iv_get hv0 (k := 2) (j := 2) (l := 0) (u := 200) rfl
  have h347_ := iv_get hv0 (k := 2) (j := 1) (l := 0) (u := 200) rfl
  exact jt_rI ⟨hv, hf, rfl, (show (0 ≤ 0 ∧ 0 ≤ 1) from by omega), (show ((¬ a0 2 3 = 0 ∨ a0 2 1 ≤ a0 2 2) → (0 = 0 ∧ a 2 2 = a0 2 2)) from by omega), (by first | exact (fun h => absurd h (by decide)) | exact (fun _ => ⟨by omega, by omega, hyes, by have h := hq0_1; rw [show (a0 2 2).toNat + 1 = (jxw ((a 2 2) + 1)).toNat from by omega, ← h3, ← h21]; exact h⟩)), (by first | exact (fun _ => hno) | exact (fun h => absurd h (by decide))), (show (0 = 0 → a 2 2 = a0 2 2) from by omega)⟩
theorem cp_X8_takesSign_33 (E : jxE) (d : Nat) (hd : Nat.ble 2 (d + 1) = true) (x1 : Int) (a0 b0 : Nat → Nat → Int) (hv0 : iv a0) : ∀ (a : Nat → Nat → Int), iv a → jfr jW_X8_takesSign a0 a → 1 ≤ a 2 1 → a 2 2 ≤ 199 → a0 2 3 = 0 → a0 2 2 < a0 2 1 → a 2 2 = a0 2 2 → ((a0 3) (a0 2 2).toNat = x1) → jt (jxX E d 129 33 [some (.inr (.inr (.inl 2))), none] [] (jxSH, a, b0)) (jQ_X8_takesSign x1 a0 b0) := by
  intro a hv hf hi0 hi1 hi2 hi3 hi4 hyes
  refine jt_eq (bq_X8_takesSign_33 E d a b0) ?_
  have h348_ := iv_get hv (k := 2) (j := 1) (l := 0) (u := 200) rfl
  have h349_ : a 2 1 = a0 2 1 := hf 2 1 rfl
  have h350_ := iv_get hv0 (k := 2) (j := 1) (l := 0) (u := 200) rfl
  have h351_ := iv_get hv (k := 2) (j := 2) (l := 0) (u := 200) rfl
  have h352_ := iv_get hv0 (k := 2) (j := 2) (l := 0) (u := 200) rfl
  have h3 : a 3 = a0 3 := funext fun j => hf 3 j rfl
  have h21 := hf 2 1 rfl
  have h354_ : jxw ((a 2 2) + 1) = (a 2 2) + 1 := jxw_id (by omega) (by omega)
  have hv353_ : iv (jxu a 2 2 (jxw ((a 2 2) + 1))) := iv_put hv (l := 0) (u := 200) rfl (by omega) (by omega)
  refine jt_bV (sp_X8_skipBlanks E d (jd_le hd rfl) (jxu a 2 2 (jxw ((a 2 2) + 1))) b0 hv353_) (fun a355_ b355_ h355_ => ?_)
  obtain ⟨hv355_, hf355_, rfl, hq355_0, hq355_1⟩ := h355_
  have h356_ := iv_get hv355_ (k := 2) (j := 2) (l := 0) (u := 200) rfl
  have h357_ : (a 2 1 ≤ jxw ((a 2 2) + 1) → a355_ 2 2 = jxw ((a 2 2) + 1)) := hq355_0
  have hf358_ : jfr jW_X8_takesSign a0 (jxu a 2 2 (jxw ((a 2 2) + 1))) := jfr_put hf rfl
  have hf359_ : jfr jW_X8_takesSign a0 a355_ := jfr_tr hf358_ hf355_ rfl
  exact jt_rI ⟨hv355_, hf359_, rfl, (show (0 ≤ 1 ∧ 1 ≤ 1) from by omega), (show ((¬ a0 2 3 = 0 ∨ a0 2 1 ≤ a0 2 2) → (1 = 0 ∧ a355_ 2 2 = a0 2 2)) from by omega), (by first | exact (fun h => absurd h (by decide)) | exact (fun _ => ⟨by omega, by omega, hyes, by have h := hq355_1; rw [show (a0 2 2).toNat + 1 = (jxw ((a 2 2) + 1)).toNat from by omega, ← h3, ← h21]; exact h⟩)), (by first | exact (fun _ => hno) | exact (fun h => absurd h (by decide))), (show (1 = 0 → a355_ 2 2 = a0 2 2) from by omega)⟩
theorem sp_X8_takesSign (E : jxE) (d : Nat) (hd : Nat.ble 2 d = true) (x1 : Int) (a0 b0 : Nat → Nat → Int) (hv0 : iv a0) : jt (jxC E d 129 [.inr (.inr (.inl 2)), .inl x1] (jxSH, a0, b0)) (jQ_X8_takesSign x1 a0 b0) := by
  obtain ⟨d, rfl⟩ := jd_succ hd
  refine jt_eq (bq_X8_takesSign E d x1 a0 b0) ?_
  refine jt_eI (eq_X8_isFaulty E d (jd_le hd rfl) a0 b0) ?_
  have h360_ := f_X8_isFaulty_eq a0 b0
  refine jt_ite (fun c361_ => ?_) (fun c361_ => ?_)
  ·
    have h362_ := iv_get hv0 (k := 2) (j := 2) (l := 0) (u := 200) rfl
    have h363_ := iv_get hv0 (k := 2) (j := 1) (l := 0) (u := 200) rfl
    refine jt_ite (fun c364_ => ?_) (fun c364_ => ?_)
    ·
      refine jt_grd (by omega) ?_
      have h365_ := iv_get hv0 (k := 3) (j := (a0 2 2).toNat) (l := 0) (u := 255) rfl
      refine jt_ite (fun c366_ => ?_) (fun c366_ => ?_)
      ·
        exact cp_X8_takesSign_33 E d hd x1 a0 b0 hv0 a0 hv0 (jfr_rf _ _) (show 1 ≤ a0 2 1 from by omega) (show a0 2 2 ≤ 199 from by omega) (show a0 2 3 = 0 from by omega) (show a0 2 2 < a0 2 1 from by omega) (show a0 2 2 = a0 2 2 from by omega) (by assumption)
      ·
        exact cp_X8_takesSign_31 E d hd x1 a0 b0 hv0 a0 hv0 (jfr_rf _ _) (show a0 2 2 = a0 2 2 from by omega) (by first | exact Or.inl (by omega) | exact Or.inr (Or.inl (by omega)) | exact Or.inr (Or.inr (by assumption)))
    ·
      exact cp_X8_takesSign_31 E d hd x1 a0 b0 hv0 a0 hv0 (jfr_rf _ _) (show a0 2 2 = a0 2 2 from by omega) (by first | exact Or.inl (by omega) | exact Or.inr (Or.inl (by omega)) | exact Or.inr (Or.inr (by assumption)))
  ·
    have h367_ := iv_get hv0 (k := 2) (j := 2) (l := 0) (u := 200) rfl
    exact cp_X8_takesSign_31 E d hd x1 a0 b0 hv0 a0 hv0 (jfr_rf _ _) (show a0 2 2 = a0 2 2 from by omega) (by first | exact Or.inl (by omega) | exact Or.inr (Or.inl (by omega)) | exact Or.inr (Or.inr (by assumption)))
def jW_X8_startReading : List (Nat × Nat) := [(2, 2), (2, 3)]
abbrev jQ_X8_startReading (a0 b0 : Nat → Nat → Int) : List jxV → (Nat → Nat → Int) → (Nat → Nat → Int) → Prop := rV (fun a b => (iv a) ∧ (jfr jW_X8_startReading a0 a) ∧ (b0 = b) ∧ (a 2 3 = 0) ∧ ((a0 2 1 = 0 → a 2 2 = 0)) ∧ (a 2 2 = ((SK (a0 3) (a0 2 1).toNat 0 : Nat) : Int)))
theorem sp_X8_startReading (E : jxE) (d : Nat) (hd : Nat.ble 2 d = true) (a0 b0 : Nat → Nat → Int) (hv0 : iv a0) : jt (jxC E d 121 [.inr (.inr (.inl 2))] (jxSH, a0, b0)) (jQ_X8_startReading a0 b0) := by
  obtain ⟨d, rfl⟩ := jd_succ hd
  refine jt_eq (bq_X8_startReading E d a0 b0) ?_
  have hv368_ : iv (jxu a0 2 2 0) := iv_put hv0 (l := 0) (u := 200) rfl (by omega) (by omega)
  have hv369_ : iv (jxu (jxu a0 2 2 0) 2 3 0) := iv_putf hv368_ rfl
  refine jt_bV (sp_X8_skipBlanks E d (jd_le hd rfl) (jxu (jxu a0 2 2 0) 2 3 0) b0 hv369_) (fun a370_ b370_ h370_ => ?_)
  obtain ⟨hv370_, hf370_, rfl, hq370_0, hq370_1⟩ := h370_
  have h371_ := iv_get hv0 (k := 2) (j := 1) (l := 0) (u := 200) rfl
  have h372_ := iv_get hv370_ (k := 2) (j := 2) (l := 0) (u := 200) rfl
  have h373_ : (a0 2 1 ≤ 0 → a370_ 2 2 = 0) := hq370_0
  have hf374_ : jfr jW_X8_startReading a0 (jxu a0 2 2 0) := jfr_put (jfr_rf _ _) rfl
  have hf375_ : jfr jW_X8_startReading a0 (jxu (jxu a0 2 2 0) 2 3 0) := jfr_put hf374_ rfl
  have hf376_ : jfr jW_X8_startReading a0 a370_ := jfr_tr hf375_ hf370_ rfl
  have h377_ : a370_ 2 3 = 0 := hf370_ 2 3 rfl
  exact jt_rV ⟨hv370_, hf376_, rfl, (show a370_ 2 3 = 0 from by omega), (show (a0 2 1 = 0 → a370_ 2 2 = 0) from by omega), hq370_1⟩
def jW_X7_add : List (Nat × Nat) := [(70, 9999), (71, 9999), (72, 9999), (73, 9999), (74, 9999), (75, 9999)]
abbrev jQ_X7_add (x1 x2 x3 x4 : Int) (a0 b0 : Nat → Nat → Int) : List jxV → (Nat → Nat → Int) → (Nat → Nat → Int) → Prop := rV (fun a b => (iv a) ∧ (jfr jW_X7_add a0 a) ∧ (b0 = b))
theorem cp_X7_add_104 (E : jxE) (d : Nat) (hd : Nat.ble 2 (d + 1) = true) (x1 x2 x3 x4 : Int) (a0 b0 : Nat → Nat → Int) (hv0 : iv a0) : ∀ (a : Nat → Nat → Int), iv a → jfr jW_X7_add a0 a → jt (jxX E d 109 104 [none, none, none, none, none] [] (jxSH, a, b0)) (jQ_X7_add x1 x2 x3 x4 a0 b0) := by
  intro a hv hf
  refine jt_eq (bq_X7_add_104 E d a b0) ?_
  exact jt_rV ⟨hv, hf, rfl⟩
theorem cp_X7_add_76 (E : jxE) (d : Nat) (hd : Nat.ble 2 (d + 1) = true) (x1 x2 x3 x4 : Int) (a0 b0 : Nat → Nat → Int) (hv0 : iv a0) : ∀ (y2 : Int) (a : Nat → Nat → Int), iv a → jfr jW_X7_add a0 a → 0 ≤ y2 → y2 ≤ 39 → jt (jxX E d 109 76 [some (.inr (.inr (.inl 69))), none, some (.inl y2), none, none] [] (jxSH, a, b0)) (jQ_X7_add x1 x2 x3 x4 a0 b0) := by
  intro y2 a hv hf hi0 hi1
  refine jt_eq (bq_X7_add_76 E d y2 a b0) ?_
  refine jt_grd (by omega) ?_
  refine jt_grd (by omega) ?_
  have hv378_ : iv (jxu a 72 (y2.toNat) (jxw ((a 72 (y2.toNat)) + 1))) := iv_putf hv rfl
  have hf379_ : jfr jW_X7_add a0 (jxu a 72 (y2.toNat) (jxw ((a 72 (y2.toNat)) + 1))) := jfr_put hf rfl
  exact cp_X7_add_104 E d hd x1 x2 x3 x4 a0 b0 hv0 (jxu a 72 (y2.toNat) (jxw ((a 72 (y2.toNat)) + 1))) hv378_ hf379_
theorem cp_X7_add_59 (E : jxE) (d : Nat) (hd : Nat.ble 2 (d + 1) = true) (x1 x2 x3 x4 : Int) (a0 b0 : Nat → Nat → Int) (hv0 : iv a0) : ∀ (a : Nat → Nat → Int), iv a → jfr jW_X7_add a0 a → jt (jxX E d 109 59 [none, none, none, none, none] [] (jxSH, a, b0)) (jQ_X7_add x1 x2 x3 x4 a0 b0) := by
  intro a hv hf
  refine jt_eq (bq_X7_add_59 E d a b0) ?_
  exact cp_X7_add_104 E d hd x1 x2 x3 x4 a0 b0 hv0 a hv hf
theorem cp_X7_add_39 (E : jxE) (d : Nat) (hd : Nat.ble 2 (d + 1) = true) (x1 x2 x3 x4 : Int) (a0 b0 : Nat → Nat → Int) (hv0 : iv a0) : ∀ (y1 y2 : Int) (a : Nat → Nat → Int), iv a → jfr jW_X7_add a0 a → 0 ≤ y1 → y1 ≤ 39 → 0 ≤ y2 → y2 ≤ 39 → jt (jxX E d 109 39 [some (.inr (.inr (.inl 69))), some (.inl y1), some (.inl y2), none, none] [] (jxSH, a, b0)) (jQ_X7_add x1 x2 x3 x4 a0 b0) := by
  intro y1 y2 a hv hf hi0 hi1 hi2 hi3
  refine jt_eq (bq_X7_add_39 E d y1 y2 a b0) ?_
  refine jt_grd (by omega) ?_
  refine jt_grd (by omega) ?_
  refine jt_grd (by omega) ?_
  refine jt_grd (by omega) ?_
  have hv380_ : iv (jxu a 70 (y1.toNat) (jxw ((a 70 (y1.toNat)) + 1))) := iv_putf hv rfl
  have hv381_ : iv (jxu (jxu a 70 (y1.toNat) (jxw ((a 70 (y1.toNat)) + 1))) 71 (y2.toNat) (jxw ((a 71 (y2.toNat)) + 1))) := iv_putf hv380_ rfl
  have hf382_ : jfr jW_X7_add a0 (jxu a 70 (y1.toNat) (jxw ((a 70 (y1.toNat)) + 1))) := jfr_put hf rfl
  have hf383_ : jfr jW_X7_add a0 (jxu (jxu a 70 (y1.toNat) (jxw ((a 70 (y1.toNat)) + 1))) 71 (y2.toNat) (jxw ((a 71 (y2.toNat)) + 1))) := jfr_put hf382_ rfl
  exact cp_X7_add_59 E d hd x1 x2 x3 x4 a0 b0 hv0 (jxu (jxu a 70 (y1.toNat) (jxw ((a 70 (y1.toNat)) + 1))) 71 (y2.toNat) (jxw ((a 71 (y2.toNat)) + 1))) hv381_ hf383_
theorem cp_X7_add_29 (E : jxE) (d : Nat) (hd : Nat.ble 2 (d + 1) = true) (x1 x2 x3 x4 : Int) (a0 b0 : Nat → Nat → Int) (hv0 : iv a0) : ∀ (y1 y2 y3 : Int) (a : Nat → Nat → Int), iv a → jfr jW_X7_add a0 a → 0 ≤ y1 → y1 ≤ 39 → 0 ≤ y2 → y2 ≤ 39 → jt (jxX E d 109 29 [some (.inr (.inr (.inl 69))), some (.inl y1), some (.inl y2), some (.inl y3), none] [] (jxSH, a, b0)) (jQ_X7_add x1 x2 x3 x4 a0 b0) := by
  intro y1 y2 y3 a hv hf hi0 hi1 hi2 hi3
  refine jt_eq (bq_X7_add_29 E d y1 y2 y3 a b0) ?_
  refine jt_ite (fun c384_ => ?_) (fun c384_ => ?_)
  ·
    exact cp_X7_add_39 E d hd x1 x2 x3 x4 a0 b0 hv0 y1 y2 a hv hf (show 0 ≤ y1 from by omega) (show y1 ≤ 39 from by omega) (show 0 ≤ y2 from by omega) (show y2 ≤ 39 from by omega)
  ·
    refine jt_ite (fun c385_ => ?_) (fun c385_ => ?_)
    ·
      exact cp_X7_add_39 E d hd x1 x2 x3 x4 a0 b0 hv0 y1 y2 a hv hf (show 0 ≤ y1 from by omega) (show y1 ≤ 39 from by omega) (show 0 ≤ y2 from by omega) (show y2 ≤ 39 from by omega)
    ·
      refine jt_ite (fun c386_ => ?_) (fun c386_ => ?_)
      ·
        refine jt_grd (by omega) ?_
        refine jt_grd (by omega) ?_
        have hv387_ : iv (jxu a 73 (y1.toNat) (jxw ((a 73 (y1.toNat)) + 1))) := iv_putf hv rfl
        have hf388_ : jfr jW_X7_add a0 (jxu a 73 (y1.toNat) (jxw ((a 73 (y1.toNat)) + 1))) := jfr_put hf rfl
        exact cp_X7_add_76 E d hd x1 x2 x3 x4 a0 b0 hv0 y2 (jxu a 73 (y1.toNat) (jxw ((a 73 (y1.toNat)) + 1))) hv387_ hf388_ (show 0 ≤ y2 from by omega) (show y2 ≤ 39 from by omega)
      ·
        refine jt_ite (fun c389_ => ?_) (fun c389_ => ?_)
        ·
          refine jt_grd (by omega) ?_
          refine jt_grd (by omega) ?_
          have hv390_ : iv (jxu a 74 (y1.toNat) (jxw ((a 74 (y1.toNat)) + 1))) := iv_putf hv rfl
          have hf391_ : jfr jW_X7_add a0 (jxu a 74 (y1.toNat) (jxw ((a 74 (y1.toNat)) + 1))) := jfr_put hf rfl
          exact cp_X7_add_104 E d hd x1 x2 x3 x4 a0 b0 hv0 (jxu a 74 (y1.toNat) (jxw ((a 74 (y1.toNat)) + 1))) hv390_ hf391_
        ·
          exact cp_X7_add_104 E d hd x1 x2 x3 x4 a0 b0 hv0 a hv hf
theorem sp_X7_add (E : jxE) (d : Nat) (hd : Nat.ble 2 d = true) (x1 x2 x3 x4 : Int) (a0 b0 : Nat → Nat → Int) (hv0 : iv a0) : jt (jxC E d 109 [.inr (.inr (.inl 69)), .inl x1, .inl x2, .inl x3, .inl x4] (jxSH, a0, b0)) (jQ_X7_add x1 x2 x3 x4 a0 b0) := by
  obtain ⟨d, rfl⟩ := jd_succ hd
  refine jt_eq (bq_X7_add E d x1 x2 x3 x4 a0 b0) ?_
  refine jt_eI (eq_X11_within E d (jd_le hd rfl) x1 0 39 a0 b0) ?_
  have h392_ := f_X11_within_eq a0 b0 x1 0 39
  refine jt_ite (fun c393_ => ?_) (fun c393_ => ?_)
  ·
    exact jt_rV ⟨hv0, (jfr_rf _ _), rfl⟩
  ·
    refine jt_eI (eq_X11_within E d (jd_le hd rfl) x2 0 39 a0 b0) ?_
    have h394_ := f_X11_within_eq a0 b0 x2 0 39
    refine jt_ite (fun c395_ => ?_) (fun c395_ => ?_)
    ·
      exact jt_rV ⟨hv0, (jfr_rf _ _), rfl⟩
    ·
      refine jt_grd (by omega) ?_
      have hv396_ : iv (jxu a0 75 (x2.toNat) x4) := iv_putf hv0 rfl
      have hf397_ : jfr jW_X7_add a0 (jxu a0 75 (x2.toNat) x4) := jfr_put (jfr_rf _ _) rfl
      exact cp_X7_add_29 E d hd x1 x2 x3 x4 a0 b0 hv0 x1 x2 x3 (jxu a0 75 (x2.toNat) x4) hv396_ hf397_ (show 0 ≤ x1 from by omega) (show x1 ≤ 39 from by omega) (show 0 ≤ x2 from by omega) (show x2 ≤ 39 from by omega)
def jW_X7_take_r58 : List (Nat × Nat) := [(70, 9999), (71, 9999), (72, 9999), (73, 9999), (74, 9999), (75, 9999)]
abbrev jQ_X7_take_r58 (x2 : Int) (a0 b0 : Nat → Nat → Int) : List jxV → (Nat → Nat → Int) → (Nat → Nat → Int) → Prop := rV (fun a b => (iv a) ∧ (jfr jW_X7_take_r58 a0 a) ∧ (b0 = b))
theorem cp_X7_take_r58_58 (E : jxE) (d : Nat) (hd : Nat.ble 4 (d + 1) = true) (x2 : Int) (a0 b0 : Nat → Nat → Int) (hv0 : iv a0) : ∀ n : Nat, (∀ (y2 y3 : Int) (a : Nat → Nat → Int), (((300 - y3) * 1) + 0).toNat ≤ n → iv a → jfr jW_X7_take_r58 a0 a → 0 ≤ y3 → y3 ≤ 299 → jt (jxX E d 108 91 [some (.inr (.inr (.inl 69))), some (.inr (.inr (.inl 58))), some (.inl y2), some (.inl y3)] [] (jxSH, a, b0)) (jQ_X7_take_r58 x2 a0 b0)) ∧ (∀ (y2 y3 : Int) (a : Nat → Nat → Int), (((300 - y3) * 1) + 0).toNat ≤ n → iv a → jfr jW_X7_take_r58 a0 a → 0 ≤ y3 → y3 ≤ 300 → jt (jxX E d 108 58 [some (.inr (.inr (.inl 69))), some (.inr (.inr (.inl 58))), some (.inl y2), some (.inl y3)] [] (jxSH, a, b0)) (jQ_X7_take_r58 x2 a0 b0)) := by
  refine jx_ind fun n ih => ?_
  have ih91 : ∀ (y2 y3 : Int) (a : Nat → Nat → Int), (((300 - y3) * 1) + 0).toNat < n → iv a → jfr jW_X7_take_r58 a0 a → 0 ≤ y3 → y3 ≤ 299 → jt (jxX E d 108 91 [some (.inr (.inr (.inl 69))), some (.inr (.inr (.inl 58))), some (.inl y2), some (.inl y3)] [] (jxSH, a, b0)) (jQ_X7_take_r58 x2 a0 b0) := fun y2 y3 a hlt i0 i1 i2 i3 => (ih _ hlt).1 y2 y3 a (Nat.le_refl _) i0 i1 i2 i3
  have ih58 : ∀ (y2 y3 : Int) (a : Nat → Nat → Int), (((300 - y3) * 1) + 0).toNat < n → iv a → jfr jW_X7_take_r58 a0 a → 0 ≤ y3 → y3 ≤ 300 → jt (jxX E d 108 58 [some (.inr (.inr (.inl 69))), some (.inr (.inr (.inl 58))), some (.inl y2), some (.inl y3)] [] (jxSH, a, b0)) (jQ_X7_take_r58 x2 a0 b0) := fun y2 y3 a hlt i0 i1 i2 i3 => (ih _ hlt).2 y2 y3 a (Nat.le_refl _) i0 i1 i2 i3
  have hc91 : ∀ (y2 y3 : Int) (a : Nat → Nat → Int), (((300 - y3) * 1) + 0).toNat ≤ n → iv a → jfr jW_X7_take_r58 a0 a → 0 ≤ y3 → y3 ≤ 299 → jt (jxX E d 108 91 [some (.inr (.inr (.inl 69))), some (.inr (.inr (.inl 58))), some (.inl y2), some (.inl y3)] [] (jxSH, a, b0)) (jQ_X7_take_r58 x2 a0 b0) := by
    intro y2 y3 a hm hv hf hi0 hi1
    refine jt_eq (bq_X7_take_r58_91 E d y2 y3 a b0) ?_
    have h398_ : jxw (y3 + 1) = y3 + 1 := jxw_id (by omega) (by omega)
    exact ih58 y2 (jxw (y3 + 1)) a (show (((300 - (jxw (y3 + 1))) * 1) + 0).toNat < n from by omega) hv hf (show 0 ≤ jxw (y3 + 1) from by omega) (show jxw (y3 + 1) ≤ 300 from by omega)
  have hc58 : ∀ (y2 y3 : Int) (a : Nat → Nat → Int), (((300 - y3) * 1) + 0).toNat ≤ n → iv a → jfr jW_X7_take_r58 a0 a → 0 ≤ y3 → y3 ≤ 300 → jt (jxX E d 108 58 [some (.inr (.inr (.inl 69))), some (.inr (.inr (.inl 58))), some (.inl y2), some (.inl y3)] [] (jxSH, a, b0)) (jQ_X7_take_r58 x2 a0 b0) := by
    intro y2 y3 a hm hv hf hi0 hi1
    refine jt_eq (bq_X7_take_r58_58 E d y2 y3 a b0) ?_
    refine jt_eI (eq_X0_size E d (jd_le hd rfl) a b0) ?_
    have h399_ := f_X0_size_eq a b0
    have h400_ := iv_get hv (k := 58) (j := 8) (l := 0) (u := 300) rfl
    have h401_ : a 58 8 = a0 58 8 := hf 58 8 rfl
    have h402_ := iv_get hv0 (k := 58) (j := 8) (l := 0) (u := 300) rfl
    refine jt_ite (fun c403_ => ?_) (fun c403_ => ?_)
    ·
      refine jt_eI (eq_X0_fromOf E d (jd_le hd rfl) y3 a b0) ?_
      refine jt_eI (eq_X0_toOf E d (jd_le hd rfl) y3 a b0) ?_
      refine jt_eI (eq_X0_stateNow E d (jd_le hd rfl) y3 y2 a b0) ?_
      refine jt_eI (eq_X0_sentOnOf E d (jd_le hd rfl) y3 a b0) ?_
      refine jt_bV (sp_X7_add E d (jd_le hd rfl) (f_X0_fromOf a b0 y3) (f_X0_toOf a b0 y3) (f_X0_stateNow a b0 y3 y2) (f_X0_sentOnOf a b0 y3) a b0 hv) (fun a404_ b404_ h404_ => ?_)
      obtain ⟨hv404_, hf404_, rfl⟩ := h404_
      have hf405_ : jfr jW_X7_take_r58 a0 a404_ := jfr_tr hf hf404_ rfl
      exact hc91 y2 y3 a404_ (show (((300 - y3) * 1) + 0).toNat ≤ n from by omega) hv404_ hf405_ (show 0 ≤ y3 from by omega) (show y3 ≤ 299 from by omega)
    ·
      exact jt_rV ⟨hv, hf, rfl⟩
  exact ⟨hc91, hc58⟩
theorem cp_X7_take_r58_2 (E : jxE) (d : Nat) (hd : Nat.ble 4 (d + 1) = true) (x2 : Int) (a0 b0 : Nat → Nat → Int) (hv0 : iv a0) : ∀ n : Nat, (∀ (y2 y3 : Int) (a : Nat → Nat → Int), (((40 - y3) * 1) + 0).toNat ≤ n → iv a → jfr jW_X7_take_r58 a0 a → 0 ≤ y3 → y3 ≤ 39 → jt (jxX E d 108 50 [some (.inr (.inr (.inl 69))), some (.inr (.inr (.inl 58))), some (.inl y2), some (.inl y3)] [] (jxSH, a, b0)) (jQ_X7_take_r58 x2 a0 b0)) ∧ (∀ (y2 y3 : Int) (a : Nat → Nat → Int), (((40 - y3) * 1) + 0).toNat ≤ n → iv a → jfr jW_X7_take_r58 a0 a → 0 ≤ y3 → y3 ≤ 39 → jt (jxX E d 108 29 [some (.inr (.inr (.inl 69))), some (.inr (.inr (.inl 58))), some (.inl y2), some (.inl y3)] [] (jxSH, a, b0)) (jQ_X7_take_r58 x2 a0 b0)) ∧ (∀ (y2 y3 : Int) (a : Nat → Nat → Int), (((40 - y3) * 1) + 0).toNat ≤ n → iv a → jfr jW_X7_take_r58 a0 a → 0 ≤ y3 → y3 ≤ 40 → jt (jxX E d 108 2 [some (.inr (.inr (.inl 69))), some (.inr (.inr (.inl 58))), some (.inl y2), some (.inl y3)] [] (jxSH, a, b0)) (jQ_X7_take_r58 x2 a0 b0)) := by
  refine jx_ind fun n ih => ?_
  have ih50 : ∀ (y2 y3 : Int) (a : Nat → Nat → Int), (((40 - y3) * 1) + 0).toNat < n → iv a → jfr jW_X7_take_r58 a0 a → 0 ≤ y3 → y3 ≤ 39 → jt (jxX E d 108 50 [some (.inr (.inr (.inl 69))), some (.inr (.inr (.inl 58))), some (.inl y2), some (.inl y3)] [] (jxSH, a, b0)) (jQ_X7_take_r58 x2 a0 b0) := fun y2 y3 a hlt i0 i1 i2 i3 => (ih _ hlt).1 y2 y3 a (Nat.le_refl _) i0 i1 i2 i3
  have ih29 : ∀ (y2 y3 : Int) (a : Nat → Nat → Int), (((40 - y3) * 1) + 0).toNat < n → iv a → jfr jW_X7_take_r58 a0 a → 0 ≤ y3 → y3 ≤ 39 → jt (jxX E d 108 29 [some (.inr (.inr (.inl 69))), some (.inr (.inr (.inl 58))), some (.inl y2), some (.inl y3)] [] (jxSH, a, b0)) (jQ_X7_take_r58 x2 a0 b0) := fun y2 y3 a hlt i0 i1 i2 i3 => (ih _ hlt).2.1 y2 y3 a (Nat.le_refl _) i0 i1 i2 i3
  have ih2 : ∀ (y2 y3 : Int) (a : Nat → Nat → Int), (((40 - y3) * 1) + 0).toNat < n → iv a → jfr jW_X7_take_r58 a0 a → 0 ≤ y3 → y3 ≤ 40 → jt (jxX E d 108 2 [some (.inr (.inr (.inl 69))), some (.inr (.inr (.inl 58))), some (.inl y2), some (.inl y3)] [] (jxSH, a, b0)) (jQ_X7_take_r58 x2 a0 b0) := fun y2 y3 a hlt i0 i1 i2 i3 => (ih _ hlt).2.2 y2 y3 a (Nat.le_refl _) i0 i1 i2 i3
  have hc50 : ∀ (y2 y3 : Int) (a : Nat → Nat → Int), (((40 - y3) * 1) + 0).toNat ≤ n → iv a → jfr jW_X7_take_r58 a0 a → 0 ≤ y3 → y3 ≤ 39 → jt (jxX E d 108 50 [some (.inr (.inr (.inl 69))), some (.inr (.inr (.inl 58))), some (.inl y2), some (.inl y3)] [] (jxSH, a, b0)) (jQ_X7_take_r58 x2 a0 b0) := by
    intro y2 y3 a hm hv hf hi0 hi1
    refine jt_eq (bq_X7_take_r58_50 E d y2 y3 a b0) ?_
    have h406_ : jxw (y3 + 1) = y3 + 1 := jxw_id (by omega) (by omega)
    exact ih2 y2 (jxw (y3 + 1)) a (show (((40 - (jxw (y3 + 1))) * 1) + 0).toNat < n from by omega) hv hf (show 0 ≤ jxw (y3 + 1) from by omega) (show jxw (y3 + 1) ≤ 40 from by omega)
  have hc29 : ∀ (y2 y3 : Int) (a : Nat → Nat → Int), (((40 - y3) * 1) + 0).toNat ≤ n → iv a → jfr jW_X7_take_r58 a0 a → 0 ≤ y3 → y3 ≤ 39 → jt (jxX E d 108 29 [some (.inr (.inr (.inl 69))), some (.inr (.inr (.inl 58))), some (.inl y2), some (.inl y3)] [] (jxSH, a, b0)) (jQ_X7_take_r58 x2 a0 b0) := by
    intro y2 y3 a hm hv hf hi0 hi1
    refine jt_eq (bq_X7_take_r58_29 E d y2 y3 a b0) ?_
    refine jt_grd (by omega) ?_
    refine jt_grd (by omega) ?_
    refine jt_grd (by omega) ?_
    have hv407_ : iv (jxu a 73 (y3.toNat) 0) := iv_putf hv rfl
    have hv408_ : iv (jxu (jxu a 73 (y3.toNat) 0) 74 (y3.toNat) 0) := iv_putf hv407_ rfl
    have hv409_ : iv (jxu (jxu (jxu a 73 (y3.toNat) 0) 74 (y3.toNat) 0) 75 (y3.toNat) (-1)) := iv_putf hv408_ rfl
    have hf410_ : jfr jW_X7_take_r58 a0 (jxu a 73 (y3.toNat) 0) := jfr_put hf rfl
    have hf411_ : jfr jW_X7_take_r58 a0 (jxu (jxu a 73 (y3.toNat) 0) 74 (y3.toNat) 0) := jfr_put hf410_ rfl
    have hf412_ : jfr jW_X7_take_r58 a0 (jxu (jxu (jxu a 73 (y3.toNat) 0) 74 (y3.toNat) 0) 75 (y3.toNat) (-1)) := jfr_put hf411_ rfl
    exact hc50 y2 y3 (jxu (jxu (jxu a 73 (y3.toNat) 0) 74 (y3.toNat) 0) 75 (y3.toNat) (-1)) (show (((40 - y3) * 1) + 0).toNat ≤ n from by omega) hv409_ hf412_ (show 0 ≤ y3 from by omega) (show y3 ≤ 39 from by omega)
  have hc2 : ∀ (y2 y3 : Int) (a : Nat → Nat → Int), (((40 - y3) * 1) + 0).toNat ≤ n → iv a → jfr jW_X7_take_r58 a0 a → 0 ≤ y3 → y3 ≤ 40 → jt (jxX E d 108 2 [some (.inr (.inr (.inl 69))), some (.inr (.inr (.inl 58))), some (.inl y2), some (.inl y3)] [] (jxSH, a, b0)) (jQ_X7_take_r58 x2 a0 b0) := by
    intro y2 y3 a hm hv hf hi0 hi1
    refine jt_eq (bq_X7_take_r58_2 E d y2 y3 a b0) ?_
    refine jt_ite (fun c413_ => ?_) (fun c413_ => ?_)
    ·
      refine jt_grd (by omega) ?_
      refine jt_grd (by omega) ?_
      refine jt_grd (by omega) ?_
      have hv414_ : iv (jxu a 70 (y3.toNat) 0) := iv_putf hv rfl
      have hv415_ : iv (jxu (jxu a 70 (y3.toNat) 0) 71 (y3.toNat) 0) := iv_putf hv414_ rfl
      have hv416_ : iv (jxu (jxu (jxu a 70 (y3.toNat) 0) 71 (y3.toNat) 0) 72 (y3.toNat) 0) := iv_putf hv415_ rfl
      have hf417_ : jfr jW_X7_take_r58 a0 (jxu a 70 (y3.toNat) 0) := jfr_put hf rfl
      have hf418_ : jfr jW_X7_take_r58 a0 (jxu (jxu a 70 (y3.toNat) 0) 71 (y3.toNat) 0) := jfr_put hf417_ rfl
      have hf419_ : jfr jW_X7_take_r58 a0 (jxu (jxu (jxu a 70 (y3.toNat) 0) 71 (y3.toNat) 0) 72 (y3.toNat) 0) := jfr_put hf418_ rfl
      exact hc29 y2 y3 (jxu (jxu (jxu a 70 (y3.toNat) 0) 71 (y3.toNat) 0) 72 (y3.toNat) 0) (show (((40 - y3) * 1) + 0).toNat ≤ n from by omega) hv416_ hf419_ (show 0 ≤ y3 from by omega) (show y3 ≤ 39 from by omega)
    ·
      exact (cp_X7_take_r58_58 E d hd x2 a0 b0 hv0 _).2 y2 0 a (Nat.le_refl _) hv hf (show 0 ≤ 0 from by omega) (show 0 ≤ 300 from by omega)
  exact ⟨hc50, hc29, hc2⟩
theorem sp_X7_take_r58 (E : jxE) (d : Nat) (hd : Nat.ble 4 d = true) (x2 : Int) (a0 b0 : Nat → Nat → Int) (hv0 : iv a0) : jt (jxC E d 108 [.inr (.inr (.inl 69)), .inr (.inr (.inl 58)), .inl x2] (jxSH, a0, b0)) (jQ_X7_take_r58 x2 a0 b0) := by
  obtain ⟨d, rfl⟩ := jd_succ hd
  refine jt_eq (bq_X7_take_r58 E d x2 a0 b0) ?_
  exact (cp_X7_take_r58_2 E d hd x2 a0 b0 hv0 _).2.2 x2 0 a0 (Nat.le_refl _) hv0 (jfr_rf _ _) (show 0 ≤ 0 from by omega) (show 0 ≤ 40 from by omega)
def jW_X11_about : List (Nat × Nat) := [(70, 9999), (71, 9999), (72, 9999), (73, 9999), (74, 9999), (75, 9999)]
abbrev jQ_X11_about (x1 x2 : Int) (a0 b0 : Nat → Nat → Int) : List jxV → (Nat → Nat → Int) → (Nat → Nat → Int) → Prop := rI (fun r a b => (iv a) ∧ (jfr jW_X11_about a0 a) ∧ (b0 = b) ∧ ((a0 4 6 = 0 → ((x2 = 5 ∧ r = 0 - 1000) ∨ (¬ x2 = 5 ∧ r = 0 - 1)))))
theorem cp_X11_about_100 (E : jxE) (d : Nat) (hd : Nat.ble 5 (d + 1) = true) (x1 x2 : Int) (a0 b0 : Nat → Nat → Int) (hv0 : iv a0) : ∀ (y1 : Int) (a : Nat → Nat → Int), iv a → jfr jW_X11_about a0 a → 0 ≤ y1 → y1 ≤ 39 → 1 ≤ a0 4 6 → jt (jxX E d 181 100 [some (.inr (.inr (.inl 0))), some (.inl y1), none] [] (jxSH, a, b0)) (jQ_X11_about x1 x2 a0 b0) := by
  intro y1 a hv hf hi0 hi1 hi2
  refine jt_eq (bq_X11_about_100 E d y1 a b0) ?_
  have h420_ := iv_get hv0 (k := 4) (j := 6) (l := 0) (u := 40) rfl
  refine jt_eI (eq_X7_givenBy E d (jd_le hd rfl) y1 a b0) ?_
  have h421_ := f_X7_givenBy_eq a b0 y1
  have h422_ := f_X11_entry_r70_eq a b0 40 y1
  exact jt_rI ⟨hv, hf, rfl, (show (a0 4 6 = 0 → ((x2 = 5 ∧ f_X7_givenBy a b0 y1 = 0 - 1000) ∨ (¬ x2 = 5 ∧ f_X7_givenBy a b0 y1 = 0 - 1))) from by omega)⟩
theorem cp_X11_about_109 (E : jxE) (d : Nat) (hd : Nat.ble 5 (d + 1) = true) (x1 x2 : Int) (a0 b0 : Nat → Nat → Int) (hv0 : iv a0) : ∀ (y1 : Int) (a : Nat → Nat → Int), iv a → jfr jW_X11_about a0 a → 0 ≤ y1 → y1 ≤ 39 → 1 ≤ a0 4 6 → jt (jxX E d 181 109 [some (.inr (.inr (.inl 0))), some (.inl y1), none] [] (jxSH, a, b0)) (jQ_X11_about x1 x2 a0 b0) := by
  intro y1 a hv hf hi0 hi1 hi2
  refine jt_eq (bq_X11_about_109 E d y1 a b0) ?_
  have h423_ := iv_get hv0 (k := 4) (j := 6) (l := 0) (u := 40) rfl
  refine jt_eI (eq_X7_gotBy E d (jd_le hd rfl) y1 a b0) ?_
  have h424_ := f_X7_gotBy_eq a b0 y1
  have h425_ := f_X11_entry_r71_eq a b0 40 y1
  exact jt_rI ⟨hv, hf, rfl, (show (a0 4 6 = 0 → ((x2 = 5 ∧ f_X7_gotBy a b0 y1 = 0 - 1000) ∨ (¬ x2 = 5 ∧ f_X7_gotBy a b0 y1 = 0 - 1))) from by omega)⟩
theorem cp_X11_about_118 (E : jxE) (d : Nat) (hd : Nat.ble 5 (d + 1) = true) (x1 x2 : Int) (a0 b0 : Nat → Nat → Int) (hv0 : iv a0) : ∀ (y1 : Int) (a : Nat → Nat → Int), iv a → jfr jW_X11_about a0 a → 0 ≤ y1 → y1 ≤ 39 → 1 ≤ a0 4 6 → jt (jxX E d 181 118 [some (.inr (.inr (.inl 0))), some (.inl y1), none] [] (jxSH, a, b0)) (jQ_X11_about x1 x2 a0 b0) := by
  intro y1 a hv hf hi0 hi1 hi2
  refine jt_eq (bq_X11_about_118 E d y1 a b0) ?_
  have h426_ := iv_get hv0 (k := 4) (j := 6) (l := 0) (u := 40) rfl
  refine jt_eI (eq_X7_comingTo E d (jd_le hd rfl) y1 a b0) ?_
  have h427_ := f_X7_comingTo_eq a b0 y1
  have h428_ := f_X11_entry_r72_eq a b0 40 y1
  exact jt_rI ⟨hv, hf, rfl, (show (a0 4 6 = 0 → ((x2 = 5 ∧ f_X7_comingTo a b0 y1 = 0 - 1000) ∨ (¬ x2 = 5 ∧ f_X7_comingTo a b0 y1 = 0 - 1))) from by omega)⟩
theorem cp_X11_about_127 (E : jxE) (d : Nat) (hd : Nat.ble 5 (d + 1) = true) (x1 x2 : Int) (a0 b0 : Nat → Nat → Int) (hv0 : iv a0) : ∀ (y1 : Int) (a : Nat → Nat → Int), iv a → jfr jW_X11_about a0 a → 0 ≤ y1 → y1 ≤ 39 → 1 ≤ a0 4 6 → jt (jxX E d 181 127 [some (.inr (.inr (.inl 0))), some (.inl y1), none] [] (jxSH, a, b0)) (jQ_X11_about x1 x2 a0 b0) := by
  intro y1 a hv hf hi0 hi1 hi2
  refine jt_eq (bq_X11_about_127 E d y1 a b0) ?_
  have h429_ := iv_get hv0 (k := 4) (j := 6) (l := 0) (u := 40) rfl
  refine jt_eI (eq_X7_outOf E d (jd_le hd rfl) y1 a b0) ?_
  have h430_ := f_X7_outOf_eq a b0 y1
  have h431_ := f_X11_entry_r73_eq a b0 40 y1
  exact jt_rI ⟨hv, hf, rfl, (show (a0 4 6 = 0 → ((x2 = 5 ∧ f_X7_outOf a b0 y1 = 0 - 1000) ∨ (¬ x2 = 5 ∧ f_X7_outOf a b0 y1 = 0 - 1))) from by omega)⟩
theorem cp_X11_about_136 (E : jxE) (d : Nat) (hd : Nat.ble 5 (d + 1) = true) (x1 x2 : Int) (a0 b0 : Nat → Nat → Int) (hv0 : iv a0) : ∀ (y1 : Int) (a : Nat → Nat → Int), iv a → jfr jW_X11_about a0 a → 0 ≤ y1 → y1 ≤ 39 → 1 ≤ a0 4 6 → jt (jxX E d 181 136 [some (.inr (.inr (.inl 0))), some (.inl y1), none] [] (jxSH, a, b0)) (jQ_X11_about x1 x2 a0 b0) := by
  intro y1 a hv hf hi0 hi1 hi2
  refine jt_eq (bq_X11_about_136 E d y1 a b0) ?_
  have h432_ := iv_get hv0 (k := 4) (j := 6) (l := 0) (u := 40) rfl
  refine jt_eI (eq_X3_creditOf E d (jd_le hd rfl) y1 a b0) ?_
  have h433_ := f_X3_creditOf_eq a b0 y1
  have h434_ := f_X3_has_eq a b0 y1
  have h435_ := iv_get hv (k := 4) (j := 6) (l := 0) (u := 40) rfl
  have h436_ : a 4 6 = a0 4 6 := hf 4 6 rfl
  have h437_ : a 9 (y1.toNat) = a0 9 (y1.toNat) := hf 9 (y1.toNat) rfl
  exact jt_rI ⟨hv, hf, rfl, (show (a0 4 6 = 0 → ((x2 = 5 ∧ f_X3_creditOf a b0 y1 = 0 - 1000) ∨ (¬ x2 = 5 ∧ f_X3_creditOf a b0 y1 = 0 - 1))) from by omega)⟩
theorem cp_X11_about_145 (E : jxE) (d : Nat) (hd : Nat.ble 5 (d + 1) = true) (x1 x2 : Int) (a0 b0 : Nat → Nat → Int) (hv0 : iv a0) : ∀ (y1 : Int) (a : Nat → Nat → Int), iv a → jfr jW_X11_about a0 a → 0 ≤ y1 → y1 ≤ 39 → 1 ≤ a0 4 6 → jt (jxX E d 181 145 [some (.inr (.inr (.inl 0))), some (.inl y1), none] [] (jxSH, a, b0)) (jQ_X11_about x1 x2 a0 b0) := by
  intro y1 a hv hf hi0 hi1 hi2
  refine jt_eq (bq_X11_about_145 E d y1 a b0) ?_
  have h438_ := iv_get hv0 (k := 4) (j := 6) (l := 0) (u := 40) rfl
  refine jt_eI (eq_X11_owed E d (jd_le hd rfl) y1 a b0) ?_
  have h439_ := f_X11_owed_eq a b0 y1
  have h440_ := f_X7_givenBy_eq a b0 y1
  have h441_ := f_X11_entry_r70_eq a b0 40 y1
  have h442_ := f_X3_creditOf_eq a b0 y1
  have h443_ := f_X3_has_eq a b0 y1
  have h444_ := iv_get hv (k := 4) (j := 6) (l := 0) (u := 40) rfl
  have h445_ : a 4 6 = a0 4 6 := hf 4 6 rfl
  have h446_ : a 9 (y1.toNat) = a0 9 (y1.toNat) := hf 9 (y1.toNat) rfl
  have h447_ := jxw_im ((f_X7_givenBy a b0 y1) + (f_X3_creditOf a b0 y1))
  have h448_ := jxw_rg ((f_X7_givenBy a b0 y1) + (f_X3_creditOf a b0 y1))
  have h449_ := f_X7_gotBy_eq a b0 y1
  have h450_ := f_X11_entry_r71_eq a b0 40 y1
  have h451_ := jxw_im ((jxw ((f_X7_givenBy a b0 y1) + (f_X3_creditOf a b0 y1))) - (f_X7_gotBy a b0 y1))
  have h452_ := jxw_rg ((jxw ((f_X7_givenBy a b0 y1) + (f_X3_creditOf a b0 y1))) - (f_X7_gotBy a b0 y1))
  have h453_ := f_X7_comingTo_eq a b0 y1
  have h454_ := f_X11_entry_r72_eq a b0 40 y1
  have h455_ := jxw_im ((jxw ((jxw ((f_X7_givenBy a b0 y1) + (f_X3_creditOf a b0 y1))) - (f_X7_gotBy a b0 y1))) - (f_X7_comingTo a b0 y1))
  have h456_ := jxw_rg ((jxw ((jxw ((f_X7_givenBy a b0 y1) + (f_X3_creditOf a b0 y1))) - (f_X7_gotBy a b0 y1))) - (f_X7_comingTo a b0 y1))
  exact jt_rI ⟨hv, hf, rfl, (show (a0 4 6 = 0 → ((x2 = 5 ∧ f_X11_owed a b0 y1 = 0 - 1000) ∨ (¬ x2 = 5 ∧ f_X11_owed a b0 y1 = 0 - 1))) from by omega)⟩
theorem cp_X11_about_151 (E : jxE) (d : Nat) (hd : Nat.ble 5 (d + 1) = true) (x1 x2 : Int) (a0 b0 : Nat → Nat → Int) (hv0 : iv a0) : ∀ (y1 : Int) (a : Nat → Nat → Int), iv a → jfr jW_X11_about a0 a → 0 ≤ y1 → y1 ≤ 39 → 1 ≤ a0 4 6 → jt (jxX E d 181 151 [some (.inr (.inr (.inl 0))), some (.inl y1), none] [] (jxSH, a, b0)) (jQ_X11_about x1 x2 a0 b0) := by
  intro y1 a hv hf hi0 hi1 hi2
  refine jt_eq (bq_X11_about_151 E d y1 a b0) ?_
  have h457_ := iv_get hv0 (k := 4) (j := 6) (l := 0) (u := 40) rfl
  refine jt_eI (eq_X11_mayAsk E d (jd_le hd rfl) y1 a b0) ?_
  have h458_ := f_X11_mayAsk_bool a b0 y1
  refine jt_ite (fun c459_ => ?_) (fun c459_ => ?_)
  ·
    exact jt_rI ⟨hv, hf, rfl, (show (a0 4 6 = 0 → ((x2 = 5 ∧ 0 = 0 - 1000) ∨ (¬ x2 = 5 ∧ 0 = 0 - 1))) from by omega)⟩
  ·
    exact jt_rI ⟨hv, hf, rfl, (show (a0 4 6 = 0 → ((x2 = 5 ∧ 1 = 0 - 1000) ∨ (¬ x2 = 5 ∧ 1 = 0 - 1))) from by omega)⟩
theorem cp_X11_about_165 (E : jxE) (d : Nat) (hd : Nat.ble 5 (d + 1) = true) (x1 x2 : Int) (a0 b0 : Nat → Nat → Int) (hv0 : iv a0) : ∀ (y1 : Int) (a : Nat → Nat → Int), iv a → jfr jW_X11_about a0 a → 0 ≤ y1 → y1 ≤ 39 → 1 ≤ a0 4 6 → jt (jxX E d 181 165 [some (.inr (.inr (.inl 0))), some (.inl y1), none] [] (jxSH, a, b0)) (jQ_X11_about x1 x2 a0 b0) := by
  intro y1 a hv hf hi0 hi1 hi2
  refine jt_eq (bq_X11_about_165 E d y1 a b0) ?_
  have h460_ := iv_get hv0 (k := 4) (j := 6) (l := 0) (u := 40) rfl
  refine jt_eI (eq_X3_landOf E d (jd_le hd rfl) y1 a b0) ?_
  have h461_ := f_X3_landOf_eq a b0 y1
  have h462_ := iv_get hv (k := 4) (j := 6) (l := 0) (u := 40) rfl
  have h463_ : a 4 6 = a0 4 6 := hf 4 6 rfl
  have h464_ := f_X11_entry_r5_eq a b0 (a 4 6) y1
  have h465_ : a 5 (y1.toNat) = a0 5 (y1.toNat) := hf 5 (y1.toNat) rfl
  exact jt_rI ⟨hv, hf, rfl, (show (a0 4 6 = 0 → ((x2 = 5 ∧ f_X3_landOf a b0 y1 = 0 - 1000) ∨ (¬ x2 = 5 ∧ f_X3_landOf a b0 y1 = 0 - 1))) from by omega)⟩
theorem cp_X11_about_174 (E : jxE) (d : Nat) (hd : Nat.ble 5 (d + 1) = true) (x1 x2 : Int) (a0 b0 : Nat → Nat → Int) (hv0 : iv a0) : ∀ (y1 : Int) (a : Nat → Nat → Int), iv a → jfr jW_X11_about a0 a → 0 ≤ y1 → y1 ≤ 39 → 1 ≤ a0 4 6 → jt (jxX E d 181 174 [some (.inr (.inr (.inl 0))), some (.inl y1), none] [] (jxSH, a, b0)) (jQ_X11_about x1 x2 a0 b0) := by
  intro y1 a hv hf hi0 hi1 hi2
  refine jt_eq (bq_X11_about_174 E d y1 a b0) ?_
  have h466_ := iv_get hv0 (k := 4) (j := 6) (l := 0) (u := 40) rfl
  refine jt_eI (eq_X3_isThere E d (jd_le hd rfl) y1 a b0) ?_
  have h467_ := f_X3_isThere_eq a b0 y1
  have h468_ := f_X3_has_eq a b0 y1
  have h469_ := iv_get hv (k := 4) (j := 6) (l := 0) (u := 40) rfl
  have h470_ : a 4 6 = a0 4 6 := hf 4 6 rfl
  have h471_ : a 10 (y1.toNat) = a0 10 (y1.toNat) := hf 10 (y1.toNat) rfl
  refine jt_ite (fun c472_ => ?_) (fun c472_ => ?_)
  ·
    exact jt_rI ⟨hv, hf, rfl, (show (a0 4 6 = 0 → ((x2 = 5 ∧ 0 = 0 - 1000) ∨ (¬ x2 = 5 ∧ 0 = 0 - 1))) from by omega)⟩
  ·
    exact jt_rI ⟨hv, hf, rfl, (show (a0 4 6 = 0 → ((x2 = 5 ∧ 1 = 0 - 1000) ∨ (¬ x2 = 5 ∧ 1 = 0 - 1))) from by omega)⟩
theorem cp_X11_about_191 (E : jxE) (d : Nat) (hd : Nat.ble 5 (d + 1) = true) (x1 x2 : Int) (a0 b0 : Nat → Nat → Int) (hv0 : iv a0) : ∀ (y1 : Int) (a : Nat → Nat → Int), iv a → jfr jW_X11_about a0 a → 0 ≤ y1 → y1 ≤ 39 → 1 ≤ a0 4 6 → jt (jxX E d 181 191 [some (.inr (.inr (.inl 0))), some (.inl y1), none] [] (jxSH, a, b0)) (jQ_X11_about x1 x2 a0 b0) := by
  intro y1 a hv hf hi0 hi1 hi2
  refine jt_eq (bq_X11_about_191 E d y1 a b0) ?_
  have h473_ := iv_get hv0 (k := 4) (j := 6) (l := 0) (u := 40) rfl
  refine jt_eI (eq_X3_cameOnOf E d (jd_le hd rfl) y1 a b0) ?_
  have h474_ := f_X3_cameOnOf_eq a b0 y1
  have h475_ := iv_get hv (k := 4) (j := 6) (l := 0) (u := 40) rfl
  have h476_ : a 4 6 = a0 4 6 := hf 4 6 rfl
  have h477_ := f_X11_entry_r8_eq a b0 (a 4 6) y1
  have h478_ : a 8 (y1.toNat) = a0 8 (y1.toNat) := hf 8 (y1.toNat) rfl
  exact jt_rI ⟨hv, hf, rfl, (show (a0 4 6 = 0 → ((x2 = 5 ∧ f_X3_cameOnOf a b0 y1 = 0 - 1000) ∨ (¬ x2 = 5 ∧ f_X3_cameOnOf a b0 y1 = 0 - 1))) from by omega)⟩
theorem cp_X11_about_200 (E : jxE) (d : Nat) (hd : Nat.ble 5 (d + 1) = true) (x1 x2 : Int) (a0 b0 : Nat → Nat → Int) (hv0 : iv a0) : ∀ (y1 : Int) (a : Nat → Nat → Int), iv a → jfr jW_X11_about a0 a → 0 ≤ y1 → y1 ≤ 39 → 1 ≤ a0 4 6 → jt (jxX E d 181 200 [some (.inr (.inr (.inl 0))), some (.inl y1), none] [] (jxSH, a, b0)) (jQ_X11_about x1 x2 a0 b0) := by
  intro y1 a hv hf hi0 hi1 hi2
  refine jt_eq (bq_X11_about_200 E d y1 a b0) ?_
  have h479_ := iv_get hv0 (k := 4) (j := 6) (l := 0) (u := 40) rfl
  refine jt_eI (eq_X7_lostOf E d (jd_le hd rfl) y1 a b0) ?_
  have h480_ := f_X7_lostOf_eq a b0 y1
  have h481_ := f_X11_entry_r74_eq a b0 40 y1
  exact jt_rI ⟨hv, hf, rfl, (show (a0 4 6 = 0 → ((x2 = 5 ∧ f_X7_lostOf a b0 y1 = 0 - 1000) ∨ (¬ x2 = 5 ∧ f_X7_lostOf a b0 y1 = 0 - 1))) from by omega)⟩
theorem cp_X11_about_209 (E : jxE) (d : Nat) (hd : Nat.ble 5 (d + 1) = true) (x1 x2 : Int) (a0 b0 : Nat → Nat → Int) (hv0 : iv a0) : ∀ (a : Nat → Nat → Int), iv a → jfr jW_X11_about a0 a → 1 ≤ a0 4 6 → jt (jxX E d 181 209 [none, none, none] [] (jxSH, a, b0)) (jQ_X11_about x1 x2 a0 b0) := by
  intro a hv hf hi0
  refine jt_eq (bq_X11_about_209 E d a b0) ?_
  have h482_ := iv_get hv0 (k := 4) (j := 6) (l := 0) (u := 40) rfl
  exact jt_rI ⟨hv, hf, rfl, (show (a0 4 6 = 0 → ((x2 = 5 ∧ (-1) = 0 - 1000) ∨ (¬ x2 = 5 ∧ (-1) = 0 - 1))) from by omega)⟩
theorem sp_X11_about (E : jxE) (d : Nat) (hd : Nat.ble 5 d = true) (x1 x2 : Int) (a0 b0 : Nat → Nat → Int) (hv0 : iv a0) : jt (jxC E d 181 [.inr (.inr (.inl 0)), .inl x1, .inl x2] (jxSH, a0, b0)) (jQ_X11_about x1 x2 a0 b0) := by
  obtain ⟨d, rfl⟩ := jd_succ hd
  refine jt_eq (bq_X11_about E d x1 x2 a0 b0) ?_
  refine jt_eI (eq_X3_has E d (jd_le hd rfl) x1 a0 b0) ?_
  have h483_ := f_X3_has_eq a0 b0 x1
  have h484_ := iv_get hv0 (k := 4) (j := 6) (l := 0) (u := 40) rfl
  refine jt_ite (fun c485_ => ?_) (fun c485_ => ?_)
  ·
    refine jt_ite (fun c486_ => ?_) (fun c486_ => ?_)
    ·
      exact jt_rI ⟨hv0, (jfr_rf _ _), rfl, (show (a0 4 6 = 0 → ((x2 = 5 ∧ (-1000) = 0 - 1000) ∨ (¬ x2 = 5 ∧ (-1000) = 0 - 1))) from by omega)⟩
    ·
      exact jt_rI ⟨hv0, (jfr_rf _ _), rfl, (show (a0 4 6 = 0 → ((x2 = 5 ∧ (-1) = 0 - 1000) ∨ (¬ x2 = 5 ∧ (-1) = 0 - 1))) from by omega)⟩
  ·
    refine jt_bV (sp_X7_take_r58 E d (jd_le hd rfl) (a0 0 0) a0 b0 hv0) (fun a487_ b487_ h487_ => ?_)
    obtain ⟨hv487_, hf487_, rfl⟩ := h487_
    refine jt_ite (fun c488_ => ?_) (fun c488_ => ?_)
    ·
      have hf489_ : jfr jW_X11_about a0 a487_ := jfr_tr (jfr_rf _ _) hf487_ rfl
      exact cp_X11_about_209 E d hd x1 x2 a0 b0 hv0 a487_ hv487_ hf489_ (show 1 ≤ a0 4 6 from by omega)
    ·
      refine jt_ite (fun c490_ => ?_) (fun c490_ => ?_)
      ·
        have hf491_ : jfr jW_X11_about a0 a487_ := jfr_tr (jfr_rf _ _) hf487_ rfl
        exact cp_X11_about_100 E d hd x1 x2 a0 b0 hv0 x1 a487_ hv487_ hf491_ (show 0 ≤ x1 from by omega) (show x1 ≤ 39 from by omega) (show 1 ≤ a0 4 6 from by omega)
      ·
        refine jt_ite (fun c492_ => ?_) (fun c492_ => ?_)
        ·
          have hf493_ : jfr jW_X11_about a0 a487_ := jfr_tr (jfr_rf _ _) hf487_ rfl
          exact cp_X11_about_109 E d hd x1 x2 a0 b0 hv0 x1 a487_ hv487_ hf493_ (show 0 ≤ x1 from by omega) (show x1 ≤ 39 from by omega) (show 1 ≤ a0 4 6 from by omega)
        ·
          refine jt_ite (fun c494_ => ?_) (fun c494_ => ?_)
          ·
            have hf495_ : jfr jW_X11_about a0 a487_ := jfr_tr (jfr_rf _ _) hf487_ rfl
            exact cp_X11_about_118 E d hd x1 x2 a0 b0 hv0 x1 a487_ hv487_ hf495_ (show 0 ≤ x1 from by omega) (show x1 ≤ 39 from by omega) (show 1 ≤ a0 4 6 from by omega)
          ·
            refine jt_ite (fun c496_ => ?_) (fun c496_ => ?_)
            ·
              have hf497_ : jfr jW_X11_about a0 a487_ := jfr_tr (jfr_rf _ _) hf487_ rfl
              exact cp_X11_about_127 E d hd x1 x2 a0 b0 hv0 x1 a487_ hv487_ hf497_ (show 0 ≤ x1 from by omega) (show x1 ≤ 39 from by omega) (show 1 ≤ a0 4 6 from by omega)
            ·
              refine jt_ite (fun c498_ => ?_) (fun c498_ => ?_)
              ·
                have hf499_ : jfr jW_X11_about a0 a487_ := jfr_tr (jfr_rf _ _) hf487_ rfl
                exact cp_X11_about_136 E d hd x1 x2 a0 b0 hv0 x1 a487_ hv487_ hf499_ (show 0 ≤ x1 from by omega) (show x1 ≤ 39 from by omega) (show 1 ≤ a0 4 6 from by omega)
              ·
                refine jt_ite (fun c500_ => ?_) (fun c500_ => ?_)
                ·
                  have hf501_ : jfr jW_X11_about a0 a487_ := jfr_tr (jfr_rf _ _) hf487_ rfl
                  exact cp_X11_about_145 E d hd x1 x2 a0 b0 hv0 x1 a487_ hv487_ hf501_ (show 0 ≤ x1 from by omega) (show x1 ≤ 39 from by omega) (show 1 ≤ a0 4 6 from by omega)
                ·
                  refine jt_ite (fun c502_ => ?_) (fun c502_ => ?_)
                  ·
                    have hf503_ : jfr jW_X11_about a0 a487_ := jfr_tr (jfr_rf _ _) hf487_ rfl
                    exact cp_X11_about_151 E d hd x1 x2 a0 b0 hv0 x1 a487_ hv487_ hf503_ (show 0 ≤ x1 from by omega) (show x1 ≤ 39 from by omega) (show 1 ≤ a0 4 6 from by omega)
                  ·
                    refine jt_ite (fun c504_ => ?_) (fun c504_ => ?_)
                    ·
                      have hf505_ : jfr jW_X11_about a0 a487_ := jfr_tr (jfr_rf _ _) hf487_ rfl
                      exact cp_X11_about_165 E d hd x1 x2 a0 b0 hv0 x1 a487_ hv487_ hf505_ (show 0 ≤ x1 from by omega) (show x1 ≤ 39 from by omega) (show 1 ≤ a0 4 6 from by omega)
                    ·
                      refine jt_ite (fun c506_ => ?_) (fun c506_ => ?_)
                      ·
                        have hf507_ : jfr jW_X11_about a0 a487_ := jfr_tr (jfr_rf _ _) hf487_ rfl
                        exact cp_X11_about_174 E d hd x1 x2 a0 b0 hv0 x1 a487_ hv487_ hf507_ (show 0 ≤ x1 from by omega) (show x1 ≤ 39 from by omega) (show 1 ≤ a0 4 6 from by omega)
                      ·
                        refine jt_ite (fun c508_ => ?_) (fun c508_ => ?_)
                        ·
                          have hf509_ : jfr jW_X11_about a0 a487_ := jfr_tr (jfr_rf _ _) hf487_ rfl
                          exact cp_X11_about_191 E d hd x1 x2 a0 b0 hv0 x1 a487_ hv487_ hf509_ (show 0 ≤ x1 from by omega) (show x1 ≤ 39 from by omega) (show 1 ≤ a0 4 6 from by omega)
                        ·
                          refine jt_ite (fun c510_ => ?_) (fun c510_ => ?_)
                          ·
                            have hf511_ : jfr jW_X11_about a0 a487_ := jfr_tr (jfr_rf _ _) hf487_ rfl
                            exact cp_X11_about_200 E d hd x1 x2 a0 b0 hv0 x1 a487_ hv487_ hf511_ (show 0 ≤ x1 from by omega) (show x1 ≤ 39 from by omega) (show 1 ≤ a0 4 6 from by omega)
                          ·
                            exact absurd (by omega : False) id
abbrev jQ_X11_album (x1 : Int) (a0 b0 : Nat → Nat → Int) : List jxV → (Nat → Nat → Int) → (Nat → Nat → Int) → Prop := rI (fun r a b => (a0 = a) ∧ (b0 = b) ∧ ((a0 4 6 = 0 → r = 0 - 1)))
theorem sp_X11_album (E : jxE) (d : Nat) (hd : Nat.ble 5 d = true) (x1 : Int) (a0 b0 : Nat → Nat → Int) (hv0 : iv a0) : jt (jxC E d 182 [.inr (.inr (.inl 0)), .inl x1] (jxSH, a0, b0)) (jQ_X11_album x1 a0 b0) := by
  obtain ⟨d, rfl⟩ := jd_succ hd
  refine jt_eq (bq_X11_album E d x1 a0 b0) ?_
  refine jt_eI (eq_X3_has E d (jd_le hd rfl) x1 a0 b0) ?_
  have h512_ := f_X3_has_eq a0 b0 x1
  have h513_ := iv_get hv0 (k := 4) (j := 6) (l := 0) (u := 40) rfl
  refine jt_ite (fun c514_ => ?_) (fun c514_ => ?_)
  ·
    exact jt_rI ⟨rfl, rfl, (show (a0 4 6 = 0 → (-1) = 0 - 1) from by omega)⟩
  ·
    refine jt_bI (sp_X0_landsArrivedTo E d (jd_le hd rfl) x1 (a0 0 0) a0 b0 hv0) (fun r515_ a515_ b515_ h515_ => ?_)
    obtain ⟨rfl, rfl⟩ := h515_
    exact jt_rI ⟨rfl, rfl, (show (a0 4 6 = 0 → r515_ = 0 - 1) from by omega)⟩
def jW_X11_arrive : List (Nat × Nat) := [(58, 12), (65, 9999), (66, 9999), (67, 9999), (68, 9999)]
abbrev jQ_X11_arrive (x1 x2 : Int) (a0 b0 : Nat → Nat → Int) : List jxV → (Nat → Nat → Int) → (Nat → Nat → Int) → Prop := rI (fun r a b => (iv a) ∧ (jfr jW_X11_arrive a0 a) ∧ (b0 = b) ∧ ((0 ≤ r ∧ r ≤ 1)) ∧ ((a0 58 8 = 0 → r = 0)))
theorem sp_X11_arrive (E : jxE) (d : Nat) (hd : Nat.ble 4 d = true) (x1 x2 : Int) (a0 b0 : Nat → Nat → Int) (hv0 : iv a0) : jt (jxC E d 177 [.inr (.inr (.inl 0)), .inl x1, .inl x2] (jxSH, a0, b0)) (jQ_X11_arrive x1 x2 a0 b0) := by
  obtain ⟨d, rfl⟩ := jd_succ hd
  refine jt_eq (bq_X11_arrive E d x1 x2 a0 b0) ?_
  refine jt_bI (sp_X0_tellArrival E d (jd_le hd rfl) x1 x2 (a0 0 0) a0 b0 hv0) (fun r516_ a516_ b516_ h516_ => ?_)
  obtain ⟨hv516_, hf516_, rfl, hq516_0, hq516_1⟩ := h516_
  have h517_ := iv_get hv0 (k := 58) (j := 8) (l := 0) (u := 300) rfl
  refine jt_grd (by omega) ?_
  have hf518_ : jfr jW_X11_arrive a0 a516_ := jfr_tr (jfr_rf _ _) hf516_ rfl
  exact jt_rI ⟨hv516_, hf518_, rfl, (show (0 ≤ r516_ ∧ r516_ ≤ 1) from by omega), (show (a0 58 8 = 0 → r516_ = 0) from by omega)⟩
abbrev jQ_X11_unhappy (x1 x2 : Int) (a0 b0 : Nat → Nat → Int) : List jxV → (Nat → Nat → Int) → (Nat → Nat → Int) → Prop := rI (fun r a b => (a0 = a) ∧ (b0 = b))
theorem cp_X11_unhappy_21 (E : jxE) (d : Nat) (hd : Nat.ble 6 (d + 1) = true) (x1 x2 : Int) (a0 b0 : Nat → Nat → Int) (hv0 : iv a0) (hp0 : WISHR a0) : ∀ (y1 y2 s0 : Int), 0 ≤ s0 → s0 ≤ 1 → jt (jxX E d 173 21 [some (.inr (.inr (.inl 0))), some (.inl y1), some (.inl y2)] [.inl s0] (jxSH, a0, b0)) (jQ_X11_unhappy x1 x2 a0 b0) := by
  intro y1 y2 s0 hi0 hi1
  refine jt_eq (bq_X11_unhappy_21 E d y1 y2 s0 a0 b0) ?_
  refine jt_bI (sp_X10_isMet E d (jd_le hd rfl) y2 y1 (a0 0 0) a0 b0 hv0 hp0) (fun r519_ a519_ b519_ h519_ => ?_)
  obtain ⟨rfl, rfl, hq519_0, hq519_1⟩ := h519_
  refine jt_ite (fun c520_ => ?_) (fun c520_ => ?_)
  ·
    exact jt_rI ⟨rfl, rfl⟩
  ·
    exact jt_rI ⟨rfl, rfl⟩
theorem sp_X11_unhappy (E : jxE) (d : Nat) (hd : Nat.ble 6 d = true) (x1 x2 : Int) (a0 b0 : Nat → Nat → Int) (hv0 : iv a0) (hp0 : WISHR a0) : jt (jxC E d 173 [.inr (.inr (.inl 0)), .inl x1, .inl x2] (jxSH, a0, b0)) (jQ_X11_unhappy x1 x2 a0 b0) := by
  obtain ⟨d, rfl⟩ := jd_succ hd
  refine jt_eq (bq_X11_unhappy E d x1 x2 a0 b0) ?_
  refine jt_bI (sp_X10_isMet E d (jd_le hd rfl) x1 x2 (a0 0 0) a0 b0 hv0 hp0) (fun r521_ a521_ b521_ h521_ => ?_)
  obtain ⟨rfl, rfl, hq521_0, hq521_1⟩ := h521_
  refine jt_ite (fun c522_ => ?_) (fun c522_ => ?_)
  ·
    exact cp_X11_unhappy_21 E d hd x1 x2 a0 b0 hv0 hp0 x1 x2 1 (show 0 ≤ 1 from by omega) (show 1 ≤ 1 from by omega)
  ·
    exact cp_X11_unhappy_21 E d hd x1 x2 a0 b0 hv0 hp0 x1 x2 0 (show 0 ≤ 0 from by omega) (show 0 ≤ 1 from by omega)
abbrev jQ_X11_isAhead (x1 x2 x3 : Int) (a0 b0 : Nat → Nat → Int) : List jxV → (Nat → Nat → Int) → (Nat → Nat → Int) → Prop := rI (fun r a b => (a0 = a) ∧ (b0 = b) ∧ ((0 ≤ r ∧ r ≤ 1)))
theorem cp_X11_isAhead_26 (E : jxE) (d : Nat) (hd : Nat.ble 7 (d + 1) = true) (x1 x2 x3 : Int) (a0 b0 : Nat → Nat → Int) (hv0 : iv a0) (hp0 : WISHR a0) : jt (jxX E d 175 26 [none, none, none, none, none, none] [] (jxSH, a0, b0)) (jQ_X11_isAhead x1 x2 x3 a0 b0) := by
  refine jt_eq (bq_X11_isAhead_26 E d a0 b0) ?_
  exact jt_rI ⟨rfl, rfl, (show (0 ≤ 1 ∧ 1 ≤ 1) from by omega)⟩
theorem cp_X11_isAhead_30 (E : jxE) (d : Nat) (hd : Nat.ble 7 (d + 1) = true) (x1 x2 x3 : Int) (a0 b0 : Nat → Nat → Int) (hv0 : iv a0) (hp0 : WISHR a0) : jt (jxX E d 175 30 [none, none, none, none, none, none] [] (jxSH, a0, b0)) (jQ_X11_isAhead x1 x2 x3 a0 b0) := by
  refine jt_eq (bq_X11_isAhead_30 E d a0 b0) ?_
  exact jt_rI ⟨rfl, rfl, (show (0 ≤ 0 ∧ 0 ≤ 1) from by omega)⟩
theorem cp_X11_isAhead_48 (E : jxE) (d : Nat) (hd : Nat.ble 7 (d + 1) = true) (x1 x2 x3 : Int) (a0 b0 : Nat → Nat → Int) (hv0 : iv a0) (hp0 : WISHR a0) : ∀ (y2 y3 y4 y5 : Int), jt (jxX E d 175 48 [some (.inr (.inr (.inl 0))), none, some (.inl y2), some (.inl y3), some (.inl y4), some (.inl y5)] [] (jxSH, a0, b0)) (jQ_X11_isAhead x1 x2 x3 a0 b0) := by
  intro y2 y3 y4 y5
  refine jt_eq (bq_X11_isAhead_48 E d y2 y3 y4 y5 a0 b0) ?_
  refine jt_ite (fun c523_ => ?_) (fun c523_ => ?_)
  ·
    refine jt_eI (eq_X7_lastSentTo E d (jd_le hd rfl) y2 a0 b0) ?_
    refine jt_eI (eq_X7_lastSentTo E d (jd_le hd rfl) y3 a0 b0) ?_
    have h524_ := f_X7_lastSentTo_eq a0 b0 y2
    have h525_ := f_X11_entry_r75_eq a0 b0 40 y2
    have h526_ := f_X7_lastSentTo_eq a0 b0 y3
    have h527_ := f_X11_entry_r75_eq a0 b0 40 y3
    refine jt_ite (fun c528_ => ?_) (fun c528_ => ?_)
    ·
      exact jt_rI ⟨rfl, rfl, (show (0 ≤ 1 ∧ 1 ≤ 1) from by omega)⟩
    ·
      exact jt_rI ⟨rfl, rfl, (show (0 ≤ 0 ∧ 0 ≤ 1) from by omega)⟩
  ·
    refine jt_ite (fun c529_ => ?_) (fun c529_ => ?_)
    ·
      exact jt_rI ⟨rfl, rfl, (show (0 ≤ 1 ∧ 1 ≤ 1) from by omega)⟩
    ·
      exact jt_rI ⟨rfl, rfl, (show (0 ≤ 0 ∧ 0 ≤ 1) from by omega)⟩
theorem sp_X11_isAhead (E : jxE) (d : Nat) (hd : Nat.ble 7 d = true) (x1 x2 x3 : Int) (a0 b0 : Nat → Nat → Int) (hv0 : iv a0) (hp0 : WISHR a0) : jt (jxC E d 175 [.inr (.inr (.inl 0)), .inl x1, .inl x2, .inl x3] (jxSH, a0, b0)) (jQ_X11_isAhead x1 x2 x3 a0 b0) := by
  obtain ⟨d, rfl⟩ := jd_succ hd
  refine jt_eq (bq_X11_isAhead E d x1 x2 x3 a0 b0) ?_
  refine jt_eI (eq_X11_owed E d (jd_le hd rfl) x2 a0 b0) ?_
  refine jt_eI (eq_X11_owed E d (jd_le hd rfl) x3 a0 b0) ?_
  have h530_ := f_X11_owed_eq a0 b0 x2
  have h531_ := f_X7_givenBy_eq a0 b0 x2
  have h532_ := f_X11_entry_r70_eq a0 b0 40 x2
  have h533_ := f_X3_creditOf_eq a0 b0 x2
  have h534_ := f_X3_has_eq a0 b0 x2
  have h535_ := iv_get hv0 (k := 4) (j := 6) (l := 0) (u := 40) rfl
  have h536_ := jxw_im ((f_X7_givenBy a0 b0 x2) + (f_X3_creditOf a0 b0 x2))
  have h537_ := jxw_rg ((f_X7_givenBy a0 b0 x2) + (f_X3_creditOf a0 b0 x2))
  have h538_ := f_X7_gotBy_eq a0 b0 x2
  have h539_ := f_X11_entry_r71_eq a0 b0 40 x2
  have h540_ := jxw_im ((jxw ((f_X7_givenBy a0 b0 x2) + (f_X3_creditOf a0 b0 x2))) - (f_X7_gotBy a0 b0 x2))
  have h541_ := jxw_rg ((jxw ((f_X7_givenBy a0 b0 x2) + (f_X3_creditOf a0 b0 x2))) - (f_X7_gotBy a0 b0 x2))
  have h542_ := f_X7_comingTo_eq a0 b0 x2
  have h543_ := f_X11_entry_r72_eq a0 b0 40 x2
  have h544_ := jxw_im ((jxw ((jxw ((f_X7_givenBy a0 b0 x2) + (f_X3_creditOf a0 b0 x2))) - (f_X7_gotBy a0 b0 x2))) - (f_X7_comingTo a0 b0 x2))
  have h545_ := jxw_rg ((jxw ((jxw ((f_X7_givenBy a0 b0 x2) + (f_X3_creditOf a0 b0 x2))) - (f_X7_gotBy a0 b0 x2))) - (f_X7_comingTo a0 b0 x2))
  have h546_ := f_X11_owed_eq a0 b0 x3
  have h547_ := f_X7_givenBy_eq a0 b0 x3
  have h548_ := f_X11_entry_r70_eq a0 b0 40 x3
  have h549_ := f_X3_creditOf_eq a0 b0 x3
  have h550_ := f_X3_has_eq a0 b0 x3
  have h551_ := jxw_im ((f_X7_givenBy a0 b0 x3) + (f_X3_creditOf a0 b0 x3))
  have h552_ := jxw_rg ((f_X7_givenBy a0 b0 x3) + (f_X3_creditOf a0 b0 x3))
  have h553_ := f_X7_gotBy_eq a0 b0 x3
  have h554_ := f_X11_entry_r71_eq a0 b0 40 x3
  have h555_ := jxw_im ((jxw ((f_X7_givenBy a0 b0 x3) + (f_X3_creditOf a0 b0 x3))) - (f_X7_gotBy a0 b0 x3))
  have h556_ := jxw_rg ((jxw ((f_X7_givenBy a0 b0 x3) + (f_X3_creditOf a0 b0 x3))) - (f_X7_gotBy a0 b0 x3))
  have h557_ := f_X7_comingTo_eq a0 b0 x3
  have h558_ := f_X11_entry_r72_eq a0 b0 40 x3
  have h559_ := jxw_im ((jxw ((jxw ((f_X7_givenBy a0 b0 x3) + (f_X3_creditOf a0 b0 x3))) - (f_X7_gotBy a0 b0 x3))) - (f_X7_comingTo a0 b0 x3))
  have h560_ := jxw_rg ((jxw ((jxw ((f_X7_givenBy a0 b0 x3) + (f_X3_creditOf a0 b0 x3))) - (f_X7_gotBy a0 b0 x3))) - (f_X7_comingTo a0 b0 x3))
  refine jt_ite (fun c561_ => ?_) (fun c561_ => ?_)
  ·
    refine jt_bI (sp_X11_unhappy E d (jd_le hd rfl) x1 x2 a0 b0 hv0 hp0) (fun r562_ a562_ b562_ h562_ => ?_)
    obtain ⟨rfl, rfl⟩ := h562_
    refine jt_bI (sp_X11_unhappy E d (jd_le hd rfl) x1 x3 a0 b0 hv0 hp0) (fun r563_ a563_ b563_ h563_ => ?_)
    obtain ⟨rfl, rfl⟩ := h563_
    exact cp_X11_isAhead_48 E d hd x1 x2 x3 a0 b0 hv0 hp0 x2 x3 r562_ r563_
  ·
    refine jt_eI (eq_X11_owed E d (jd_le hd rfl) x2 a0 b0) ?_
    refine jt_eI (eq_X11_owed E d (jd_le hd rfl) x3 a0 b0) ?_
    refine jt_ite (fun c564_ => ?_) (fun c564_ => ?_)
    ·
      exact cp_X11_isAhead_26 E d hd x1 x2 x3 a0 b0 hv0 hp0
    ·
      exact cp_X11_isAhead_30 E d hd x1 x2 x3 a0 b0 hv0 hp0
abbrev jQ_X11_mayGet (x1 x2 x3 : Int) (a0 b0 : Nat → Nat → Int) : List jxV → (Nat → Nat → Int) → (Nat → Nat → Int) → Prop := rI (fun r a b => (a0 = a) ∧ (b0 = b) ∧ ((0 ≤ r ∧ r ≤ 1)))
theorem cp_X11_mayGet_65 (E : jxE) (d : Nat) (hd : Nat.ble 7 (d + 1) = true) (x1 x2 x3 : Int) (a0 b0 : Nat → Nat → Int) (hv0 : iv a0) (hp0 : WISHR a0) : jt (jxX E d 172 65 [none, none, none, none, none] [] (jxSH, a0, b0)) (jQ_X11_mayGet x1 x2 x3 a0 b0) := by
  refine jt_eq (bq_X11_mayGet_65 E d a0 b0) ?_
  exact jt_rI ⟨rfl, rfl, (show (0 ≤ 1 ∧ 1 ≤ 1) from by omega)⟩
theorem cp_X11_mayGet_69 (E : jxE) (d : Nat) (hd : Nat.ble 7 (d + 1) = true) (x1 x2 x3 : Int) (a0 b0 : Nat → Nat → Int) (hv0 : iv a0) (hp0 : WISHR a0) : jt (jxX E d 172 69 [none, none, none, none, none] [] (jxSH, a0, b0)) (jQ_X11_mayGet x1 x2 x3 a0 b0) := by
  refine jt_eq (bq_X11_mayGet_69 E d a0 b0) ?_
  exact jt_rI ⟨rfl, rfl, (show (0 ≤ 0 ∧ 0 ≤ 1) from by omega)⟩
theorem cp_X11_mayGet_33 (E : jxE) (d : Nat) (hd : Nat.ble 7 (d + 1) = true) (x1 x2 x3 : Int) (a0 b0 : Nat → Nat → Int) (hv0 : iv a0) (hp0 : WISHR a0) : ∀ (y1 y2 : Int), 0 ≤ y2 → y2 ≤ 39 → jt (jxX E d 172 33 [some (.inr (.inr (.inl 0))), some (.inl y1), some (.inl y2), none, none] [] (jxSH, a0, b0)) (jQ_X11_mayGet x1 x2 x3 a0 b0) := by
  intro y1 y2 hi0 hi1
  refine jt_eq (bq_X11_mayGet_33 E d y1 y2 a0 b0) ?_
  refine jt_eI (eq_X11_owed E d (jd_le hd rfl) y2 a0 b0) ?_
  refine jt_eI (eq_X6_slack E d (jd_le hd rfl) a0 b0) ?_
  have h565_ := f_X11_owed_eq a0 b0 y2
  have h566_ := f_X7_givenBy_eq a0 b0 y2
  have h567_ := f_X11_entry_r70_eq a0 b0 40 y2
  have h568_ := f_X3_creditOf_eq a0 b0 y2
  have h569_ := f_X3_has_eq a0 b0 y2
  have h570_ := iv_get hv0 (k := 4) (j := 6) (l := 0) (u := 40) rfl
  have h571_ := jxw_im ((f_X7_givenBy a0 b0 y2) + (f_X3_creditOf a0 b0 y2))
  have h572_ := jxw_rg ((f_X7_givenBy a0 b0 y2) + (f_X3_creditOf a0 b0 y2))
  have h573_ := f_X7_gotBy_eq a0 b0 y2
  have h574_ := f_X11_entry_r71_eq a0 b0 40 y2
  have h575_ := jxw_im ((jxw ((f_X7_givenBy a0 b0 y2) + (f_X3_creditOf a0 b0 y2))) - (f_X7_gotBy a0 b0 y2))
  have h576_ := jxw_rg ((jxw ((f_X7_givenBy a0 b0 y2) + (f_X3_creditOf a0 b0 y2))) - (f_X7_gotBy a0 b0 y2))
  have h577_ := f_X7_comingTo_eq a0 b0 y2
  have h578_ := f_X11_entry_r72_eq a0 b0 40 y2
  have h579_ := jxw_im ((jxw ((jxw ((f_X7_givenBy a0 b0 y2) + (f_X3_creditOf a0 b0 y2))) - (f_X7_gotBy a0 b0 y2))) - (f_X7_comingTo a0 b0 y2))
  have h580_ := jxw_rg ((jxw ((jxw ((f_X7_givenBy a0 b0 y2) + (f_X3_creditOf a0 b0 y2))) - (f_X7_gotBy a0 b0 y2))) - (f_X7_comingTo a0 b0 y2))
  have h581_ := f_X6_slack_eq a0 b0
  have h582_ := jxw_im ((f_X11_owed a0 b0 y2) + (f_X6_slack a0 b0))
  have h583_ := jxw_rg ((f_X11_owed a0 b0 y2) + (f_X6_slack a0 b0))
  refine jt_ite (fun c584_ => ?_) (fun c584_ => ?_)
  ·
    refine jt_bI (sp_X11_unhappy E d (jd_le hd rfl) y1 y2 a0 b0 hv0 hp0) (fun r585_ a585_ b585_ h585_ => ?_)
    obtain ⟨rfl, rfl⟩ := h585_
    refine jt_eI (eq_X6_strict E d (jd_le hd rfl) a0 b0) ?_
    have h586_ := f_X6_strict_eq a0 b0
    refine jt_ite (fun c587_ => ?_) (fun c587_ => ?_)
    ·
      exact cp_X11_mayGet_69 E d hd x1 x2 x3 a0 b0 hv0 hp0
    ·
      exact cp_X11_mayGet_65 E d hd x1 x2 x3 a0 b0 hv0 hp0
  ·
    exact cp_X11_mayGet_69 E d hd x1 x2 x3 a0 b0 hv0 hp0
theorem sp_X11_mayGet (E : jxE) (d : Nat) (hd : Nat.ble 7 d = true) (x1 x2 x3 : Int) (a0 b0 : Nat → Nat → Int) (hv0 : iv a0) (hp0 : WISHR a0) : jt (jxC E d 172 [.inr (.inr (.inl 0)), .inl x1, .inl x2, .inr (.inl x3)] (jxSH, a0, b0)) (jQ_X11_mayGet x1 x2 x3 a0 b0) := by
  obtain ⟨d, rfl⟩ := jd_succ hd
  refine jt_eq (bq_X11_mayGet E d x1 x2 x3 a0 b0) ?_
  refine jt_eI (eq_X3_isThere E d (jd_le hd rfl) x2 a0 b0) ?_
  have h588_ := f_X3_isThere_eq a0 b0 x2
  have h589_ := f_X3_has_eq a0 b0 x2
  have h590_ := iv_get hv0 (k := 4) (j := 6) (l := 0) (u := 40) rfl
  refine jt_ite (fun c591_ => ?_) (fun c591_ => ?_)
  ·
    exact cp_X11_mayGet_69 E d hd x1 x2 x3 a0 b0 hv0 hp0
  ·
    refine jt_eI (eq_X3_areKin E d (jd_le hd rfl) x1 x2 a0 b0) ?_
    have h592_ := f_X3_areKin_bool a0 b0 x1 x2
    refine jt_ite (fun c593_ => ?_) (fun c593_ => ?_)
    ·
      have h594_ := jxlcmp_b (jxandl (jxshrl x3 x2) 1) 0
      refine jt_ite (fun c595_ => ?_) (fun c595_ => ?_)
      ·
        exact cp_X11_mayGet_33 E d hd x1 x2 x3 a0 b0 hv0 hp0 x1 x2 (show 0 ≤ x2 from by omega) (show x2 ≤ 39 from by omega)
      ·
        exact cp_X11_mayGet_69 E d hd x1 x2 x3 a0 b0 hv0 hp0
    ·
      exact cp_X11_mayGet_69 E d hd x1 x2 x3 a0 b0 hv0 hp0
abbrev jQ_X11_firstReceiver (x1 : Int) (a0 b0 : Nat → Nat → Int) : List jxV → (Nat → Nat → Int) → (Nat → Nat → Int) → Prop := rI (fun r a b => (a0 = a) ∧ (b0 = b))
theorem cp_X11_firstReceiver_15 (E : jxE) (d : Nat) (hd : Nat.ble 8 (d + 1) = true) (x1 : Int) (a0 b0 : Nat → Nat → Int) (hv0 : iv a0) (hp0 : WISHR a0) : ∀ n : Nat, (∀ (y1 y2 y5 : Int), (((40 - y5) * 1) + 0).toNat ≤ n → 0 ≤ y5 → y5 ≤ 39 → jt (jxX E d 174 56 [some (.inr (.inr (.inl 0))), some (.inl y1), some (.inr (.inl y2)), none, none, some (.inl y5)] [] (jxSH, a0, b0)) (jQ_X11_firstReceiver x1 a0 b0)) ∧ (∀ (y1 y2 y4 y5 : Int), (((40 - y5) * 1) + 0).toNat ≤ n → 0 ≤ y4 → y4 ≤ 39 → 0 ≤ y5 → y5 ≤ 39 → jt (jxX E d 174 44 [some (.inr (.inr (.inl 0))), some (.inl y1), some (.inr (.inl y2)), none, some (.inl y4), some (.inl y5)] [] (jxSH, a0, b0)) (jQ_X11_firstReceiver x1 a0 b0)) ∧ (∀ (y1 y2 y4 y5 : Int), (((40 - y5) * 1) + 0).toNat ≤ n → 0 - 1 ≤ y4 → y4 ≤ 39 → 0 ≤ y5 → y5 ≤ 40 → jt (jxX E d 174 15 [some (.inr (.inr (.inl 0))), some (.inl y1), some (.inr (.inl y2)), none, some (.inl y4), some (.inl y5)] [] (jxSH, a0, b0)) (jQ_X11_firstReceiver x1 a0 b0)) := by
  refine jx_ind fun n ih => ?_
  have ih56 : ∀ (y1 y2 y5 : Int), (((40 - y5) * 1) + 0).toNat < n → 0 ≤ y5 → y5 ≤ 39 → jt (jxX E d 174 56 [some (.inr (.inr (.inl 0))), some (.inl y1), some (.inr (.inl y2)), none, none, some (.inl y5)] [] (jxSH, a0, b0)) (jQ_X11_firstReceiver x1 a0 b0) := fun y1 y2 y5 hlt i0 i1 => (ih _ hlt).1 y1 y2 y5 (Nat.le_refl _) i0 i1
  have ih44 : ∀ (y1 y2 y4 y5 : Int), (((40 - y5) * 1) + 0).toNat < n → 0 ≤ y4 → y4 ≤ 39 → 0 ≤ y5 → y5 ≤ 39 → jt (jxX E d 174 44 [some (.inr (.inr (.inl 0))), some (.inl y1), some (.inr (.inl y2)), none, some (.inl y4), some (.inl y5)] [] (jxSH, a0, b0)) (jQ_X11_firstReceiver x1 a0 b0) := fun y1 y2 y4 y5 hlt i0 i1 i2 i3 => (ih _ hlt).2.1 y1 y2 y4 y5 (Nat.le_refl _) i0 i1 i2 i3
  have ih15 : ∀ (y1 y2 y4 y5 : Int), (((40 - y5) * 1) + 0).toNat < n → 0 - 1 ≤ y4 → y4 ≤ 39 → 0 ≤ y5 → y5 ≤ 40 → jt (jxX E d 174 15 [some (.inr (.inr (.inl 0))), some (.inl y1), some (.inr (.inl y2)), none, some (.inl y4), some (.inl y5)] [] (jxSH, a0, b0)) (jQ_X11_firstReceiver x1 a0 b0) := fun y1 y2 y4 y5 hlt i0 i1 i2 i3 => (ih _ hlt).2.2 y1 y2 y4 y5 (Nat.le_refl _) i0 i1 i2 i3
  have hc56 : ∀ (y1 y2 y5 : Int), (((40 - y5) * 1) + 0).toNat ≤ n → 0 ≤ y5 → y5 ≤ 39 → jt (jxX E d 174 56 [some (.inr (.inr (.inl 0))), some (.inl y1), some (.inr (.inl y2)), none, none, some (.inl y5)] [] (jxSH, a0, b0)) (jQ_X11_firstReceiver x1 a0 b0) := by
    intro y1 y2 y5 hm hi0 hi1
    refine jt_eq (bq_X11_firstReceiver_56 E d y1 y2 y5 a0 b0) ?_
    have h596_ : jxw (y5 + 1) = y5 + 1 := jxw_id (by omega) (by omega)
    exact ih15 y1 y2 y5 (jxw (y5 + 1)) (show (((40 - (jxw (y5 + 1))) * 1) + 0).toNat < n from by omega) (show 0 - 1 ≤ y5 from by omega) (show y5 ≤ 39 from by omega) (show 0 ≤ jxw (y5 + 1) from by omega) (show jxw (y5 + 1) ≤ 40 from by omega)
  have hc44 : ∀ (y1 y2 y4 y5 : Int), (((40 - y5) * 1) + 0).toNat ≤ n → 0 ≤ y4 → y4 ≤ 39 → 0 ≤ y5 → y5 ≤ 39 → jt (jxX E d 174 44 [some (.inr (.inr (.inl 0))), some (.inl y1), some (.inr (.inl y2)), none, some (.inl y4), some (.inl y5)] [] (jxSH, a0, b0)) (jQ_X11_firstReceiver x1 a0 b0) := by
    intro y1 y2 y4 y5 hm hi0 hi1 hi2 hi3
    refine jt_eq (bq_X11_firstReceiver_44 E d y1 y2 y4 y5 a0 b0) ?_
    refine jt_bI (sp_X11_isAhead E d (jd_le hd rfl) y1 y5 y4 a0 b0 hv0 hp0) (fun r597_ a597_ b597_ h597_ => ?_)
    obtain ⟨rfl, rfl, hq597_0⟩ := h597_
    refine jt_ite (fun c598_ => ?_) (fun c598_ => ?_)
    ·
      have h599_ : jxw (y5 + 1) = y5 + 1 := jxw_id (by omega) (by omega)
      exact ih15 y1 y2 y4 (jxw (y5 + 1)) (show (((40 - (jxw (y5 + 1))) * 1) + 0).toNat < n from by omega) (show 0 - 1 ≤ y4 from by omega) (show y4 ≤ 39 from by omega) (show 0 ≤ jxw (y5 + 1) from by omega) (show jxw (y5 + 1) ≤ 40 from by omega)
    ·
      exact hc56 y1 y2 y5 (show (((40 - y5) * 1) + 0).toNat ≤ n from by omega) (show 0 ≤ y5 from by omega) (show y5 ≤ 39 from by omega)
  have hc15 : ∀ (y1 y2 y4 y5 : Int), (((40 - y5) * 1) + 0).toNat ≤ n → 0 - 1 ≤ y4 → y4 ≤ 39 → 0 ≤ y5 → y5 ≤ 40 → jt (jxX E d 174 15 [some (.inr (.inr (.inl 0))), some (.inl y1), some (.inr (.inl y2)), none, some (.inl y4), some (.inl y5)] [] (jxSH, a0, b0)) (jQ_X11_firstReceiver x1 a0 b0) := by
    intro y1 y2 y4 y5 hm hi0 hi1 hi2 hi3
    refine jt_eq (bq_X11_firstReceiver_15 E d y1 y2 y4 y5 a0 b0) ?_
    refine jt_eI (eq_X3_size E d (jd_le hd rfl) a0 b0) ?_
    have h600_ := f_X3_size_eq a0 b0
    have h601_ := iv_get hv0 (k := 4) (j := 6) (l := 0) (u := 40) rfl
    refine jt_ite (fun c602_ => ?_) (fun c602_ => ?_)
    ·
      refine jt_bI (sp_X11_mayGet E d (jd_le hd rfl) y1 y5 y2 a0 b0 hv0 hp0) (fun r603_ a603_ b603_ h603_ => ?_)
      obtain ⟨rfl, rfl, hq603_0⟩ := h603_
      refine jt_ite (fun c604_ => ?_) (fun c604_ => ?_)
      ·
        have h605_ : jxw (y5 + 1) = y5 + 1 := jxw_id (by omega) (by omega)
        exact ih15 y1 y2 y4 (jxw (y5 + 1)) (show (((40 - (jxw (y5 + 1))) * 1) + 0).toNat < n from by omega) (show 0 - 1 ≤ y4 from by omega) (show y4 ≤ 39 from by omega) (show 0 ≤ jxw (y5 + 1) from by omega) (show jxw (y5 + 1) ≤ 40 from by omega)
      ·
        refine jt_ite (fun c606_ => ?_) (fun c606_ => ?_)
        ·
          exact hc56 y1 y2 y5 (show (((40 - y5) * 1) + 0).toNat ≤ n from by omega) (show 0 ≤ y5 from by omega) (show y5 ≤ 39 from by omega)
        ·
          exact hc44 y1 y2 y4 y5 (show (((40 - y5) * 1) + 0).toNat ≤ n from by omega) (show 0 ≤ y4 from by omega) (show y4 ≤ 39 from by omega) (show 0 ≤ y5 from by omega) (show y5 ≤ 39 from by omega)
    ·
      exact jt_rI ⟨rfl, rfl⟩
  exact ⟨hc56, hc44, hc15⟩
theorem sp_X11_firstReceiver (E : jxE) (d : Nat) (hd : Nat.ble 8 d = true) (x1 : Int) (a0 b0 : Nat → Nat → Int) (hv0 : iv a0) (hp0 : WISHR a0) : jt (jxC E d 174 [.inr (.inr (.inl 0)), .inl x1] (jxSH, a0, b0)) (jQ_X11_firstReceiver x1 a0 b0) := by
  obtain ⟨d, rfl⟩ := jd_succ hd
  refine jt_eq (bq_X11_firstReceiver E d x1 a0 b0) ?_
  refine jt_bJ (sp_X0_reachedBy E d (jd_le hd rfl) x1 a0 b0 hv0) (fun r607_ a607_ b607_ h607_ => ?_)
  obtain ⟨rfl, rfl⟩ := h607_
  exact (cp_X11_firstReceiver_15 E d hd x1 a0 b0 hv0 hp0 _).2.2 x1 r607_ (-1) 0 (Nat.le_refl _) (show 0 - 1 ≤ (-1) from by omega) (show (-1) ≤ 39 from by omega) (show 0 ≤ 0 from by omega) (show 0 ≤ 40 from by omega)
def jW_X11_send : List (Nat × Nat) := [(58, 8), (58, 13), (58, 14), (58, 15), (59, 9999), (60, 9999), (61, 9999), (62, 9999), (63, 9999), (64, 9999), (65, 9999)]
abbrev jQ_X11_send (x1 x2 x3 : Int) (a0 b0 : Nat → Nat → Int) : List jxV → (Nat → Nat → Int) → (Nat → Nat → Int) → Prop := rI (fun r a b => (iv a) ∧ (jfr jW_X11_send a0 a) ∧ (b0 = b))
theorem cp_X11_send_32 (E : jxE) (d : Nat) (hd : Nat.ble 5 (d + 1) = true) (x1 x2 x3 : Int) (a0 b0 : Nat → Nat → Int) (hv0 : iv a0) : ∀ (y1 y2 y3 y4 : Int) (a : Nat → Nat → Int), iv a → jfr jW_X11_send a0 a → jt (jxX E d 176 32 [some (.inr (.inr (.inl 0))), some (.inl y1), some (.inl y2), some (.inl y3), some (.inl y4)] [] (jxSH, a, b0)) (jQ_X11_send x1 x2 x3 a0 b0) := by
  intro y1 y2 y3 y4 a hv hf
  refine jt_eq (bq_X11_send_32 E d y1 y2 y3 y4 a b0) ?_
  refine jt_bI (sp_X0_add E d (jd_le hd rfl) y1 y2 (a 0 0) y4 y3 a b0 hv) (fun r608_ a608_ b608_ h608_ => ?_)
  obtain ⟨hv608_, hf608_, rfl⟩ := h608_
  have hf609_ : jfr jW_X11_send a0 a608_ := jfr_tr hf hf608_ rfl
  exact jt_rI ⟨hv608_, hf609_, rfl⟩
theorem sp_X11_send (E : jxE) (d : Nat) (hd : Nat.ble 5 d = true) (x1 x2 x3 : Int) (a0 b0 : Nat → Nat → Int) (hv0 : iv a0) : jt (jxC E d 176 [.inr (.inr (.inl 0)), .inl x1, .inl x2, .inl x3] (jxSH, a0, b0)) (jQ_X11_send x1 x2 x3 a0 b0) := by
  obtain ⟨d, rfl⟩ := jd_succ hd
  refine jt_eq (bq_X11_send E d x1 x2 x3 a0 b0) ?_
  refine jt_eI (eq_X3_landOf E d (jd_le hd rfl) x1 a0 b0) ?_
  refine jt_eI (eq_X3_landOf E d (jd_le hd rfl) x2 a0 b0) ?_
  refine jt_eI (eq_X6_lost E d (jd_le hd rfl) a0 b0) ?_
  refine jt_bI (sp_X0_boundBetween E d (jd_le hd rfl) (f_X3_landOf a0 b0 x1) (f_X3_landOf a0 b0 x2) (f_X6_lost a0 b0) a0 b0 hv0) (fun r610_ a610_ b610_ h610_ => ?_)
  obtain ⟨hv610_, hf610_, rfl⟩ := h610_
  have hf611_ : jfr jW_X11_send a0 a610_ := jfr_tr (jfr_rf _ _) hf610_ rfl
  exact cp_X11_send_32 E d hd x1 x2 x3 a0 b0 hv0 x1 x2 x3 r610_ a610_ hv610_ hf611_
def jW_X11_ask : List (Nat × Nat) := [(58, 8), (58, 13), (58, 14), (58, 15), (59, 9999), (60, 9999), (61, 9999), (62, 9999), (63, 9999), (64, 9999), (65, 9999), (70, 9999), (71, 9999), (72, 9999), (73, 9999), (74, 9999), (75, 9999)]
abbrev jQ_X11_ask (x1 : Int) (a0 b0 : Nat → Nat → Int) : List jxV → (Nat → Nat → Int) → (Nat → Nat → Int) → Prop := rI (fun r a b => (iv a) ∧ (jfr jW_X11_ask a0 a) ∧ (b0 = b) ∧ ((a0 4 6 = 0 → r = 0 - 1)))
theorem cp_X11_ask_39 (E : jxE) (d : Nat) (hd : Nat.ble 9 (d + 1) = true) (x1 : Int) (a0 b0 : Nat → Nat → Int) (hv0 : iv a0) (hp0 : WISHR a0) : ∀ (y1 : Int) (a : Nat → Nat → Int), iv a → jfr jW_X11_ask a0 a → 0 ≤ y1 → y1 ≤ 39 → 1 ≤ a0 4 6 → jt (jxX E d 165 39 [some (.inr (.inr (.inl 0))), some (.inl y1), none] [] (jxSH, a, b0)) (jQ_X11_ask x1 a0 b0) := by
  intro y1 a hv hf hi0 hi1 hi2
  refine jt_eq (bq_X11_ask_39 E d y1 a b0) ?_
  have h612_ := iv_get hv0 (k := 4) (j := 6) (l := 0) (u := 40) rfl
  refine jt_eI (eq_X11_mayAsk E d (jd_le hd rfl) y1 a b0) ?_
  have h613_ := f_X11_mayAsk_bool a b0 y1
  refine jt_ite (fun c614_ => ?_) (fun c614_ => ?_)
  ·
    exact jt_rI ⟨hv, hf, rfl, (show (a0 4 6 = 0 → (-2) = 0 - 1) from by omega)⟩
  ·
    refine jt_bI (sp_X11_firstReceiver E d (jd_le hd rfl) y1 a b0 hv (WISHR_fr hp0 hf (fun _ => rfl) (fun _ => rfl) (fun _ => rfl) (fun _ => rfl))) (fun r615_ a615_ b615_ h615_ => ?_)
    obtain ⟨rfl, rfl⟩ := h615_
    refine jt_ite (fun c616_ => ?_) (fun c616_ => ?_)
    ·
      exact jt_rI ⟨hv, hf, rfl, (show (a0 4 6 = 0 → (-3) = 0 - 1) from by omega)⟩
    ·
      refine jt_bI (sp_X11_send E d (jd_le hd rfl) y1 r615_ (-1) a b0 hv) (fun r617_ a617_ b617_ h617_ => ?_)
      obtain ⟨hv617_, hf617_, rfl⟩ := h617_
      have hf618_ : jfr jW_X11_ask a0 a617_ := jfr_tr hf hf617_ rfl
      exact jt_rI ⟨hv617_, hf618_, rfl, (show (a0 4 6 = 0 → r617_ = 0 - 1) from by omega)⟩
theorem sp_X11_ask (E : jxE) (d : Nat) (hd : Nat.ble 9 d = true) (x1 : Int) (a0 b0 : Nat → Nat → Int) (hv0 : iv a0) (hp0 : WISHR a0) : jt (jxC E d 165 [.inr (.inr (.inl 0)), .inl x1] (jxSH, a0, b0)) (jQ_X11_ask x1 a0 b0) := by
  obtain ⟨d, rfl⟩ := jd_succ hd
  refine jt_eq (bq_X11_ask E d x1 a0 b0) ?_
  refine jt_eI (eq_X3_has E d (jd_le hd rfl) x1 a0 b0) ?_
  have h619_ := f_X3_has_eq a0 b0 x1
  have h620_ := iv_get hv0 (k := 4) (j := 6) (l := 0) (u := 40) rfl
  refine jt_ite (fun c621_ => ?_) (fun c621_ => ?_)
  ·
    exact jt_rI ⟨hv0, (jfr_rf _ _), rfl, (show (a0 4 6 = 0 → (-1) = 0 - 1) from by omega)⟩
  ·
    refine jt_eI (eq_X0_hasRoom E d (jd_le hd rfl) 1 a0 b0) ?_
    have h622_ := f_X0_hasRoom_eq a0 b0 1
    have h623_ := iv_get hv0 (k := 58) (j := 8) (l := 0) (u := 300) rfl
    have h624_ : jxw (300 - (a0 58 8)) = 300 - (a0 58 8) := jxw_id (by omega) (by omega)
    refine jt_ite (fun c625_ => ?_) (fun c625_ => ?_)
    ·
      exact jt_rI ⟨hv0, (jfr_rf _ _), rfl, (show (a0 4 6 = 0 → (-1) = 0 - 1) from by omega)⟩
    ·
      refine jt_bV (sp_X7_take_r58 E d (jd_le hd rfl) (a0 0 0) a0 b0 hv0) (fun a626_ b626_ h626_ => ?_)
      obtain ⟨hv626_, hf626_, rfl⟩ := h626_
      have hf627_ : jfr jW_X11_ask a0 a626_ := jfr_tr (jfr_rf _ _) hf626_ rfl
      exact cp_X11_ask_39 E d hd x1 a0 b0 hv0 hp0 x1 a626_ hv626_ hf627_ (show 0 ≤ x1 from by omega) (show x1 ≤ 39 from by omega) (show 1 ≤ a0 4 6 from by omega)
def jW_X4_takeAway : List (Nat × Nat) := [(87, 9999), (88, 9999), (89, 9999)]
abbrev jQ_X4_takeAway (x1 : Int) (a0 b0 : Nat → Nat → Int) : List jxV → (Nat → Nat → Int) → (Nat → Nat → Int) → Prop := rV (fun a b => (iv a) ∧ (jfr jW_X4_takeAway a0 a) ∧ (b0 = b))
theorem cp_X4_takeAway_22 (E : jxE) (d : Nat) (hd : Nat.ble 2 (d + 1) = true) (x1 : Int) (a0 b0 : Nat → Nat → Int) (hv0 : iv a0) : ∀ (y1 : Int) (a : Nat → Nat → Int), iv a → jfr jW_X4_takeAway a0 a → 0 ≤ y1 → y1 ≤ 19 → jt (jxX E d 69 22 [some (.inr (.inr (.inl 83))), some (.inl y1)] [] (jxSH, a, b0)) (jQ_X4_takeAway x1 a0 b0) := by
  intro y1 a hv hf hi0 hi1
  refine jt_eq (bq_X4_takeAway_22 E d y1 a b0) ?_
  refine jt_grd (by omega) ?_
  have hv628_ : iv (jxu a 89 (y1.toNat) (-1)) := iv_putf hv rfl
  have hf629_ : jfr jW_X4_takeAway a0 (jxu a 89 (y1.toNat) (-1)) := jfr_put hf rfl
  exact jt_rV ⟨hv628_, hf629_, rfl⟩
theorem sp_X4_takeAway (E : jxE) (d : Nat) (hd : Nat.ble 2 d = true) (x1 : Int) (a0 b0 : Nat → Nat → Int) (hv0 : iv a0) : jt (jxC E d 69 [.inr (.inr (.inl 83)), .inl x1] (jxSH, a0, b0)) (jQ_X4_takeAway x1 a0 b0) := by
  obtain ⟨d, rfl⟩ := jd_succ hd
  refine jt_eq (bq_X4_takeAway E d x1 a0 b0) ?_
  refine jt_eI (eq_X4_has E d (jd_le hd rfl) x1 a0 b0) ?_
  have h630_ := f_X4_has_eq a0 b0 x1
  have h631_ := iv_get hv0 (k := 83) (j := 6) (l := 0) (u := 20) rfl
  refine jt_ite (fun c632_ => ?_) (fun c632_ => ?_)
  ·
    exact jt_rV ⟨hv0, (jfr_rf _ _), rfl⟩
  ·
    refine jt_grd (by omega) ?_
    refine jt_grd (by omega) ?_
    have hv633_ : iv (jxu a0 87 (x1.toNat) 2) := iv_putf hv0 rfl
    have hv634_ : iv (jxu (jxu a0 87 (x1.toNat) 2) 88 (x1.toNat) (-1)) := iv_putf hv633_ rfl
    have hf635_ : jfr jW_X4_takeAway a0 (jxu a0 87 (x1.toNat) 2) := jfr_put (jfr_rf _ _) rfl
    have hf636_ : jfr jW_X4_takeAway a0 (jxu (jxu a0 87 (x1.toNat) 2) 88 (x1.toNat) (-1)) := jfr_put hf635_ rfl
    exact cp_X4_takeAway_22 E d hd x1 a0 b0 hv0 x1 (jxu (jxu a0 87 (x1.toNat) 2) 88 (x1.toNat) (-1)) hv634_ hf636_ (show 0 ≤ x1 from by omega) (show x1 ≤ 19 from by omega)
def jW_X11_away : List (Nat × Nat) := [(87, 9999), (88, 9999), (89, 9999)]
abbrev jQ_X11_away (x1 : Int) (a0 b0 : Nat → Nat → Int) : List jxV → (Nat → Nat → Int) → (Nat → Nat → Int) → Prop := rI (fun r a b => (iv a) ∧ (jfr jW_X11_away a0 a) ∧ (b0 = b) ∧ ((0 ≤ r ∧ r ≤ 1)) ∧ ((a0 83 6 = 0 → r = 0)))
theorem sp_X11_away (E : jxE) (d : Nat) (hd : Nat.ble 3 d = true) (x1 : Int) (a0 b0 : Nat → Nat → Int) (hv0 : iv a0) : jt (jxC E d 185 [.inr (.inr (.inl 0)), .inl x1] (jxSH, a0, b0)) (jQ_X11_away x1 a0 b0) := by
  obtain ⟨d, rfl⟩ := jd_succ hd
  refine jt_eq (bq_X11_away E d x1 a0 b0) ?_
  refine jt_eI (eq_X4_isOpen E d (jd_le hd rfl) x1 a0 b0) ?_
  have h637_ := f_X4_isOpen_eq a0 b0 x1
  have h638_ := f_X4_has_eq a0 b0 x1
  have h639_ := iv_get hv0 (k := 83) (j := 6) (l := 0) (u := 20) rfl
  refine jt_ite (fun c640_ => ?_) (fun c640_ => ?_)
  ·
    exact jt_rI ⟨hv0, (jfr_rf _ _), rfl, (show (0 ≤ 0 ∧ 0 ≤ 1) from by omega), (show (a0 83 6 = 0 → 0 = 0) from by omega)⟩
  ·
    refine jt_bV (sp_X4_takeAway E d (jd_le hd rfl) x1 a0 b0 hv0) (fun a641_ b641_ h641_ => ?_)
    obtain ⟨hv641_, hf641_, rfl⟩ := h641_
    have hf642_ : jfr jW_X11_away a0 a641_ := jfr_tr (jfr_rf _ _) hf641_ rfl
    exact jt_rI ⟨hv641_, hf642_, rfl, (show (0 ≤ 1 ∧ 1 ≤ 1) from by omega), (show (a0 83 6 = 0 → 1 = 0) from by omega)⟩
def jW_X11_back : List (Nat × Nat) := [(58, 12), (65, 9999), (66, 9999), (67, 9999), (68, 9999)]
abbrev jQ_X11_back (x1 : Int) (a0 b0 : Nat → Nat → Int) : List jxV → (Nat → Nat → Int) → (Nat → Nat → Int) → Prop := rI (fun r a b => (iv a) ∧ (jfr jW_X11_back a0 a) ∧ (b0 = b) ∧ ((0 ≤ r ∧ r ≤ 1)) ∧ ((a0 58 8 = 0 → r = 0)))
theorem sp_X11_back (E : jxE) (d : Nat) (hd : Nat.ble 4 d = true) (x1 : Int) (a0 b0 : Nat → Nat → Int) (hv0 : iv a0) : jt (jxC E d 178 [.inr (.inr (.inl 0)), .inl x1] (jxSH, a0, b0)) (jQ_X11_back x1 a0 b0) := by
  obtain ⟨d, rfl⟩ := jd_succ hd
  refine jt_eq (bq_X11_back E d x1 a0 b0) ?_
  refine jt_bI (sp_X0_takeBack E d (jd_le hd rfl) x1 (a0 0 0) a0 b0 hv0) (fun r643_ a643_ b643_ h643_ => ?_)
  obtain ⟨hv643_, hf643_, rfl, hq643_0, hq643_1⟩ := h643_
  have h644_ := iv_get hv0 (k := 58) (j := 8) (l := 0) (u := 300) rfl
  refine jt_grd (by omega) ?_
  have hf645_ : jfr jW_X11_back a0 a643_ := jfr_tr (jfr_rf _ _) hf643_ rfl
  exact jt_rI ⟨hv643_, hf645_, rfl, (show (0 ≤ r643_ ∧ r643_ ≤ 1) from by omega), (show (a0 58 8 = 0 → r643_ = 0) from by omega)⟩
def jW_X3_addCredit : List (Nat × Nat) := [(9, 9999)]
abbrev jQ_X3_addCredit (x1 : Int) (a0 b0 : Nat → Nat → Int) : List jxV → (Nat → Nat → Int) → (Nat → Nat → Int) → Prop := rV (fun a b => (iv a) ∧ (jfr jW_X3_addCredit a0 a) ∧ (b0 = b))
theorem sp_X3_addCredit (E : jxE) (d : Nat) (hd : Nat.ble 2 d = true) (x1 : Int) (a0 b0 : Nat → Nat → Int) (hv0 : iv a0) : jt (jxC E d 56 [.inr (.inr (.inl 4)), .inl x1] (jxSH, a0, b0)) (jQ_X3_addCredit x1 a0 b0) := by
  obtain ⟨d, rfl⟩ := jd_succ hd
  refine jt_eq (bq_X3_addCredit E d x1 a0 b0) ?_
  refine jt_eI (eq_X3_has E d (jd_le hd rfl) x1 a0 b0) ?_
  have h646_ := f_X3_has_eq a0 b0 x1
  have h647_ := iv_get hv0 (k := 4) (j := 6) (l := 0) (u := 40) rfl
  refine jt_ite (fun c648_ => ?_) (fun c648_ => ?_)
  ·
    exact jt_rV ⟨hv0, (jfr_rf _ _), rfl⟩
  ·
    refine jt_grd (by omega) ?_
    refine jt_grd (by omega) ?_
    have hv649_ : iv (jxu a0 9 (x1.toNat) (jxw ((a0 9 (x1.toNat)) + 1))) := iv_putf hv0 rfl
    have hf650_ : jfr jW_X3_addCredit a0 (jxu a0 9 (x1.toNat) (jxw ((a0 9 (x1.toNat)) + 1))) := jfr_put (jfr_rf _ _) rfl
    exact jt_rV ⟨hv649_, hf650_, rfl⟩
def jW_X11_cancelCardsTo : List (Nat × Nat) := [(9, 9999), (64, 9999)]
abbrev jQ_X11_cancelCardsTo (x1 : Int) (a0 b0 : Nat → Nat → Int) : List jxV → (Nat → Nat → Int) → (Nat → Nat → Int) → Prop := rI (fun r a b => (iv a) ∧ (jfr jW_X11_cancelCardsTo a0 a) ∧ (b0 = b))
theorem cp_X11_cancelCardsTo_4 (E : jxE) (d : Nat) (hd : Nat.ble 4 (d + 1) = true) (x1 : Int) (a0 b0 : Nat → Nat → Int) (hv0 : iv a0) : ∀ n : Nat, (∀ (y1 y2 y3 : Int) (a : Nat → Nat → Int), (((300 - y3) * 1) + 0).toNat ≤ n → iv a → jfr jW_X11_cancelCardsTo a0 a → 0 ≤ y3 → y3 ≤ 299 → jt (jxX E d 158 72 [some (.inr (.inr (.inl 0))), some (.inl y1), some (.inl y2), some (.inl y3)] [] (jxSH, a, b0)) (jQ_X11_cancelCardsTo x1 a0 b0)) ∧ (∀ (y1 y2 y3 : Int) (a : Nat → Nat → Int), (((300 - y3) * 1) + 0).toNat ≤ n → iv a → jfr jW_X11_cancelCardsTo a0 a → 0 ≤ y3 → y3 ≤ 299 → jt (jxX E d 158 42 [some (.inr (.inr (.inl 0))), some (.inl y1), some (.inl y2), some (.inl y3)] [] (jxSH, a, b0)) (jQ_X11_cancelCardsTo x1 a0 b0)) ∧ (∀ (y1 y2 y3 : Int) (a : Nat → Nat → Int), (((300 - y3) * 1) + 0).toNat ≤ n → iv a → jfr jW_X11_cancelCardsTo a0 a → 0 ≤ y3 → y3 ≤ 300 → jt (jxX E d 158 4 [some (.inr (.inr (.inl 0))), some (.inl y1), some (.inl y2), some (.inl y3)] [] (jxSH, a, b0)) (jQ_X11_cancelCardsTo x1 a0 b0)) := by
  refine jx_ind fun n ih => ?_
  have ih72 : ∀ (y1 y2 y3 : Int) (a : Nat → Nat → Int), (((300 - y3) * 1) + 0).toNat < n → iv a → jfr jW_X11_cancelCardsTo a0 a → 0 ≤ y3 → y3 ≤ 299 → jt (jxX E d 158 72 [some (.inr (.inr (.inl 0))), some (.inl y1), some (.inl y2), some (.inl y3)] [] (jxSH, a, b0)) (jQ_X11_cancelCardsTo x1 a0 b0) := fun y1 y2 y3 a hlt i0 i1 i2 i3 => (ih _ hlt).1 y1 y2 y3 a (Nat.le_refl _) i0 i1 i2 i3
  have ih42 : ∀ (y1 y2 y3 : Int) (a : Nat → Nat → Int), (((300 - y3) * 1) + 0).toNat < n → iv a → jfr jW_X11_cancelCardsTo a0 a → 0 ≤ y3 → y3 ≤ 299 → jt (jxX E d 158 42 [some (.inr (.inr (.inl 0))), some (.inl y1), some (.inl y2), some (.inl y3)] [] (jxSH, a, b0)) (jQ_X11_cancelCardsTo x1 a0 b0) := fun y1 y2 y3 a hlt i0 i1 i2 i3 => (ih _ hlt).2.1 y1 y2 y3 a (Nat.le_refl _) i0 i1 i2 i3
  have ih4 : ∀ (y1 y2 y3 : Int) (a : Nat → Nat → Int), (((300 - y3) * 1) + 0).toNat < n → iv a → jfr jW_X11_cancelCardsTo a0 a → 0 ≤ y3 → y3 ≤ 300 → jt (jxX E d 158 4 [some (.inr (.inr (.inl 0))), some (.inl y1), some (.inl y2), some (.inl y3)] [] (jxSH, a, b0)) (jQ_X11_cancelCardsTo x1 a0 b0) := fun y1 y2 y3 a hlt i0 i1 i2 i3 => (ih _ hlt).2.2 y1 y2 y3 a (Nat.le_refl _) i0 i1 i2 i3
  have hc72 : ∀ (y1 y2 y3 : Int) (a : Nat → Nat → Int), (((300 - y3) * 1) + 0).toNat ≤ n → iv a → jfr jW_X11_cancelCardsTo a0 a → 0 ≤ y3 → y3 ≤ 299 → jt (jxX E d 158 72 [some (.inr (.inr (.inl 0))), some (.inl y1), some (.inl y2), some (.inl y3)] [] (jxSH, a, b0)) (jQ_X11_cancelCardsTo x1 a0 b0) := by
    intro y1 y2 y3 a hm hv hf hi0 hi1
    refine jt_eq (bq_X11_cancelCardsTo_72 E d y1 y2 y3 a b0) ?_
    have h651_ : jxw (y3 + 1) = y3 + 1 := jxw_id (by omega) (by omega)
    exact ih4 y1 y2 (jxw (y3 + 1)) a (show (((300 - (jxw (y3 + 1))) * 1) + 0).toNat < n from by omega) hv hf (show 0 ≤ jxw (y3 + 1) from by omega) (show jxw (y3 + 1) ≤ 300 from by omega)
  have hc42 : ∀ (y1 y2 y3 : Int) (a : Nat → Nat → Int), (((300 - y3) * 1) + 0).toNat ≤ n → iv a → jfr jW_X11_cancelCardsTo a0 a → 0 ≤ y3 → y3 ≤ 299 → jt (jxX E d 158 42 [some (.inr (.inr (.inl 0))), some (.inl y1), some (.inl y2), some (.inl y3)] [] (jxSH, a, b0)) (jQ_X11_cancelCardsTo x1 a0 b0) := by
    intro y1 y2 y3 a hm hv hf hi0 hi1
    refine jt_eq (bq_X11_cancelCardsTo_42 E d y1 y2 y3 a b0) ?_
    refine jt_bV (sp_X0_cancel E d (jd_le hd rfl) y3 (a 0 0) a b0 hv) (fun a652_ b652_ h652_ => ?_)
    obtain ⟨hv652_, hf652_, rfl⟩ := h652_
    refine jt_eI (eq_X0_fromOf E d (jd_le hd rfl) y3 a652_ b0) ?_
    refine jt_bV (sp_X3_addCredit E d (jd_le hd rfl) (f_X0_fromOf a652_ b0 y3) a652_ b0 hv652_) (fun a653_ b653_ h653_ => ?_)
    obtain ⟨hv653_, hf653_, rfl⟩ := h653_
    have hf654_ : jfr jW_X11_cancelCardsTo a0 a652_ := jfr_tr hf hf652_ rfl
    have hf655_ : jfr jW_X11_cancelCardsTo a0 a653_ := jfr_tr hf654_ hf653_ rfl
    exact hc72 y1 (jxw (y2 + 1)) y3 a653_ (show (((300 - y3) * 1) + 0).toNat ≤ n from by omega) hv653_ hf655_ (show 0 ≤ y3 from by omega) (show y3 ≤ 299 from by omega)
  have hc4 : ∀ (y1 y2 y3 : Int) (a : Nat → Nat → Int), (((300 - y3) * 1) + 0).toNat ≤ n → iv a → jfr jW_X11_cancelCardsTo a0 a → 0 ≤ y3 → y3 ≤ 300 → jt (jxX E d 158 4 [some (.inr (.inr (.inl 0))), some (.inl y1), some (.inl y2), some (.inl y3)] [] (jxSH, a, b0)) (jQ_X11_cancelCardsTo x1 a0 b0) := by
    intro y1 y2 y3 a hm hv hf hi0 hi1
    refine jt_eq (bq_X11_cancelCardsTo_4 E d y1 y2 y3 a b0) ?_
    refine jt_eI (eq_X0_size E d (jd_le hd rfl) a b0) ?_
    have h656_ := f_X0_size_eq a b0
    have h657_ := iv_get hv (k := 58) (j := 8) (l := 0) (u := 300) rfl
    have h658_ : a 58 8 = a0 58 8 := hf 58 8 rfl
    have h659_ := iv_get hv0 (k := 58) (j := 8) (l := 0) (u := 300) rfl
    refine jt_ite (fun c660_ => ?_) (fun c660_ => ?_)
    ·
      refine jt_eI (eq_X0_toOf E d (jd_le hd rfl) y3 a b0) ?_
      have h661_ := f_X0_toOf_eq a b0 y3
      have h662_ := f_X11_entry_r60_eq a b0 (a 58 8) y3
      have h663_ : a 60 (y3.toNat) = a0 60 (y3.toNat) := hf 60 (y3.toNat) rfl
      refine jt_ite (fun c664_ => ?_) (fun c664_ => ?_)
      ·
        refine jt_eI (eq_X0_stateNow E d (jd_le hd rfl) y3 (a 0 0) a b0) ?_
        have h665_ := iv_get hv (k := 0) (j := 0) (l := 0) (u := 1999) rfl
        have h666_ : a 0 0 = a0 0 0 := hf 0 0 rfl
        have h667_ := iv_get hv0 (k := 0) (j := 0) (l := 0) (u := 1999) rfl
        have h668_ := f_X0_stateNow_eq a b0 y3 (a 0 0)
        have h669_ := f_X0_arrivedOnOf_eq a b0 y3
        have h670_ := iv_get hv (k := 58) (j := 12) (l := 0) (u := 600) rfl
        have h671_ : a 58 12 = a0 58 12 := hf 58 12 rfl
        have h672_ := iv_get hv0 (k := 58) (j := 12) (l := 0) (u := 600) rfl
        have h673_ := f_X11_entry_r65_eq a b0 (a 58 8) y3
        have h674_ : a 65 (y3.toNat) = a0 65 (y3.toNat) := hf 65 (y3.toNat) rfl
        have h675_ := f_X11_entry_r67_eq a b0 (a 58 12) (f_X11_entry_r65 a b0 (a 58 8) y3)
        have h676_ : a 67 ((f_X11_entry_r65 a b0 (a 58 8) y3).toNat) = a0 67 ((f_X11_entry_r65 a b0 (a 58 8) y3).toNat) := hf 67 ((f_X11_entry_r65 a b0 (a 58 8) y3).toNat) rfl
        refine jt_ite (fun c677_ => ?_) (fun c677_ => ?_)
        ·
          exact hc42 y1 y2 y3 a (show (((300 - y3) * 1) + 0).toNat ≤ n from by omega) hv hf (show 0 ≤ y3 from by omega) (show y3 ≤ 299 from by omega)
        ·
          exact hc72 y1 y2 y3 a (show (((300 - y3) * 1) + 0).toNat ≤ n from by omega) hv hf (show 0 ≤ y3 from by omega) (show y3 ≤ 299 from by omega)
      ·
        exact hc72 y1 y2 y3 a (show (((300 - y3) * 1) + 0).toNat ≤ n from by omega) hv hf (show 0 ≤ y3 from by omega) (show y3 ≤ 299 from by omega)
    ·
      exact jt_rI ⟨hv, hf, rfl⟩
  exact ⟨hc72, hc42, hc4⟩
theorem sp_X11_cancelCardsTo (E : jxE) (d : Nat) (hd : Nat.ble 4 d = true) (x1 : Int) (a0 b0 : Nat → Nat → Int) (hv0 : iv a0) : jt (jxC E d 158 [.inr (.inr (.inl 0)), .inl x1] (jxSH, a0, b0)) (jQ_X11_cancelCardsTo x1 a0 b0) := by
  obtain ⟨d, rfl⟩ := jd_succ hd
  refine jt_eq (bq_X11_cancelCardsTo E d x1 a0 b0) ?_
  exact (cp_X11_cancelCardsTo_4 E d hd x1 a0 b0 hv0 _).2.2 x1 0 0 a0 (Nat.le_refl _) hv0 (jfr_rf _ _) (show 0 ≤ 0 from by omega) (show 0 ≤ 300 from by omega)
def jW_X11_clock : List (Nat × Nat) := [(0, 0)]
abbrev jQ_X11_clock (x1 : Int) (a0 b0 : Nat → Nat → Int) : List jxV → (Nat → Nat → Int) → (Nat → Nat → Int) → Prop := rI (fun r a b => (iv a) ∧ (jfr jW_X11_clock a0 a) ∧ (b0 = b) ∧ ((0 ≤ r ∧ r ≤ 1)) ∧ (((((r = 1 ∧ a0 0 0 ≤ x1) ∧ x1 ≤ 1999) ∧ a 0 0 = x1) ∨ ((r = 0 ∧ (x1 < a0 0 0 ∨ 1999 < x1)) ∧ a 0 0 = a0 0 0))))
theorem sp_X11_clock (E : jxE) (d : Nat) (hd : Nat.ble 3 d = true) (x1 : Int) (a0 b0 : Nat → Nat → Int) (hv0 : iv a0) : jt (jxC E d 154 [.inr (.inr (.inl 0)), .inl x1] (jxSH, a0, b0)) (jQ_X11_clock x1 a0 b0) := by
  obtain ⟨d, rfl⟩ := jd_succ hd
  refine jt_eq (bq_X11_clock E d x1 a0 b0) ?_
  refine jt_eI (eq_X11_isDay E d (jd_le hd rfl) x1 a0 b0) ?_
  have h678_ := f_X11_isDay_eq a0 b0 x1
  have h679_ := f_X11_within_eq a0 b0 x1 0 1999
  refine jt_ite (fun c680_ => ?_) (fun c680_ => ?_)
  ·
    have h681_ := iv_get hv0 (k := 0) (j := 0) (l := 0) (u := 1999) rfl
    exact jt_rI ⟨hv0, (jfr_rf _ _), rfl, (show (0 ≤ 0 ∧ 0 ≤ 1) from by omega), (show ((((0 = 1 ∧ a0 0 0 ≤ x1) ∧ x1 ≤ 1999) ∧ a0 0 0 = x1) ∨ ((0 = 0 ∧ (x1 < a0 0 0 ∨ 1999 < x1)) ∧ a0 0 0 = a0 0 0)) from by omega)⟩
  ·
    have h682_ := iv_get hv0 (k := 0) (j := 0) (l := 0) (u := 1999) rfl
    refine jt_ite (fun c683_ => ?_) (fun c683_ => ?_)
    ·
      exact jt_rI ⟨hv0, (jfr_rf _ _), rfl, (show (0 ≤ 0 ∧ 0 ≤ 1) from by omega), (show ((((0 = 1 ∧ a0 0 0 ≤ x1) ∧ x1 ≤ 1999) ∧ a0 0 0 = x1) ∨ ((0 = 0 ∧ (x1 < a0 0 0 ∨ 1999 < x1)) ∧ a0 0 0 = a0 0 0)) from by omega)⟩
    ·
      have hv684_ : iv (jxu a0 0 0 x1) := iv_put hv0 (l := 0) (u := 1999) rfl (by omega) (by omega)
      have hf685_ : jfr jW_X11_clock a0 (jxu a0 0 0 x1) := jfr_put (jfr_rf _ _) rfl
      exact jt_rI ⟨hv684_, hf685_, rfl, (show (0 ≤ 1 ∧ 1 ≤ 1) from by omega), (show ((((1 = 1 ∧ a0 0 0 ≤ x1) ∧ x1 ≤ 1999) ∧ x1 = x1) ∨ ((1 = 0 ∧ (x1 < a0 0 0 ∨ 1999 < x1)) ∧ x1 = a0 0 0)) from by omega)⟩
def jW_X4_addRing : List (Nat × Nat) := [(83, 7)]
abbrev jQ_X4_addRing (a0 b0 : Nat → Nat → Int) : List jxV → (Nat → Nat → Int) → (Nat → Nat → Int) → Prop := rI (fun r a b => (iv a) ∧ (jfr jW_X4_addRing a0 a) ∧ (b0 = b))
theorem sp_X4_addRing (E : jxE) (d : Nat) (hd : Nat.ble 1 d = true) (a0 b0 : Nat → Nat → Int) (hv0 : iv a0) : jt (jxC E d 67 [.inr (.inr (.inl 83))] (jxSH, a0, b0)) (jQ_X4_addRing a0 b0) := by
  obtain ⟨d, rfl⟩ := jd_succ hd
  refine jt_eq (bq_X4_addRing E d a0 b0) ?_
  have hv686_ : iv (jxu a0 83 7 (jxw ((a0 83 7) + 1))) := iv_putf hv0 rfl
  have hf687_ : jfr jW_X4_addRing a0 (jxu a0 83 7 (jxw ((a0 83 7) + 1))) := jfr_put (jfr_rf _ _) rfl
  exact jt_rI ⟨hv686_, hf687_, rfl⟩
def jW_X4_joinRing : List (Nat × Nat) := [(87, 9999), (88, 9999), (89, 9999)]
abbrev jQ_X4_joinRing (x1 x2 x3 : Int) (a0 b0 : Nat → Nat → Int) : List jxV → (Nat → Nat → Int) → (Nat → Nat → Int) → Prop := rV (fun a b => (iv a) ∧ (jfr jW_X4_joinRing a0 a) ∧ (b0 = b))
theorem cp_X4_joinRing_22 (E : jxE) (d : Nat) (hd : Nat.ble 2 (d + 1) = true) (x1 x2 x3 : Int) (a0 b0 : Nat → Nat → Int) (hv0 : iv a0) : ∀ (y1 y3 : Int) (a : Nat → Nat → Int), iv a → jfr jW_X4_joinRing a0 a → 0 ≤ y1 → y1 ≤ 19 → jt (jxX E d 68 22 [some (.inr (.inr (.inl 83))), some (.inl y1), none, some (.inl y3)] [] (jxSH, a, b0)) (jQ_X4_joinRing x1 x2 x3 a0 b0) := by
  intro y1 y3 a hv hf hi0 hi1
  refine jt_eq (bq_X4_joinRing_22 E d y1 y3 a b0) ?_
  refine jt_grd (by omega) ?_
  have hv688_ : iv (jxu a 89 (y1.toNat) y3) := iv_putf hv rfl
  have hf689_ : jfr jW_X4_joinRing a0 (jxu a 89 (y1.toNat) y3) := jfr_put hf rfl
  exact jt_rV ⟨hv688_, hf689_, rfl⟩
theorem sp_X4_joinRing (E : jxE) (d : Nat) (hd : Nat.ble 2 d = true) (x1 x2 x3 : Int) (a0 b0 : Nat → Nat → Int) (hv0 : iv a0) : jt (jxC E d 68 [.inr (.inr (.inl 83)), .inl x1, .inl x2, .inl x3] (jxSH, a0, b0)) (jQ_X4_joinRing x1 x2 x3 a0 b0) := by
  obtain ⟨d, rfl⟩ := jd_succ hd
  refine jt_eq (bq_X4_joinRing E d x1 x2 x3 a0 b0) ?_
  refine jt_eI (eq_X4_has E d (jd_le hd rfl) x1 a0 b0) ?_
  have h690_ := f_X4_has_eq a0 b0 x1
  have h691_ := iv_get hv0 (k := 83) (j := 6) (l := 0) (u := 20) rfl
  refine jt_ite (fun c692_ => ?_) (fun c692_ => ?_)
  ·
    exact jt_rV ⟨hv0, (jfr_rf _ _), rfl⟩
  ·
    refine jt_grd (by omega) ?_
    refine jt_grd (by omega) ?_
    have hv693_ : iv (jxu a0 87 (x1.toNat) 1) := iv_putf hv0 rfl
    have hv694_ : iv (jxu (jxu a0 87 (x1.toNat) 1) 88 (x1.toNat) x2) := iv_putf hv693_ rfl
    have hf695_ : jfr jW_X4_joinRing a0 (jxu a0 87 (x1.toNat) 1) := jfr_put (jfr_rf _ _) rfl
    have hf696_ : jfr jW_X4_joinRing a0 (jxu (jxu a0 87 (x1.toNat) 1) 88 (x1.toNat) x2) := jfr_put hf695_ rfl
    exact cp_X4_joinRing_22 E d hd x1 x2 x3 a0 b0 hv0 x1 x3 (jxu (jxu a0 87 (x1.toNat) 1) 88 (x1.toNat) x2) hv694_ hf696_ (show 0 ≤ x1 from by omega) (show x1 ≤ 19 from by omega)
def jW_X11_close : List (Nat × Nat) := [(58, 8), (58, 13), (58, 14), (58, 15), (59, 9999), (60, 9999), (61, 9999), (62, 9999), (63, 9999), (64, 9999), (65, 9999), (83, 7), (87, 9999), (88, 9999), (89, 9999)]
abbrev jQ_X11_close (x1 : Int) (a0 b0 : Nat → Nat → Int) : List jxV → (Nat → Nat → Int) → (Nat → Nat → Int) → Prop := rI (fun r a b => (iv a) ∧ (jfr jW_X11_close a0 a) ∧ (b0 = b) ∧ ((a0 90 12 = 0 → r = 0 - 1)))
theorem cp_X11_close_71 (E : jxE) (d : Nat) (hd : Nat.ble 6 (d + 1) = true) (x1 : Int) (a0 b0 : Nat → Nat → Int) (hv0 : iv a0) : ∀ n : Nat, (∀ (y1 y2 y3 y4 y5 y7 : Int) (a : Nat → Nat → Int), (((5 - y4) * 1) + 0).toNat ≤ n → iv a → jfr jW_X11_close a0 a → 0 ≤ y1 → y1 ≤ 5 → 1 ≤ y2 → y2 ≤ 5 → 0 ≤ y4 → y4 ≤ 4 → 1 ≤ a0 90 12 → jt (jxX E d 188 140 [some (.inr (.inr (.inl 0))), some (.inl y1), some (.inl y2), some (.inl y3), some (.inl y4), some (.inl y5), none, some (.inl y7)] [] (jxSH, a, b0)) (jQ_X11_close x1 a0 b0)) ∧ (∀ (y1 y2 y3 y4 y5 s1 s2 : Int) (a : Nat → Nat → Int), (((5 - y4) * 1) + 0).toNat ≤ n → iv a → jfr jW_X11_close a0 a → 0 ≤ y1 → y1 ≤ 5 → 1 ≤ y2 → y2 ≤ 5 → 0 ≤ y4 → y4 ≤ 4 → 0 ≤ s1 → s1 ≤ 5 → 0 ≤ s2 → s2 ≤ 4 → 1 ≤ a0 90 12 → jt (jxX E d 188 110 [some (.inr (.inr (.inl 0))), some (.inl y1), some (.inl y2), some (.inl y3), some (.inl y4), some (.inl y5), none, none] [.inl s2, .inl s1, .inr (.inr (.inl 90))] (jxSH, a, b0)) (jQ_X11_close x1 a0 b0)) ∧ (∀ (y1 y2 y3 y4 : Int) (a : Nat → Nat → Int), (((5 - y4) * 1) + 0).toNat ≤ n → iv a → jfr jW_X11_close a0 a → 0 ≤ y1 → y1 ≤ 5 → 0 ≤ y2 → y2 ≤ 5 → 0 ≤ y4 → y4 ≤ 5 → 1 ≤ a0 90 12 → jt (jxX E d 188 71 [some (.inr (.inr (.inl 0))), some (.inl y1), some (.inl y2), some (.inl y3), some (.inl y4), none, none, none] [] (jxSH, a, b0)) (jQ_X11_close x1 a0 b0)) := by
  refine jx_ind fun n ih => ?_
  have ih140 : ∀ (y1 y2 y3 y4 y5 y7 : Int) (a : Nat → Nat → Int), (((5 - y4) * 1) + 0).toNat < n → iv a → jfr jW_X11_close a0 a → 0 ≤ y1 → y1 ≤ 5 → 1 ≤ y2 → y2 ≤ 5 → 0 ≤ y4 → y4 ≤ 4 → 1 ≤ a0 90 12 → jt (jxX E d 188 140 [some (.inr (.inr (.inl 0))), some (.inl y1), some (.inl y2), some (.inl y3), some (.inl y4), some (.inl y5), none, some (.inl y7)] [] (jxSH, a, b0)) (jQ_X11_close x1 a0 b0) := fun y1 y2 y3 y4 y5 y7 a hlt i0 i1 i2 i3 i4 i5 i6 i7 i8 => (ih _ hlt).1 y1 y2 y3 y4 y5 y7 a (Nat.le_refl _) i0 i1 i2 i3 i4 i5 i6 i7 i8
  have ih110 : ∀ (y1 y2 y3 y4 y5 s1 s2 : Int) (a : Nat → Nat → Int), (((5 - y4) * 1) + 0).toNat < n → iv a → jfr jW_X11_close a0 a → 0 ≤ y1 → y1 ≤ 5 → 1 ≤ y2 → y2 ≤ 5 → 0 ≤ y4 → y4 ≤ 4 → 0 ≤ s1 → s1 ≤ 5 → 0 ≤ s2 → s2 ≤ 4 → 1 ≤ a0 90 12 → jt (jxX E d 188 110 [some (.inr (.inr (.inl 0))), some (.inl y1), some (.inl y2), some (.inl y3), some (.inl y4), some (.inl y5), none, none] [.inl s2, .inl s1, .inr (.inr (.inl 90))] (jxSH, a, b0)) (jQ_X11_close x1 a0 b0) := fun y1 y2 y3 y4 y5 s1 s2 a hlt i0 i1 i2 i3 i4 i5 i6 i7 i8 i9 i10 i11 i12 => (ih _ hlt).2.1 y1 y2 y3 y4 y5 s1 s2 a (Nat.le_refl _) i0 i1 i2 i3 i4 i5 i6 i7 i8 i9 i10 i11 i12
  have ih71 : ∀ (y1 y2 y3 y4 : Int) (a : Nat → Nat → Int), (((5 - y4) * 1) + 0).toNat < n → iv a → jfr jW_X11_close a0 a → 0 ≤ y1 → y1 ≤ 5 → 0 ≤ y2 → y2 ≤ 5 → 0 ≤ y4 → y4 ≤ 5 → 1 ≤ a0 90 12 → jt (jxX E d 188 71 [some (.inr (.inr (.inl 0))), some (.inl y1), some (.inl y2), some (.inl y3), some (.inl y4), none, none, none] [] (jxSH, a, b0)) (jQ_X11_close x1 a0 b0) := fun y1 y2 y3 y4 a hlt i0 i1 i2 i3 i4 i5 i6 i7 i8 => (ih _ hlt).2.2 y1 y2 y3 y4 a (Nat.le_refl _) i0 i1 i2 i3 i4 i5 i6 i7 i8
  have hc140 : ∀ (y1 y2 y3 y4 y5 y7 : Int) (a : Nat → Nat → Int), (((5 - y4) * 1) + 0).toNat ≤ n → iv a → jfr jW_X11_close a0 a → 0 ≤ y1 → y1 ≤ 5 → 1 ≤ y2 → y2 ≤ 5 → 0 ≤ y4 → y4 ≤ 4 → 1 ≤ a0 90 12 → jt (jxX E d 188 140 [some (.inr (.inr (.inl 0))), some (.inl y1), some (.inl y2), some (.inl y3), some (.inl y4), some (.inl y5), none, some (.inl y7)] [] (jxSH, a, b0)) (jQ_X11_close x1 a0 b0) := by
    intro y1 y2 y3 y4 y5 y7 a hm hv hf hi0 hi1 hi2 hi3 hi4 hi5 hi6
    refine jt_eq (bq_X11_close_140 E d y1 y2 y3 y4 y5 y7 a b0) ?_
    have h697_ := iv_get hv0 (k := 90) (j := 12) (l := 0) (u := 6) rfl
    refine jt_bV (sp_X4_joinRing E d (jd_le hd rfl) y5 y3 y7 a b0 hv) (fun a698_ b698_ h698_ => ?_)
    obtain ⟨hv698_, hf698_, rfl⟩ := h698_
    have hf699_ : jfr jW_X11_close a0 a698_ := jfr_tr hf hf698_ rfl
    have h700_ : jxw (y4 + 1) = y4 + 1 := jxw_id (by omega) (by omega)
    exact ih71 y1 y2 y3 (jxw (y4 + 1)) a698_ (show (((5 - (jxw (y4 + 1))) * 1) + 0).toNat < n from by omega) hv698_ hf699_ (show 0 ≤ y1 from by omega) (show y1 ≤ 5 from by omega) (show 0 ≤ y2 from by omega) (show y2 ≤ 5 from by omega) (show 0 ≤ jxw (y4 + 1) from by omega) (show jxw (y4 + 1) ≤ 5 from by omega) (show 1 ≤ a0 90 12 from by omega)
  have hc110 : ∀ (y1 y2 y3 y4 y5 s1 s2 : Int) (a : Nat → Nat → Int), (((5 - y4) * 1) + 0).toNat ≤ n → iv a → jfr jW_X11_close a0 a → 0 ≤ y1 → y1 ≤ 5 → 1 ≤ y2 → y2 ≤ 5 → 0 ≤ y4 → y4 ≤ 4 → 0 ≤ s1 → s1 ≤ 5 → 0 ≤ s2 → s2 ≤ 4 → 1 ≤ a0 90 12 → jt (jxX E d 188 110 [some (.inr (.inr (.inl 0))), some (.inl y1), some (.inl y2), some (.inl y3), some (.inl y4), some (.inl y5), none, none] [.inl s2, .inl s1, .inr (.inr (.inl 90))] (jxSH, a, b0)) (jQ_X11_close x1 a0 b0) := by
    intro y1 y2 y3 y4 y5 s1 s2 a hm hv hf hi0 hi1 hi2 hi3 hi4 hi5 hi6 hi7 hi8 hi9 hi10
    refine jt_eq (bq_X11_close_110 E d y1 y2 y3 y4 y5 s1 s2 a b0) ?_
    have h701_ := iv_get hv0 (k := 90) (j := 12) (l := 0) (u := 6) rfl
    refine jt_eI (eq_X5_offerAt E d (jd_le hd rfl) s1 s2 a b0) ?_
    refine jt_eI (eq_X4_memberOf E d (jd_le hd rfl) y5 a b0) ?_
    refine jt_eI (eq_X4_memberOf E d (jd_le hd rfl) (f_X5_offerAt a b0 s1 s2) a b0) ?_
    refine jt_bI (sp_X11_send E d (jd_le hd rfl) (f_X4_memberOf a b0 y5) (f_X4_memberOf a b0 (f_X5_offerAt a b0 s1 s2)) y3 a b0 hv) (fun r702_ a702_ b702_ h702_ => ?_)
    obtain ⟨hv702_, hf702_, rfl⟩ := h702_
    have hf703_ : jfr jW_X11_close a0 a702_ := jfr_tr hf hf702_ rfl
    exact hc140 y1 y2 y3 y4 y5 r702_ a702_ (show (((5 - y4) * 1) + 0).toNat ≤ n from by omega) hv702_ hf703_ (show 0 ≤ y1 from by omega) (show y1 ≤ 5 from by omega) (show 1 ≤ y2 from by omega) (show y2 ≤ 5 from by omega) (show 0 ≤ y4 from by omega) (show y4 ≤ 4 from by omega) (show 1 ≤ a0 90 12 from by omega)
  have hc71 : ∀ (y1 y2 y3 y4 : Int) (a : Nat → Nat → Int), (((5 - y4) * 1) + 0).toNat ≤ n → iv a → jfr jW_X11_close a0 a → 0 ≤ y1 → y1 ≤ 5 → 0 ≤ y2 → y2 ≤ 5 → 0 ≤ y4 → y4 ≤ 5 → 1 ≤ a0 90 12 → jt (jxX E d 188 71 [some (.inr (.inr (.inl 0))), some (.inl y1), some (.inl y2), some (.inl y3), some (.inl y4), none, none, none] [] (jxSH, a, b0)) (jQ_X11_close x1 a0 b0) := by
    intro y1 y2 y3 y4 a hm hv hf hi0 hi1 hi2 hi3 hi4 hi5 hi6
    refine jt_eq (bq_X11_close_71 E d y1 y2 y3 y4 a b0) ?_
    have h704_ := iv_get hv0 (k := 90) (j := 12) (l := 0) (u := 6) rfl
    refine jt_ite (fun c705_ => ?_) (fun c705_ => ?_)
    ·
      refine jt_eI (eq_X5_offerAt E d (jd_le hd rfl) y1 y4 a b0) ?_
      have h706_ : jxw (y4 + 1) = y4 + 1 := jxw_id (by omega) (by omega)
      refine jt_ite (fun c707_ => ?_) (fun c707_ => ?_)
      ·
        exact hc110 y1 y2 y3 y4 (f_X5_offerAt a b0 y1 y4) y1 (jxw (y4 + 1)) a (show (((5 - y4) * 1) + 0).toNat ≤ n from by omega) hv hf (show 0 ≤ y1 from by omega) (show y1 ≤ 5 from by omega) (show 1 ≤ y2 from by omega) (show y2 ≤ 5 from by omega) (show 0 ≤ y4 from by omega) (show y4 ≤ 4 from by omega) (show 0 ≤ y1 from by omega) (show y1 ≤ 5 from by omega) (show 0 ≤ jxw (y4 + 1) from by omega) (show jxw (y4 + 1) ≤ 4 from by omega) (show 1 ≤ a0 90 12 from by omega)
      ·
        exact hc110 y1 y2 y3 y4 (f_X5_offerAt a b0 y1 y4) y1 0 a (show (((5 - y4) * 1) + 0).toNat ≤ n from by omega) hv hf (show 0 ≤ y1 from by omega) (show y1 ≤ 5 from by omega) (show 1 ≤ y2 from by omega) (show y2 ≤ 5 from by omega) (show 0 ≤ y4 from by omega) (show y4 ≤ 4 from by omega) (show 0 ≤ y1 from by omega) (show y1 ≤ 5 from by omega) (show 0 ≤ 0 from by omega) (show 0 ≤ 4 from by omega) (show 1 ≤ a0 90 12 from by omega)
    ·
      exact jt_rI ⟨hv, hf, rfl, (show (a0 90 12 = 0 → y3 = 0 - 1) from by omega)⟩
  exact ⟨hc140, hc110, hc71⟩
theorem cp_X11_close_28 (E : jxE) (d : Nat) (hd : Nat.ble 6 (d + 1) = true) (x1 : Int) (a0 b0 : Nat → Nat → Int) (hv0 : iv a0) : ∀ n : Nat, (∀ (y1 y2 y3 : Int) (a : Nat → Nat → Int), (((5 - y3) * 1) + 0).toNat ≤ n → iv a → jfr jW_X11_close a0 a → 0 ≤ y1 → y1 ≤ 5 → 0 ≤ y2 → y2 ≤ 5 → 0 ≤ y3 → y3 ≤ 5 → 1 ≤ a0 90 12 → jt (jxX E d 188 28 [some (.inr (.inr (.inl 0))), some (.inl y1), some (.inl y2), some (.inl y3), none, none, none, none] [] (jxSH, a, b0)) (jQ_X11_close x1 a0 b0)) := by
  refine jx_ind fun n ih => ?_
  have ih28 : ∀ (y1 y2 y3 : Int) (a : Nat → Nat → Int), (((5 - y3) * 1) + 0).toNat < n → iv a → jfr jW_X11_close a0 a → 0 ≤ y1 → y1 ≤ 5 → 0 ≤ y2 → y2 ≤ 5 → 0 ≤ y3 → y3 ≤ 5 → 1 ≤ a0 90 12 → jt (jxX E d 188 28 [some (.inr (.inr (.inl 0))), some (.inl y1), some (.inl y2), some (.inl y3), none, none, none, none] [] (jxSH, a, b0)) (jQ_X11_close x1 a0 b0) := fun y1 y2 y3 a hlt i0 i1 i2 i3 i4 i5 i6 i7 i8 => (ih _ hlt) y1 y2 y3 a (Nat.le_refl _) i0 i1 i2 i3 i4 i5 i6 i7 i8
  have hc28 : ∀ (y1 y2 y3 : Int) (a : Nat → Nat → Int), (((5 - y3) * 1) + 0).toNat ≤ n → iv a → jfr jW_X11_close a0 a → 0 ≤ y1 → y1 ≤ 5 → 0 ≤ y2 → y2 ≤ 5 → 0 ≤ y3 → y3 ≤ 5 → 1 ≤ a0 90 12 → jt (jxX E d 188 28 [some (.inr (.inr (.inl 0))), some (.inl y1), some (.inl y2), some (.inl y3), none, none, none, none] [] (jxSH, a, b0)) (jQ_X11_close x1 a0 b0) := by
    intro y1 y2 y3 a hm hv hf hi0 hi1 hi2 hi3 hi4 hi5 hi6
    refine jt_eq (bq_X11_close_28 E d y1 y2 y3 a b0) ?_
    have h708_ := iv_get hv0 (k := 90) (j := 12) (l := 0) (u := 6) rfl
    refine jt_ite (fun c709_ => ?_) (fun c709_ => ?_)
    ·
      refine jt_eI (eq_X5_offerAt E d (jd_le hd rfl) y1 y3 a b0) ?_
      refine jt_eI (eq_X4_isOpen E d (jd_le hd rfl) (f_X5_offerAt a b0 y1 y3) a b0) ?_
      have h710_ := f_X5_offerAt_eq a b0 y1 y3
      have h711_ := f_X5_lengthOf_eq a b0 y1
      have h712_ := iv_get hv (k := 90) (j := 12) (l := 0) (u := 6) rfl
      have h713_ : a 90 12 = a0 90 12 := hf 90 12 rfl
      have h714_ := iv_get hv (k := 104) (j := y1.toNat) (l := 0) (u := 5) rfl
      have h715_ : a 104 (y1.toNat) = a0 104 (y1.toNat) := hf 104 (y1.toNat) rfl
      have h716_ := iv_get hv0 (k := 104) (j := y1.toNat) (l := 0) (u := 5) rfl
      have h717_ : a 97 ((y1.toNat) * 5 + (y3.toNat)) = a0 97 ((y1.toNat) * 5 + (y3.toNat)) := hf 97 ((y1.toNat) * 5 + (y3.toNat)) rfl
      have h718_ := f_X4_isOpen_eq a b0 (f_X5_offerAt a b0 y1 y3)
      have h719_ := f_X4_has_eq a b0 (f_X5_offerAt a b0 y1 y3)
      have h720_ := iv_get hv (k := 83) (j := 6) (l := 0) (u := 20) rfl
      have h721_ : a 83 6 = a0 83 6 := hf 83 6 rfl
      have h722_ := iv_get hv0 (k := 83) (j := 6) (l := 0) (u := 20) rfl
      refine jt_ite (fun c723_ => ?_) (fun c723_ => ?_)
      ·
        exact jt_rI ⟨hv, hf, rfl, (show (a0 90 12 = 0 → (-1) = 0 - 1) from by omega)⟩
      ·
        have h724_ : jxw (y3 + 1) = y3 + 1 := jxw_id (by omega) (by omega)
        exact ih28 y1 y2 (jxw (y3 + 1)) a (show (((5 - (jxw (y3 + 1))) * 1) + 0).toNat < n from by omega) hv hf (show 0 ≤ y1 from by omega) (show y1 ≤ 5 from by omega) (show 0 ≤ y2 from by omega) (show y2 ≤ 5 from by omega) (show 0 ≤ jxw (y3 + 1) from by omega) (show jxw (y3 + 1) ≤ 5 from by omega) (show 1 ≤ a0 90 12 from by omega)
    ·
      refine jt_bI (sp_X4_addRing E d (jd_le hd rfl) a b0 hv) (fun r725_ a725_ b725_ h725_ => ?_)
      obtain ⟨hv725_, hf725_, rfl⟩ := h725_
      have hf726_ : jfr jW_X11_close a0 a725_ := jfr_tr hf hf725_ rfl
      exact (cp_X11_close_71 E d hd x1 a0 b0 hv0 _).2.2 y1 y2 r725_ 0 a725_ (Nat.le_refl _) hv725_ hf726_ (show 0 ≤ y1 from by omega) (show y1 ≤ 5 from by omega) (show 0 ≤ y2 from by omega) (show y2 ≤ 5 from by omega) (show 0 ≤ 0 from by omega) (show 0 ≤ 5 from by omega) (show 1 ≤ a0 90 12 from by omega)
  exact hc28
theorem sp_X11_close (E : jxE) (d : Nat) (hd : Nat.ble 6 d = true) (x1 : Int) (a0 b0 : Nat → Nat → Int) (hv0 : iv a0) : jt (jxC E d 188 [.inr (.inr (.inl 0)), .inl x1] (jxSH, a0, b0)) (jQ_X11_close x1 a0 b0) := by
  obtain ⟨d, rfl⟩ := jd_succ hd
  refine jt_eq (bq_X11_close E d x1 a0 b0) ?_
  refine jt_eI (eq_X5_lengthOf E d (jd_le hd rfl) x1 a0 b0) ?_
  have h727_ := f_X5_lengthOf_eq a0 b0 x1
  have h728_ := iv_get hv0 (k := 90) (j := 12) (l := 0) (u := 6) rfl
  have h729_ := iv_get hv0 (k := 104) (j := x1.toNat) (l := 0) (u := 5) rfl
  refine jt_ite (fun c730_ => ?_) (fun c730_ => ?_)
  ·
    exact jt_rI ⟨hv0, (jfr_rf _ _), rfl, (show (a0 90 12 = 0 → (-1) = 0 - 1) from by omega)⟩
  ·
    refine jt_eI (eq_X0_hasRoom E d (jd_le hd rfl) (f_X5_lengthOf a0 b0 x1) a0 b0) ?_
    have h731_ := f_X0_hasRoom_eq a0 b0 (f_X5_lengthOf a0 b0 x1)
    have h732_ := iv_get hv0 (k := 58) (j := 8) (l := 0) (u := 300) rfl
    have h733_ : jxw (300 - (a0 58 8)) = 300 - (a0 58 8) := jxw_id (by omega) (by omega)
    refine jt_ite (fun c734_ => ?_) (fun c734_ => ?_)
    ·
      exact jt_rI ⟨hv0, (jfr_rf _ _), rfl, (show (a0 90 12 = 0 → (-1) = 0 - 1) from by omega)⟩
    ·
      exact (cp_X11_close_28 E d hd x1 a0 b0 hv0 _) x1 (f_X5_lengthOf a0 b0 x1) 0 a0 (Nat.le_refl _) hv0 (jfr_rf _ _) (show 0 ≤ x1 from by omega) (show x1 ≤ 5 from by omega) (show 0 ≤ f_X5_lengthOf a0 b0 x1 from by omega) (show f_X5_lengthOf a0 b0 x1 ≤ 5 from by omega) (show 0 ≤ 0 from by omega) (show 0 ≤ 5 from by omega) (show 1 ≤ a0 90 12 from by omega)
abbrev jQ_X3_howManyThere (a0 b0 : Nat → Nat → Int) : List jxV → (Nat → Nat → Int) → (Nat → Nat → Int) → Prop := rI (fun r a b => (a0 = a) ∧ (b0 = b) ∧ ((a0 4 6 = 0 → r = 0)))
theorem cp_X3_howManyThere_4 (E : jxE) (d : Nat) (hd : Nat.ble 3 (d + 1) = true) (a0 b0 : Nat → Nat → Int) (hv0 : iv a0) : ∀ n : Nat, (∀ (y1 y2 : Int), (((40 - y2) * 1) + 0).toNat ≤ n → 0 ≤ y2 → y2 ≤ 40 → (a0 4 6 = 0 → y1 = 0) → jt (jxX E d 53 4 [some (.inr (.inr (.inl 4))), some (.inl y1), some (.inl y2)] [] (jxSH, a0, b0)) (jQ_X3_howManyThere a0 b0)) := by
  refine jx_ind fun n ih => ?_
  have ih4 : ∀ (y1 y2 : Int), (((40 - y2) * 1) + 0).toNat < n → 0 ≤ y2 → y2 ≤ 40 → (a0 4 6 = 0 → y1 = 0) → jt (jxX E d 53 4 [some (.inr (.inr (.inl 4))), some (.inl y1), some (.inl y2)] [] (jxSH, a0, b0)) (jQ_X3_howManyThere a0 b0) := fun y1 y2 hlt i0 i1 i2 => (ih _ hlt) y1 y2 (Nat.le_refl _) i0 i1 i2
  have hc4 : ∀ (y1 y2 : Int), (((40 - y2) * 1) + 0).toNat ≤ n → 0 ≤ y2 → y2 ≤ 40 → (a0 4 6 = 0 → y1 = 0) → jt (jxX E d 53 4 [some (.inr (.inr (.inl 4))), some (.inl y1), some (.inl y2)] [] (jxSH, a0, b0)) (jQ_X3_howManyThere a0 b0) := by
    intro y1 y2 hm hi0 hi1 hi2
    refine jt_eq (bq_X3_howManyThere_4 E d y1 y2 a0 b0) ?_
    have h735_ := iv_get hv0 (k := 4) (j := 6) (l := 0) (u := 40) rfl
    refine jt_ite (fun c736_ => ?_) (fun c736_ => ?_)
    ·
      refine jt_eI (eq_X3_isThere E d (jd_le hd rfl) y2 a0 b0) ?_
      have h737_ := f_X3_isThere_eq a0 b0 y2
      have h738_ := f_X3_has_eq a0 b0 y2
      refine jt_ite (fun c739_ => ?_) (fun c739_ => ?_)
      ·
        have h740_ : jxw (y2 + 1) = y2 + 1 := jxw_id (by omega) (by omega)
        exact ih4 y1 (jxw (y2 + 1)) (show (((40 - (jxw (y2 + 1))) * 1) + 0).toNat < n from by omega) (show 0 ≤ jxw (y2 + 1) from by omega) (show jxw (y2 + 1) ≤ 40 from by omega) (show (a0 4 6 = 0 → y1 = 0) from by omega)
      ·
        have h741_ : jxw (y2 + 1) = y2 + 1 := jxw_id (by omega) (by omega)
        have h742_ := jxw_im (y1 + 1)
        have h743_ := jxw_rg (y1 + 1)
        exact ih4 (jxw (y1 + 1)) (jxw (y2 + 1)) (show (((40 - (jxw (y2 + 1))) * 1) + 0).toNat < n from by omega) (show 0 ≤ jxw (y2 + 1) from by omega) (show jxw (y2 + 1) ≤ 40 from by omega) (show (a0 4 6 = 0 → jxw (y1 + 1) = 0) from by omega)
    ·
      exact jt_rI ⟨rfl, rfl, (show (a0 4 6 = 0 → y1 = 0) from by omega)⟩
  exact hc4
theorem sp_X3_howManyThere (E : jxE) (d : Nat) (hd : Nat.ble 3 d = true) (a0 b0 : Nat → Nat → Int) (hv0 : iv a0) : jt (jxC E d 53 [.inr (.inr (.inl 4))] (jxSH, a0, b0)) (jQ_X3_howManyThere a0 b0) := by
  obtain ⟨d, rfl⟩ := jd_succ hd
  refine jt_eq (bq_X3_howManyThere E d a0 b0) ?_
  have h744_ := iv_get hv0 (k := 4) (j := 6) (l := 0) (u := 40) rfl
  exact (cp_X3_howManyThere_4 E d hd a0 b0 hv0 _) 0 0 (Nat.le_refl _) (show 0 ≤ 0 from by omega) (show 0 ≤ 40 from by omega) (show (a0 4 6 = 0 → 0 = 0) from by omega)
abbrev jQ_X11_count (x1 : Int) (a0 b0 : Nat → Nat → Int) : List jxV → (Nat → Nat → Int) → (Nat → Nat → Int) → Prop := rI (fun r a b => (a0 = a) ∧ (b0 = b) ∧ ((x1 = 0 → r = a0 0 0)) ∧ ((x1 = 1 → r = a0 4 6)) ∧ ((x1 = 3 → r = a0 58 8)) ∧ ((x1 = 4 → r = a0 58 12)) ∧ ((x1 = 5 → r = a0 83 6)) ∧ ((x1 = 6 → r = a0 83 7)) ∧ ((x1 = 7 → r = a0 105 5)) ∧ ((x1 = 8 → r = a0 2 1)) ∧ ((x1 = 9 → r = a0 0 9)) ∧ (((x1 = 2 ∧ a0 4 6 = 0) → r = 0)) ∧ ((x1 = 10 → r = a0 56 0)) ∧ ((x1 = 11 → r = a0 56 1)) ∧ ((x1 = 12 → r = a0 56 2)) ∧ ((x1 = 13 → r = a0 56 3)) ∧ ((x1 = 14 → r = a0 56 4)) ∧ (20 ≤ x1 ∧ x1 ≤ 27 → r = a0 143 (jxw (x1 - 20)).toNat) ∧ (30 ≤ x1 ∧ x1 ≤ 37 → r = a0 142 (jxw (x1 - 30)).toNat) ∧ (((((x1 < 0 ∨ (14 < x1 ∧ x1 < 20)) ∨ (27 < x1 ∧ x1 < 30)) ∨ 37 < x1) → r = 0 - 1)))
theorem sp_X11_count (E : jxE) (d : Nat) (hd : Nat.ble 4 d = true) (x1 : Int) (a0 b0 : Nat → Nat → Int) (hv0 : iv a0) : jt (jxC E d 197 [.inr (.inr (.inl 0)), .inl x1] (jxSH, a0, b0)) (jQ_X11_count x1 a0 b0) := by
  obtain ⟨d, rfl⟩ := jd_succ hd
  refine jt_eq (bq_X11_count E d x1 a0 b0) ?_
  refine jt_ite (fun c745_ => ?_) (fun c745_ => ?_)
  ·
    refine jt_eI (eq_X11_countOfDrawer E d (jd_le hd rfl) x1 a0 b0) ?_
    have h746_ := f_X11_countOfDrawer_eq a0 b0 x1
    have h747_ := f_X11_within_eq a0 b0 x1 20 27
    have h748_ := f_X11_within_eq a0 b0 x1 30 37
    have h749_ := jxw_im (x1 - 30)
    have h750_ := jxw_rg (x1 - 30)
    have h751_ := f_X1_valueOf_eq a0 b0 (jxw (x1 - 30))
    have h752_ := f_X11_entry_r142_eq a0 b0 8 (jxw (x1 - 30))
    have h753_ := jxw_im (x1 - 20)
    have h754_ := jxw_rg (x1 - 20)
    have h755_ := f_X1_manyOf_eq a0 b0 (jxw (x1 - 20))
    have h756_ := f_X11_entry_r143_eq a0 b0 8 (jxw (x1 - 20))
    have h757_ := iv_get hv0 (k := 0) (j := 0) (l := 0) (u := 1999) rfl
    have h758_ := iv_get hv0 (k := 4) (j := 6) (l := 0) (u := 40) rfl
    have h759_ := iv_get hv0 (k := 58) (j := 8) (l := 0) (u := 300) rfl
    have h760_ := iv_get hv0 (k := 58) (j := 12) (l := 0) (u := 600) rfl
    have h761_ := iv_get hv0 (k := 83) (j := 6) (l := 0) (u := 20) rfl
    have h762_ := iv_get hv0 (k := 105) (j := 5) (l := 0) (u := 10) rfl
    have h763_ := iv_get hv0 (k := 2) (j := 1) (l := 0) (u := 200) rfl
    have h764_ := iv_get hv0 (k := 0) (j := 9) (l := 0) (u := 8) rfl
    exact jt_rI ⟨rfl, rfl, (show (x1 = 0 → f_X11_countOfDrawer a0 b0 x1 = a0 0 0) from by omega), (show (x1 = 1 → f_X11_countOfDrawer a0 b0 x1 = a0 4 6) from by omega), (show (x1 = 3 → f_X11_countOfDrawer a0 b0 x1 = a0 58 8) from by omega), (show (x1 = 4 → f_X11_countOfDrawer a0 b0 x1 = a0 58 12) from by omega), (show (x1 = 5 → f_X11_countOfDrawer a0 b0 x1 = a0 83 6) from by omega), (show (x1 = 6 → f_X11_countOfDrawer a0 b0 x1 = a0 83 7) from by omega), (show (x1 = 7 → f_X11_countOfDrawer a0 b0 x1 = a0 105 5) from by omega), (show (x1 = 8 → f_X11_countOfDrawer a0 b0 x1 = a0 2 1) from by omega), (show (x1 = 9 → f_X11_countOfDrawer a0 b0 x1 = a0 0 9) from by omega), (show ((x1 = 2 ∧ a0 4 6 = 0) → f_X11_countOfDrawer a0 b0 x1 = 0) from by omega), (show (x1 = 10 → f_X11_countOfDrawer a0 b0 x1 = a0 56 0) from by omega), (show (x1 = 11 → f_X11_countOfDrawer a0 b0 x1 = a0 56 1) from by omega), (show (x1 = 12 → f_X11_countOfDrawer a0 b0 x1 = a0 56 2) from by omega), (show (x1 = 13 → f_X11_countOfDrawer a0 b0 x1 = a0 56 3) from by omega), (show (x1 = 14 → f_X11_countOfDrawer a0 b0 x1 = a0 56 4) from by omega), (by omega), (by omega), (show ((((x1 < 0 ∨ (14 < x1 ∧ x1 < 20)) ∨ (27 < x1 ∧ x1 < 30)) ∨ 37 < x1) → f_X11_countOfDrawer a0 b0 x1 = 0 - 1) from by omega)⟩
  ·
    refine jt_ite (fun c765_ => ?_) (fun c765_ => ?_)
    ·
      have h766_ := iv_get hv0 (k := 0) (j := 0) (l := 0) (u := 1999) rfl
      have h767_ := iv_get hv0 (k := 4) (j := 6) (l := 0) (u := 40) rfl
      have h768_ := iv_get hv0 (k := 58) (j := 8) (l := 0) (u := 300) rfl
      have h769_ := iv_get hv0 (k := 58) (j := 12) (l := 0) (u := 600) rfl
      have h770_ := iv_get hv0 (k := 83) (j := 6) (l := 0) (u := 20) rfl
      have h771_ := iv_get hv0 (k := 105) (j := 5) (l := 0) (u := 10) rfl
      have h772_ := iv_get hv0 (k := 2) (j := 1) (l := 0) (u := 200) rfl
      have h773_ := iv_get hv0 (k := 0) (j := 9) (l := 0) (u := 8) rfl
      exact jt_rI ⟨rfl, rfl, (show (x1 = 0 → a0 0 0 = a0 0 0) from by omega), (show (x1 = 1 → a0 0 0 = a0 4 6) from by omega), (show (x1 = 3 → a0 0 0 = a0 58 8) from by omega), (show (x1 = 4 → a0 0 0 = a0 58 12) from by omega), (show (x1 = 5 → a0 0 0 = a0 83 6) from by omega), (show (x1 = 6 → a0 0 0 = a0 83 7) from by omega), (show (x1 = 7 → a0 0 0 = a0 105 5) from by omega), (show (x1 = 8 → a0 0 0 = a0 2 1) from by omega), (show (x1 = 9 → a0 0 0 = a0 0 9) from by omega), (show ((x1 = 2 ∧ a0 4 6 = 0) → a0 0 0 = 0) from by omega), (show (x1 = 10 → a0 0 0 = a0 56 0) from by omega), (show (x1 = 11 → a0 0 0 = a0 56 1) from by omega), (show (x1 = 12 → a0 0 0 = a0 56 2) from by omega), (show (x1 = 13 → a0 0 0 = a0 56 3) from by omega), (show (x1 = 14 → a0 0 0 = a0 56 4) from by omega), (by omega), (by omega), (show ((((x1 < 0 ∨ (14 < x1 ∧ x1 < 20)) ∨ (27 < x1 ∧ x1 < 30)) ∨ 37 < x1) → a0 0 0 = 0 - 1) from by omega)⟩
    ·
      refine jt_ite (fun c774_ => ?_) (fun c774_ => ?_)
      ·
        refine jt_eI (eq_X3_size E d (jd_le hd rfl) a0 b0) ?_
        have h775_ := f_X3_size_eq a0 b0
        have h776_ := iv_get hv0 (k := 4) (j := 6) (l := 0) (u := 40) rfl
        have h777_ := iv_get hv0 (k := 0) (j := 0) (l := 0) (u := 1999) rfl
        have h778_ := iv_get hv0 (k := 58) (j := 8) (l := 0) (u := 300) rfl
        have h779_ := iv_get hv0 (k := 58) (j := 12) (l := 0) (u := 600) rfl
        have h780_ := iv_get hv0 (k := 83) (j := 6) (l := 0) (u := 20) rfl
        have h781_ := iv_get hv0 (k := 105) (j := 5) (l := 0) (u := 10) rfl
        have h782_ := iv_get hv0 (k := 2) (j := 1) (l := 0) (u := 200) rfl
        have h783_ := iv_get hv0 (k := 0) (j := 9) (l := 0) (u := 8) rfl
        exact jt_rI ⟨rfl, rfl, (show (x1 = 0 → f_X3_size a0 b0 = a0 0 0) from by omega), (show (x1 = 1 → f_X3_size a0 b0 = a0 4 6) from by omega), (show (x1 = 3 → f_X3_size a0 b0 = a0 58 8) from by omega), (show (x1 = 4 → f_X3_size a0 b0 = a0 58 12) from by omega), (show (x1 = 5 → f_X3_size a0 b0 = a0 83 6) from by omega), (show (x1 = 6 → f_X3_size a0 b0 = a0 83 7) from by omega), (show (x1 = 7 → f_X3_size a0 b0 = a0 105 5) from by omega), (show (x1 = 8 → f_X3_size a0 b0 = a0 2 1) from by omega), (show (x1 = 9 → f_X3_size a0 b0 = a0 0 9) from by omega), (show ((x1 = 2 ∧ a0 4 6 = 0) → f_X3_size a0 b0 = 0) from by omega), (show (x1 = 10 → f_X3_size a0 b0 = a0 56 0) from by omega), (show (x1 = 11 → f_X3_size a0 b0 = a0 56 1) from by omega), (show (x1 = 12 → f_X3_size a0 b0 = a0 56 2) from by omega), (show (x1 = 13 → f_X3_size a0 b0 = a0 56 3) from by omega), (show (x1 = 14 → f_X3_size a0 b0 = a0 56 4) from by omega), (by omega), (by omega), (show ((((x1 < 0 ∨ (14 < x1 ∧ x1 < 20)) ∨ (27 < x1 ∧ x1 < 30)) ∨ 37 < x1) → f_X3_size a0 b0 = 0 - 1) from by omega)⟩
      ·
        refine jt_ite (fun c784_ => ?_) (fun c784_ => ?_)
        ·
          refine jt_bI (sp_X3_howManyThere E d (jd_le hd rfl) a0 b0 hv0) (fun r785_ a785_ b785_ h785_ => ?_)
          obtain ⟨rfl, rfl, hq785_0⟩ := h785_
          have h786_ := iv_get hv0 (k := 4) (j := 6) (l := 0) (u := 40) rfl
          have h787_ := iv_get hv0 (k := 0) (j := 0) (l := 0) (u := 1999) rfl
          have h788_ := iv_get hv0 (k := 58) (j := 8) (l := 0) (u := 300) rfl
          have h789_ := iv_get hv0 (k := 58) (j := 12) (l := 0) (u := 600) rfl
          have h790_ := iv_get hv0 (k := 83) (j := 6) (l := 0) (u := 20) rfl
          have h791_ := iv_get hv0 (k := 105) (j := 5) (l := 0) (u := 10) rfl
          have h792_ := iv_get hv0 (k := 2) (j := 1) (l := 0) (u := 200) rfl
          have h793_ := iv_get hv0 (k := 0) (j := 9) (l := 0) (u := 8) rfl
          exact jt_rI ⟨rfl, rfl, (show (x1 = 0 → r785_ = a0 0 0) from by omega), (show (x1 = 1 → r785_ = a0 4 6) from by omega), (show (x1 = 3 → r785_ = a0 58 8) from by omega), (show (x1 = 4 → r785_ = a0 58 12) from by omega), (show (x1 = 5 → r785_ = a0 83 6) from by omega), (show (x1 = 6 → r785_ = a0 83 7) from by omega), (show (x1 = 7 → r785_ = a0 105 5) from by omega), (show (x1 = 8 → r785_ = a0 2 1) from by omega), (show (x1 = 9 → r785_ = a0 0 9) from by omega), (show ((x1 = 2 ∧ a0 4 6 = 0) → r785_ = 0) from by omega), (show (x1 = 10 → r785_ = a0 56 0) from by omega), (show (x1 = 11 → r785_ = a0 56 1) from by omega), (show (x1 = 12 → r785_ = a0 56 2) from by omega), (show (x1 = 13 → r785_ = a0 56 3) from by omega), (show (x1 = 14 → r785_ = a0 56 4) from by omega), (by omega), (by omega), (show ((((x1 < 0 ∨ (14 < x1 ∧ x1 < 20)) ∨ (27 < x1 ∧ x1 < 30)) ∨ 37 < x1) → r785_ = 0 - 1) from by omega)⟩
        ·
          refine jt_ite (fun c794_ => ?_) (fun c794_ => ?_)
          ·
            refine jt_eI (eq_X0_size E d (jd_le hd rfl) a0 b0) ?_
            have h795_ := f_X0_size_eq a0 b0
            have h796_ := iv_get hv0 (k := 58) (j := 8) (l := 0) (u := 300) rfl
            have h797_ := iv_get hv0 (k := 0) (j := 0) (l := 0) (u := 1999) rfl
            have h798_ := iv_get hv0 (k := 4) (j := 6) (l := 0) (u := 40) rfl
            have h799_ := iv_get hv0 (k := 58) (j := 12) (l := 0) (u := 600) rfl
            have h800_ := iv_get hv0 (k := 83) (j := 6) (l := 0) (u := 20) rfl
            have h801_ := iv_get hv0 (k := 105) (j := 5) (l := 0) (u := 10) rfl
            have h802_ := iv_get hv0 (k := 2) (j := 1) (l := 0) (u := 200) rfl
            have h803_ := iv_get hv0 (k := 0) (j := 9) (l := 0) (u := 8) rfl
            exact jt_rI ⟨rfl, rfl, (show (x1 = 0 → f_X0_size a0 b0 = a0 0 0) from by omega), (show (x1 = 1 → f_X0_size a0 b0 = a0 4 6) from by omega), (show (x1 = 3 → f_X0_size a0 b0 = a0 58 8) from by omega), (show (x1 = 4 → f_X0_size a0 b0 = a0 58 12) from by omega), (show (x1 = 5 → f_X0_size a0 b0 = a0 83 6) from by omega), (show (x1 = 6 → f_X0_size a0 b0 = a0 83 7) from by omega), (show (x1 = 7 → f_X0_size a0 b0 = a0 105 5) from by omega), (show (x1 = 8 → f_X0_size a0 b0 = a0 2 1) from by omega), (show (x1 = 9 → f_X0_size a0 b0 = a0 0 9) from by omega), (show ((x1 = 2 ∧ a0 4 6 = 0) → f_X0_size a0 b0 = 0) from by omega), (show (x1 = 10 → f_X0_size a0 b0 = a0 56 0) from by omega), (show (x1 = 11 → f_X0_size a0 b0 = a0 56 1) from by omega), (show (x1 = 12 → f_X0_size a0 b0 = a0 56 2) from by omega), (show (x1 = 13 → f_X0_size a0 b0 = a0 56 3) from by omega), (show (x1 = 14 → f_X0_size a0 b0 = a0 56 4) from by omega), (by omega), (by omega), (show ((((x1 < 0 ∨ (14 < x1 ∧ x1 < 20)) ∨ (27 < x1 ∧ x1 < 30)) ∨ 37 < x1) → f_X0_size a0 b0 = 0 - 1) from by omega)⟩
          ·
            refine jt_ite (fun c804_ => ?_) (fun c804_ => ?_)
            ·
              refine jt_eI (eq_X0_tellings E d (jd_le hd rfl) a0 b0) ?_
              have h805_ := f_X0_tellings_eq a0 b0
              have h806_ := iv_get hv0 (k := 58) (j := 12) (l := 0) (u := 600) rfl
              have h807_ := iv_get hv0 (k := 0) (j := 0) (l := 0) (u := 1999) rfl
              have h808_ := iv_get hv0 (k := 4) (j := 6) (l := 0) (u := 40) rfl
              have h809_ := iv_get hv0 (k := 58) (j := 8) (l := 0) (u := 300) rfl
              have h810_ := iv_get hv0 (k := 83) (j := 6) (l := 0) (u := 20) rfl
              have h811_ := iv_get hv0 (k := 105) (j := 5) (l := 0) (u := 10) rfl
              have h812_ := iv_get hv0 (k := 2) (j := 1) (l := 0) (u := 200) rfl
              have h813_ := iv_get hv0 (k := 0) (j := 9) (l := 0) (u := 8) rfl
              exact jt_rI ⟨rfl, rfl, (show (x1 = 0 → f_X0_tellings a0 b0 = a0 0 0) from by omega), (show (x1 = 1 → f_X0_tellings a0 b0 = a0 4 6) from by omega), (show (x1 = 3 → f_X0_tellings a0 b0 = a0 58 8) from by omega), (show (x1 = 4 → f_X0_tellings a0 b0 = a0 58 12) from by omega), (show (x1 = 5 → f_X0_tellings a0 b0 = a0 83 6) from by omega), (show (x1 = 6 → f_X0_tellings a0 b0 = a0 83 7) from by omega), (show (x1 = 7 → f_X0_tellings a0 b0 = a0 105 5) from by omega), (show (x1 = 8 → f_X0_tellings a0 b0 = a0 2 1) from by omega), (show (x1 = 9 → f_X0_tellings a0 b0 = a0 0 9) from by omega), (show ((x1 = 2 ∧ a0 4 6 = 0) → f_X0_tellings a0 b0 = 0) from by omega), (show (x1 = 10 → f_X0_tellings a0 b0 = a0 56 0) from by omega), (show (x1 = 11 → f_X0_tellings a0 b0 = a0 56 1) from by omega), (show (x1 = 12 → f_X0_tellings a0 b0 = a0 56 2) from by omega), (show (x1 = 13 → f_X0_tellings a0 b0 = a0 56 3) from by omega), (show (x1 = 14 → f_X0_tellings a0 b0 = a0 56 4) from by omega), (by omega), (by omega), (show ((((x1 < 0 ∨ (14 < x1 ∧ x1 < 20)) ∨ (27 < x1 ∧ x1 < 30)) ∨ 37 < x1) → f_X0_tellings a0 b0 = 0 - 1) from by omega)⟩
            ·
              refine jt_ite (fun c814_ => ?_) (fun c814_ => ?_)
              ·
                refine jt_eI (eq_X4_size E d (jd_le hd rfl) a0 b0) ?_
                have h815_ := f_X4_size_eq a0 b0
                have h816_ := iv_get hv0 (k := 83) (j := 6) (l := 0) (u := 20) rfl
                have h817_ := iv_get hv0 (k := 0) (j := 0) (l := 0) (u := 1999) rfl
                have h818_ := iv_get hv0 (k := 4) (j := 6) (l := 0) (u := 40) rfl
                have h819_ := iv_get hv0 (k := 58) (j := 8) (l := 0) (u := 300) rfl
                have h820_ := iv_get hv0 (k := 58) (j := 12) (l := 0) (u := 600) rfl
                have h821_ := iv_get hv0 (k := 105) (j := 5) (l := 0) (u := 10) rfl
                have h822_ := iv_get hv0 (k := 2) (j := 1) (l := 0) (u := 200) rfl
                have h823_ := iv_get hv0 (k := 0) (j := 9) (l := 0) (u := 8) rfl
                exact jt_rI ⟨rfl, rfl, (show (x1 = 0 → f_X4_size a0 b0 = a0 0 0) from by omega), (show (x1 = 1 → f_X4_size a0 b0 = a0 4 6) from by omega), (show (x1 = 3 → f_X4_size a0 b0 = a0 58 8) from by omega), (show (x1 = 4 → f_X4_size a0 b0 = a0 58 12) from by omega), (show (x1 = 5 → f_X4_size a0 b0 = a0 83 6) from by omega), (show (x1 = 6 → f_X4_size a0 b0 = a0 83 7) from by omega), (show (x1 = 7 → f_X4_size a0 b0 = a0 105 5) from by omega), (show (x1 = 8 → f_X4_size a0 b0 = a0 2 1) from by omega), (show (x1 = 9 → f_X4_size a0 b0 = a0 0 9) from by omega), (show ((x1 = 2 ∧ a0 4 6 = 0) → f_X4_size a0 b0 = 0) from by omega), (show (x1 = 10 → f_X4_size a0 b0 = a0 56 0) from by omega), (show (x1 = 11 → f_X4_size a0 b0 = a0 56 1) from by omega), (show (x1 = 12 → f_X4_size a0 b0 = a0 56 2) from by omega), (show (x1 = 13 → f_X4_size a0 b0 = a0 56 3) from by omega), (show (x1 = 14 → f_X4_size a0 b0 = a0 56 4) from by omega), (by omega), (by omega), (show ((((x1 < 0 ∨ (14 < x1 ∧ x1 < 20)) ∨ (27 < x1 ∧ x1 < 30)) ∨ 37 < x1) → f_X4_size a0 b0 = 0 - 1) from by omega)⟩
              ·
                refine jt_ite (fun c824_ => ?_) (fun c824_ => ?_)
                ·
                  refine jt_eI (eq_X4_ringsClosed E d (jd_le hd rfl) a0 b0) ?_
                  have h825_ := f_X4_ringsClosed_eq a0 b0
                  have h826_ := iv_get hv0 (k := 0) (j := 0) (l := 0) (u := 1999) rfl
                  have h827_ := iv_get hv0 (k := 4) (j := 6) (l := 0) (u := 40) rfl
                  have h828_ := iv_get hv0 (k := 58) (j := 8) (l := 0) (u := 300) rfl
                  have h829_ := iv_get hv0 (k := 58) (j := 12) (l := 0) (u := 600) rfl
                  have h830_ := iv_get hv0 (k := 83) (j := 6) (l := 0) (u := 20) rfl
                  have h831_ := iv_get hv0 (k := 105) (j := 5) (l := 0) (u := 10) rfl
                  have h832_ := iv_get hv0 (k := 2) (j := 1) (l := 0) (u := 200) rfl
                  have h833_ := iv_get hv0 (k := 0) (j := 9) (l := 0) (u := 8) rfl
                  exact jt_rI ⟨rfl, rfl, (show (x1 = 0 → f_X4_ringsClosed a0 b0 = a0 0 0) from by omega), (show (x1 = 1 → f_X4_ringsClosed a0 b0 = a0 4 6) from by omega), (show (x1 = 3 → f_X4_ringsClosed a0 b0 = a0 58 8) from by omega), (show (x1 = 4 → f_X4_ringsClosed a0 b0 = a0 58 12) from by omega), (show (x1 = 5 → f_X4_ringsClosed a0 b0 = a0 83 6) from by omega), (show (x1 = 6 → f_X4_ringsClosed a0 b0 = a0 83 7) from by omega), (show (x1 = 7 → f_X4_ringsClosed a0 b0 = a0 105 5) from by omega), (show (x1 = 8 → f_X4_ringsClosed a0 b0 = a0 2 1) from by omega), (show (x1 = 9 → f_X4_ringsClosed a0 b0 = a0 0 9) from by omega), (show ((x1 = 2 ∧ a0 4 6 = 0) → f_X4_ringsClosed a0 b0 = 0) from by omega), (show (x1 = 10 → f_X4_ringsClosed a0 b0 = a0 56 0) from by omega), (show (x1 = 11 → f_X4_ringsClosed a0 b0 = a0 56 1) from by omega), (show (x1 = 12 → f_X4_ringsClosed a0 b0 = a0 56 2) from by omega), (show (x1 = 13 → f_X4_ringsClosed a0 b0 = a0 56 3) from by omega), (show (x1 = 14 → f_X4_ringsClosed a0 b0 = a0 56 4) from by omega), (by omega), (by omega), (show ((((x1 < 0 ∨ (14 < x1 ∧ x1 < 20)) ∨ (27 < x1 ∧ x1 < 30)) ∨ 37 < x1) → f_X4_ringsClosed a0 b0 = 0 - 1) from by omega)⟩
                ·
                  refine jt_ite (fun c834_ => ?_) (fun c834_ => ?_)
                  ·
                    refine jt_eI (eq_X9_size E d (jd_le hd rfl) a0 b0) ?_
                    have h835_ := f_X9_size_eq a0 b0
                    have h836_ := iv_get hv0 (k := 105) (j := 5) (l := 0) (u := 10) rfl
                    have h837_ := iv_get hv0 (k := 0) (j := 0) (l := 0) (u := 1999) rfl
                    have h838_ := iv_get hv0 (k := 4) (j := 6) (l := 0) (u := 40) rfl
                    have h839_ := iv_get hv0 (k := 58) (j := 8) (l := 0) (u := 300) rfl
                    have h840_ := iv_get hv0 (k := 58) (j := 12) (l := 0) (u := 600) rfl
                    have h841_ := iv_get hv0 (k := 83) (j := 6) (l := 0) (u := 20) rfl
                    have h842_ := iv_get hv0 (k := 2) (j := 1) (l := 0) (u := 200) rfl
                    have h843_ := iv_get hv0 (k := 0) (j := 9) (l := 0) (u := 8) rfl
                    exact jt_rI ⟨rfl, rfl, (show (x1 = 0 → f_X9_size a0 b0 = a0 0 0) from by omega), (show (x1 = 1 → f_X9_size a0 b0 = a0 4 6) from by omega), (show (x1 = 3 → f_X9_size a0 b0 = a0 58 8) from by omega), (show (x1 = 4 → f_X9_size a0 b0 = a0 58 12) from by omega), (show (x1 = 5 → f_X9_size a0 b0 = a0 83 6) from by omega), (show (x1 = 6 → f_X9_size a0 b0 = a0 83 7) from by omega), (show (x1 = 7 → f_X9_size a0 b0 = a0 105 5) from by omega), (show (x1 = 8 → f_X9_size a0 b0 = a0 2 1) from by omega), (show (x1 = 9 → f_X9_size a0 b0 = a0 0 9) from by omega), (show ((x1 = 2 ∧ a0 4 6 = 0) → f_X9_size a0 b0 = 0) from by omega), (show (x1 = 10 → f_X9_size a0 b0 = a0 56 0) from by omega), (show (x1 = 11 → f_X9_size a0 b0 = a0 56 1) from by omega), (show (x1 = 12 → f_X9_size a0 b0 = a0 56 2) from by omega), (show (x1 = 13 → f_X9_size a0 b0 = a0 56 3) from by omega), (show (x1 = 14 → f_X9_size a0 b0 = a0 56 4) from by omega), (by omega), (by omega), (show ((((x1 < 0 ∨ (14 < x1 ∧ x1 < 20)) ∨ (27 < x1 ∧ x1 < 30)) ∨ 37 < x1) → f_X9_size a0 b0 = 0 - 1) from by omega)⟩
                  ·
                    refine jt_ite (fun c844_ => ?_) (fun c844_ => ?_)
                    ·
                      refine jt_eI (eq_X8_length E d (jd_le hd rfl) a0 b0) ?_
                      have h845_ := f_X8_length_eq a0 b0
                      have h846_ := iv_get hv0 (k := 2) (j := 1) (l := 0) (u := 200) rfl
                      have h847_ := iv_get hv0 (k := 0) (j := 0) (l := 0) (u := 1999) rfl
                      have h848_ := iv_get hv0 (k := 4) (j := 6) (l := 0) (u := 40) rfl
                      have h849_ := iv_get hv0 (k := 58) (j := 8) (l := 0) (u := 300) rfl
                      have h850_ := iv_get hv0 (k := 58) (j := 12) (l := 0) (u := 600) rfl
                      have h851_ := iv_get hv0 (k := 83) (j := 6) (l := 0) (u := 20) rfl
                      have h852_ := iv_get hv0 (k := 105) (j := 5) (l := 0) (u := 10) rfl
                      have h853_ := iv_get hv0 (k := 0) (j := 9) (l := 0) (u := 8) rfl
                      exact jt_rI ⟨rfl, rfl, (show (x1 = 0 → f_X8_length a0 b0 = a0 0 0) from by omega), (show (x1 = 1 → f_X8_length a0 b0 = a0 4 6) from by omega), (show (x1 = 3 → f_X8_length a0 b0 = a0 58 8) from by omega), (show (x1 = 4 → f_X8_length a0 b0 = a0 58 12) from by omega), (show (x1 = 5 → f_X8_length a0 b0 = a0 83 6) from by omega), (show (x1 = 6 → f_X8_length a0 b0 = a0 83 7) from by omega), (show (x1 = 7 → f_X8_length a0 b0 = a0 105 5) from by omega), (show (x1 = 8 → f_X8_length a0 b0 = a0 2 1) from by omega), (show (x1 = 9 → f_X8_length a0 b0 = a0 0 9) from by omega), (show ((x1 = 2 ∧ a0 4 6 = 0) → f_X8_length a0 b0 = 0) from by omega), (show (x1 = 10 → f_X8_length a0 b0 = a0 56 0) from by omega), (show (x1 = 11 → f_X8_length a0 b0 = a0 56 1) from by omega), (show (x1 = 12 → f_X8_length a0 b0 = a0 56 2) from by omega), (show (x1 = 13 → f_X8_length a0 b0 = a0 56 3) from by omega), (show (x1 = 14 → f_X8_length a0 b0 = a0 56 4) from by omega), (by omega), (by omega), (show ((((x1 < 0 ∨ (14 < x1 ∧ x1 < 20)) ∨ (27 < x1 ∧ x1 < 30)) ∨ 37 < x1) → f_X8_length a0 b0 = 0 - 1) from by omega)⟩
                    ·
                      refine jt_ite (fun c854_ => ?_) (fun c854_ => ?_)
                      ·
                        have h855_ := iv_get hv0 (k := 0) (j := 9) (l := 0) (u := 8) rfl
                        have h856_ := iv_get hv0 (k := 0) (j := 0) (l := 0) (u := 1999) rfl
                        have h857_ := iv_get hv0 (k := 4) (j := 6) (l := 0) (u := 40) rfl
                        have h858_ := iv_get hv0 (k := 58) (j := 8) (l := 0) (u := 300) rfl
                        have h859_ := iv_get hv0 (k := 58) (j := 12) (l := 0) (u := 600) rfl
                        have h860_ := iv_get hv0 (k := 83) (j := 6) (l := 0) (u := 20) rfl
                        have h861_ := iv_get hv0 (k := 105) (j := 5) (l := 0) (u := 10) rfl
                        have h862_ := iv_get hv0 (k := 2) (j := 1) (l := 0) (u := 200) rfl
                        exact jt_rI ⟨rfl, rfl, (show (x1 = 0 → a0 0 9 = a0 0 0) from by omega), (show (x1 = 1 → a0 0 9 = a0 4 6) from by omega), (show (x1 = 3 → a0 0 9 = a0 58 8) from by omega), (show (x1 = 4 → a0 0 9 = a0 58 12) from by omega), (show (x1 = 5 → a0 0 9 = a0 83 6) from by omega), (show (x1 = 6 → a0 0 9 = a0 83 7) from by omega), (show (x1 = 7 → a0 0 9 = a0 105 5) from by omega), (show (x1 = 8 → a0 0 9 = a0 2 1) from by omega), (show (x1 = 9 → a0 0 9 = a0 0 9) from by omega), (show ((x1 = 2 ∧ a0 4 6 = 0) → a0 0 9 = 0) from by omega), (show (x1 = 10 → a0 0 9 = a0 56 0) from by omega), (show (x1 = 11 → a0 0 9 = a0 56 1) from by omega), (show (x1 = 12 → a0 0 9 = a0 56 2) from by omega), (show (x1 = 13 → a0 0 9 = a0 56 3) from by omega), (show (x1 = 14 → a0 0 9 = a0 56 4) from by omega), (by omega), (by omega), (show ((((x1 < 0 ∨ (14 < x1 ∧ x1 < 20)) ∨ (27 < x1 ∧ x1 < 30)) ∨ 37 < x1) → a0 0 9 = 0 - 1) from by omega)⟩
                      ·
                        refine jt_ite (fun c863_ => ?_) (fun c863_ => ?_)
                        ·
                          refine jt_eI (eq_X6_under E d (jd_le hd rfl) a0 b0) ?_
                          have h864_ := f_X6_under_eq a0 b0
                          have h865_ := iv_get hv0 (k := 0) (j := 0) (l := 0) (u := 1999) rfl
                          have h866_ := iv_get hv0 (k := 4) (j := 6) (l := 0) (u := 40) rfl
                          have h867_ := iv_get hv0 (k := 58) (j := 8) (l := 0) (u := 300) rfl
                          have h868_ := iv_get hv0 (k := 58) (j := 12) (l := 0) (u := 600) rfl
                          have h869_ := iv_get hv0 (k := 83) (j := 6) (l := 0) (u := 20) rfl
                          have h870_ := iv_get hv0 (k := 105) (j := 5) (l := 0) (u := 10) rfl
                          have h871_ := iv_get hv0 (k := 2) (j := 1) (l := 0) (u := 200) rfl
                          have h872_ := iv_get hv0 (k := 0) (j := 9) (l := 0) (u := 8) rfl
                          exact jt_rI ⟨rfl, rfl, (show (x1 = 0 → f_X6_under a0 b0 = a0 0 0) from by omega), (show (x1 = 1 → f_X6_under a0 b0 = a0 4 6) from by omega), (show (x1 = 3 → f_X6_under a0 b0 = a0 58 8) from by omega), (show (x1 = 4 → f_X6_under a0 b0 = a0 58 12) from by omega), (show (x1 = 5 → f_X6_under a0 b0 = a0 83 6) from by omega), (show (x1 = 6 → f_X6_under a0 b0 = a0 83 7) from by omega), (show (x1 = 7 → f_X6_under a0 b0 = a0 105 5) from by omega), (show (x1 = 8 → f_X6_under a0 b0 = a0 2 1) from by omega), (show (x1 = 9 → f_X6_under a0 b0 = a0 0 9) from by omega), (show ((x1 = 2 ∧ a0 4 6 = 0) → f_X6_under a0 b0 = 0) from by omega), (show (x1 = 10 → f_X6_under a0 b0 = a0 56 0) from by omega), (show (x1 = 11 → f_X6_under a0 b0 = a0 56 1) from by omega), (show (x1 = 12 → f_X6_under a0 b0 = a0 56 2) from by omega), (show (x1 = 13 → f_X6_under a0 b0 = a0 56 3) from by omega), (show (x1 = 14 → f_X6_under a0 b0 = a0 56 4) from by omega), (by omega), (by omega), (show ((((x1 < 0 ∨ (14 < x1 ∧ x1 < 20)) ∨ (27 < x1 ∧ x1 < 30)) ∨ 37 < x1) → f_X6_under a0 b0 = 0 - 1) from by omega)⟩
                        ·
                          refine jt_ite (fun c873_ => ?_) (fun c873_ => ?_)
                          ·
                            refine jt_eI (eq_X6_more E d (jd_le hd rfl) a0 b0) ?_
                            have h874_ := f_X6_more_eq a0 b0
                            have h875_ := iv_get hv0 (k := 0) (j := 0) (l := 0) (u := 1999) rfl
                            have h876_ := iv_get hv0 (k := 4) (j := 6) (l := 0) (u := 40) rfl
                            have h877_ := iv_get hv0 (k := 58) (j := 8) (l := 0) (u := 300) rfl
                            have h878_ := iv_get hv0 (k := 58) (j := 12) (l := 0) (u := 600) rfl
                            have h879_ := iv_get hv0 (k := 83) (j := 6) (l := 0) (u := 20) rfl
                            have h880_ := iv_get hv0 (k := 105) (j := 5) (l := 0) (u := 10) rfl
                            have h881_ := iv_get hv0 (k := 2) (j := 1) (l := 0) (u := 200) rfl
                            have h882_ := iv_get hv0 (k := 0) (j := 9) (l := 0) (u := 8) rfl
                            exact jt_rI ⟨rfl, rfl, (show (x1 = 0 → f_X6_more a0 b0 = a0 0 0) from by omega), (show (x1 = 1 → f_X6_more a0 b0 = a0 4 6) from by omega), (show (x1 = 3 → f_X6_more a0 b0 = a0 58 8) from by omega), (show (x1 = 4 → f_X6_more a0 b0 = a0 58 12) from by omega), (show (x1 = 5 → f_X6_more a0 b0 = a0 83 6) from by omega), (show (x1 = 6 → f_X6_more a0 b0 = a0 83 7) from by omega), (show (x1 = 7 → f_X6_more a0 b0 = a0 105 5) from by omega), (show (x1 = 8 → f_X6_more a0 b0 = a0 2 1) from by omega), (show (x1 = 9 → f_X6_more a0 b0 = a0 0 9) from by omega), (show ((x1 = 2 ∧ a0 4 6 = 0) → f_X6_more a0 b0 = 0) from by omega), (show (x1 = 10 → f_X6_more a0 b0 = a0 56 0) from by omega), (show (x1 = 11 → f_X6_more a0 b0 = a0 56 1) from by omega), (show (x1 = 12 → f_X6_more a0 b0 = a0 56 2) from by omega), (show (x1 = 13 → f_X6_more a0 b0 = a0 56 3) from by omega), (show (x1 = 14 → f_X6_more a0 b0 = a0 56 4) from by omega), (by omega), (by omega), (show ((((x1 < 0 ∨ (14 < x1 ∧ x1 < 20)) ∨ (27 < x1 ∧ x1 < 30)) ∨ 37 < x1) → f_X6_more a0 b0 = 0 - 1) from by omega)⟩
                          ·
                            refine jt_ite (fun c883_ => ?_) (fun c883_ => ?_)
                            ·
                              refine jt_eI (eq_X6_slack E d (jd_le hd rfl) a0 b0) ?_
                              have h884_ := f_X6_slack_eq a0 b0
                              have h885_ := iv_get hv0 (k := 0) (j := 0) (l := 0) (u := 1999) rfl
                              have h886_ := iv_get hv0 (k := 4) (j := 6) (l := 0) (u := 40) rfl
                              have h887_ := iv_get hv0 (k := 58) (j := 8) (l := 0) (u := 300) rfl
                              have h888_ := iv_get hv0 (k := 58) (j := 12) (l := 0) (u := 600) rfl
                              have h889_ := iv_get hv0 (k := 83) (j := 6) (l := 0) (u := 20) rfl
                              have h890_ := iv_get hv0 (k := 105) (j := 5) (l := 0) (u := 10) rfl
                              have h891_ := iv_get hv0 (k := 2) (j := 1) (l := 0) (u := 200) rfl
                              have h892_ := iv_get hv0 (k := 0) (j := 9) (l := 0) (u := 8) rfl
                              exact jt_rI ⟨rfl, rfl, (show (x1 = 0 → f_X6_slack a0 b0 = a0 0 0) from by omega), (show (x1 = 1 → f_X6_slack a0 b0 = a0 4 6) from by omega), (show (x1 = 3 → f_X6_slack a0 b0 = a0 58 8) from by omega), (show (x1 = 4 → f_X6_slack a0 b0 = a0 58 12) from by omega), (show (x1 = 5 → f_X6_slack a0 b0 = a0 83 6) from by omega), (show (x1 = 6 → f_X6_slack a0 b0 = a0 83 7) from by omega), (show (x1 = 7 → f_X6_slack a0 b0 = a0 105 5) from by omega), (show (x1 = 8 → f_X6_slack a0 b0 = a0 2 1) from by omega), (show (x1 = 9 → f_X6_slack a0 b0 = a0 0 9) from by omega), (show ((x1 = 2 ∧ a0 4 6 = 0) → f_X6_slack a0 b0 = 0) from by omega), (show (x1 = 10 → f_X6_slack a0 b0 = a0 56 0) from by omega), (show (x1 = 11 → f_X6_slack a0 b0 = a0 56 1) from by omega), (show (x1 = 12 → f_X6_slack a0 b0 = a0 56 2) from by omega), (show (x1 = 13 → f_X6_slack a0 b0 = a0 56 3) from by omega), (show (x1 = 14 → f_X6_slack a0 b0 = a0 56 4) from by omega), (by omega), (by omega), (show ((((x1 < 0 ∨ (14 < x1 ∧ x1 < 20)) ∨ (27 < x1 ∧ x1 < 30)) ∨ 37 < x1) → f_X6_slack a0 b0 = 0 - 1) from by omega)⟩
                            ·
                              refine jt_ite (fun c893_ => ?_) (fun c893_ => ?_)
                              ·
                                refine jt_eI (eq_X6_lost E d (jd_le hd rfl) a0 b0) ?_
                                have h894_ := f_X6_lost_eq a0 b0
                                have h895_ := iv_get hv0 (k := 0) (j := 0) (l := 0) (u := 1999) rfl
                                have h896_ := iv_get hv0 (k := 4) (j := 6) (l := 0) (u := 40) rfl
                                have h897_ := iv_get hv0 (k := 58) (j := 8) (l := 0) (u := 300) rfl
                                have h898_ := iv_get hv0 (k := 58) (j := 12) (l := 0) (u := 600) rfl
                                have h899_ := iv_get hv0 (k := 83) (j := 6) (l := 0) (u := 20) rfl
                                have h900_ := iv_get hv0 (k := 105) (j := 5) (l := 0) (u := 10) rfl
                                have h901_ := iv_get hv0 (k := 2) (j := 1) (l := 0) (u := 200) rfl
                                have h902_ := iv_get hv0 (k := 0) (j := 9) (l := 0) (u := 8) rfl
                                exact jt_rI ⟨rfl, rfl, (show (x1 = 0 → f_X6_lost a0 b0 = a0 0 0) from by omega), (show (x1 = 1 → f_X6_lost a0 b0 = a0 4 6) from by omega), (show (x1 = 3 → f_X6_lost a0 b0 = a0 58 8) from by omega), (show (x1 = 4 → f_X6_lost a0 b0 = a0 58 12) from by omega), (show (x1 = 5 → f_X6_lost a0 b0 = a0 83 6) from by omega), (show (x1 = 6 → f_X6_lost a0 b0 = a0 83 7) from by omega), (show (x1 = 7 → f_X6_lost a0 b0 = a0 105 5) from by omega), (show (x1 = 8 → f_X6_lost a0 b0 = a0 2 1) from by omega), (show (x1 = 9 → f_X6_lost a0 b0 = a0 0 9) from by omega), (show ((x1 = 2 ∧ a0 4 6 = 0) → f_X6_lost a0 b0 = 0) from by omega), (show (x1 = 10 → f_X6_lost a0 b0 = a0 56 0) from by omega), (show (x1 = 11 → f_X6_lost a0 b0 = a0 56 1) from by omega), (show (x1 = 12 → f_X6_lost a0 b0 = a0 56 2) from by omega), (show (x1 = 13 → f_X6_lost a0 b0 = a0 56 3) from by omega), (show (x1 = 14 → f_X6_lost a0 b0 = a0 56 4) from by omega), (by omega), (by omega), (show ((((x1 < 0 ∨ (14 < x1 ∧ x1 < 20)) ∨ (27 < x1 ∧ x1 < 30)) ∨ 37 < x1) → f_X6_lost a0 b0 = 0 - 1) from by omega)⟩
                              ·
                                refine jt_ite (fun c903_ => ?_) (fun c903_ => ?_)
                                ·
                                  refine jt_eI (eq_X6_strict E d (jd_le hd rfl) a0 b0) ?_
                                  have h904_ := f_X6_strict_eq a0 b0
                                  have h905_ := iv_get hv0 (k := 0) (j := 0) (l := 0) (u := 1999) rfl
                                  have h906_ := iv_get hv0 (k := 4) (j := 6) (l := 0) (u := 40) rfl
                                  have h907_ := iv_get hv0 (k := 58) (j := 8) (l := 0) (u := 300) rfl
                                  have h908_ := iv_get hv0 (k := 58) (j := 12) (l := 0) (u := 600) rfl
                                  have h909_ := iv_get hv0 (k := 83) (j := 6) (l := 0) (u := 20) rfl
                                  have h910_ := iv_get hv0 (k := 105) (j := 5) (l := 0) (u := 10) rfl
                                  have h911_ := iv_get hv0 (k := 2) (j := 1) (l := 0) (u := 200) rfl
                                  have h912_ := iv_get hv0 (k := 0) (j := 9) (l := 0) (u := 8) rfl
                                  exact jt_rI ⟨rfl, rfl, (show (x1 = 0 → f_X6_strict a0 b0 = a0 0 0) from by omega), (show (x1 = 1 → f_X6_strict a0 b0 = a0 4 6) from by omega), (show (x1 = 3 → f_X6_strict a0 b0 = a0 58 8) from by omega), (show (x1 = 4 → f_X6_strict a0 b0 = a0 58 12) from by omega), (show (x1 = 5 → f_X6_strict a0 b0 = a0 83 6) from by omega), (show (x1 = 6 → f_X6_strict a0 b0 = a0 83 7) from by omega), (show (x1 = 7 → f_X6_strict a0 b0 = a0 105 5) from by omega), (show (x1 = 8 → f_X6_strict a0 b0 = a0 2 1) from by omega), (show (x1 = 9 → f_X6_strict a0 b0 = a0 0 9) from by omega), (show ((x1 = 2 ∧ a0 4 6 = 0) → f_X6_strict a0 b0 = 0) from by omega), (show (x1 = 10 → f_X6_strict a0 b0 = a0 56 0) from by omega), (show (x1 = 11 → f_X6_strict a0 b0 = a0 56 1) from by omega), (show (x1 = 12 → f_X6_strict a0 b0 = a0 56 2) from by omega), (show (x1 = 13 → f_X6_strict a0 b0 = a0 56 3) from by omega), (show (x1 = 14 → f_X6_strict a0 b0 = a0 56 4) from by omega), (by omega), (by omega), (show ((((x1 < 0 ∨ (14 < x1 ∧ x1 < 20)) ∨ (27 < x1 ∧ x1 < 30)) ∨ 37 < x1) → f_X6_strict a0 b0 = 0 - 1) from by omega)⟩
                                ·
                                  exact absurd (by omega : False) id
def jW_X11_withdraw : List (Nat × Nat) := [(9, 9999), (64, 9999), (87, 9999), (88, 9999), (89, 9999)]
abbrev jQ_X11_withdraw (x1 : Int) (a0 b0 : Nat → Nat → Int) : List jxV → (Nat → Nat → Int) → (Nat → Nat → Int) → Prop := rI (fun r a b => (iv a) ∧ (jfr jW_X11_withdraw a0 a) ∧ (b0 = b))
theorem cp_X11_withdraw_58 (E : jxE) (d : Nat) (hd : Nat.ble 4 (d + 1) = true) (x1 : Int) (a0 b0 : Nat → Nat → Int) (hv0 : iv a0) : ∀ (a : Nat → Nat → Int), iv a → jfr jW_X11_withdraw a0 a → jt (jxX E d 159 58 [none, none, none] [] (jxSH, a, b0)) (jQ_X11_withdraw x1 a0 b0) := by
  intro a hv hf
  refine jt_eq (bq_X11_withdraw_58 E d a b0) ?_
  exact jt_rI ⟨hv, hf, rfl⟩
theorem cp_X11_withdraw_105 (E : jxE) (d : Nat) (hd : Nat.ble 4 (d + 1) = true) (x1 : Int) (a0 b0 : Nat → Nat → Int) (hv0 : iv a0) : ∀ (a : Nat → Nat → Int), iv a → jfr jW_X11_withdraw a0 a → jt (jxX E d 159 105 [none, none, none] [] (jxSH, a, b0)) (jQ_X11_withdraw x1 a0 b0) := by
  intro a hv hf
  refine jt_eq (bq_X11_withdraw_105 E d a b0) ?_
  exact jt_rI ⟨hv, hf, rfl⟩
theorem cp_X11_withdraw_90 (E : jxE) (d : Nat) (hd : Nat.ble 4 (d + 1) = true) (x1 : Int) (a0 b0 : Nat → Nat → Int) (hv0 : iv a0) : ∀ (y2 : Int) (a : Nat → Nat → Int), iv a → jfr jW_X11_withdraw a0 a → 0 ≤ y2 → y2 ≤ 299 → jt (jxX E d 159 90 [some (.inr (.inr (.inl 0))), none, some (.inl y2)] [] (jxSH, a, b0)) (jQ_X11_withdraw x1 a0 b0) := by
  intro y2 a hv hf hi0 hi1
  refine jt_eq (bq_X11_withdraw_90 E d y2 a b0) ?_
  refine jt_eI (eq_X0_toOf E d (jd_le hd rfl) y2 a b0) ?_
  refine jt_bV (sp_X3_addCredit E d (jd_le hd rfl) (f_X0_toOf a b0 y2) a b0 hv) (fun a913_ b913_ h913_ => ?_)
  obtain ⟨hv913_, hf913_, rfl⟩ := h913_
  have hf914_ : jfr jW_X11_withdraw a0 a913_ := jfr_tr hf hf913_ rfl
  exact cp_X11_withdraw_105 E d hd x1 a0 b0 hv0 a913_ hv913_ hf914_
theorem cp_X11_withdraw_60 (E : jxE) (d : Nat) (hd : Nat.ble 4 (d + 1) = true) (x1 : Int) (a0 b0 : Nat → Nat → Int) (hv0 : iv a0) : ∀ (y2 : Int) (a : Nat → Nat → Int), iv a → jfr jW_X11_withdraw a0 a → 0 ≤ y2 → y2 ≤ 299 → jt (jxX E d 159 60 [some (.inr (.inr (.inl 0))), none, some (.inl y2)] [] (jxSH, a, b0)) (jQ_X11_withdraw x1 a0 b0) := by
  intro y2 a hv hf hi0 hi1
  refine jt_eq (bq_X11_withdraw_60 E d y2 a b0) ?_
  refine jt_bV (sp_X0_cancel E d (jd_le hd rfl) y2 (a 0 0) a b0 hv) (fun a915_ b915_ h915_ => ?_)
  obtain ⟨hv915_, hf915_, rfl⟩ := h915_
  refine jt_eI (eq_X0_toOf E d (jd_le hd rfl) y2 a915_ b0) ?_
  refine jt_eI (eq_X3_isThere E d (jd_le hd rfl) (f_X0_toOf a915_ b0 y2) a915_ b0) ?_
  have h916_ := f_X0_toOf_eq a915_ b0 y2
  have h917_ := iv_get hv915_ (k := 58) (j := 8) (l := 0) (u := 300) rfl
  have h918_ : a915_ 58 8 = a 58 8 := hf915_ 58 8 rfl
  have h919_ := iv_get hv (k := 58) (j := 8) (l := 0) (u := 300) rfl
  have h920_ : a 58 8 = a0 58 8 := hf 58 8 rfl
  have h921_ := iv_get hv0 (k := 58) (j := 8) (l := 0) (u := 300) rfl
  have h922_ := f_X11_entry_r60_eq a915_ b0 (a915_ 58 8) y2
  have h923_ : a915_ 60 (y2.toNat) = a 60 (y2.toNat) := hf915_ 60 (y2.toNat) rfl
  have h924_ : a 60 (y2.toNat) = a0 60 (y2.toNat) := hf 60 (y2.toNat) rfl
  have h925_ := f_X3_isThere_eq a915_ b0 (f_X0_toOf a915_ b0 y2)
  have h926_ := f_X3_has_eq a915_ b0 (f_X0_toOf a915_ b0 y2)
  have h927_ := iv_get hv915_ (k := 4) (j := 6) (l := 0) (u := 40) rfl
  have h928_ : a915_ 4 6 = a 4 6 := hf915_ 4 6 rfl
  have h929_ := iv_get hv (k := 4) (j := 6) (l := 0) (u := 40) rfl
  have h930_ : a 4 6 = a0 4 6 := hf 4 6 rfl
  have h931_ := iv_get hv0 (k := 4) (j := 6) (l := 0) (u := 40) rfl
  have h932_ : a915_ 10 ((f_X0_toOf a915_ b0 y2).toNat) = a 10 ((f_X0_toOf a915_ b0 y2).toNat) := hf915_ 10 ((f_X0_toOf a915_ b0 y2).toNat) rfl
  have h933_ : a 10 ((f_X0_toOf a915_ b0 y2).toNat) = a0 10 ((f_X0_toOf a915_ b0 y2).toNat) := hf 10 ((f_X0_toOf a915_ b0 y2).toNat) rfl
  refine jt_ite (fun c934_ => ?_) (fun c934_ => ?_)
  ·
    have hf935_ : jfr jW_X11_withdraw a0 a915_ := jfr_tr hf hf915_ rfl
    exact cp_X11_withdraw_105 E d hd x1 a0 b0 hv0 a915_ hv915_ hf935_
  ·
    have hf936_ : jfr jW_X11_withdraw a0 a915_ := jfr_tr hf hf915_ rfl
    exact cp_X11_withdraw_90 E d hd x1 a0 b0 hv0 y2 a915_ hv915_ hf936_ (show 0 ≤ y2 from by omega) (show y2 ≤ 299 from by omega)
theorem cp_X11_withdraw_23 (E : jxE) (d : Nat) (hd : Nat.ble 4 (d + 1) = true) (x1 : Int) (a0 b0 : Nat → Nat → Int) (hv0 : iv a0) : ∀ (y1 s0 : Int) (a : Nat → Nat → Int), iv a → jfr jW_X11_withdraw a0 a → jt (jxX E d 159 23 [some (.inr (.inr (.inl 0))), some (.inl y1), none] [.inl s0] (jxSH, a, b0)) (jQ_X11_withdraw x1 a0 b0) := by
  intro y1 s0 a hv hf
  refine jt_eq (bq_X11_withdraw_23 E d y1 s0 a b0) ?_
  refine jt_bV (sp_X4_takeAway E d (jd_le hd rfl) y1 a b0 hv) (fun a937_ b937_ h937_ => ?_)
  obtain ⟨hv937_, hf937_, rfl⟩ := h937_
  refine jt_eI (eq_X0_has E d (jd_le hd rfl) s0 a937_ b0) ?_
  have h938_ := f_X0_has_eq a937_ b0 s0
  have h939_ := iv_get hv937_ (k := 58) (j := 8) (l := 0) (u := 300) rfl
  have h940_ : a937_ 58 8 = a 58 8 := hf937_ 58 8 rfl
  have h941_ := iv_get hv (k := 58) (j := 8) (l := 0) (u := 300) rfl
  have h942_ : a 58 8 = a0 58 8 := hf 58 8 rfl
  have h943_ := iv_get hv0 (k := 58) (j := 8) (l := 0) (u := 300) rfl
  refine jt_ite (fun c944_ => ?_) (fun c944_ => ?_)
  ·
    have hf945_ : jfr jW_X11_withdraw a0 a937_ := jfr_tr hf hf937_ rfl
    exact cp_X11_withdraw_58 E d hd x1 a0 b0 hv0 a937_ hv937_ hf945_
  ·
    refine jt_eI (eq_X0_stateNow E d (jd_le hd rfl) s0 (a937_ 0 0) a937_ b0) ?_
    have h946_ := iv_get hv937_ (k := 0) (j := 0) (l := 0) (u := 1999) rfl
    have h947_ : a937_ 0 0 = a 0 0 := hf937_ 0 0 rfl
    have h948_ := iv_get hv (k := 0) (j := 0) (l := 0) (u := 1999) rfl
    have h949_ : a 0 0 = a0 0 0 := hf 0 0 rfl
    have h950_ := iv_get hv0 (k := 0) (j := 0) (l := 0) (u := 1999) rfl
    have h951_ := f_X0_stateNow_eq a937_ b0 s0 (a937_ 0 0)
    have h952_ := f_X0_arrivedOnOf_eq a937_ b0 s0
    have h953_ := iv_get hv937_ (k := 58) (j := 12) (l := 0) (u := 600) rfl
    have h954_ : a937_ 58 12 = a 58 12 := hf937_ 58 12 rfl
    have h955_ := iv_get hv (k := 58) (j := 12) (l := 0) (u := 600) rfl
    have h956_ : a 58 12 = a0 58 12 := hf 58 12 rfl
    have h957_ := iv_get hv0 (k := 58) (j := 12) (l := 0) (u := 600) rfl
    have h958_ := f_X11_entry_r65_eq a937_ b0 (a937_ 58 8) s0
    have h959_ : a937_ 65 (s0.toNat) = a 65 (s0.toNat) := hf937_ 65 (s0.toNat) rfl
    have h960_ : a 65 (s0.toNat) = a0 65 (s0.toNat) := hf 65 (s0.toNat) rfl
    have h961_ := f_X11_entry_r67_eq a937_ b0 (a937_ 58 12) (f_X11_entry_r65 a937_ b0 (a937_ 58 8) s0)
    have h962_ : a937_ 67 ((f_X11_entry_r65 a937_ b0 (a937_ 58 8) s0).toNat) = a 67 ((f_X11_entry_r65 a937_ b0 (a937_ 58 8) s0).toNat) := hf937_ 67 ((f_X11_entry_r65 a937_ b0 (a937_ 58 8) s0).toNat) rfl
    have h963_ : a 67 ((f_X11_entry_r65 a937_ b0 (a937_ 58 8) s0).toNat) = a0 67 ((f_X11_entry_r65 a937_ b0 (a937_ 58 8) s0).toNat) := hf 67 ((f_X11_entry_r65 a937_ b0 (a937_ 58 8) s0).toNat) rfl
    refine jt_ite (fun c964_ => ?_) (fun c964_ => ?_)
    ·
      have hf965_ : jfr jW_X11_withdraw a0 a937_ := jfr_tr hf hf937_ rfl
      exact cp_X11_withdraw_60 E d hd x1 a0 b0 hv0 s0 a937_ hv937_ hf965_ (show 0 ≤ s0 from by omega) (show s0 ≤ 299 from by omega)
    ·
      have hf966_ : jfr jW_X11_withdraw a0 a937_ := jfr_tr hf hf937_ rfl
      exact cp_X11_withdraw_58 E d hd x1 a0 b0 hv0 a937_ hv937_ hf966_
theorem sp_X11_withdraw (E : jxE) (d : Nat) (hd : Nat.ble 4 d = true) (x1 : Int) (a0 b0 : Nat → Nat → Int) (hv0 : iv a0) : jt (jxC E d 159 [.inr (.inr (.inl 0)), .inl x1] (jxSH, a0, b0)) (jQ_X11_withdraw x1 a0 b0) := by
  obtain ⟨d, rfl⟩ := jd_succ hd
  refine jt_eq (bq_X11_withdraw E d x1 a0 b0) ?_
  refine jt_eI (eq_X4_isInRing E d (jd_le hd rfl) x1 a0 b0) ?_
  have h967_ := f_X4_isInRing_eq a0 b0 x1
  have h968_ := f_X4_has_eq a0 b0 x1
  have h969_ := iv_get hv0 (k := 83) (j := 6) (l := 0) (u := 20) rfl
  refine jt_ite (fun c970_ => ?_) (fun c970_ => ?_)
  ·
    exact cp_X11_withdraw_23 E d hd x1 a0 b0 hv0 x1 (-1) a0 hv0 (jfr_rf _ _)
  ·
    refine jt_eI (eq_X4_cardOf E d (jd_le hd rfl) x1 a0 b0) ?_
    exact cp_X11_withdraw_23 E d hd x1 a0 b0 hv0 x1 (f_X4_cardOf a0 b0 x1) a0 hv0 (jfr_rf _ _)
abbrev jQ_X4_offerInRing (x1 x2 : Int) (a0 b0 : Nat → Nat → Int) : List jxV → (Nat → Nat → Int) → (Nat → Nat → Int) → Prop := rI (fun r a b => (a0 = a) ∧ (b0 = b) ∧ ((a0 83 6 = 0 → r = 0 - 1)))
theorem cp_X4_offerInRing_2 (E : jxE) (d : Nat) (hd : Nat.ble 3 (d + 1) = true) (x1 x2 : Int) (a0 b0 : Nat → Nat → Int) (hv0 : iv a0) : ∀ n : Nat, (∀ (y1 y2 y3 : Int), (((20 - y3) * 1) + 0).toNat ≤ n → 0 ≤ y3 → y3 ≤ 19 → jt (jxX E d 72 40 [some (.inr (.inr (.inl 83))), some (.inl y1), some (.inl y2), some (.inl y3)] [] (jxSH, a0, b0)) (jQ_X4_offerInRing x1 x2 a0 b0)) ∧ (∀ (y1 y2 y3 : Int), (((20 - y3) * 1) + 0).toNat ≤ n → 0 ≤ y3 → y3 ≤ 19 → 1 ≤ a0 83 6 → jt (jxX E d 72 28 [some (.inr (.inr (.inl 83))), some (.inl y1), some (.inl y2), some (.inl y3)] [] (jxSH, a0, b0)) (jQ_X4_offerInRing x1 x2 a0 b0)) ∧ (∀ (y1 y2 y3 : Int), (((20 - y3) * 1) + 0).toNat ≤ n → 0 ≤ y3 → y3 ≤ 20 → jt (jxX E d 72 2 [some (.inr (.inr (.inl 83))), some (.inl y1), some (.inl y2), some (.inl y3)] [] (jxSH, a0, b0)) (jQ_X4_offerInRing x1 x2 a0 b0)) := by
  refine jx_ind fun n ih => ?_
  have ih40 : ∀ (y1 y2 y3 : Int), (((20 - y3) * 1) + 0).toNat < n → 0 ≤ y3 → y3 ≤ 19 → jt (jxX E d 72 40 [some (.inr (.inr (.inl 83))), some (.inl y1), some (.inl y2), some (.inl y3)] [] (jxSH, a0, b0)) (jQ_X4_offerInRing x1 x2 a0 b0) := fun y1 y2 y3 hlt i0 i1 => (ih _ hlt).1 y1 y2 y3 (Nat.le_refl _) i0 i1
  have ih28 : ∀ (y1 y2 y3 : Int), (((20 - y3) * 1) + 0).toNat < n → 0 ≤ y3 → y3 ≤ 19 → 1 ≤ a0 83 6 → jt (jxX E d 72 28 [some (.inr (.inr (.inl 83))), some (.inl y1), some (.inl y2), some (.inl y3)] [] (jxSH, a0, b0)) (jQ_X4_offerInRing x1 x2 a0 b0) := fun y1 y2 y3 hlt i0 i1 i2 => (ih _ hlt).2.1 y1 y2 y3 (Nat.le_refl _) i0 i1 i2
  have ih2 : ∀ (y1 y2 y3 : Int), (((20 - y3) * 1) + 0).toNat < n → 0 ≤ y3 → y3 ≤ 20 → jt (jxX E d 72 2 [some (.inr (.inr (.inl 83))), some (.inl y1), some (.inl y2), some (.inl y3)] [] (jxSH, a0, b0)) (jQ_X4_offerInRing x1 x2 a0 b0) := fun y1 y2 y3 hlt i0 i1 => (ih _ hlt).2.2 y1 y2 y3 (Nat.le_refl _) i0 i1
  have hc40 : ∀ (y1 y2 y3 : Int), (((20 - y3) * 1) + 0).toNat ≤ n → 0 ≤ y3 → y3 ≤ 19 → jt (jxX E d 72 40 [some (.inr (.inr (.inl 83))), some (.inl y1), some (.inl y2), some (.inl y3)] [] (jxSH, a0, b0)) (jQ_X4_offerInRing x1 x2 a0 b0) := by
    intro y1 y2 y3 hm hi0 hi1
    refine jt_eq (bq_X4_offerInRing_40 E d y1 y2 y3 a0 b0) ?_
    have h971_ : jxw (y3 + 1) = y3 + 1 := jxw_id (by omega) (by omega)
    exact ih2 y1 y2 (jxw (y3 + 1)) (show (((20 - (jxw (y3 + 1))) * 1) + 0).toNat < n from by omega) (show 0 ≤ jxw (y3 + 1) from by omega) (show jxw (y3 + 1) ≤ 20 from by omega)
  have hc28 : ∀ (y1 y2 y3 : Int), (((20 - y3) * 1) + 0).toNat ≤ n → 0 ≤ y3 → y3 ≤ 19 → 1 ≤ a0 83 6 → jt (jxX E d 72 28 [some (.inr (.inr (.inl 83))), some (.inl y1), some (.inl y2), some (.inl y3)] [] (jxSH, a0, b0)) (jQ_X4_offerInRing x1 x2 a0 b0) := by
    intro y1 y2 y3 hm hi0 hi1 hi2
    refine jt_eq (bq_X4_offerInRing_28 E d y1 y2 y3 a0 b0) ?_
    have h972_ := iv_get hv0 (k := 83) (j := 6) (l := 0) (u := 20) rfl
    refine jt_grd (by omega) ?_
    refine jt_ite (fun c973_ => ?_) (fun c973_ => ?_)
    ·
      exact jt_rI ⟨rfl, rfl, (show (a0 83 6 = 0 → y3 = 0 - 1) from by omega)⟩
    ·
      exact hc40 y1 y2 y3 (show (((20 - y3) * 1) + 0).toNat ≤ n from by omega) (show 0 ≤ y3 from by omega) (show y3 ≤ 19 from by omega)
  have hc2 : ∀ (y1 y2 y3 : Int), (((20 - y3) * 1) + 0).toNat ≤ n → 0 ≤ y3 → y3 ≤ 20 → jt (jxX E d 72 2 [some (.inr (.inr (.inl 83))), some (.inl y1), some (.inl y2), some (.inl y3)] [] (jxSH, a0, b0)) (jQ_X4_offerInRing x1 x2 a0 b0) := by
    intro y1 y2 y3 hm hi0 hi1
    refine jt_eq (bq_X4_offerInRing_2 E d y1 y2 y3 a0 b0) ?_
    have h974_ := iv_get hv0 (k := 83) (j := 6) (l := 0) (u := 20) rfl
    refine jt_ite (fun c975_ => ?_) (fun c975_ => ?_)
    ·
      refine jt_eI (eq_X4_isInRing E d (jd_le hd rfl) y3 a0 b0) ?_
      have h976_ := f_X4_isInRing_eq a0 b0 y3
      have h977_ := f_X4_has_eq a0 b0 y3
      refine jt_ite (fun c978_ => ?_) (fun c978_ => ?_)
      ·
        exact hc40 y1 y2 y3 (show (((20 - y3) * 1) + 0).toNat ≤ n from by omega) (show 0 ≤ y3 from by omega) (show y3 ≤ 19 from by omega)
      ·
        refine jt_grd (by omega) ?_
        refine jt_ite (fun c979_ => ?_) (fun c979_ => ?_)
        ·
          exact hc28 y1 y2 y3 (show (((20 - y3) * 1) + 0).toNat ≤ n from by omega) (show 0 ≤ y3 from by omega) (show y3 ≤ 19 from by omega) (show 1 ≤ a0 83 6 from by omega)
        ·
          exact hc40 y1 y2 y3 (show (((20 - y3) * 1) + 0).toNat ≤ n from by omega) (show 0 ≤ y3 from by omega) (show y3 ≤ 19 from by omega)
    ·
      exact jt_rI ⟨rfl, rfl, (show (a0 83 6 = 0 → (-1) = 0 - 1) from by omega)⟩
  exact ⟨hc40, hc28, hc2⟩
theorem sp_X4_offerInRing (E : jxE) (d : Nat) (hd : Nat.ble 3 d = true) (x1 x2 : Int) (a0 b0 : Nat → Nat → Int) (hv0 : iv a0) : jt (jxC E d 72 [.inr (.inr (.inl 83)), .inl x1, .inl x2] (jxSH, a0, b0)) (jQ_X4_offerInRing x1 x2 a0 b0) := by
  obtain ⟨d, rfl⟩ := jd_succ hd
  refine jt_eq (bq_X4_offerInRing E d x1 x2 a0 b0) ?_
  exact (cp_X4_offerInRing_2 E d hd x1 x2 a0 b0 hv0 _).2.2 x1 x2 0 (Nat.le_refl _) (show 0 ≤ 0 from by omega) (show 0 ≤ 20 from by omega)
def jW_X11_drop : List (Nat × Nat) := [(9, 9999), (64, 9999), (87, 9999), (88, 9999), (89, 9999)]
abbrev jQ_X11_drop (x1 x2 : Int) (a0 b0 : Nat → Nat → Int) : List jxV → (Nat → Nat → Int) → (Nat → Nat → Int) → Prop := rI (fun r a b => (iv a) ∧ (jfr jW_X11_drop a0 a) ∧ (b0 = b) ∧ ((a0 83 6 = 0 → r = 0 - 1)))
theorem sp_X11_drop (E : jxE) (d : Nat) (hd : Nat.ble 5 d = true) (x1 x2 : Int) (a0 b0 : Nat → Nat → Int) (hv0 : iv a0) : jt (jxC E d 189 [.inr (.inr (.inl 0)), .inl x1, .inl x2] (jxSH, a0, b0)) (jQ_X11_drop x1 x2 a0 b0) := by
  obtain ⟨d, rfl⟩ := jd_succ hd
  refine jt_eq (bq_X11_drop E d x1 x2 a0 b0) ?_
  refine jt_bI (sp_X4_offerInRing E d (jd_le hd rfl) x1 x2 a0 b0 hv0) (fun r980_ a980_ b980_ h980_ => ?_)
  obtain ⟨rfl, rfl, hq980_0⟩ := h980_
  have h981_ := iv_get hv0 (k := 83) (j := 6) (l := 0) (u := 20) rfl
  refine jt_ite (fun c982_ => ?_) (fun c982_ => ?_)
  ·
    exact jt_rI ⟨hv0, (jfr_rf _ _), rfl, (show (a0 83 6 = 0 → (-1) = 0 - 1) from by omega)⟩
  ·
    refine jt_bI (sp_X11_withdraw E d (jd_le hd rfl) r980_ a0 b0 hv0) (fun r983_ a983_ b983_ h983_ => ?_)
    obtain ⟨hv983_, hf983_, rfl⟩ := h983_
    have hf984_ : jfr jW_X11_drop a0 a983_ := jfr_tr (jfr_rf _ _) hf983_ rfl
    exact jt_rI ⟨hv983_, hf984_, rfl, (show (a0 83 6 = 0 → r983_ = 0 - 1) from by omega)⟩
def jW_X8_cut : List (Nat × Nat) := [(2, 1)]
abbrev jQ_X8_cut (x1 : Int) (a0 b0 : Nat → Nat → Int) : List jxV → (Nat → Nat → Int) → (Nat → Nat → Int) → Prop := rV (fun a b => (iv a) ∧ (jfr jW_X8_cut a0 a) ∧ (b0 = b) ∧ ((((0 ≤ x1 ∧ x1 ≤ a0 2 1) ∧ a 2 1 = x1) ∨ ((x1 < 0 ∨ a0 2 1 < x1) ∧ a 2 1 = a0 2 1))))
theorem sp_X8_cut (E : jxE) (d : Nat) (hd : Nat.ble 1 d = true) (x1 : Int) (a0 b0 : Nat → Nat → Int) (hv0 : iv a0) : jt (jxC E d 120 [.inr (.inr (.inl 2)), .inl x1] (jxSH, a0, b0)) (jQ_X8_cut x1 a0 b0) := by
  obtain ⟨d, rfl⟩ := jd_succ hd
  refine jt_eq (bq_X8_cut E d x1 a0 b0) ?_
  refine jt_ite (fun c985_ => ?_) (fun c985_ => ?_)
  ·
    have h986_ := iv_get hv0 (k := 2) (j := 1) (l := 0) (u := 200) rfl
    exact jt_rV ⟨hv0, (jfr_rf _ _), rfl, (show (((0 ≤ x1 ∧ x1 ≤ a0 2 1) ∧ a0 2 1 = x1) ∨ ((x1 < 0 ∨ a0 2 1 < x1) ∧ a0 2 1 = a0 2 1)) from by omega)⟩
  ·
    have h987_ := iv_get hv0 (k := 2) (j := 1) (l := 0) (u := 200) rfl
    refine jt_ite (fun c988_ => ?_) (fun c988_ => ?_)
    ·
      exact jt_rV ⟨hv0, (jfr_rf _ _), rfl, (show (((0 ≤ x1 ∧ x1 ≤ a0 2 1) ∧ a0 2 1 = x1) ∨ ((x1 < 0 ∨ a0 2 1 < x1) ∧ a0 2 1 = a0 2 1)) from by omega)⟩
    ·
      have hv989_ : iv (jxu a0 2 1 x1) := iv_put hv0 (l := 0) (u := 200) rfl (by omega) (by omega)
      have hf990_ : jfr jW_X8_cut a0 (jxu a0 2 1 x1) := jfr_put (jfr_rf _ _) rfl
      exact jt_rV ⟨hv989_, hf990_, rfl, (show (((0 ≤ x1 ∧ x1 ≤ a0 2 1) ∧ x1 = x1) ∨ ((x1 < 0 ∨ a0 2 1 < x1) ∧ x1 = a0 2 1)) from by omega)⟩
def jW_X11_end : List (Nat × Nat) := [(2, 1)]
abbrev jQ_X11_end (x1 : Int) (a0 b0 : Nat → Nat → Int) : List jxV → (Nat → Nat → Int) → (Nat → Nat → Int) → Prop := rI (fun r a b => (iv a) ∧ (jfr jW_X11_end a0 a) ∧ (b0 = b) ∧ (((((0 ≤ x1 ∧ x1 ≤ a0 2 1) ∧ r = x1) ∧ a 2 1 = x1) ∨ (((x1 < 0 ∨ a0 2 1 < x1) ∧ r = 0 - 1) ∧ a 2 1 = a0 2 1))))
theorem sp_X11_end (E : jxE) (d : Nat) (hd : Nat.ble 2 d = true) (x1 : Int) (a0 b0 : Nat → Nat → Int) (hv0 : iv a0) : jt (jxC E d 161 [.inr (.inr (.inl 0)), .inl x1] (jxSH, a0, b0)) (jQ_X11_end x1 a0 b0) := by
  obtain ⟨d, rfl⟩ := jd_succ hd
  refine jt_eq (bq_X11_end E d x1 a0 b0) ?_
  refine jt_eI (eq_X8_length E d (jd_le hd rfl) a0 b0) ?_
  refine jt_eI (eq_X11_within E d (jd_le hd rfl) x1 0 (f_X8_length a0 b0) a0 b0) ?_
  have h991_ := f_X8_length_eq a0 b0
  have h992_ := iv_get hv0 (k := 2) (j := 1) (l := 0) (u := 200) rfl
  have h993_ := f_X11_within_eq a0 b0 x1 0 (f_X8_length a0 b0)
  refine jt_ite (fun c994_ => ?_) (fun c994_ => ?_)
  ·
    exact jt_rI ⟨hv0, (jfr_rf _ _), rfl, (show ((((0 ≤ x1 ∧ x1 ≤ a0 2 1) ∧ (-1) = x1) ∧ a0 2 1 = x1) ∨ (((x1 < 0 ∨ a0 2 1 < x1) ∧ (-1) = 0 - 1) ∧ a0 2 1 = a0 2 1)) from by omega)⟩
  ·
    refine jt_bV (sp_X8_cut E d (jd_le hd rfl) x1 a0 b0 hv0) (fun a995_ b995_ h995_ => ?_)
    obtain ⟨hv995_, hf995_, rfl, hq995_0⟩ := h995_
    have h996_ := iv_get hv995_ (k := 2) (j := 1) (l := 0) (u := 200) rfl
    have hf997_ : jfr jW_X11_end a0 a995_ := jfr_tr (jfr_rf _ _) hf995_ rfl
    exact jt_rI ⟨hv995_, hf997_, rfl, (show ((((0 ≤ x1 ∧ x1 ≤ a0 2 1) ∧ x1 = x1) ∧ a995_ 2 1 = x1) ∨ (((x1 < 0 ∨ a0 2 1 < x1) ∧ x1 = 0 - 1) ∧ a995_ 2 1 = a0 2 1)) from by omega)⟩
def jWe_X11_far : List (Nat × Nat) := []
def jW_X11_far : List (Nat × Nat) := [(1, 9999)]
abbrev jQ_X11_far (x1 x2 x3 : Int) (a0 b0 : Nat → Nat → Int) : List jxV → (Nat → Nat → Int) → (Nat → Nat → Int) → Prop := rI (fun r a b => (iv a) ∧ (jfr jW_X11_far a0 a) ∧ (b0 = b) ∧ (FarP (a0 1) (a 1) x1 x2 x3 r))
theorem cp_X11_far_29 (E : jxE) (d : Nat) (hd : Nat.ble 3 (d + 1) = true) (x1 x2 x3 : Int) (a0 b0 : Nat → Nat → Int) (hv0 : iv a0) : ∀ (a : Nat → Nat → Int), iv a → jfr jW_X11_far a0 a → ((((((x1 < 0 ∨ 15 < x1) ∨ x2 < 0) ∨ 15 < x2) ∨ x1 = x2) ∨ x3 < 0) ∨ 99 < x3) → (jfr jWe_X11_far a0 a) → jt (jxX E d 155 29 [none, none, none, none, none] [] (jxSH, a, b0)) (jQ_X11_far x1 x2 x3 a0 b0) := by
  intro a hv hf hi0 hfe
  refine jt_eq (bq_X11_far_29 E d a b0) ?_
  exact jt_rI ⟨hv, hf, rfl, (Or.inr ⟨by omega, rfl, fun j => hfe 1 j rfl⟩)⟩
theorem cp_X11_far_56 (E : jxE) (d : Nat) (hd : Nat.ble 3 (d + 1) = true) (x1 x2 x3 : Int) (a0 b0 : Nat → Nat → Int) (hv0 : iv a0) : ∀ (y1 y2 y3 y4 : Int) (a : Nat → Nat → Int), iv a → jfr jW_X11_far a0 a → 0 ≤ y1 → y1 ≤ 15 → 0 ≤ y2 → y2 ≤ 15 → 0 ≤ y3 → y3 ≤ 99 → 0 ≤ y4 → y4 ≤ 99 → y1 = x1 → y2 = x2 → y3 = x3 → ((((((0 ≤ x1 ∧ x1 ≤ 15) ∧ 0 ≤ x2) ∧ x2 ≤ 15) ∧ ¬ x1 = x2) ∧ 0 ≤ x3) ∧ x3 ≤ 99) → (∀ j, a 1 j = if j = (16 * x1 + x2).toNat then x3 else a0 1 j) → (y4 = a0 1 (16 * x1 + x2).toNat) → jt (jxX E d 155 56 [some (.inr (.inr (.inl 0))), some (.inl y1), some (.inl y2), some (.inl y3), some (.inl y4)] [] (jxSH, a, b0)) (jQ_X11_far x1 x2 x3 a0 b0) := by
  intro y1 y2 y3 y4 a hv hf hi0 hi1 hi2 hi3 hi4 hi5 hi6 hi7 hi8 hi9 hi10 hi11 hf56 hy4
  refine jt_eq (bq_X11_far_56 E d y1 y2 y3 y4 a b0) ?_
  have hix2 : (jxw ((jxw (y2 * 16)) + y1)).toNat = (16 * x2 + x1).toNat := by rw [jxw_id (x := y2 * 16) (by omega) (by omega), jxw_id (by omega) (by omega)]; omega
  have h998_ : jxw (y2 * 16) = y2 * 16 := jxw_id (by omega) (by omega)
  have h999_ : jxw ((jxw (y2 * 16)) + y1) = (jxw (y2 * 16)) + y1 := jxw_id (by omega) (by omega)
  refine jt_grd (by omega) ?_
  have hv1000_ : iv (jxu a 1 ((jxw ((jxw (y2 * 16)) + y1)).toNat) y3) := iv_put hv (l := 0) (u := 99) rfl (by omega) (by omega)
  have hf1001_ : jfr jW_X11_far a0 (jxu a 1 ((jxw ((jxw (y2 * 16)) + y1)).toNat) y3) := jfr_put hf rfl
  exact jt_rI ⟨hv1000_, hf1001_, rfl, (Or.inl ⟨by omega, by omega, by omega, by omega, by omega, by omega, by omega, hy4, fun j => by rw [hix2]; simp only [jxu]; rw [hf56 j, show y3 = x3 from (by omega)]; simp⟩)⟩
theorem cp_X11_far_31 (E : jxE) (d : Nat) (hd : Nat.ble 3 (d + 1) = true) (x1 x2 x3 : Int) (a0 b0 : Nat → Nat → Int) (hv0 : iv a0) : ∀ (y1 y2 y3 : Int) (a : Nat → Nat → Int), iv a → jfr jW_X11_far a0 a → 0 ≤ y1 → y1 ≤ 15 → 0 ≤ y2 → y2 ≤ 15 → 0 ≤ y3 → y3 ≤ 99 → y1 = x1 → y2 = x2 → y3 = x3 → ((((((0 ≤ x1 ∧ x1 ≤ 15) ∧ 0 ≤ x2) ∧ x2 ≤ 15) ∧ ¬ x1 = x2) ∧ 0 ≤ x3) ∧ x3 ≤ 99) → (jfr jWe_X11_far a0 a) → jt (jxX E d 155 31 [some (.inr (.inr (.inl 0))), some (.inl y1), some (.inl y2), some (.inl y3), none] [] (jxSH, a, b0)) (jQ_X11_far x1 x2 x3 a0 b0) := by
  intro y1 y2 y3 a hv hf hi0 hi1 hi2 hi3 hi4 hi5 hi6 hi7 hi8 hi9 hfe
  refine jt_eq (bq_X11_far_31 E d y1 y2 y3 a b0) ?_
  have hix : (jxw ((jxw (y1 * 16)) + y2)).toNat = (16 * x1 + x2).toNat := by rw [jxw_id (x := y1 * 16) (by omega) (by omega), jxw_id (by omega) (by omega)]; omega
  have h1002_ : jxw (y1 * 16) = y1 * 16 := jxw_id (by omega) (by omega)
  have h1003_ : jxw ((jxw (y1 * 16)) + y2) = (jxw (y1 * 16)) + y2 := jxw_id (by omega) (by omega)
  refine jt_grd (by omega) ?_
  refine jt_grd (by omega) ?_
  have hv1004_ : iv (jxu a 1 ((jxw ((jxw (y1 * 16)) + y2)).toNat) y3) := iv_put hv (l := 0) (u := 99) rfl (by omega) (by omega)
  have hf1005_ : jfr jW_X11_far a0 (jxu a 1 ((jxw ((jxw (y1 * 16)) + y2)).toNat) y3) := jfr_put hf rfl
  have h1006_ := iv_get hv (k := 1) (j := (jxw ((jxw (y1 * 16)) + y2)).toNat) (l := 0) (u := 99) rfl
  exact cp_X11_far_56 E d hd x1 x2 x3 a0 b0 hv0 y1 y2 y3 (a 1 ((jxw ((jxw (y1 * 16)) + y2)).toNat)) (jxu a 1 ((jxw ((jxw (y1 * 16)) + y2)).toNat) y3) hv1004_ hf1005_ (show 0 ≤ y1 from by omega) (show y1 ≤ 15 from by omega) (show 0 ≤ y2 from by omega) (show y2 ≤ 15 from by omega) (show 0 ≤ y3 from by omega) (show y3 ≤ 99 from by omega) (show 0 ≤ a 1 ((jxw ((jxw (y1 * 16)) + y2)).toNat) from by omega) (show a 1 ((jxw ((jxw (y1 * 16)) + y2)).toNat) ≤ 99 from by omega) (show y1 = x1 from by omega) (show y2 = x2 from by omega) (show y3 = x3 from by omega) (show ((((((0 ≤ x1 ∧ x1 ≤ 15) ∧ 0 ≤ x2) ∧ x2 ≤ 15) ∧ ¬ x1 = x2) ∧ 0 ≤ x3) ∧ x3 ≤ 99) from by omega) (by intro j; rw [hix]; simp only [jxu]; rw [hfe 1 j rfl, show y3 = x3 from (by omega)]; simp) (by rw [hix]; exact hfe 1 _ rfl)
theorem sp_X11_far (E : jxE) (d : Nat) (hd : Nat.ble 3 d = true) (x1 x2 x3 : Int) (a0 b0 : Nat → Nat → Int) (hv0 : iv a0) : jt (jxC E d 155 [.inr (.inr (.inl 0)), .inl x1, .inl x2, .inl x3] (jxSH, a0, b0)) (jQ_X11_far x1 x2 x3 a0 b0) := by
  obtain ⟨d, rfl⟩ := jd_succ hd
  refine jt_eq (bq_X11_far E d x1 x2 x3 a0 b0) ?_
  refine jt_eI (eq_X11_isLand E d (jd_le hd rfl) x1 a0 b0) ?_
  have h1007_ := f_X11_isLand_eq a0 b0 x1
  have h1008_ := f_X11_within_eq a0 b0 x1 0 15
  refine jt_ite (fun c1009_ => ?_) (fun c1009_ => ?_)
  ·
    exact cp_X11_far_29 E d hd x1 x2 x3 a0 b0 hv0 a0 hv0 (jfr_rf _ _) (show ((((((x1 < 0 ∨ 15 < x1) ∨ x2 < 0) ∨ 15 < x2) ∨ x1 = x2) ∨ x3 < 0) ∨ 99 < x3) from by omega) (jfr_rf _ _)
  ·
    refine jt_eI (eq_X11_isLand E d (jd_le hd rfl) x2 a0 b0) ?_
    have h1010_ := f_X11_isLand_eq a0 b0 x2
    have h1011_ := f_X11_within_eq a0 b0 x2 0 15
    refine jt_ite (fun c1012_ => ?_) (fun c1012_ => ?_)
    ·
      exact cp_X11_far_29 E d hd x1 x2 x3 a0 b0 hv0 a0 hv0 (jfr_rf _ _) (show ((((((x1 < 0 ∨ 15 < x1) ∨ x2 < 0) ∨ 15 < x2) ∨ x1 = x2) ∨ x3 < 0) ∨ 99 < x3) from by omega) (jfr_rf _ _)
    ·
      refine jt_ite (fun c1013_ => ?_) (fun c1013_ => ?_)
      ·
        exact cp_X11_far_29 E d hd x1 x2 x3 a0 b0 hv0 a0 hv0 (jfr_rf _ _) (show ((((((x1 < 0 ∨ 15 < x1) ∨ x2 < 0) ∨ 15 < x2) ∨ x1 = x2) ∨ x3 < 0) ∨ 99 < x3) from by omega) (jfr_rf _ _)
      ·
        refine jt_eI (eq_X11_within E d (jd_le hd rfl) x3 0 99 a0 b0) ?_
        have h1014_ := f_X11_within_eq a0 b0 x3 0 99
        refine jt_ite (fun c1015_ => ?_) (fun c1015_ => ?_)
        ·
          exact cp_X11_far_29 E d hd x1 x2 x3 a0 b0 hv0 a0 hv0 (jfr_rf _ _) (show ((((((x1 < 0 ∨ 15 < x1) ∨ x2 < 0) ∨ 15 < x2) ∨ x1 = x2) ∨ x3 < 0) ∨ 99 < x3) from by omega) (jfr_rf _ _)
        ·
          exact cp_X11_far_31 E d hd x1 x2 x3 a0 b0 hv0 x1 x2 x3 a0 hv0 (jfr_rf _ _) (show 0 ≤ x1 from by omega) (show x1 ≤ 15 from by omega) (show 0 ≤ x2 from by omega) (show x2 ≤ 15 from by omega) (show 0 ≤ x3 from by omega) (show x3 ≤ 99 from by omega) (show x1 = x1 from by omega) (show x2 = x2 from by omega) (show x3 = x3 from by omega) (show ((((((0 ≤ x1 ∧ x1 ≤ 15) ∧ 0 ≤ x2) ∧ x2 ≤ 15) ∧ ¬ x1 = x2) ∧ 0 ≤ x3) ∧ x3 ≤ 99) from by omega) (jfr_rf _ _)
def jW_X8_append : List (Nat × Nat) := [(2, 1), (3, 9999)]
abbrev jQ_X8_append (x1 : Int) (a0 b0 : Nat → Nat → Int) : List jxV → (Nat → Nat → Int) → (Nat → Nat → Int) → Prop := rV (fun a b => (iv a) ∧ (jfr jW_X8_append a0 a) ∧ (b0 = b) ∧ ((a0 2 1 ≤ 196 → a 2 1 = (a0 2 1) + 4)) ∧ (a0 2 1 ≤ 196 → APP (a0 3) (a 3) (a0 2 1) x1 (a0 2 1 + 4)))
theorem cp_X8_append_3 (E : jxE) (d : Nat) (hd : Nat.ble 1 (d + 1) = true) (x1 : Int) (a0 b0 : Nat → Nat → Int) (hv0 : iv a0) : ∀ n : Nat, (∀ (y1 y2 : Int) (a : Nat → Nat → Int), (((y2 + 8) * 1) + 0).toNat ≤ n → iv a → jfr jW_X8_append a0 a → 0 ≤ y2 → y2 ≤ 24 → 1 ≤ a 2 1 → (a0 2 1 ≤ 196 → (8 * (a 2 1)) + y2 = (8 * (a0 2 1)) + 32) → 0 ≤ y2 → (y1 = x1) → (a0 2 1 ≤ 196 → APP (a0 3) (a 3) (a0 2 1) x1 (a 2 1)) → jt (jxX E d 119 42 [some (.inr (.inr (.inl 2))), some (.inl y1), some (.inl y2)] [] (jxSH, a, b0)) (jQ_X8_append x1 a0 b0)) ∧ (∀ (y1 y2 : Int) (a : Nat → Nat → Int), (((y2 + 8) * 1) + 0).toNat ≤ n → iv a → jfr jW_X8_append a0 a → 0 - 8 ≤ y2 → y2 ≤ 24 → (a0 2 1 ≤ 196 → (8 * (a 2 1)) + y2 = (8 * (a0 2 1)) + 24) → (y1 = x1) → (a0 2 1 ≤ 196 → APP (a0 3) (a 3) (a0 2 1) x1 (a 2 1)) → jt (jxX E d 119 3 [some (.inr (.inr (.inl 2))), some (.inl y1), some (.inl y2)] [] (jxSH, a, b0)) (jQ_X8_append x1 a0 b0)) := by
  refine jx_ind fun n ih => ?_
  have ih42 : ∀ (y1 y2 : Int) (a : Nat → Nat → Int), (((y2 + 8) * 1) + 0).toNat < n → iv a → jfr jW_X8_append a0 a → 0 ≤ y2 → y2 ≤ 24 → 1 ≤ a 2 1 → (a0 2 1 ≤ 196 → (8 * (a 2 1)) + y2 = (8 * (a0 2 1)) + 32) → 0 ≤ y2 → (y1 = x1) → (a0 2 1 ≤ 196 → APP (a0 3) (a 3) (a0 2 1) x1 (a 2 1)) → jt (jxX E d 119 42 [some (.inr (.inr (.inl 2))), some (.inl y1), some (.inl y2)] [] (jxSH, a, b0)) (jQ_X8_append x1 a0 b0) := fun y1 y2 a hlt i0 i1 i2 i3 i4 i5 i6 i7 i8 => (ih _ hlt).1 y1 y2 a (Nat.le_refl _) i0 i1 i2 i3 i4 i5 i6 i7 i8
  have ih3 : ∀ (y1 y2 : Int) (a : Nat → Nat → Int), (((y2 + 8) * 1) + 0).toNat < n → iv a → jfr jW_X8_append a0 a → 0 - 8 ≤ y2 → y2 ≤ 24 → (a0 2 1 ≤ 196 → (8 * (a 2 1)) + y2 = (8 * (a0 2 1)) + 24) → (y1 = x1) → (a0 2 1 ≤ 196 → APP (a0 3) (a 3) (a0 2 1) x1 (a 2 1)) → jt (jxX E d 119 3 [some (.inr (.inr (.inl 2))), some (.inl y1), some (.inl y2)] [] (jxSH, a, b0)) (jQ_X8_append x1 a0 b0) := fun y1 y2 a hlt i0 i1 i2 i3 i4 i5 i6 => (ih _ hlt).2 y1 y2 a (Nat.le_refl _) i0 i1 i2 i3 i4 i5 i6
  have hc42 : ∀ (y1 y2 : Int) (a : Nat → Nat → Int), (((y2 + 8) * 1) + 0).toNat ≤ n → iv a → jfr jW_X8_append a0 a → 0 ≤ y2 → y2 ≤ 24 → 1 ≤ a 2 1 → (a0 2 1 ≤ 196 → (8 * (a 2 1)) + y2 = (8 * (a0 2 1)) + 32) → 0 ≤ y2 → (y1 = x1) → (a0 2 1 ≤ 196 → APP (a0 3) (a 3) (a0 2 1) x1 (a 2 1)) → jt (jxX E d 119 42 [some (.inr (.inr (.inl 2))), some (.inl y1), some (.inl y2)] [] (jxSH, a, b0)) (jQ_X8_append x1 a0 b0) := by
    intro y1 y2 a hm hv hf hi0 hi1 hi2 hi3 hi4 hy1 hap
    refine jt_eq (bq_X8_append_42 E d y1 y2 a b0) ?_
    have h1016_ := iv_get hv (k := 2) (j := 1) (l := 0) (u := 200) rfl
    have h1017_ := iv_get hv0 (k := 2) (j := 1) (l := 0) (u := 200) rfl
    have h1018_ : jxw (y2 + (-8)) = y2 + (-8) := jxw_id (by omega) (by omega)
    exact ih3 y1 (jxw (y2 + (-8))) a (show ((((jxw (y2 + (-8))) + 8) * 1) + 0).toNat < n from by omega) hv hf (show 0 - 8 ≤ jxw (y2 + (-8)) from by omega) (show jxw (y2 + (-8)) ≤ 24 from by omega) (show (a0 2 1 ≤ 196 → (8 * (a 2 1)) + (jxw (y2 + (-8))) = (8 * (a0 2 1)) + 24) from by omega) (by first | rfl | assumption) hap
  have hc3 : ∀ (y1 y2 : Int) (a : Nat → Nat → Int), (((y2 + 8) * 1) + 0).toNat ≤ n → iv a → jfr jW_X8_append a0 a → 0 - 8 ≤ y2 → y2 ≤ 24 → (a0 2 1 ≤ 196 → (8 * (a 2 1)) + y2 = (8 * (a0 2 1)) + 24) → (y1 = x1) → (a0 2 1 ≤ 196 → APP (a0 3) (a 3) (a0 2 1) x1 (a 2 1)) → jt (jxX E d 119 3 [some (.inr (.inr (.inl 2))), some (.inl y1), some (.inl y2)] [] (jxSH, a, b0)) (jQ_X8_append x1 a0 b0) := by
    intro y1 y2 a hm hv hf hi0 hi1 hi2 hy1 hap
    refine jt_eq (bq_X8_append_3 E d y1 y2 a b0) ?_
    have h1019_ := iv_get hv0 (k := 2) (j := 1) (l := 0) (u := 200) rfl
    have h1020_ := iv_get hv (k := 2) (j := 1) (l := 0) (u := 200) rfl
    refine jt_ite (fun c1021_ => ?_) (fun c1021_ => ?_)
    ·
      exact jt_rV ⟨hv, hf, rfl, (show (a0 2 1 ≤ 196 → a 2 1 = (a0 2 1) + 4) from by omega), (fun h => by rw [show a0 2 1 + 4 = a 2 1 from by omega]; exact hap h)⟩
    ·
      refine jt_ite (fun c1022_ => ?_) (fun c1022_ => ?_)
      ·
        refine jt_grd (by omega) ?_
        have h1024_ : jxw ((a 2 1) + 1) = (a 2 1) + 1 := jxw_id (by omega) (by omega)
        have hv1023_ : iv (jxu a 2 1 (jxw ((a 2 1) + 1))) := iv_put hv (l := 0) (u := 200) rfl (by omega) (by omega)
        have h1026_ := jxshr_b y1 y2
        have h1027_ := jxand_r (jxshr y1 y2) 255 (by decide) (by decide)
        have hv1025_ : iv (jxu (jxu a 2 1 (jxw ((a 2 1) + 1))) 3 ((a 2 1).toNat) (jxand (jxshr y1 y2) 255)) := iv_put hv1023_ (l := 0) (u := 255) rfl (by omega) (by omega)
        have hf1028_ : jfr jW_X8_append a0 (jxu a 2 1 (jxw ((a 2 1) + 1))) := jfr_put hf rfl
        have hf1029_ : jfr jW_X8_append a0 (jxu (jxu a 2 1 (jxw ((a 2 1) + 1))) 3 ((a 2 1).toNat) (jxand (jxshr y1 y2) 255)) := jfr_put hf1028_ rfl
        exact hc42 y1 y2 (jxu (jxu a 2 1 (jxw ((a 2 1) + 1))) 3 ((a 2 1).toNat) (jxand (jxshr y1 y2) 255)) (show (((y2 + 8) * 1) + 0).toNat ≤ n from by omega) hv1025_ hf1029_ (show 0 ≤ y2 from by omega) (show y2 ≤ 24 from by omega) (show 1 ≤ jxw ((a 2 1) + 1) from by omega) (show (a0 2 1 ≤ 196 → (8 * (jxw ((a 2 1) + 1))) + y2 = (8 * (a0 2 1)) + 32) from by omega) (show 0 ≤ y2 from by omega) (by first | rfl | assumption) (fun h => by rw [show jxu (jxu a 2 1 (jxw ((a 2 1) + 1))) 3 ((a 2 1).toNat) (jxand (jxshr y1 y2) 255) 2 1 = a 2 1 + 1 from (show jxw ((a 2 1) + 1) = _ from by omega)]; exact APP_s (s := y2) (hap h) (UP_put (fun _ => rfl)) (by omega) (by omega) (by omega) (by rw [← hy1]))
      ·
        exact hc42 y1 y2 a (show (((y2 + 8) * 1) + 0).toNat ≤ n from by omega) hv hf (show 0 ≤ y2 from by omega) (show y2 ≤ 24 from by omega) (show 1 ≤ a 2 1 from by omega) (show (a0 2 1 ≤ 196 → (8 * (a 2 1)) + y2 = (8 * (a0 2 1)) + 32) from by omega) (show 0 ≤ y2 from by omega) (by first | rfl | assumption) (fun h => absurd h (by omega))
  exact ⟨hc42, hc3⟩
theorem sp_X8_append (E : jxE) (d : Nat) (hd : Nat.ble 1 d = true) (x1 : Int) (a0 b0 : Nat → Nat → Int) (hv0 : iv a0) : jt (jxC E d 119 [.inr (.inr (.inl 2)), .inl x1] (jxSH, a0, b0)) (jQ_X8_append x1 a0 b0) := by
  obtain ⟨d, rfl⟩ := jd_succ hd
  refine jt_eq (bq_X8_append E d x1 a0 b0) ?_
  have h1030_ := iv_get hv0 (k := 2) (j := 1) (l := 0) (u := 200) rfl
  exact (cp_X8_append_3 E d hd x1 a0 b0 hv0 _).2 x1 24 a0 (Nat.le_refl _) hv0 (jfr_rf _ _) (show 0 - 8 ≤ 24 from by omega) (show 24 ≤ 24 from by omega) (show (a0 2 1 ≤ 196 → (8 * (a0 2 1)) + 24 = (8 * (a0 2 1)) + 24) from by omega) (by first | rfl | assumption) (fun _ => APP_0 _ _ _)
def jW_X11_feed : List (Nat × Nat) := [(2, 1), (3, 9999)]
abbrev jQ_X11_feed (x1 x2 x3 x4 x5 : Int) (a0 b0 : Nat → Nat → Int) : List jxV → (Nat → Nat → Int) → (Nat → Nat → Int) → Prop := rI (fun r a b => (iv a) ∧ (jfr jW_X11_feed a0 a) ∧ (b0 = b) ∧ ((((a0 2 1 ≤ 180 ∧ r = (a0 2 1) + 20) ∧ a 2 1 = (a0 2 1) + 20) ∨ ((180 < a0 2 1 ∧ r = 0 - 1) ∧ a 2 1 = a0 2 1))) ∧ (a0 2 1 ≤ 180 → FED (a0 3) (a 3) (a0 2 1) x1 x2 x3 x4 x5) ∧ (180 < a0 2 1 → ∀ j, a 3 j = a0 3 j))
theorem cp_X11_feed_38 (E : jxE) (d : Nat) (hd : Nat.ble 2 (d + 1) = true) (x1 x2 x3 x4 x5 : Int) (a0 b0 : Nat → Nat → Int) (hv0 : iv a0) : ∀ (y4 y5 : Int) (a : Nat → Nat → Int), iv a → jfr jW_X11_feed a0 a → a 2 1 = (a0 2 1) + 12 → a0 2 1 ≤ 180 → (∃ g1 g2 : Nat → Int, APP (a0 3) g1 (a0 2 1) x1 ((a0 2 1) + 4) ∧ APP g1 g2 ((a0 2 1) + 4) x2 ((a0 2 1) + 8) ∧ APP g2 (a 3) ((a0 2 1) + 8) x3 ((a0 2 1) + 12)) → (y4 = x4) → (y5 = x5) → jt (jxX E d 160 38 [some (.inr (.inr (.inl 0))), none, none, none, some (.inl y4), some (.inl y5)] [] (jxSH, a, b0)) (jQ_X11_feed x1 x2 x3 x4 x5 a0 b0) := by
  intro y4 y5 a hv hf hi0 hi1 hfd hy4 hy5
  refine jt_eq (bq_X11_feed_38 E d y4 y5 a b0) ?_
  have h1031_ := iv_get hv (k := 2) (j := 1) (l := 0) (u := 200) rfl
  have h1032_ := iv_get hv0 (k := 2) (j := 1) (l := 0) (u := 200) rfl
  refine jt_bV (sp_X8_append E d (jd_le hd rfl) y4 a b0 hv) (fun a1033_ b1033_ h1033_ => ?_)
  obtain ⟨hv1033_, hf1033_, rfl, hq1033_0, hq1033_1⟩ := h1033_
  have h1034_ := iv_get hv1033_ (k := 2) (j := 1) (l := 0) (u := 200) rfl
  refine jt_bV (sp_X8_append E d (jd_le hd rfl) y5 a1033_ b0 hv1033_) (fun a1035_ b1035_ h1035_ => ?_)
  obtain ⟨hv1035_, hf1035_, rfl, hq1035_0, hq1035_1⟩ := h1035_
  have h1036_ := iv_get hv1035_ (k := 2) (j := 1) (l := 0) (u := 200) rfl
  refine jt_eI (eq_X8_length E d (jd_le hd rfl) a1035_ b0) ?_
  have hf1037_ : jfr jW_X11_feed a0 a1033_ := jfr_tr hf hf1033_ rfl
  have hf1038_ : jfr jW_X11_feed a0 a1035_ := jfr_tr hf1037_ hf1035_ rfl
  have h1039_ := f_X8_length_eq a1035_ b0
  exact jt_rI ⟨hv1035_, hf1038_, rfl, (show (((a0 2 1 ≤ 180 ∧ f_X8_length a1035_ b0 = (a0 2 1) + 20) ∧ a1035_ 2 1 = (a0 2 1) + 20) ∨ ((180 < a0 2 1 ∧ f_X8_length a1035_ b0 = 0 - 1) ∧ a1035_ 2 1 = a0 2 1)) from by omega), (fun _ => by obtain ⟨g1, g2, p1, p2, p3⟩ := hfd; subst hy4; subst hy5; exact ⟨g1, g2, (a 3), (a1033_ 3), p1, p2, p3, APP_c (hq1033_1 (by omega)) (by omega) (by omega), APP_c (hq1035_1 (by omega)) (by omega) (by omega)⟩), (fun h => absurd h (by omega))⟩
theorem sp_X11_feed (E : jxE) (d : Nat) (hd : Nat.ble 2 d = true) (x1 x2 x3 x4 x5 : Int) (a0 b0 : Nat → Nat → Int) (hv0 : iv a0) : jt (jxC E d 160 [.inr (.inr (.inl 0)), .inl x1, .inl x2, .inl x3, .inl x4, .inl x5] (jxSH, a0, b0)) (jQ_X11_feed x1 x2 x3 x4 x5 a0 b0) := by
  obtain ⟨d, rfl⟩ := jd_succ hd
  refine jt_eq (bq_X11_feed E d x1 x2 x3 x4 x5 a0 b0) ?_
  refine jt_eI (eq_X8_hasRoom E d (jd_le hd rfl) 20 a0 b0) ?_
  have h1040_ := f_X8_hasRoom_eq a0 b0 20
  have h1041_ := iv_get hv0 (k := 2) (j := 1) (l := 0) (u := 200) rfl
  have h1042_ : jxw (200 - (a0 2 1)) = 200 - (a0 2 1) := jxw_id (by omega) (by omega)
  refine jt_ite (fun c1043_ => ?_) (fun c1043_ => ?_)
  ·
    exact jt_rI ⟨hv0, (jfr_rf _ _), rfl, (show (((a0 2 1 ≤ 180 ∧ (-1) = (a0 2 1) + 20) ∧ a0 2 1 = (a0 2 1) + 20) ∨ ((180 < a0 2 1 ∧ (-1) = 0 - 1) ∧ a0 2 1 = a0 2 1)) from by omega), (fun h => absurd h (by omega)), (fun _ _ => rfl)⟩
  ·
    refine jt_bV (sp_X8_append E d (jd_le hd rfl) x1 a0 b0 hv0) (fun a1044_ b1044_ h1044_ => ?_)
    obtain ⟨hv1044_, hf1044_, rfl, hq1044_0, hq1044_1⟩ := h1044_
    have h1045_ := iv_get hv1044_ (k := 2) (j := 1) (l := 0) (u := 200) rfl
    refine jt_bV (sp_X8_append E d (jd_le hd rfl) x2 a1044_ b0 hv1044_) (fun a1046_ b1046_ h1046_ => ?_)
    obtain ⟨hv1046_, hf1046_, rfl, hq1046_0, hq1046_1⟩ := h1046_
    have h1047_ := iv_get hv1046_ (k := 2) (j := 1) (l := 0) (u := 200) rfl
    refine jt_bV (sp_X8_append E d (jd_le hd rfl) x3 a1046_ b0 hv1046_) (fun a1048_ b1048_ h1048_ => ?_)
    obtain ⟨hv1048_, hf1048_, rfl, hq1048_0, hq1048_1⟩ := h1048_
    have h1049_ := iv_get hv1048_ (k := 2) (j := 1) (l := 0) (u := 200) rfl
    have hf1050_ : jfr jW_X11_feed a0 a1044_ := jfr_tr (jfr_rf _ _) hf1044_ rfl
    have hf1051_ : jfr jW_X11_feed a0 a1046_ := jfr_tr hf1050_ hf1046_ rfl
    have hf1052_ : jfr jW_X11_feed a0 a1048_ := jfr_tr hf1051_ hf1048_ rfl
    exact cp_X11_feed_38 E d hd x1 x2 x3 x4 x5 a0 b0 hv0 x4 x5 a1048_ hv1048_ hf1052_ (show a1048_ 2 1 = (a0 2 1) + 12 from by omega) (show a0 2 1 ≤ 180 from by omega) ⟨_, _, hq1044_1 (by omega), APP_c (hq1046_1 (by omega)) (by omega) (by omega), APP_c (hq1048_1 (by omega)) (by omega) (by omega)⟩ rfl rfl
def jW_X11_gatherAskers : List (Nat × Nat) := [(77, 9999)]
abbrev jQ_X11_gatherAskers (a0 b0 : Nat → Nat → Int) : List jxV → (Nat → Nat → Int) → (Nat → Nat → Int) → Prop := rI (fun r a b => (iv a) ∧ (jfr jW_X11_gatherAskers a0 a) ∧ (0 ≤ r) ∧ (r ≤ 8) ∧ ((a0 0 9 = 0 → r = 0)))
theorem cp_X11_gatherAskers_4 (E : jxE) (d : Nat) (hd : Nat.ble 4 (d + 1) = true) (a0 b0 : Nat → Nat → Int) (hv0 : iv a0) : ∀ n : Nat, (∀ (y1 y2 : Int) (a b : Nat → Nat → Int), (((8 - y2) * 1) + 0).toNat ≤ n → iv a → jfr jW_X11_gatherAskers a0 a → 0 ≤ y1 → y1 ≤ 7 → 0 ≤ y2 → y2 ≤ 7 → 1 ≤ a 0 9 → y1 ≤ y2 → 1 ≤ a0 0 9 → jt (jxX E d 169 37 [some (.inr (.inr (.inl 0))), some (.inl y1), some (.inl y2)] [] (jxSH, a, b)) (jQ_X11_gatherAskers a0 b0)) ∧ (∀ (y1 y2 : Int) (a b : Nat → Nat → Int), (((8 - y2) * 1) + 0).toNat ≤ n → iv a → jfr jW_X11_gatherAskers a0 a → 0 ≤ y1 → y1 ≤ 8 → 0 ≤ y2 → y2 ≤ 8 → y1 ≤ y2 → (a0 0 9 = 0 → y1 = 0) → jt (jxX E d 169 4 [some (.inr (.inr (.inl 0))), some (.inl y1), some (.inl y2)] [] (jxSH, a, b)) (jQ_X11_gatherAskers a0 b0)) := by
  refine jx_ind fun n ih => ?_
  have ih37 : ∀ (y1 y2 : Int) (a b : Nat → Nat → Int), (((8 - y2) * 1) + 0).toNat < n → iv a → jfr jW_X11_gatherAskers a0 a → 0 ≤ y1 → y1 ≤ 7 → 0 ≤ y2 → y2 ≤ 7 → 1 ≤ a 0 9 → y1 ≤ y2 → 1 ≤ a0 0 9 → jt (jxX E d 169 37 [some (.inr (.inr (.inl 0))), some (.inl y1), some (.inl y2)] [] (jxSH, a, b)) (jQ_X11_gatherAskers a0 b0) := fun y1 y2 a b hlt i0 i1 i2 i3 i4 i5 i6 i7 i8 => (ih _ hlt).1 y1 y2 a b (Nat.le_refl _) i0 i1 i2 i3 i4 i5 i6 i7 i8
  have ih4 : ∀ (y1 y2 : Int) (a b : Nat → Nat → Int), (((8 - y2) * 1) + 0).toNat < n → iv a → jfr jW_X11_gatherAskers a0 a → 0 ≤ y1 → y1 ≤ 8 → 0 ≤ y2 → y2 ≤ 8 → y1 ≤ y2 → (a0 0 9 = 0 → y1 = 0) → jt (jxX E d 169 4 [some (.inr (.inr (.inl 0))), some (.inl y1), some (.inl y2)] [] (jxSH, a, b)) (jQ_X11_gatherAskers a0 b0) := fun y1 y2 a b hlt i0 i1 i2 i3 i4 i5 i6 i7 => (ih _ hlt).2 y1 y2 a b (Nat.le_refl _) i0 i1 i2 i3 i4 i5 i6 i7
  have hc37 : ∀ (y1 y2 : Int) (a b : Nat → Nat → Int), (((8 - y2) * 1) + 0).toNat ≤ n → iv a → jfr jW_X11_gatherAskers a0 a → 0 ≤ y1 → y1 ≤ 7 → 0 ≤ y2 → y2 ≤ 7 → 1 ≤ a 0 9 → y1 ≤ y2 → 1 ≤ a0 0 9 → jt (jxX E d 169 37 [some (.inr (.inr (.inl 0))), some (.inl y1), some (.inl y2)] [] (jxSH, a, b)) (jQ_X11_gatherAskers a0 b0) := by
    intro y1 y2 a b hm hv hf hi0 hi1 hi2 hi3 hi4 hi5 hi6
    refine jt_eq (bq_X11_gatherAskers_37 E d y1 y2 a b) ?_
    have h1053_ := iv_get hv (k := 0) (j := 9) (l := 0) (u := 8) rfl
    have h1054_ : a 0 9 = a0 0 9 := hf 0 9 rfl
    have h1055_ := iv_get hv0 (k := 0) (j := 9) (l := 0) (u := 8) rfl
    refine jt_grd (by omega) ?_
    refine jt_bJ (sp_X0_reachedBy E d (jd_le hd rfl) (a 76 (y2.toNat)) a b hv) (fun r1056_ a1056_ b1056_ h1056_ => ?_)
    obtain ⟨rfl, rfl⟩ := h1056_
    refine jt_grd (by omega) ?_
    have h1057_ : jxw (y1 + 1) = y1 + 1 := jxw_id (by omega) (by omega)
    have h1058_ : jxw (y2 + 1) = y2 + 1 := jxw_id (by omega) (by omega)
    exact ih4 (jxw (y1 + 1)) (jxw (y2 + 1)) a (jxu b 78 (y1.toNat) r1056_) (show (((8 - (jxw (y2 + 1))) * 1) + 0).toNat < n from by omega) hv hf (show 0 ≤ jxw (y1 + 1) from by omega) (show jxw (y1 + 1) ≤ 8 from by omega) (show 0 ≤ jxw (y2 + 1) from by omega) (show jxw (y2 + 1) ≤ 8 from by omega) (show jxw (y1 + 1) ≤ jxw (y2 + 1) from by omega) (show (a0 0 9 = 0 → jxw (y1 + 1) = 0) from by omega)
  have hc4 : ∀ (y1 y2 : Int) (a b : Nat → Nat → Int), (((8 - y2) * 1) + 0).toNat ≤ n → iv a → jfr jW_X11_gatherAskers a0 a → 0 ≤ y1 → y1 ≤ 8 → 0 ≤ y2 → y2 ≤ 8 → y1 ≤ y2 → (a0 0 9 = 0 → y1 = 0) → jt (jxX E d 169 4 [some (.inr (.inr (.inl 0))), some (.inl y1), some (.inl y2)] [] (jxSH, a, b)) (jQ_X11_gatherAskers a0 b0) := by
    intro y1 y2 a b hm hv hf hi0 hi1 hi2 hi3 hi4 hi5
    refine jt_eq (bq_X11_gatherAskers_4 E d y1 y2 a b) ?_
    have h1059_ := iv_get hv0 (k := 0) (j := 9) (l := 0) (u := 8) rfl
    have h1060_ := iv_get hv (k := 0) (j := 9) (l := 0) (u := 8) rfl
    have h1061_ : a 0 9 = a0 0 9 := hf 0 9 rfl
    refine jt_ite (fun c1062_ => ?_) (fun c1062_ => ?_)
    ·
      refine jt_grd (by omega) ?_
      refine jt_eI (eq_X11_mayAsk E d (jd_le hd rfl) (a 76 (y2.toNat)) a b) ?_
      have h1063_ : a 76 (y2.toNat) = a0 76 (y2.toNat) := hf 76 (y2.toNat) rfl
      have h1064_ := f_X11_mayAsk_bool a b (a 76 (y2.toNat))
      refine jt_ite (fun c1065_ => ?_) (fun c1065_ => ?_)
      ·
        have h1066_ : jxw (y2 + 1) = y2 + 1 := jxw_id (by omega) (by omega)
        exact ih4 y1 (jxw (y2 + 1)) a b (show (((8 - (jxw (y2 + 1))) * 1) + 0).toNat < n from by omega) hv hf (show 0 ≤ y1 from by omega) (show y1 ≤ 8 from by omega) (show 0 ≤ jxw (y2 + 1) from by omega) (show jxw (y2 + 1) ≤ 8 from by omega) (show y1 ≤ jxw (y2 + 1) from by omega) (show (a0 0 9 = 0 → y1 = 0) from by omega)
      ·
        refine jt_grd (by omega) ?_
        refine jt_grd (by omega) ?_
        have hv1067_ : iv (jxu a 77 (y1.toNat) (a 76 (y2.toNat))) := iv_putf hv rfl
        have hf1068_ : jfr jW_X11_gatherAskers a0 (jxu a 77 (y1.toNat) (a 76 (y2.toNat))) := jfr_put hf rfl
        exact hc37 y1 y2 (jxu a 77 (y1.toNat) (a 76 (y2.toNat))) b (show (((8 - y2) * 1) + 0).toNat ≤ n from by omega) hv1067_ hf1068_ (show 0 ≤ y1 from by omega) (show y1 ≤ 7 from by omega) (show 0 ≤ y2 from by omega) (show y2 ≤ 7 from by omega) (show 1 ≤ a 0 9 from by omega) (show y1 ≤ y2 from by omega) (show 1 ≤ a0 0 9 from by omega)
    ·
      exact jt_rI ⟨hv, hf, (show 0 ≤ y1 from by omega), (show y1 ≤ 8 from by omega), (show (a0 0 9 = 0 → y1 = 0) from by omega)⟩
  exact ⟨hc37, hc4⟩
theorem sp_X11_gatherAskers (E : jxE) (d : Nat) (hd : Nat.ble 4 d = true) (a0 b0 : Nat → Nat → Int) (hv0 : iv a0) : jt (jxC E d 169 [.inr (.inr (.inl 0))] (jxSH, a0, b0)) (jQ_X11_gatherAskers a0 b0) := by
  obtain ⟨d, rfl⟩ := jd_succ hd
  refine jt_eq (bq_X11_gatherAskers E d a0 b0) ?_
  have h1069_ := iv_get hv0 (k := 0) (j := 9) (l := 0) (u := 8) rfl
  exact (cp_X11_gatherAskers_4 E d hd a0 b0 hv0 _).2 0 0 a0 b0 (Nat.le_refl _) hv0 (jfr_rf _ _) (show 0 ≤ 0 from by omega) (show 0 ≤ 8 from by omega) (show 0 ≤ 0 from by omega) (show 0 ≤ 8 from by omega) (show 0 ≤ 0 from by omega) (show (a0 0 9 = 0 → 0 = 0) from by omega)
abbrev jQ_X2_allow (x1 x2 x3 : Int) (a0 b0 : Nat → Nat → Int) : List jxV → (Nat → Nat → Int) → (Nat → Nat → Int) → Prop := rV (fun a b => (a0 = a))
theorem cp_X2_allow_29 (E : jxE) (d : Nat) (hd : Nat.ble 2 (d + 1) = true) (x1 x2 x3 : Int) (a0 b0 : Nat → Nat → Int) (hv0 : iv a0) : ∀ (b : Nat → Nat → Int), jt (jxX E d 43 29 [none, none, none, none] [] (jxSH, a0, b)) (jQ_X2_allow x1 x2 x3 a0 b0) := by
  intro b
  refine jt_eq (bq_X2_allow_29 E d a0 b) ?_
  exact jt_rV rfl
theorem sp_X2_allow (E : jxE) (d : Nat) (hd : Nat.ble 2 d = true) (x1 x2 x3 : Int) (a0 b0 : Nat → Nat → Int) (hv0 : iv a0) : jt (jxC E d 43 [.inr (.inr (.inl 79)), .inl x1, .inl x2, .inl x3] (jxSH, a0, b0)) (jQ_X2_allow x1 x2 x3 a0 b0) := by
  obtain ⟨d, rfl⟩ := jd_succ hd
  refine jt_eq (bq_X2_allow E d x1 x2 x3 a0 b0) ?_
  refine jt_eI (eq_X11_within E d (jd_le hd rfl) x1 0 7 a0 b0) ?_
  have h1070_ := f_X11_within_eq a0 b0 x1 0 7
  refine jt_ite (fun c1071_ => ?_) (fun c1071_ => ?_)
  ·
    exact cp_X2_allow_29 E d hd x1 x2 x3 a0 b0 hv0 b0
  ·
    refine jt_grd (by omega) ?_
    exact cp_X2_allow_29 E d hd x1 x2 x3 a0 b0 hv0 (jxu b0 82 (x1.toNat) (jxwl ((jxwl ((jxwl (x2 * 1048576)) - x3)) - 1099511627776)))
abbrev jQ_X2_forbidAll (a0 b0 : Nat → Nat → Int) : List jxV → (Nat → Nat → Int) → (Nat → Nat → Int) → Prop := rV (fun a b => (a0 = a))
theorem cp_X2_forbidAll_2 (E : jxE) (d : Nat) (hd : Nat.ble 1 (d + 1) = true) (a0 b0 : Nat → Nat → Int) (hv0 : iv a0) : ∀ n : Nat, (∀ (y1 : Int) (b : Nat → Nat → Int), (((8 - y1) * 1) + 0).toNat ≤ n → 0 ≤ y1 → y1 ≤ 8 → jt (jxX E d 42 2 [some (.inr (.inr (.inl 79))), some (.inl y1)] [] (jxSH, a0, b)) (jQ_X2_forbidAll a0 b0)) := by
  refine jx_ind fun n ih => ?_
  have ih2 : ∀ (y1 : Int) (b : Nat → Nat → Int), (((8 - y1) * 1) + 0).toNat < n → 0 ≤ y1 → y1 ≤ 8 → jt (jxX E d 42 2 [some (.inr (.inr (.inl 79))), some (.inl y1)] [] (jxSH, a0, b)) (jQ_X2_forbidAll a0 b0) := fun y1 b hlt i0 i1 => (ih _ hlt) y1 b (Nat.le_refl _) i0 i1
  have hc2 : ∀ (y1 : Int) (b : Nat → Nat → Int), (((8 - y1) * 1) + 0).toNat ≤ n → 0 ≤ y1 → y1 ≤ 8 → jt (jxX E d 42 2 [some (.inr (.inr (.inl 79))), some (.inl y1)] [] (jxSH, a0, b)) (jQ_X2_forbidAll a0 b0) := by
    intro y1 b hm hi0 hi1
    refine jt_eq (bq_X2_forbidAll_2 E d y1 a0 b) ?_
    refine jt_ite (fun c1072_ => ?_) (fun c1072_ => ?_)
    ·
      refine jt_grd (by omega) ?_
      have h1073_ : jxw (y1 + 1) = y1 + 1 := jxw_id (by omega) (by omega)
      exact ih2 (jxw (y1 + 1)) (jxu b 82 (y1.toNat) 4611686018427387904) (show (((8 - (jxw (y1 + 1))) * 1) + 0).toNat < n from by omega) (show 0 ≤ jxw (y1 + 1) from by omega) (show jxw (y1 + 1) ≤ 8 from by omega)
    ·
      exact jt_rV rfl
  exact hc2
theorem sp_X2_forbidAll (E : jxE) (d : Nat) (hd : Nat.ble 1 d = true) (a0 b0 : Nat → Nat → Int) (hv0 : iv a0) : jt (jxC E d 42 [.inr (.inr (.inl 79))] (jxSH, a0, b0)) (jQ_X2_forbidAll a0 b0) := by
  obtain ⟨d, rfl⟩ := jd_succ hd
  refine jt_eq (bq_X2_forbidAll E d a0 b0) ?_
  exact (cp_X2_forbidAll_2 E d hd a0 b0 hv0 _) 0 b0 (Nat.le_refl _) (show 0 ≤ 0 from by omega) (show 0 ≤ 8 from by omega)
def jW_X2_begin : List (Nat × Nat) := [(79, 3)]
abbrev jQ_X2_begin (x1 : Int) (a0 b0 : Nat → Nat → Int) : List jxV → (Nat → Nat → Int) → (Nat → Nat → Int) → Prop := rV (fun a b => (iv a) ∧ (jfr jW_X2_begin a0 a))
theorem cp_X2_begin_56 (E : jxE) (d : Nat) (hd : Nat.ble 2 (d + 1) = true) (x1 : Int) (a0 b0 : Nat → Nat → Int) (hv0 : iv a0) : ∀ n : Nat, (∀ (y2 : Int) (a b : Nat → Nat → Int), (((8 - y2) * 1) + 0).toNat ≤ n → iv a → jfr jW_X2_begin a0 a → 0 ≤ y2 → y2 ≤ 7 → 1 ≤ a 79 3 → jt (jxX E d 41 81 [some (.inr (.inr (.inl 79))), none, some (.inl y2)] [] (jxSH, a, b)) (jQ_X2_begin x1 a0 b0)) ∧ (∀ (y2 : Int) (a b : Nat → Nat → Int), (((8 - y2) * 1) + 0).toNat ≤ n → iv a → jfr jW_X2_begin a0 a → 0 ≤ y2 → y2 ≤ 8 → jt (jxX E d 41 56 [some (.inr (.inr (.inl 79))), none, some (.inl y2)] [] (jxSH, a, b)) (jQ_X2_begin x1 a0 b0)) := by
  refine jx_ind fun n ih => ?_
  have ih81 : ∀ (y2 : Int) (a b : Nat → Nat → Int), (((8 - y2) * 1) + 0).toNat < n → iv a → jfr jW_X2_begin a0 a → 0 ≤ y2 → y2 ≤ 7 → 1 ≤ a 79 3 → jt (jxX E d 41 81 [some (.inr (.inr (.inl 79))), none, some (.inl y2)] [] (jxSH, a, b)) (jQ_X2_begin x1 a0 b0) := fun y2 a b hlt i0 i1 i2 i3 i4 => (ih _ hlt).1 y2 a b (Nat.le_refl _) i0 i1 i2 i3 i4
  have ih56 : ∀ (y2 : Int) (a b : Nat → Nat → Int), (((8 - y2) * 1) + 0).toNat < n → iv a → jfr jW_X2_begin a0 a → 0 ≤ y2 → y2 ≤ 8 → jt (jxX E d 41 56 [some (.inr (.inr (.inl 79))), none, some (.inl y2)] [] (jxSH, a, b)) (jQ_X2_begin x1 a0 b0) := fun y2 a b hlt i0 i1 i2 i3 => (ih _ hlt).2 y2 a b (Nat.le_refl _) i0 i1 i2 i3
  have hc81 : ∀ (y2 : Int) (a b : Nat → Nat → Int), (((8 - y2) * 1) + 0).toNat ≤ n → iv a → jfr jW_X2_begin a0 a → 0 ≤ y2 → y2 ≤ 7 → 1 ≤ a 79 3 → jt (jxX E d 41 81 [some (.inr (.inr (.inl 79))), none, some (.inl y2)] [] (jxSH, a, b)) (jQ_X2_begin x1 a0 b0) := by
    intro y2 a b hm hv hf hi0 hi1 hi2
    refine jt_eq (bq_X2_begin_81 E d y2 a b) ?_
    have h1074_ := iv_get hv (k := 79) (j := 3) (l := 0) (u := 8) rfl
    have h1075_ : jxw (y2 + 1) = y2 + 1 := jxw_id (by omega) (by omega)
    exact ih56 (jxw (y2 + 1)) a b (show (((8 - (jxw (y2 + 1))) * 1) + 0).toNat < n from by omega) hv hf (show 0 ≤ jxw (y2 + 1) from by omega) (show jxw (y2 + 1) ≤ 8 from by omega)
  have hc56 : ∀ (y2 : Int) (a b : Nat → Nat → Int), (((8 - y2) * 1) + 0).toNat ≤ n → iv a → jfr jW_X2_begin a0 a → 0 ≤ y2 → y2 ≤ 8 → jt (jxX E d 41 56 [some (.inr (.inr (.inl 79))), none, some (.inl y2)] [] (jxSH, a, b)) (jQ_X2_begin x1 a0 b0) := by
    intro y2 a b hm hv hf hi0 hi1
    refine jt_eq (bq_X2_begin_56 E d y2 a b) ?_
    have h1076_ := iv_get hv (k := 79) (j := 3) (l := 0) (u := 8) rfl
    refine jt_ite (fun c1077_ => ?_) (fun c1077_ => ?_)
    ·
      refine jt_eI (eq_X2_shiftOf E d (jd_le hd rfl) y2 a b) ?_
      exact hc81 y2 a (jxu b 81 0 (jxwl ((b 81 0) + (jxshll 40 (f_X2_shiftOf a b y2))))) (show (((8 - y2) * 1) + 0).toNat ≤ n from by omega) hv hf (show 0 ≤ y2 from by omega) (show y2 ≤ 7 from by omega) (show 1 ≤ a 79 3 from by omega)
    ·
      refine jt_bV (sp_X2_forbidAll E d (jd_le hd rfl) a b hv) (fun a1078_ b1078_ h1078_ => ?_)
      subst h1078_
      exact jt_rV ⟨hv, hf⟩
  exact ⟨hc81, hc56⟩
theorem cp_X2_begin_54 (E : jxE) (d : Nat) (hd : Nat.ble 2 (d + 1) = true) (x1 : Int) (a0 b0 : Nat → Nat → Int) (hv0 : iv a0) : ∀ (a b : Nat → Nat → Int), iv a → jfr jW_X2_begin a0 a → jt (jxX E d 41 54 [some (.inr (.inr (.inl 79))), none, none] [] (jxSH, a, b)) (jQ_X2_begin x1 a0 b0) := by
  intro a b hv hf
  refine jt_eq (bq_X2_begin_54 E d a b) ?_
  exact (cp_X2_begin_56 E d hd x1 a0 b0 hv0 _).2 0 a b (Nat.le_refl _) hv hf (show 0 ≤ 0 from by omega) (show 0 ≤ 8 from by omega)
theorem cp_X2_begin_16 (E : jxE) (d : Nat) (hd : Nat.ble 2 (d + 1) = true) (x1 : Int) (a0 b0 : Nat → Nat → Int) (hv0 : iv a0) : ∀ n : Nat, (∀ (y2 : Int) (a b : Nat → Nat → Int), (((256 - y2) * 1) + 0).toNat ≤ n → iv a → jfr jW_X2_begin a0 a → 0 ≤ y2 → y2 ≤ 256 → jt (jxX E d 41 16 [some (.inr (.inr (.inl 79))), none, some (.inl y2)] [] (jxSH, a, b)) (jQ_X2_begin x1 a0 b0)) := by
  refine jx_ind fun n ih => ?_
  have ih16 : ∀ (y2 : Int) (a b : Nat → Nat → Int), (((256 - y2) * 1) + 0).toNat < n → iv a → jfr jW_X2_begin a0 a → 0 ≤ y2 → y2 ≤ 256 → jt (jxX E d 41 16 [some (.inr (.inr (.inl 79))), none, some (.inl y2)] [] (jxSH, a, b)) (jQ_X2_begin x1 a0 b0) := fun y2 a b hlt i0 i1 i2 i3 => (ih _ hlt) y2 a b (Nat.le_refl _) i0 i1 i2 i3
  have hc16 : ∀ (y2 : Int) (a b : Nat → Nat → Int), (((256 - y2) * 1) + 0).toNat ≤ n → iv a → jfr jW_X2_begin a0 a → 0 ≤ y2 → y2 ≤ 256 → jt (jxX E d 41 16 [some (.inr (.inr (.inl 79))), none, some (.inl y2)] [] (jxSH, a, b)) (jQ_X2_begin x1 a0 b0) := by
    intro y2 a b hm hv hf hi0 hi1
    refine jt_eq (bq_X2_begin_16 E d y2 a b) ?_
    refine jt_ite (fun c1079_ => ?_) (fun c1079_ => ?_)
    ·
      refine jt_grd (by omega) ?_
      have h1080_ : jxw (y2 + 1) = y2 + 1 := jxw_id (by omega) (by omega)
      exact ih16 (jxw (y2 + 1)) a (jxu b 80 (y2.toNat) 4611686018427387904) (show (((256 - (jxw (y2 + 1))) * 1) + 0).toNat < n from by omega) hv hf (show 0 ≤ jxw (y2 + 1) from by omega) (show jxw (y2 + 1) ≤ 256 from by omega)
    ·
      exact cp_X2_begin_54 E d hd x1 a0 b0 hv0 a (jxu (jxu b 80 0 0) 81 0 0) hv hf
  exact hc16
theorem sp_X2_begin (E : jxE) (d : Nat) (hd : Nat.ble 2 d = true) (x1 : Int) (a0 b0 : Nat → Nat → Int) (hv0 : iv a0) : jt (jxC E d 41 [.inr (.inr (.inl 79)), .inl x1] (jxSH, a0, b0)) (jQ_X2_begin x1 a0 b0) := by
  obtain ⟨d, rfl⟩ := jd_succ hd
  refine jt_eq (bq_X2_begin E d x1 a0 b0) ?_
  refine jt_eI (eq_J9_max_7cf53 E d (jd_le hd rfl) x1 0 a0 b0) ?_
  refine jt_eI (eq_J9_min_7cf53 E d (jd_le hd rfl) (f_J9_max_7cf53 a0 b0 x1 0) 8 a0 b0) ?_
  have h1082_ := f_J9_max_7cf53_eq a0 b0 x1 0
  have h1083_ := f_J9_min_7cf53_eq a0 b0 (f_J9_max_7cf53 a0 b0 x1 0) 8
  have hv1081_ : iv (jxu a0 79 3 (f_J9_min_7cf53 a0 b0 (f_J9_max_7cf53 a0 b0 x1 0) 8)) := iv_put hv0 (l := 0) (u := 8) rfl (by omega) (by omega)
  have hf1084_ : jfr jW_X2_begin a0 (jxu a0 79 3 (f_J9_min_7cf53 a0 b0 (f_J9_max_7cf53 a0 b0 x1 0) 8)) := jfr_put (jfr_rf _ _) rfl
  exact (cp_X2_begin_16 E d hd x1 a0 b0 hv0 _) 0 (jxu a0 79 3 (f_J9_min_7cf53 a0 b0 (f_J9_max_7cf53 a0 b0 x1 0) 8)) b0 (Nat.le_refl _) hv1081_ hf1084_ (show 0 ≤ 0 from by omega) (show 0 ≤ 256 from by omega)
abbrev jQ_X2_finish (a0 b0 : Nat → Nat → Int) : List jxV → (Nat → Nat → Int) → (Nat → Nat → Int) → Prop := rV (fun a b => (a0 = a))
theorem cp_X2_finish_4 (E : jxE) (d : Nat) (hd : Nat.ble 1 (d + 1) = true) (a0 b0 : Nat → Nat → Int) (hv0 : iv a0) : ∀ n : Nat, (∀ (y1 y2 : Int) (b : Nat → Nat → Int), (((256 - y2) * 1) + 0).toNat ≤ n → 0 ≤ y1 → y1 ≤ 255 → 1 ≤ y2 → y2 ≤ 255 → jt (jxX E d 46 64 [some (.inr (.inr (.inl 79))), some (.inl y1), some (.inl y2)] [] (jxSH, a0, b)) (jQ_X2_finish a0 b0)) ∧ (∀ (y2 : Int) (b : Nat → Nat → Int), (((256 - y2) * 1) + 0).toNat ≤ n → 1 ≤ y2 → y2 ≤ 255 → jt (jxX E d 46 62 [some (.inr (.inr (.inl 79))), none, some (.inl y2)] [] (jxSH, a0, b)) (jQ_X2_finish a0 b0)) ∧ (∀ (y1 y2 : Int) (b : Nat → Nat → Int), (((256 - y2) * 1) + 0).toNat ≤ n → 0 ≤ y1 → y1 ≤ 255 → 1 ≤ y2 → y2 ≤ 255 → jt (jxX E d 46 30 [some (.inr (.inr (.inl 79))), some (.inl y1), some (.inl y2)] [] (jxSH, a0, b)) (jQ_X2_finish a0 b0)) ∧ (∀ (y1 y2 : Int) (b : Nat → Nat → Int), (((256 - y2) * 1) + 0).toNat ≤ n → 0 ≤ y1 → y1 ≤ 255 → 1 ≤ y2 → y2 ≤ 256 → jt (jxX E d 46 4 [some (.inr (.inr (.inl 79))), some (.inl y1), some (.inl y2)] [] (jxSH, a0, b)) (jQ_X2_finish a0 b0)) := by
  refine jx_ind fun n ih => ?_
  have ih64 : ∀ (y1 y2 : Int) (b : Nat → Nat → Int), (((256 - y2) * 1) + 0).toNat < n → 0 ≤ y1 → y1 ≤ 255 → 1 ≤ y2 → y2 ≤ 255 → jt (jxX E d 46 64 [some (.inr (.inr (.inl 79))), some (.inl y1), some (.inl y2)] [] (jxSH, a0, b)) (jQ_X2_finish a0 b0) := fun y1 y2 b hlt i0 i1 i2 i3 => (ih _ hlt).1 y1 y2 b (Nat.le_refl _) i0 i1 i2 i3
  have ih62 : ∀ (y2 : Int) (b : Nat → Nat → Int), (((256 - y2) * 1) + 0).toNat < n → 1 ≤ y2 → y2 ≤ 255 → jt (jxX E d 46 62 [some (.inr (.inr (.inl 79))), none, some (.inl y2)] [] (jxSH, a0, b)) (jQ_X2_finish a0 b0) := fun y2 b hlt i0 i1 => (ih _ hlt).2.1 y2 b (Nat.le_refl _) i0 i1
  have ih30 : ∀ (y1 y2 : Int) (b : Nat → Nat → Int), (((256 - y2) * 1) + 0).toNat < n → 0 ≤ y1 → y1 ≤ 255 → 1 ≤ y2 → y2 ≤ 255 → jt (jxX E d 46 30 [some (.inr (.inr (.inl 79))), some (.inl y1), some (.inl y2)] [] (jxSH, a0, b)) (jQ_X2_finish a0 b0) := fun y1 y2 b hlt i0 i1 i2 i3 => (ih _ hlt).2.2.1 y1 y2 b (Nat.le_refl _) i0 i1 i2 i3
  have ih4 : ∀ (y1 y2 : Int) (b : Nat → Nat → Int), (((256 - y2) * 1) + 0).toNat < n → 0 ≤ y1 → y1 ≤ 255 → 1 ≤ y2 → y2 ≤ 256 → jt (jxX E d 46 4 [some (.inr (.inr (.inl 79))), some (.inl y1), some (.inl y2)] [] (jxSH, a0, b)) (jQ_X2_finish a0 b0) := fun y1 y2 b hlt i0 i1 i2 i3 => (ih _ hlt).2.2.2 y1 y2 b (Nat.le_refl _) i0 i1 i2 i3
  have hc64 : ∀ (y1 y2 : Int) (b : Nat → Nat → Int), (((256 - y2) * 1) + 0).toNat ≤ n → 0 ≤ y1 → y1 ≤ 255 → 1 ≤ y2 → y2 ≤ 255 → jt (jxX E d 46 64 [some (.inr (.inr (.inl 79))), some (.inl y1), some (.inl y2)] [] (jxSH, a0, b)) (jQ_X2_finish a0 b0) := by
    intro y1 y2 b hm hi0 hi1 hi2 hi3
    refine jt_eq (bq_X2_finish_64 E d y1 y2 a0 b) ?_
    have h1085_ : jxw (y2 + 1) = y2 + 1 := jxw_id (by omega) (by omega)
    exact ih4 y1 (jxw (y2 + 1)) b (show (((256 - (jxw (y2 + 1))) * 1) + 0).toNat < n from by omega) (show 0 ≤ y1 from by omega) (show y1 ≤ 255 from by omega) (show 1 ≤ jxw (y2 + 1) from by omega) (show jxw (y2 + 1) ≤ 256 from by omega)
  have hc62 : ∀ (y2 : Int) (b : Nat → Nat → Int), (((256 - y2) * 1) + 0).toNat ≤ n → 1 ≤ y2 → y2 ≤ 255 → jt (jxX E d 46 62 [some (.inr (.inr (.inl 79))), none, some (.inl y2)] [] (jxSH, a0, b)) (jQ_X2_finish a0 b0) := by
    intro y2 b hm hi0 hi1
    refine jt_eq (bq_X2_finish_62 E d y2 a0 b) ?_
    exact hc64 y2 y2 b (show (((256 - y2) * 1) + 0).toNat ≤ n from by omega) (show 0 ≤ y2 from by omega) (show y2 ≤ 255 from by omega) (show 1 ≤ y2 from by omega) (show y2 ≤ 255 from by omega)
  have hc30 : ∀ (y1 y2 : Int) (b : Nat → Nat → Int), (((256 - y2) * 1) + 0).toNat ≤ n → 0 ≤ y1 → y1 ≤ 255 → 1 ≤ y2 → y2 ≤ 255 → jt (jxX E d 46 30 [some (.inr (.inr (.inl 79))), some (.inl y1), some (.inl y2)] [] (jxSH, a0, b)) (jQ_X2_finish a0 b0) := by
    intro y1 y2 b hm hi0 hi1 hi2 hi3
    refine jt_eq (bq_X2_finish_30 E d y1 y2 a0 b) ?_
    refine jt_grd (by omega) ?_
    refine jt_grd (by omega) ?_
    have h1086_ := jxlcmp_b (b 80 (y2.toNat)) (b 80 (y1.toNat))
    refine jt_ite (fun c1087_ => ?_) (fun c1087_ => ?_)
    ·
      refine jt_grd (by omega) ?_
      refine jt_grd (by omega) ?_
      have h1088_ := jxlcmp_b (b 81 (y2.toNat)) (b 81 (y1.toNat))
      refine jt_ite (fun c1089_ => ?_) (fun c1089_ => ?_)
      ·
        exact hc62 y2 b (show (((256 - y2) * 1) + 0).toNat ≤ n from by omega) (show 1 ≤ y2 from by omega) (show y2 ≤ 255 from by omega)
      ·
        exact hc64 y1 y2 b (show (((256 - y2) * 1) + 0).toNat ≤ n from by omega) (show 0 ≤ y1 from by omega) (show y1 ≤ 255 from by omega) (show 1 ≤ y2 from by omega) (show y2 ≤ 255 from by omega)
    ·
      exact hc64 y1 y2 b (show (((256 - y2) * 1) + 0).toNat ≤ n from by omega) (show 0 ≤ y1 from by omega) (show y1 ≤ 255 from by omega) (show 1 ≤ y2 from by omega) (show y2 ≤ 255 from by omega)
  have hc4 : ∀ (y1 y2 : Int) (b : Nat → Nat → Int), (((256 - y2) * 1) + 0).toNat ≤ n → 0 ≤ y1 → y1 ≤ 255 → 1 ≤ y2 → y2 ≤ 256 → jt (jxX E d 46 4 [some (.inr (.inr (.inl 79))), some (.inl y1), some (.inl y2)] [] (jxSH, a0, b)) (jQ_X2_finish a0 b0) := by
    intro y1 y2 b hm hi0 hi1 hi2 hi3
    refine jt_eq (bq_X2_finish_4 E d y1 y2 a0 b) ?_
    have h1090_ := iv_get hv0 (k := 79) (j := 3) (l := 0) (u := 8) rfl
    have h1091_ := jxshl1_b (a0 79 3)
    refine jt_ite (fun c1092_ => ?_) (fun c1092_ => ?_)
    ·
      refine jt_grd (by omega) ?_
      refine jt_grd (by omega) ?_
      have h1093_ := jxlcmp_b (b 80 (y2.toNat)) (b 80 (y1.toNat))
      refine jt_ite (fun c1094_ => ?_) (fun c1094_ => ?_)
      ·
        exact hc62 y2 b (show (((256 - y2) * 1) + 0).toNat ≤ n from by omega) (show 1 ≤ y2 from by omega) (show y2 ≤ 255 from by omega)
      ·
        exact hc30 y1 y2 b (show (((256 - y2) * 1) + 0).toNat ≤ n from by omega) (show 0 ≤ y1 from by omega) (show y1 ≤ 255 from by omega) (show 1 ≤ y2 from by omega) (show y2 ≤ 255 from by omega)
    ·
      refine jt_grd (by omega) ?_
      exact jt_rV rfl
  exact ⟨hc64, hc62, hc30, hc4⟩
theorem sp_X2_finish (E : jxE) (d : Nat) (hd : Nat.ble 1 d = true) (a0 b0 : Nat → Nat → Int) (hv0 : iv a0) : jt (jxC E d 46 [.inr (.inr (.inl 79))] (jxSH, a0, b0)) (jQ_X2_finish a0 b0) := by
  obtain ⟨d, rfl⟩ := jd_succ hd
  refine jt_eq (bq_X2_finish E d a0 b0) ?_
  exact (cp_X2_finish_4 E d hd a0 b0 hv0 _).2.2.2 0 1 b0 (Nat.le_refl _) (show 0 ≤ 0 from by omega) (show 0 ≤ 255 from by omega) (show 1 ≤ 1 from by omega) (show 1 ≤ 256 from by omega)
abbrev jQ_X2_tryPair (x1 x2 x3 : Int) (a0 b0 : Nat → Nat → Int) : List jxV → (Nat → Nat → Int) → (Nat → Nat → Int) → Prop := rV (fun a b => (a0 = a))
theorem cp_X2_tryPair_110 (E : jxE) (d : Nat) (hd : Nat.ble 2 (d + 1) = true) (x1 x2 x3 : Int) (a0 b0 : Nat → Nat → Int) (hv0 : iv a0) (hp0 : 0 ≤ x1) (hp1 : x1 ≤ 255) (hp2 : 0 ≤ x2) (hp3 : x2 ≤ 7) : ∀ (b : Nat → Nat → Int), jt (jxX E d 45 110 [none, none, none, none, none, none, none, none, none] [] (jxSH, a0, b)) (jQ_X2_tryPair x1 x2 x3 a0 b0) := by
  intro b
  refine jt_eq (bq_X2_tryPair_110 E d a0 b) ?_
  exact jt_rV rfl
theorem cp_X2_tryPair_94 (E : jxE) (d : Nat) (hd : Nat.ble 2 (d + 1) = true) (x1 x2 x3 : Int) (a0 b0 : Nat → Nat → Int) (hv0 : iv a0) (hp0 : 0 ≤ x1) (hp1 : x1 ≤ 255) (hp2 : 0 ≤ x2) (hp3 : x2 ≤ 7) : ∀ (y1 y5 y7 : Int) (b : Nat → Nat → Int), 0 ≤ y1 → y1 ≤ 255 → jt (jxX E d 45 94 [some (.inr (.inr (.inl 79))), some (.inl y1), none, none, none, some (.inr (.inl y5)), none, some (.inr (.inl y7)), none] [] (jxSH, a0, b)) (jQ_X2_tryPair x1 x2 x3 a0 b0) := by
  intro y1 y5 y7 b hi0 hi1
  refine jt_eq (bq_X2_tryPair_94 E d y1 y5 y7 a0 b) ?_
  refine jt_grd (by omega) ?_
  refine jt_grd (by omega) ?_
  exact cp_X2_tryPair_110 E d hd x1 x2 x3 a0 b0 hv0 hp0 hp1 hp2 hp3 (jxu (jxu b 80 (y1.toNat) y5) 81 (y1.toNat) y7)
theorem cp_X2_tryPair_70 (E : jxE) (d : Nat) (hd : Nat.ble 2 (d + 1) = true) (x1 x2 x3 : Int) (a0 b0 : Nat → Nat → Int) (hv0 : iv a0) (hp0 : 0 ≤ x1) (hp1 : x1 ≤ 255) (hp2 : 0 ≤ x2) (hp3 : x2 ≤ 7) : ∀ (y1 y5 y7 : Int) (b : Nat → Nat → Int), 0 ≤ y1 → y1 ≤ 255 → jt (jxX E d 45 70 [some (.inr (.inr (.inl 79))), some (.inl y1), none, none, none, some (.inr (.inl y5)), none, some (.inr (.inl y7)), none] [] (jxSH, a0, b)) (jQ_X2_tryPair x1 x2 x3 a0 b0) := by
  intro y1 y5 y7 b hi0 hi1
  refine jt_eq (bq_X2_tryPair_70 E d y1 y5 y7 a0 b) ?_
  refine jt_grd (by omega) ?_
  have h1095_ := jxlcmp_b y5 (b 80 (y1.toNat))
  refine jt_ite (fun c1096_ => ?_) (fun c1096_ => ?_)
  ·
    refine jt_grd (by omega) ?_
    have h1097_ := jxlcmp_b y7 (b 81 (y1.toNat))
    refine jt_ite (fun c1098_ => ?_) (fun c1098_ => ?_)
    ·
      exact cp_X2_tryPair_94 E d hd x1 x2 x3 a0 b0 hv0 hp0 hp1 hp2 hp3 y1 y5 y7 b (show 0 ≤ y1 from by omega) (show y1 ≤ 255 from by omega)
    ·
      exact cp_X2_tryPair_110 E d hd x1 x2 x3 a0 b0 hv0 hp0 hp1 hp2 hp3 b
  ·
    exact cp_X2_tryPair_110 E d hd x1 x2 x3 a0 b0 hv0 hp0 hp1 hp2 hp3 b
theorem cp_X2_tryPair_38 (E : jxE) (d : Nat) (hd : Nat.ble 2 (d + 1) = true) (x1 x2 x3 : Int) (a0 b0 : Nat → Nat → Int) (hv0 : iv a0) (hp0 : 0 ≤ x1) (hp1 : x1 ≤ 255) (hp2 : 0 ≤ x2) (hp3 : x2 ≤ 7) : ∀ (y1 y2 y3 y4 y5 : Int) (b : Nat → Nat → Int), 0 ≤ y1 → y1 ≤ 255 → 0 ≤ y2 → y2 ≤ 7 → 0 ≤ y4 → y4 ≤ 255 → jt (jxX E d 45 38 [some (.inr (.inr (.inl 79))), some (.inl y1), some (.inl y2), some (.inl y3), some (.inl y4), some (.inr (.inl y5)), none, none, none] [] (jxSH, a0, b)) (jQ_X2_tryPair x1 x2 x3 a0 b0) := by
  intro y1 y2 y3 y4 y5 b hi0 hi1 hi2 hi3 hi4 hi5
  refine jt_eq (bq_X2_tryPair_38 E d y1 y2 y3 y4 y5 a0 b) ?_
  refine jt_grd (by omega) ?_
  refine jt_eI (eq_X2_shiftOf E d (jd_le hd rfl) y2 a0 b) ?_
  refine jt_grd (by omega) ?_
  have h1099_ := jxlcmp_b y5 (b 80 (y1.toNat))
  refine jt_ite (fun c1100_ => ?_) (fun c1100_ => ?_)
  ·
    exact cp_X2_tryPair_94 E d hd x1 x2 x3 a0 b0 hv0 hp0 hp1 hp2 hp3 y1 y5 (jxwl ((b 81 (y4.toNat)) - (jxshll (jxw (40 - y3)) (f_X2_shiftOf a0 b y2)))) b (show 0 ≤ y1 from by omega) (show y1 ≤ 255 from by omega)
  ·
    exact cp_X2_tryPair_70 E d hd x1 x2 x3 a0 b0 hv0 hp0 hp1 hp2 hp3 y1 y5 (jxwl ((b 81 (y4.toNat)) - (jxshll (jxw (40 - y3)) (f_X2_shiftOf a0 b y2)))) b (show 0 ≤ y1 from by omega) (show y1 ≤ 255 from by omega)
theorem sp_X2_tryPair (E : jxE) (d : Nat) (hd : Nat.ble 2 d = true) (x1 x2 x3 : Int) (a0 b0 : Nat → Nat → Int) (hv0 : iv a0) (hp0 : 0 ≤ x1) (hp1 : x1 ≤ 255) (hp2 : 0 ≤ x2) (hp3 : x2 ≤ 7) : jt (jxC E d 45 [.inr (.inr (.inl 79)), .inl x1, .inl x2, .inl x3] (jxSH, a0, b0)) (jQ_X2_tryPair x1 x2 x3 a0 b0) := by
  obtain ⟨d, rfl⟩ := jd_succ hd
  refine jt_eq (bq_X2_tryPair E d x1 x2 x3 a0 b0) ?_
  have h1101_ := jxshl1_b x2
  have h1102_ := jxxor_b x1 (jxshl 1 x2)
  refine jt_grd (by omega) ?_
  have h1103_ := jxlcmp_b (b0 80 ((jxxor x1 (jxshl 1 x2)).toNat)) 4611686018427387904
  refine jt_ite (fun c1104_ => ?_) (fun c1104_ => ?_)
  ·
    exact jt_rV rfl
  ·
    refine jt_grd (by omega) ?_
    refine jt_grd (by omega) ?_
    exact cp_X2_tryPair_38 E d hd x1 x2 x3 a0 b0 hv0 hp0 hp1 hp2 hp3 x1 x2 x3 (jxxor x1 (jxshl 1 x2)) (jxwl ((b0 80 ((jxxor x1 (jxshl 1 x2)).toNat)) + (b0 82 (x2.toNat)))) b0 (show 0 ≤ x1 from by omega) (show x1 ≤ 255 from by omega) (show 0 ≤ x2 from by omega) (show x2 ≤ 7 from by omega) (show 0 ≤ jxxor x1 (jxshl 1 x2) from by omega) (show jxxor x1 (jxshl 1 x2) ≤ 255 from by omega)
abbrev jQ_X2_tryReceiver (x1 : Int) (a0 b0 : Nat → Nat → Int) : List jxV → (Nat → Nat → Int) → (Nat → Nat → Int) → Prop := rV (fun a b => (a0 = a))
theorem cp_X2_tryReceiver_9 (E : jxE) (d : Nat) (hd : Nat.ble 3 (d + 1) = true) (x1 : Int) (a0 b0 : Nat → Nat → Int) (hv0 : iv a0) : ∀ n : Nat, (∀ (y1 y2 y3 : Int) (b : Nat → Nat → Int), (((((y2 + 0) * 11) + 0) + ((8 - y3) * 1)) + 0).toNat ≤ n → 1 ≤ y2 → y2 ≤ 255 → 0 ≤ y3 → y3 ≤ 7 → jt (jxX E d 44 52 [some (.inr (.inr (.inl 79))), some (.inl y1), some (.inl y2), some (.inl y3)] [] (jxSH, a0, b)) (jQ_X2_tryReceiver x1 a0 b0)) ∧ (∀ (y1 y2 y3 : Int) (b : Nat → Nat → Int), (((((y2 + 0) * 11) + 0) + ((8 - y3) * 1)) + 0).toNat ≤ n → 1 ≤ y2 → y2 ≤ 255 → 0 ≤ y3 → y3 ≤ 7 → jt (jxX E d 44 45 [some (.inr (.inr (.inl 79))), some (.inl y1), some (.inl y2), some (.inl y3)] [] (jxSH, a0, b)) (jQ_X2_tryReceiver x1 a0 b0)) ∧ (∀ (y1 y2 y3 : Int) (b : Nat → Nat → Int), (((((y2 + 0) * 11) + 0) + ((8 - y3) * 1)) + 0).toNat ≤ n → 1 ≤ y2 → y2 ≤ 255 → 0 ≤ y3 → y3 ≤ 8 → jt (jxX E d 44 15 [some (.inr (.inr (.inl 79))), some (.inl y1), some (.inl y2), some (.inl y3)] [] (jxSH, a0, b)) (jQ_X2_tryReceiver x1 a0 b0)) ∧ (∀ (y1 y2 : Int) (b : Nat → Nat → Int), (((y2 + 0) * 11) + 10).toNat ≤ n → 0 ≤ y2 → y2 ≤ 255 → jt (jxX E d 44 9 [some (.inr (.inr (.inl 79))), some (.inl y1), some (.inl y2), none] [] (jxSH, a0, b)) (jQ_X2_tryReceiver x1 a0 b0)) := by
  refine jx_ind fun n ih => ?_
  have ih52 : ∀ (y1 y2 y3 : Int) (b : Nat → Nat → Int), (((((y2 + 0) * 11) + 0) + ((8 - y3) * 1)) + 0).toNat < n → 1 ≤ y2 → y2 ≤ 255 → 0 ≤ y3 → y3 ≤ 7 → jt (jxX E d 44 52 [some (.inr (.inr (.inl 79))), some (.inl y1), some (.inl y2), some (.inl y3)] [] (jxSH, a0, b)) (jQ_X2_tryReceiver x1 a0 b0) := fun y1 y2 y3 b hlt i0 i1 i2 i3 => (ih _ hlt).1 y1 y2 y3 b (Nat.le_refl _) i0 i1 i2 i3
  have ih45 : ∀ (y1 y2 y3 : Int) (b : Nat → Nat → Int), (((((y2 + 0) * 11) + 0) + ((8 - y3) * 1)) + 0).toNat < n → 1 ≤ y2 → y2 ≤ 255 → 0 ≤ y3 → y3 ≤ 7 → jt (jxX E d 44 45 [some (.inr (.inr (.inl 79))), some (.inl y1), some (.inl y2), some (.inl y3)] [] (jxSH, a0, b)) (jQ_X2_tryReceiver x1 a0 b0) := fun y1 y2 y3 b hlt i0 i1 i2 i3 => (ih _ hlt).2.1 y1 y2 y3 b (Nat.le_refl _) i0 i1 i2 i3
  have ih15 : ∀ (y1 y2 y3 : Int) (b : Nat → Nat → Int), (((((y2 + 0) * 11) + 0) + ((8 - y3) * 1)) + 0).toNat < n → 1 ≤ y2 → y2 ≤ 255 → 0 ≤ y3 → y3 ≤ 8 → jt (jxX E d 44 15 [some (.inr (.inr (.inl 79))), some (.inl y1), some (.inl y2), some (.inl y3)] [] (jxSH, a0, b)) (jQ_X2_tryReceiver x1 a0 b0) := fun y1 y2 y3 b hlt i0 i1 i2 i3 => (ih _ hlt).2.2.1 y1 y2 y3 b (Nat.le_refl _) i0 i1 i2 i3
  have ih9 : ∀ (y1 y2 : Int) (b : Nat → Nat → Int), (((y2 + 0) * 11) + 10).toNat < n → 0 ≤ y2 → y2 ≤ 255 → jt (jxX E d 44 9 [some (.inr (.inr (.inl 79))), some (.inl y1), some (.inl y2), none] [] (jxSH, a0, b)) (jQ_X2_tryReceiver x1 a0 b0) := fun y1 y2 b hlt i0 i1 => (ih _ hlt).2.2.2 y1 y2 b (Nat.le_refl _) i0 i1
  have hc52 : ∀ (y1 y2 y3 : Int) (b : Nat → Nat → Int), (((((y2 + 0) * 11) + 0) + ((8 - y3) * 1)) + 0).toNat ≤ n → 1 ≤ y2 → y2 ≤ 255 → 0 ≤ y3 → y3 ≤ 7 → jt (jxX E d 44 52 [some (.inr (.inr (.inl 79))), some (.inl y1), some (.inl y2), some (.inl y3)] [] (jxSH, a0, b)) (jQ_X2_tryReceiver x1 a0 b0) := by
    intro y1 y2 y3 b hm hi0 hi1 hi2 hi3
    refine jt_eq (bq_X2_tryReceiver_52 E d y1 y2 y3 a0 b) ?_
    have h1105_ : jxw (y3 + 1) = y3 + 1 := jxw_id (by omega) (by omega)
    exact ih15 y1 y2 (jxw (y3 + 1)) b (show (((((y2 + 0) * 11) + 0) + ((8 - (jxw (y3 + 1))) * 1)) + 0).toNat < n from by omega) (show 1 ≤ y2 from by omega) (show y2 ≤ 255 from by omega) (show 0 ≤ jxw (y3 + 1) from by omega) (show jxw (y3 + 1) ≤ 8 from by omega)
  have hc45 : ∀ (y1 y2 y3 : Int) (b : Nat → Nat → Int), (((((y2 + 0) * 11) + 0) + ((8 - y3) * 1)) + 0).toNat ≤ n → 1 ≤ y2 → y2 ≤ 255 → 0 ≤ y3 → y3 ≤ 7 → jt (jxX E d 44 45 [some (.inr (.inr (.inl 79))), some (.inl y1), some (.inl y2), some (.inl y3)] [] (jxSH, a0, b)) (jQ_X2_tryReceiver x1 a0 b0) := by
    intro y1 y2 y3 b hm hi0 hi1 hi2 hi3
    refine jt_eq (bq_X2_tryReceiver_45 E d y1 y2 y3 a0 b) ?_
    refine jt_bV (sp_X2_tryPair E d (jd_le hd rfl) y2 y3 y1 a0 b hv0 (show 0 ≤ y2 from by omega) (show y2 ≤ 255 from by omega) (show 0 ≤ y3 from by omega) (show y3 ≤ 7 from by omega)) (fun a1106_ b1106_ h1106_ => ?_)
    subst h1106_
    exact hc52 y1 y2 y3 b1106_ (show (((((y2 + 0) * 11) + 0) + ((8 - y3) * 1)) + 0).toNat ≤ n from by omega) (show 1 ≤ y2 from by omega) (show y2 ≤ 255 from by omega) (show 0 ≤ y3 from by omega) (show y3 ≤ 7 from by omega)
  have hc15 : ∀ (y1 y2 y3 : Int) (b : Nat → Nat → Int), (((((y2 + 0) * 11) + 0) + ((8 - y3) * 1)) + 0).toNat ≤ n → 1 ≤ y2 → y2 ≤ 255 → 0 ≤ y3 → y3 ≤ 8 → jt (jxX E d 44 15 [some (.inr (.inr (.inl 79))), some (.inl y1), some (.inl y2), some (.inl y3)] [] (jxSH, a0, b)) (jQ_X2_tryReceiver x1 a0 b0) := by
    intro y1 y2 y3 b hm hi0 hi1 hi2 hi3
    refine jt_eq (bq_X2_tryReceiver_15 E d y1 y2 y3 a0 b) ?_
    have h1107_ := iv_get hv0 (k := 79) (j := 3) (l := 0) (u := 8) rfl
    refine jt_ite (fun c1108_ => ?_) (fun c1108_ => ?_)
    ·
      have h1109_ := jxshr_b y2 y3
      have h1110_ := jxand_r (jxshr y2 y3) 1 (by decide) (by decide)
      refine jt_ite (fun c1111_ => ?_) (fun c1111_ => ?_)
      ·
        refine jt_grd (by omega) ?_
        have h1112_ := jxlcmp_b (b 82 (y3.toNat)) 4611686018427387904
        refine jt_ite (fun c1113_ => ?_) (fun c1113_ => ?_)
        ·
          exact hc52 y1 y2 y3 b (show (((((y2 + 0) * 11) + 0) + ((8 - y3) * 1)) + 0).toNat ≤ n from by omega) (show 1 ≤ y2 from by omega) (show y2 ≤ 255 from by omega) (show 0 ≤ y3 from by omega) (show y3 ≤ 7 from by omega)
        ·
          exact hc45 y1 y2 y3 b (show (((((y2 + 0) * 11) + 0) + ((8 - y3) * 1)) + 0).toNat ≤ n from by omega) (show 1 ≤ y2 from by omega) (show y2 ≤ 255 from by omega) (show 0 ≤ y3 from by omega) (show y3 ≤ 7 from by omega)
      ·
        exact hc52 y1 y2 y3 b (show (((((y2 + 0) * 11) + 0) + ((8 - y3) * 1)) + 0).toNat ≤ n from by omega) (show 1 ≤ y2 from by omega) (show y2 ≤ 255 from by omega) (show 0 ≤ y3 from by omega) (show y3 ≤ 7 from by omega)
    ·
      have h1114_ : jxw (y2 + (-1)) = y2 + (-1) := jxw_id (by omega) (by omega)
      exact ih9 y1 (jxw (y2 + (-1))) b (show ((((jxw (y2 + (-1))) + 0) * 11) + 10).toNat < n from by omega) (show 0 ≤ jxw (y2 + (-1)) from by omega) (show jxw (y2 + (-1)) ≤ 255 from by omega)
  have hc9 : ∀ (y1 y2 : Int) (b : Nat → Nat → Int), (((y2 + 0) * 11) + 10).toNat ≤ n → 0 ≤ y2 → y2 ≤ 255 → jt (jxX E d 44 9 [some (.inr (.inr (.inl 79))), some (.inl y1), some (.inl y2), none] [] (jxSH, a0, b)) (jQ_X2_tryReceiver x1 a0 b0) := by
    intro y1 y2 b hm hi0 hi1
    refine jt_eq (bq_X2_tryReceiver_9 E d y1 y2 a0 b) ?_
    refine jt_ite (fun c1115_ => ?_) (fun c1115_ => ?_)
    ·
      exact hc15 y1 y2 0 b (show (((((y2 + 0) * 11) + 0) + ((8 - 0) * 1)) + 0).toNat ≤ n from by omega) (show 1 ≤ y2 from by omega) (show y2 ≤ 255 from by omega) (show 0 ≤ 0 from by omega) (show 0 ≤ 8 from by omega)
    ·
      refine jt_bV (sp_X2_forbidAll E d (jd_le hd rfl) a0 b hv0) (fun a1116_ b1116_ h1116_ => ?_)
      subst h1116_
      exact jt_rV rfl
  exact ⟨hc52, hc45, hc15, hc9⟩
theorem sp_X2_tryReceiver (E : jxE) (d : Nat) (hd : Nat.ble 3 d = true) (x1 : Int) (a0 b0 : Nat → Nat → Int) (hv0 : iv a0) : jt (jxC E d 44 [.inr (.inr (.inl 79)), .inl x1] (jxSH, a0, b0)) (jQ_X2_tryReceiver x1 a0 b0) := by
  obtain ⟨d, rfl⟩ := jd_succ hd
  refine jt_eq (bq_X2_tryReceiver E d x1 a0 b0) ?_
  have h1117_ := iv_get hv0 (k := 79) (j := 3) (l := 0) (u := 8) rfl
  have h1118_ := jxshl1_b (a0 79 3)
  have h1119_ : jxw ((jxshl 1 (a0 79 3)) - 1) = (jxshl 1 (a0 79 3)) - 1 := jxw_id (by omega) (by omega)
  exact (cp_X2_tryReceiver_9 E d hd x1 a0 b0 hv0 _).2.2.2 x1 (jxw ((jxshl 1 (a0 79 3)) - 1)) b0 (Nat.le_refl _) (show 0 ≤ jxw ((jxshl 1 (a0 79 3)) - 1) from by omega) (show jxw ((jxshl 1 (a0 79 3)) - 1) ≤ 255 from by omega)
def jW_X11_give : List (Nat × Nat) := [(0, 9), (58, 8), (58, 13), (58, 14), (58, 15), (59, 9999), (60, 9999), (61, 9999), (62, 9999), (63, 9999), (64, 9999), (65, 9999), (70, 9999), (71, 9999), (72, 9999), (73, 9999), (74, 9999), (75, 9999), (77, 9999), (79, 3)]
abbrev jQ_X11_give (a0 b0 : Nat → Nat → Int) : List jxV → (Nat → Nat → Int) → (Nat → Nat → Int) → Prop := rI (fun r a b => (iv a) ∧ (jfr jW_X11_give a0 a) ∧ ((a0 0 9 = 0 → r = 0)))
theorem cp_X11_give_144 (E : jxE) (d : Nat) (hd : Nat.ble 8 (d + 1) = true) (a0 b0 : Nat → Nat → Int) (hv0 : iv a0) (hp0 : WISHR a0) : ∀ n : Nat, (∀ (y1 y2 y3 : Int) (a b : Nat → Nat → Int), (((8 - y3) * 1) + 0).toNat ≤ n → iv a → jfr jW_X11_give a0 a → 1 ≤ y1 → y1 ≤ 8 → 0 ≤ y3 → y3 ≤ 7 → (a0 0 9 = 0 → y1 = 0) → (a0 0 9 = 0 → y2 = 0) → jt (jxX E d 168 179 [some (.inr (.inr (.inl 0))), some (.inl y1), some (.inl y2), some (.inl y3), none] [] (jxSH, a, b)) (jQ_X11_give a0 b0)) ∧ (∀ (y1 y2 y3 : Int) (a b : Nat → Nat → Int), (((8 - y3) * 1) + 0).toNat ≤ n → iv a → jfr jW_X11_give a0 a → 0 ≤ y1 → y1 ≤ 8 → 0 ≤ y3 → y3 ≤ 8 → (a0 0 9 = 0 → y1 = 0) → (a0 0 9 = 0 → y2 = 0) → jt (jxX E d 168 144 [some (.inr (.inr (.inl 0))), some (.inl y1), some (.inl y2), some (.inl y3), none] [] (jxSH, a, b)) (jQ_X11_give a0 b0)) := by
  refine jx_ind fun n ih => ?_
  have ih179 : ∀ (y1 y2 y3 : Int) (a b : Nat → Nat → Int), (((8 - y3) * 1) + 0).toNat < n → iv a → jfr jW_X11_give a0 a → 1 ≤ y1 → y1 ≤ 8 → 0 ≤ y3 → y3 ≤ 7 → (a0 0 9 = 0 → y1 = 0) → (a0 0 9 = 0 → y2 = 0) → jt (jxX E d 168 179 [some (.inr (.inr (.inl 0))), some (.inl y1), some (.inl y2), some (.inl y3), none] [] (jxSH, a, b)) (jQ_X11_give a0 b0) := fun y1 y2 y3 a b hlt i0 i1 i2 i3 i4 i5 i6 i7 => (ih _ hlt).1 y1 y2 y3 a b (Nat.le_refl _) i0 i1 i2 i3 i4 i5 i6 i7
  have ih144 : ∀ (y1 y2 y3 : Int) (a b : Nat → Nat → Int), (((8 - y3) * 1) + 0).toNat < n → iv a → jfr jW_X11_give a0 a → 0 ≤ y1 → y1 ≤ 8 → 0 ≤ y3 → y3 ≤ 8 → (a0 0 9 = 0 → y1 = 0) → (a0 0 9 = 0 → y2 = 0) → jt (jxX E d 168 144 [some (.inr (.inr (.inl 0))), some (.inl y1), some (.inl y2), some (.inl y3), none] [] (jxSH, a, b)) (jQ_X11_give a0 b0) := fun y1 y2 y3 a b hlt i0 i1 i2 i3 i4 i5 i6 i7 => (ih _ hlt).2 y1 y2 y3 a b (Nat.le_refl _) i0 i1 i2 i3 i4 i5 i6 i7
  have hc179 : ∀ (y1 y2 y3 : Int) (a b : Nat → Nat → Int), (((8 - y3) * 1) + 0).toNat ≤ n → iv a → jfr jW_X11_give a0 a → 1 ≤ y1 → y1 ≤ 8 → 0 ≤ y3 → y3 ≤ 7 → (a0 0 9 = 0 → y1 = 0) → (a0 0 9 = 0 → y2 = 0) → jt (jxX E d 168 179 [some (.inr (.inr (.inl 0))), some (.inl y1), some (.inl y2), some (.inl y3), none] [] (jxSH, a, b)) (jQ_X11_give a0 b0) := by
    intro y1 y2 y3 a b hm hv hf hi0 hi1 hi2 hi3 hi4 hi5
    refine jt_eq (bq_X11_give_179 E d y1 y2 y3 a b) ?_
    have h1120_ := iv_get hv0 (k := 0) (j := 9) (l := 0) (u := 8) rfl
    have h1121_ : jxw (y3 + 1) = y3 + 1 := jxw_id (by omega) (by omega)
    have h1122_ := jxw_im (y2 + 1)
    have h1123_ := jxw_rg (y2 + 1)
    exact ih144 y1 (jxw (y2 + 1)) (jxw (y3 + 1)) a b (show (((8 - (jxw (y3 + 1))) * 1) + 0).toNat < n from by omega) hv hf (show 0 ≤ y1 from by omega) (show y1 ≤ 8 from by omega) (show 0 ≤ jxw (y3 + 1) from by omega) (show jxw (y3 + 1) ≤ 8 from by omega) (show (a0 0 9 = 0 → y1 = 0) from by omega) (show (a0 0 9 = 0 → jxw (y2 + 1) = 0) from by omega)
  have hc144 : ∀ (y1 y2 y3 : Int) (a b : Nat → Nat → Int), (((8 - y3) * 1) + 0).toNat ≤ n → iv a → jfr jW_X11_give a0 a → 0 ≤ y1 → y1 ≤ 8 → 0 ≤ y3 → y3 ≤ 8 → (a0 0 9 = 0 → y1 = 0) → (a0 0 9 = 0 → y2 = 0) → jt (jxX E d 168 144 [some (.inr (.inr (.inl 0))), some (.inl y1), some (.inl y2), some (.inl y3), none] [] (jxSH, a, b)) (jQ_X11_give a0 b0) := by
    intro y1 y2 y3 a b hm hv hf hi0 hi1 hi2 hi3 hi4 hi5
    refine jt_eq (bq_X11_give_144 E d y1 y2 y3 a b) ?_
    have h1124_ := iv_get hv0 (k := 0) (j := 9) (l := 0) (u := 8) rfl
    refine jt_ite (fun c1125_ => ?_) (fun c1125_ => ?_)
    ·
      refine jt_eI (eq_X2_receiverOf E d (jd_le hd rfl) y3 a b) ?_
      refine jt_ite (fun c1126_ => ?_) (fun c1126_ => ?_)
      ·
        have h1127_ : jxw (y3 + 1) = y3 + 1 := jxw_id (by omega) (by omega)
        exact ih144 y1 y2 (jxw (y3 + 1)) a b (show (((8 - (jxw (y3 + 1))) * 1) + 0).toNat < n from by omega) hv hf (show 0 ≤ y1 from by omega) (show y1 ≤ 8 from by omega) (show 0 ≤ jxw (y3 + 1) from by omega) (show jxw (y3 + 1) ≤ 8 from by omega) (show (a0 0 9 = 0 → y1 = 0) from by omega) (show (a0 0 9 = 0 → y2 = 0) from by omega)
      ·
        refine jt_grd (by omega) ?_
        refine jt_bI (sp_X11_send E d (jd_le hd rfl) (a 77 (y3.toNat)) (f_X2_receiverOf a b y3) (-1) a b hv) (fun r1128_ a1128_ b1128_ h1128_ => ?_)
        obtain ⟨hv1128_, hf1128_, rfl⟩ := h1128_
        have hf1129_ : jfr jW_X11_give a0 a1128_ := jfr_tr hf hf1128_ rfl
        exact hc179 y1 y2 y3 a1128_ b (show (((8 - y3) * 1) + 0).toNat ≤ n from by omega) hv1128_ hf1129_ (show 1 ≤ y1 from by omega) (show y1 ≤ 8 from by omega) (show 0 ≤ y3 from by omega) (show y3 ≤ 7 from by omega) (show (a0 0 9 = 0 → y1 = 0) from by omega) (show (a0 0 9 = 0 → y2 = 0) from by omega)
    ·
      exact jt_rI ⟨hv, hf, (show (a0 0 9 = 0 → y2 = 0) from by omega)⟩
  exact ⟨hc179, hc144⟩
theorem cp_X11_give_51 (E : jxE) (d : Nat) (hd : Nat.ble 8 (d + 1) = true) (a0 b0 : Nat → Nat → Int) (hv0 : iv a0) (hp0 : WISHR a0) : ∀ n : Nat, (∀ (y1 y2 y3 : Int) (a b : Nat → Nat → Int), (((((40 - y2) * 11) + 0) + ((8 - y3) * 1)) + 0).toNat ≤ n → iv a → jfr jW_X11_give a0 a → 1 ≤ y1 → y1 ≤ 8 → 0 ≤ y2 → y2 ≤ 39 → 0 ≤ y3 → y3 ≤ 7 → (a0 0 9 = 0 → y1 = 0) → jt (jxX E d 168 113 [some (.inr (.inr (.inl 0))), some (.inl y1), some (.inl y2), some (.inl y3), none] [] (jxSH, a, b)) (jQ_X11_give a0 b0)) ∧ (∀ (y1 y2 y3 : Int) (a b : Nat → Nat → Int), (((((40 - y2) * 11) + 0) + ((8 - y3) * 1)) + 0).toNat ≤ n → iv a → jfr jW_X11_give a0 a → 1 ≤ y1 → y1 ≤ 8 → 0 ≤ y2 → y2 ≤ 39 → 0 ≤ y3 → y3 ≤ 7 → (a0 0 9 = 0 → y1 = 0) → jt (jxX E d 168 89 [some (.inr (.inr (.inl 0))), some (.inl y1), some (.inl y2), some (.inl y3), none] [] (jxSH, a, b)) (jQ_X11_give a0 b0)) ∧ (∀ (y1 y2 y3 : Int) (a b : Nat → Nat → Int), (((((40 - y2) * 11) + 0) + ((8 - y3) * 1)) + 0).toNat ≤ n → iv a → jfr jW_X11_give a0 a → 0 ≤ y1 → y1 ≤ 8 → 0 ≤ y2 → y2 ≤ 39 → 0 ≤ y3 → y3 ≤ 8 → (a0 0 9 = 0 → y1 = 0) → jt (jxX E d 168 64 [some (.inr (.inr (.inl 0))), some (.inl y1), some (.inl y2), some (.inl y3), none] [] (jxSH, a, b)) (jQ_X11_give a0 b0)) ∧ (∀ (y1 y2 : Int) (a b : Nat → Nat → Int), (((40 - y2) * 11) + 10).toNat ≤ n → iv a → jfr jW_X11_give a0 a → 0 ≤ y1 → y1 ≤ 8 → 0 ≤ y2 → y2 ≤ 40 → (a0 0 9 = 0 → y1 = 0) → jt (jxX E d 168 51 [some (.inr (.inr (.inl 0))), some (.inl y1), some (.inl y2), none, none] [] (jxSH, a, b)) (jQ_X11_give a0 b0)) := by
  refine jx_ind fun n ih => ?_
  have ih113 : ∀ (y1 y2 y3 : Int) (a b : Nat → Nat → Int), (((((40 - y2) * 11) + 0) + ((8 - y3) * 1)) + 0).toNat < n → iv a → jfr jW_X11_give a0 a → 1 ≤ y1 → y1 ≤ 8 → 0 ≤ y2 → y2 ≤ 39 → 0 ≤ y3 → y3 ≤ 7 → (a0 0 9 = 0 → y1 = 0) → jt (jxX E d 168 113 [some (.inr (.inr (.inl 0))), some (.inl y1), some (.inl y2), some (.inl y3), none] [] (jxSH, a, b)) (jQ_X11_give a0 b0) := fun y1 y2 y3 a b hlt i0 i1 i2 i3 i4 i5 i6 i7 i8 => (ih _ hlt).1 y1 y2 y3 a b (Nat.le_refl _) i0 i1 i2 i3 i4 i5 i6 i7 i8
  have ih89 : ∀ (y1 y2 y3 : Int) (a b : Nat → Nat → Int), (((((40 - y2) * 11) + 0) + ((8 - y3) * 1)) + 0).toNat < n → iv a → jfr jW_X11_give a0 a → 1 ≤ y1 → y1 ≤ 8 → 0 ≤ y2 → y2 ≤ 39 → 0 ≤ y3 → y3 ≤ 7 → (a0 0 9 = 0 → y1 = 0) → jt (jxX E d 168 89 [some (.inr (.inr (.inl 0))), some (.inl y1), some (.inl y2), some (.inl y3), none] [] (jxSH, a, b)) (jQ_X11_give a0 b0) := fun y1 y2 y3 a b hlt i0 i1 i2 i3 i4 i5 i6 i7 i8 => (ih _ hlt).2.1 y1 y2 y3 a b (Nat.le_refl _) i0 i1 i2 i3 i4 i5 i6 i7 i8
  have ih64 : ∀ (y1 y2 y3 : Int) (a b : Nat → Nat → Int), (((((40 - y2) * 11) + 0) + ((8 - y3) * 1)) + 0).toNat < n → iv a → jfr jW_X11_give a0 a → 0 ≤ y1 → y1 ≤ 8 → 0 ≤ y2 → y2 ≤ 39 → 0 ≤ y3 → y3 ≤ 8 → (a0 0 9 = 0 → y1 = 0) → jt (jxX E d 168 64 [some (.inr (.inr (.inl 0))), some (.inl y1), some (.inl y2), some (.inl y3), none] [] (jxSH, a, b)) (jQ_X11_give a0 b0) := fun y1 y2 y3 a b hlt i0 i1 i2 i3 i4 i5 i6 i7 i8 => (ih _ hlt).2.2.1 y1 y2 y3 a b (Nat.le_refl _) i0 i1 i2 i3 i4 i5 i6 i7 i8
  have ih51 : ∀ (y1 y2 : Int) (a b : Nat → Nat → Int), (((40 - y2) * 11) + 10).toNat < n → iv a → jfr jW_X11_give a0 a → 0 ≤ y1 → y1 ≤ 8 → 0 ≤ y2 → y2 ≤ 40 → (a0 0 9 = 0 → y1 = 0) → jt (jxX E d 168 51 [some (.inr (.inr (.inl 0))), some (.inl y1), some (.inl y2), none, none] [] (jxSH, a, b)) (jQ_X11_give a0 b0) := fun y1 y2 a b hlt i0 i1 i2 i3 i4 i5 i6 => (ih _ hlt).2.2.2 y1 y2 a b (Nat.le_refl _) i0 i1 i2 i3 i4 i5 i6
  have hc113 : ∀ (y1 y2 y3 : Int) (a b : Nat → Nat → Int), (((((40 - y2) * 11) + 0) + ((8 - y3) * 1)) + 0).toNat ≤ n → iv a → jfr jW_X11_give a0 a → 1 ≤ y1 → y1 ≤ 8 → 0 ≤ y2 → y2 ≤ 39 → 0 ≤ y3 → y3 ≤ 7 → (a0 0 9 = 0 → y1 = 0) → jt (jxX E d 168 113 [some (.inr (.inr (.inl 0))), some (.inl y1), some (.inl y2), some (.inl y3), none] [] (jxSH, a, b)) (jQ_X11_give a0 b0) := by
    intro y1 y2 y3 a b hm hv hf hi0 hi1 hi2 hi3 hi4 hi5 hi6
    refine jt_eq (bq_X11_give_113 E d y1 y2 y3 a b) ?_
    have h1130_ := iv_get hv0 (k := 0) (j := 9) (l := 0) (u := 8) rfl
    have h1131_ : jxw (y3 + 1) = y3 + 1 := jxw_id (by omega) (by omega)
    exact ih64 y1 y2 (jxw (y3 + 1)) a b (show (((((40 - y2) * 11) + 0) + ((8 - (jxw (y3 + 1))) * 1)) + 0).toNat < n from by omega) hv hf (show 0 ≤ y1 from by omega) (show y1 ≤ 8 from by omega) (show 0 ≤ y2 from by omega) (show y2 ≤ 39 from by omega) (show 0 ≤ jxw (y3 + 1) from by omega) (show jxw (y3 + 1) ≤ 8 from by omega) (show (a0 0 9 = 0 → y1 = 0) from by omega)
  have hc89 : ∀ (y1 y2 y3 : Int) (a b : Nat → Nat → Int), (((((40 - y2) * 11) + 0) + ((8 - y3) * 1)) + 0).toNat ≤ n → iv a → jfr jW_X11_give a0 a → 1 ≤ y1 → y1 ≤ 8 → 0 ≤ y2 → y2 ≤ 39 → 0 ≤ y3 → y3 ≤ 7 → (a0 0 9 = 0 → y1 = 0) → jt (jxX E d 168 89 [some (.inr (.inr (.inl 0))), some (.inl y1), some (.inl y2), some (.inl y3), none] [] (jxSH, a, b)) (jQ_X11_give a0 b0) := by
    intro y1 y2 y3 a b hm hv hf hi0 hi1 hi2 hi3 hi4 hi5 hi6
    refine jt_eq (bq_X11_give_89 E d y1 y2 y3 a b) ?_
    have h1132_ := iv_get hv0 (k := 0) (j := 9) (l := 0) (u := 8) rfl
    refine jt_grd (by omega) ?_
    refine jt_bI (sp_X11_unhappy E d (jd_le hd rfl) (a 77 (y3.toNat)) y2 a b hv (WISHR_fr hp0 hf (fun _ => rfl) (fun _ => rfl) (fun _ => rfl) (fun _ => rfl))) (fun r1133_ a1133_ b1133_ h1133_ => ?_)
    obtain ⟨rfl, rfl⟩ := h1133_
    refine jt_eI (eq_X11_owed E d (jd_le hd rfl) y2 a b) ?_
    refine jt_bV (sp_X2_allow E d (jd_le hd rfl) y3 r1133_ (f_X11_owed a b y2) a b hv) (fun a1134_ b1134_ h1134_ => ?_)
    subst h1134_
    exact hc113 y1 y2 y3 a b1134_ (show (((((40 - y2) * 11) + 0) + ((8 - y3) * 1)) + 0).toNat ≤ n from by omega) hv hf (show 1 ≤ y1 from by omega) (show y1 ≤ 8 from by omega) (show 0 ≤ y2 from by omega) (show y2 ≤ 39 from by omega) (show 0 ≤ y3 from by omega) (show y3 ≤ 7 from by omega) (show (a0 0 9 = 0 → y1 = 0) from by omega)
  have hc64 : ∀ (y1 y2 y3 : Int) (a b : Nat → Nat → Int), (((((40 - y2) * 11) + 0) + ((8 - y3) * 1)) + 0).toNat ≤ n → iv a → jfr jW_X11_give a0 a → 0 ≤ y1 → y1 ≤ 8 → 0 ≤ y2 → y2 ≤ 39 → 0 ≤ y3 → y3 ≤ 8 → (a0 0 9 = 0 → y1 = 0) → jt (jxX E d 168 64 [some (.inr (.inr (.inl 0))), some (.inl y1), some (.inl y2), some (.inl y3), none] [] (jxSH, a, b)) (jQ_X11_give a0 b0) := by
    intro y1 y2 y3 a b hm hv hf hi0 hi1 hi2 hi3 hi4 hi5 hi6
    refine jt_eq (bq_X11_give_64 E d y1 y2 y3 a b) ?_
    have h1135_ := iv_get hv0 (k := 0) (j := 9) (l := 0) (u := 8) rfl
    refine jt_ite (fun c1136_ => ?_) (fun c1136_ => ?_)
    ·
      refine jt_grd (by omega) ?_
      refine jt_grd (by omega) ?_
      refine jt_bI (sp_X11_mayGet E d (jd_le hd rfl) (a 77 (y3.toNat)) y2 (b 78 (y3.toNat)) a b hv (WISHR_fr hp0 hf (fun _ => rfl) (fun _ => rfl) (fun _ => rfl) (fun _ => rfl))) (fun r1137_ a1137_ b1137_ h1137_ => ?_)
      obtain ⟨rfl, rfl, hq1137_0⟩ := h1137_
      refine jt_ite (fun c1138_ => ?_) (fun c1138_ => ?_)
      ·
        exact hc113 y1 y2 y3 a b (show (((((40 - y2) * 11) + 0) + ((8 - y3) * 1)) + 0).toNat ≤ n from by omega) hv hf (show 1 ≤ y1 from by omega) (show y1 ≤ 8 from by omega) (show 0 ≤ y2 from by omega) (show y2 ≤ 39 from by omega) (show 0 ≤ y3 from by omega) (show y3 ≤ 7 from by omega) (show (a0 0 9 = 0 → y1 = 0) from by omega)
      ·
        exact hc89 y1 y2 y3 a b (show (((((40 - y2) * 11) + 0) + ((8 - y3) * 1)) + 0).toNat ≤ n from by omega) hv hf (show 1 ≤ y1 from by omega) (show y1 ≤ 8 from by omega) (show 0 ≤ y2 from by omega) (show y2 ≤ 39 from by omega) (show 0 ≤ y3 from by omega) (show y3 ≤ 7 from by omega) (show (a0 0 9 = 0 → y1 = 0) from by omega)
    ·
      refine jt_bV (sp_X2_tryReceiver E d (jd_le hd rfl) y2 a b hv) (fun a1139_ b1139_ h1139_ => ?_)
      subst h1139_
      have h1140_ : jxw (y2 + 1) = y2 + 1 := jxw_id (by omega) (by omega)
      exact ih51 y1 (jxw (y2 + 1)) a b1139_ (show (((40 - (jxw (y2 + 1))) * 11) + 10).toNat < n from by omega) hv hf (show 0 ≤ y1 from by omega) (show y1 ≤ 8 from by omega) (show 0 ≤ jxw (y2 + 1) from by omega) (show jxw (y2 + 1) ≤ 40 from by omega) (show (a0 0 9 = 0 → y1 = 0) from by omega)
  have hc51 : ∀ (y1 y2 : Int) (a b : Nat → Nat → Int), (((40 - y2) * 11) + 10).toNat ≤ n → iv a → jfr jW_X11_give a0 a → 0 ≤ y1 → y1 ≤ 8 → 0 ≤ y2 → y2 ≤ 40 → (a0 0 9 = 0 → y1 = 0) → jt (jxX E d 168 51 [some (.inr (.inr (.inl 0))), some (.inl y1), some (.inl y2), none, none] [] (jxSH, a, b)) (jQ_X11_give a0 b0) := by
    intro y1 y2 a b hm hv hf hi0 hi1 hi2 hi3 hi4
    refine jt_eq (bq_X11_give_51 E d y1 y2 a b) ?_
    have h1141_ := iv_get hv0 (k := 0) (j := 9) (l := 0) (u := 8) rfl
    refine jt_eI (eq_X3_size E d (jd_le hd rfl) a b) ?_
    have h1142_ := f_X3_size_eq a b
    have h1143_ := iv_get hv (k := 4) (j := 6) (l := 0) (u := 40) rfl
    have h1144_ : a 4 6 = a0 4 6 := hf 4 6 rfl
    have h1145_ := iv_get hv0 (k := 4) (j := 6) (l := 0) (u := 40) rfl
    refine jt_ite (fun c1146_ => ?_) (fun c1146_ => ?_)
    ·
      exact hc64 y1 y2 0 a b (show (((((40 - y2) * 11) + 0) + ((8 - 0) * 1)) + 0).toNat ≤ n from by omega) hv hf (show 0 ≤ y1 from by omega) (show y1 ≤ 8 from by omega) (show 0 ≤ y2 from by omega) (show y2 ≤ 39 from by omega) (show 0 ≤ 0 from by omega) (show 0 ≤ 8 from by omega) (show (a0 0 9 = 0 → y1 = 0) from by omega)
    ·
      refine jt_bV (sp_X2_finish E d (jd_le hd rfl) a b hv) (fun a1147_ b1147_ h1147_ => ?_)
      subst h1147_
      exact (cp_X11_give_144 E d hd a0 b0 hv0 hp0 _).2 y1 0 0 a b1147_ (Nat.le_refl _) hv hf (show 0 ≤ y1 from by omega) (show y1 ≤ 8 from by omega) (show 0 ≤ 0 from by omega) (show 0 ≤ 8 from by omega) (show (a0 0 9 = 0 → y1 = 0) from by omega) (show (a0 0 9 = 0 → 0 = 0) from by omega)
  exact ⟨hc113, hc89, hc64, hc51⟩
theorem cp_X11_give_36 (E : jxE) (d : Nat) (hd : Nat.ble 8 (d + 1) = true) (a0 b0 : Nat → Nat → Int) (hv0 : iv a0) (hp0 : WISHR a0) : ∀ (y1 : Int) (a b : Nat → Nat → Int), iv a → jfr jW_X11_give a0 a → 0 ≤ y1 → y1 ≤ 8 → (a0 0 9 = 0 → y1 = 0) → jt (jxX E d 168 36 [some (.inr (.inr (.inl 0))), some (.inl y1), none, none, none] [] (jxSH, a, b)) (jQ_X11_give a0 b0) := by
  intro y1 a b hv hf hi0 hi1 hi2
  refine jt_eq (bq_X11_give_36 E d y1 a b) ?_
  have h1148_ := iv_get hv0 (k := 0) (j := 9) (l := 0) (u := 8) rfl
  have hv1149_ : iv (jxu a 0 9 0) := iv_put hv (l := 0) (u := 8) rfl (by omega) (by omega)
  refine jt_bV (sp_X2_begin E d (jd_le hd rfl) y1 (jxu a 0 9 0) b hv1149_) (fun a1150_ b1150_ h1150_ => ?_)
  obtain ⟨hv1150_, hf1150_⟩ := h1150_
  have hf1151_ : jfr jW_X11_give a0 (jxu a 0 9 0) := jfr_put hf rfl
  have hf1152_ : jfr jW_X11_give a0 a1150_ := jfr_tr hf1151_ hf1150_ rfl
  exact (cp_X11_give_51 E d hd a0 b0 hv0 hp0 _).2.2.2 y1 0 a1150_ b1150_ (Nat.le_refl _) hv1150_ hf1152_ (show 0 ≤ y1 from by omega) (show y1 ≤ 8 from by omega) (show 0 ≤ 0 from by omega) (show 0 ≤ 40 from by omega) (show (a0 0 9 = 0 → y1 = 0) from by omega)
theorem sp_X11_give (E : jxE) (d : Nat) (hd : Nat.ble 8 d = true) (a0 b0 : Nat → Nat → Int) (hv0 : iv a0) (hp0 : WISHR a0) : jt (jxC E d 168 [.inr (.inr (.inl 0))] (jxSH, a0, b0)) (jQ_X11_give a0 b0) := by
  obtain ⟨d, rfl⟩ := jd_succ hd
  refine jt_eq (bq_X11_give E d a0 b0) ?_
  refine jt_eI (eq_X0_hasRoom E d (jd_le hd rfl) (a0 0 9) a0 b0) ?_
  have h1153_ := iv_get hv0 (k := 0) (j := 9) (l := 0) (u := 8) rfl
  have h1154_ := f_X0_hasRoom_eq a0 b0 (a0 0 9)
  have h1155_ := iv_get hv0 (k := 58) (j := 8) (l := 0) (u := 300) rfl
  have h1156_ : jxw (300 - (a0 58 8)) = 300 - (a0 58 8) := jxw_id (by omega) (by omega)
  refine jt_ite (fun c1157_ => ?_) (fun c1157_ => ?_)
  ·
    exact jt_rI ⟨hv0, (jfr_rf _ _), (show (a0 0 9 = 0 → (-1) = 0) from by omega)⟩
  ·
    refine jt_bV (sp_X7_take_r58 E d (jd_le hd rfl) (a0 0 0) a0 b0 hv0) (fun a1158_ b1158_ h1158_ => ?_)
    obtain ⟨hv1158_, hf1158_, rfl⟩ := h1158_
    refine jt_bI (sp_X11_gatherAskers E d (jd_le hd rfl) a1158_ b0 hv1158_) (fun r1159_ a1159_ b1159_ h1159_ => ?_)
    obtain ⟨hv1159_, hf1159_, hq1159_0, hq1159_1, hq1159_2⟩ := h1159_
    have h1160_ := iv_get hv1158_ (k := 0) (j := 9) (l := 0) (u := 8) rfl
    have h1161_ : a1158_ 0 9 = a0 0 9 := hf1158_ 0 9 rfl
    have hf1162_ : jfr jW_X11_give a0 a1158_ := jfr_tr (jfr_rf _ _) hf1158_ rfl
    have hf1163_ : jfr jW_X11_give a0 a1159_ := jfr_tr hf1162_ hf1159_ rfl
    exact cp_X11_give_36 E d hd a0 b0 hv0 hp0 r1159_ a1159_ b1159_ hv1159_ hf1163_ (show 0 ≤ r1159_ from by omega) (show r1159_ ≤ 8 from by omega) (show (a0 0 9 = 0 → r1159_ = 0) from by omega)
def jW_X3_goAway : List (Nat × Nat) := [(10, 9999)]
abbrev jQ_X3_goAway (x1 : Int) (a0 b0 : Nat → Nat → Int) : List jxV → (Nat → Nat → Int) → (Nat → Nat → Int) → Prop := rV (fun a b => (iv a) ∧ (jfr jW_X3_goAway a0 a) ∧ (b0 = b) ∧ (0 ≤ x1 ∧ x1 < a0 4 6 ∧ x1 < 40 → UP (a0 10) (a 10) x1.toNat 0))
theorem sp_X3_goAway (E : jxE) (d : Nat) (hd : Nat.ble 2 d = true) (x1 : Int) (a0 b0 : Nat → Nat → Int) (hv0 : iv a0) : jt (jxC E d 55 [.inr (.inr (.inl 4)), .inl x1] (jxSH, a0, b0)) (jQ_X3_goAway x1 a0 b0) := by
  obtain ⟨d, rfl⟩ := jd_succ hd
  refine jt_eq (bq_X3_goAway E d x1 a0 b0) ?_
  refine jt_eI (eq_X3_has E d (jd_le hd rfl) x1 a0 b0) ?_
  have h1164_ := f_X3_has_eq a0 b0 x1
  have h1165_ := iv_get hv0 (k := 4) (j := 6) (l := 0) (u := 40) rfl
  refine jt_ite (fun c1166_ => ?_) (fun c1166_ => ?_)
  ·
    exact jt_rV ⟨hv0, (jfr_rf _ _), rfl, (by first | (intro h; exact absurd h (by omega)) | (intro _; exact UP_put (fun _ => rfl)))⟩
  ·
    refine jt_grd (by omega) ?_
    have hv1167_ : iv (jxu a0 10 (x1.toNat) 0) := iv_putf hv0 rfl
    have hf1168_ : jfr jW_X3_goAway a0 (jxu a0 10 (x1.toNat) 0) := jfr_put (jfr_rf _ _) rfl
    exact jt_rV ⟨hv1167_, hf1168_, rfl, (by first | (intro h; exact absurd h (by omega)) | (intro _; exact UP_put (fun _ => rfl)))⟩
def jW_X11_leave : List (Nat × Nat) := [(9, 9999), (10, 9999), (64, 9999), (87, 9999), (88, 9999), (89, 9999)]
abbrev jQ_X11_leave (x1 : Int) (a0 b0 : Nat → Nat → Int) : List jxV → (Nat → Nat → Int) → (Nat → Nat → Int) → Prop := rI (fun r a b => (iv a) ∧ (jfr jW_X11_leave a0 a) ∧ (b0 = b) ∧ ((a0 4 6 = 0 → r = 0 - 1)) ∧ (0 ≤ x1 ∧ x1 < a0 4 6 ∧ ¬ a0 10 x1.toNat = 0 → UP (a0 10) (a 10) x1.toNat 0) ∧ (x1 < 0 ∨ a0 4 6 ≤ x1 ∨ a0 10 x1.toNat = 0 → ∀ j, a 10 j = a0 10 j))
theorem cp_X11_leave_29 (E : jxE) (d : Nat) (hd : Nat.ble 5 (d + 1) = true) (x1 : Int) (a0 b0 : Nat → Nat → Int) (hv0 : iv a0) : ∀ n : Nat, (∀ (y1 y2 y3 : Int) (a : Nat → Nat → Int), (((20 - y3) * 1) + 0).toNat ≤ n → iv a → jfr jW_X11_leave a0 a → 0 ≤ y1 → y1 ≤ 39 → 0 ≤ y3 → y3 ≤ 19 → (UP (a0 10) (a 10) x1.toNat 0) → 1 ≤ a0 4 6 → ((0 ≤ x1 ∧ x1 < a0 4 6) ∧ ¬ a0 10 (x1.toNat) = 0) → jt (jxX E d 157 60 [some (.inr (.inr (.inl 0))), some (.inl y1), some (.inl y2), some (.inl y3)] [] (jxSH, a, b0)) (jQ_X11_leave x1 a0 b0)) ∧ (∀ (y1 y2 y3 : Int) (a : Nat → Nat → Int), (((20 - y3) * 1) + 0).toNat ≤ n → iv a → jfr jW_X11_leave a0 a → 0 ≤ y1 → y1 ≤ 39 → 0 ≤ y3 → y3 ≤ 20 → (UP (a0 10) (a 10) x1.toNat 0) → 1 ≤ a0 4 6 → ((0 ≤ x1 ∧ x1 < a0 4 6) ∧ ¬ a0 10 (x1.toNat) = 0) → jt (jxX E d 157 29 [some (.inr (.inr (.inl 0))), some (.inl y1), some (.inl y2), some (.inl y3)] [] (jxSH, a, b0)) (jQ_X11_leave x1 a0 b0)) := by
  refine jx_ind fun n ih => ?_
  have ih60 : ∀ (y1 y2 y3 : Int) (a : Nat → Nat → Int), (((20 - y3) * 1) + 0).toNat < n → iv a → jfr jW_X11_leave a0 a → 0 ≤ y1 → y1 ≤ 39 → 0 ≤ y3 → y3 ≤ 19 → (UP (a0 10) (a 10) x1.toNat 0) → 1 ≤ a0 4 6 → ((0 ≤ x1 ∧ x1 < a0 4 6) ∧ ¬ a0 10 (x1.toNat) = 0) → jt (jxX E d 157 60 [some (.inr (.inr (.inl 0))), some (.inl y1), some (.inl y2), some (.inl y3)] [] (jxSH, a, b0)) (jQ_X11_leave x1 a0 b0) := fun y1 y2 y3 a hlt i0 i1 i2 i3 i4 i5 i6 i7 i8 => (ih _ hlt).1 y1 y2 y3 a (Nat.le_refl _) i0 i1 i2 i3 i4 i5 i6 i7 i8
  have ih29 : ∀ (y1 y2 y3 : Int) (a : Nat → Nat → Int), (((20 - y3) * 1) + 0).toNat < n → iv a → jfr jW_X11_leave a0 a → 0 ≤ y1 → y1 ≤ 39 → 0 ≤ y3 → y3 ≤ 20 → (UP (a0 10) (a 10) x1.toNat 0) → 1 ≤ a0 4 6 → ((0 ≤ x1 ∧ x1 < a0 4 6) ∧ ¬ a0 10 (x1.toNat) = 0) → jt (jxX E d 157 29 [some (.inr (.inr (.inl 0))), some (.inl y1), some (.inl y2), some (.inl y3)] [] (jxSH, a, b0)) (jQ_X11_leave x1 a0 b0) := fun y1 y2 y3 a hlt i0 i1 i2 i3 i4 i5 i6 i7 i8 => (ih _ hlt).2 y1 y2 y3 a (Nat.le_refl _) i0 i1 i2 i3 i4 i5 i6 i7 i8
  have hc60 : ∀ (y1 y2 y3 : Int) (a : Nat → Nat → Int), (((20 - y3) * 1) + 0).toNat ≤ n → iv a → jfr jW_X11_leave a0 a → 0 ≤ y1 → y1 ≤ 39 → 0 ≤ y3 → y3 ≤ 19 → (UP (a0 10) (a 10) x1.toNat 0) → 1 ≤ a0 4 6 → ((0 ≤ x1 ∧ x1 < a0 4 6) ∧ ¬ a0 10 (x1.toNat) = 0) → jt (jxX E d 157 60 [some (.inr (.inr (.inl 0))), some (.inl y1), some (.inl y2), some (.inl y3)] [] (jxSH, a, b0)) (jQ_X11_leave x1 a0 b0) := by
    intro y1 y2 y3 a hm hv hf hi0 hi1 hi2 hi3 hu10 hi5 hi6
    refine jt_eq (bq_X11_leave_60 E d y1 y2 y3 a b0) ?_
    have h1169_ := iv_get hv0 (k := 4) (j := 6) (l := 0) (u := 40) rfl
    have h1170_ : jxw (y3 + 1) = y3 + 1 := jxw_id (by omega) (by omega)
    exact ih29 y1 y2 (jxw (y3 + 1)) a (show (((20 - (jxw (y3 + 1))) * 1) + 0).toNat < n from by omega) hv hf (show 0 ≤ y1 from by omega) (show y1 ≤ 39 from by omega) (show 0 ≤ jxw (y3 + 1) from by omega) (show jxw (y3 + 1) ≤ 20 from by omega) (UP_cr hu10 (fun j => rfl)) (show 1 ≤ a0 4 6 from by omega) (show ((0 ≤ x1 ∧ x1 < a0 4 6) ∧ ¬ a0 10 (x1.toNat) = 0) from by omega)
  have hc29 : ∀ (y1 y2 y3 : Int) (a : Nat → Nat → Int), (((20 - y3) * 1) + 0).toNat ≤ n → iv a → jfr jW_X11_leave a0 a → 0 ≤ y1 → y1 ≤ 39 → 0 ≤ y3 → y3 ≤ 20 → (UP (a0 10) (a 10) x1.toNat 0) → 1 ≤ a0 4 6 → ((0 ≤ x1 ∧ x1 < a0 4 6) ∧ ¬ a0 10 (x1.toNat) = 0) → jt (jxX E d 157 29 [some (.inr (.inr (.inl 0))), some (.inl y1), some (.inl y2), some (.inl y3)] [] (jxSH, a, b0)) (jQ_X11_leave x1 a0 b0) := by
    intro y1 y2 y3 a hm hv hf hi0 hi1 hi2 hi3 hu10 hi5 hi6
    refine jt_eq (bq_X11_leave_29 E d y1 y2 y3 a b0) ?_
    have h1171_ := iv_get hv0 (k := 4) (j := 6) (l := 0) (u := 40) rfl
    refine jt_eI (eq_X4_size E d (jd_le hd rfl) a b0) ?_
    have h1172_ := f_X4_size_eq a b0
    have h1173_ := iv_get hv (k := 83) (j := 6) (l := 0) (u := 20) rfl
    have h1174_ : a 83 6 = a0 83 6 := hf 83 6 rfl
    have h1175_ := iv_get hv0 (k := 83) (j := 6) (l := 0) (u := 20) rfl
    refine jt_ite (fun c1176_ => ?_) (fun c1176_ => ?_)
    ·
      refine jt_eI (eq_X4_memberOf E d (jd_le hd rfl) y3 a b0) ?_
      have h1177_ := f_X4_memberOf_eq a b0 y3
      have h1178_ := f_X11_entry_r84_eq a b0 (a 83 6) y3
      have h1179_ : a 84 (y3.toNat) = a0 84 (y3.toNat) := hf 84 (y3.toNat) rfl
      refine jt_ite (fun c1180_ => ?_) (fun c1180_ => ?_)
      ·
        refine jt_bI (sp_X11_withdraw E d (jd_le hd rfl) y3 a b0 hv) (fun r1181_ a1181_ b1181_ h1181_ => ?_)
        obtain ⟨hv1181_, hf1181_, rfl⟩ := h1181_
        have hf1182_ : jfr jW_X11_leave a0 a1181_ := jfr_tr hf hf1181_ rfl
        exact hc60 y1 (jxw (y2 + r1181_)) y3 a1181_ (show (((20 - y3) * 1) + 0).toNat ≤ n from by omega) hv1181_ hf1182_ (show 0 ≤ y1 from by omega) (show y1 ≤ 39 from by omega) (show 0 ≤ y3 from by omega) (show y3 ≤ 19 from by omega) (UP_cr hu10 (fun j => (hf1181_ 10 j rfl))) (show 1 ≤ a0 4 6 from by omega) (show ((0 ≤ x1 ∧ x1 < a0 4 6) ∧ ¬ a0 10 (x1.toNat) = 0) from by omega)
      ·
        exact hc60 y1 y2 y3 a (show (((20 - y3) * 1) + 0).toNat ≤ n from by omega) hv hf (show 0 ≤ y1 from by omega) (show y1 ≤ 39 from by omega) (show 0 ≤ y3 from by omega) (show y3 ≤ 19 from by omega) (UP_cr hu10 (fun j => rfl)) (show 1 ≤ a0 4 6 from by omega) (show ((0 ≤ x1 ∧ x1 < a0 4 6) ∧ ¬ a0 10 (x1.toNat) = 0) from by omega)
    ·
      exact jt_rI ⟨hv, hf, rfl, (show (a0 4 6 = 0 → y2 = 0 - 1) from by omega), (fun _ => (UP_cr hu10 (fun j => rfl))), (fun h => absurd h (by omega))⟩
  exact ⟨hc60, hc29⟩
theorem sp_X11_leave (E : jxE) (d : Nat) (hd : Nat.ble 5 d = true) (x1 : Int) (a0 b0 : Nat → Nat → Int) (hv0 : iv a0) : jt (jxC E d 157 [.inr (.inr (.inl 0)), .inl x1] (jxSH, a0, b0)) (jQ_X11_leave x1 a0 b0) := by
  obtain ⟨d, rfl⟩ := jd_succ hd
  refine jt_eq (bq_X11_leave E d x1 a0 b0) ?_
  refine jt_eI (eq_X3_isThere E d (jd_le hd rfl) x1 a0 b0) ?_
  have h1183_ := f_X3_isThere_eq a0 b0 x1
  have h1184_ := f_X3_has_eq a0 b0 x1
  have h1185_ := iv_get hv0 (k := 4) (j := 6) (l := 0) (u := 40) rfl
  refine jt_ite (fun c1186_ => ?_) (fun c1186_ => ?_)
  ·
    exact jt_rI ⟨hv0, (jfr_rf _ _), rfl, (show (a0 4 6 = 0 → (-1) = 0 - 1) from by omega), (fun h => absurd h (by omega)), (fun _ j => rfl)⟩
  ·
    refine jt_bV (sp_X3_goAway E d (jd_le hd rfl) x1 a0 b0 hv0) (fun a1187_ b1187_ h1187_ => ?_)
    obtain ⟨hv1187_, hf1187_, rfl, hq1187_0⟩ := h1187_
    refine jt_bI (sp_X11_cancelCardsTo E d (jd_le hd rfl) x1 a1187_ b0 hv1187_) (fun r1188_ a1188_ b1188_ h1188_ => ?_)
    obtain ⟨hv1188_, hf1188_, rfl⟩ := h1188_
    have hf1189_ : jfr jW_X11_leave a0 a1187_ := jfr_tr (jfr_rf _ _) hf1187_ rfl
    have hf1190_ : jfr jW_X11_leave a0 a1188_ := jfr_tr hf1189_ hf1188_ rfl
    exact (cp_X11_leave_29 E d hd x1 a0 b0 hv0 _).2 x1 r1188_ 0 a1188_ (Nat.le_refl _) hv1188_ hf1190_ (show 0 ≤ x1 from by omega) (show x1 ≤ 39 from by omega) (show 0 ≤ 0 from by omega) (show 0 ≤ 20 from by omega) (UP_cr (hq1187_0 (by omega)) (fun j => (hf1188_ 10 j rfl))) (show 1 ≤ a0 4 6 from by omega) (show ((0 ≤ x1 ∧ x1 < a0 4 6) ∧ ¬ a0 10 (x1.toNat) = 0) from by omega)
def jW_X11_list : List (Nat × Nat) := [(0, 9), (76, 9999)]
abbrev jQ_X11_list (x1 : Int) (a0 b0 : Nat → Nat → Int) : List jxV → (Nat → Nat → Int) → (Nat → Nat → Int) → Prop := rI (fun r a b => (iv a) ∧ (jfr jW_X11_list a0 a) ∧ (b0 = b) ∧ ((a0 4 6 = 0 → r = 0 - 1)))
theorem cp_X11_list_67 (E : jxE) (d : Nat) (hd : Nat.ble 2 (d + 1) = true) (x1 : Int) (a0 b0 : Nat → Nat → Int) (hv0 : iv a0) : ∀ (a : Nat → Nat → Int), iv a → jfr jW_X11_list a0 a → 1 ≤ a 0 9 → 1 ≤ a0 4 6 → jt (jxX E d 167 67 [some (.inr (.inr (.inl 0))), none, none] [] (jxSH, a, b0)) (jQ_X11_list x1 a0 b0) := by
  intro a hv hf hi0 hi1
  refine jt_eq (bq_X11_list_67 E d a b0) ?_
  have h1191_ := iv_get hv (k := 0) (j := 9) (l := 0) (u := 8) rfl
  have h1192_ := iv_get hv0 (k := 4) (j := 6) (l := 0) (u := 40) rfl
  exact jt_rI ⟨hv, hf, rfl, (show (a0 4 6 = 0 → a 0 9 = 0 - 1) from by omega)⟩
theorem cp_X11_list_24 (E : jxE) (d : Nat) (hd : Nat.ble 2 (d + 1) = true) (x1 : Int) (a0 b0 : Nat → Nat → Int) (hv0 : iv a0) : ∀ n : Nat, (∀ (y1 y2 : Int) (a : Nat → Nat → Int), (((7 - y2) * 1) + 0).toNat ≤ n → iv a → jfr jW_X11_list a0 a → 0 ≤ y1 → y1 ≤ 39 → 0 ≤ y2 → y2 ≤ 7 → a 0 9 ≤ 7 → 1 ≤ a0 4 6 → jt (jxX E d 167 24 [some (.inr (.inr (.inl 0))), some (.inl y1), some (.inl y2)] [] (jxSH, a, b0)) (jQ_X11_list x1 a0 b0)) := by
  refine jx_ind fun n ih => ?_
  have ih24 : ∀ (y1 y2 : Int) (a : Nat → Nat → Int), (((7 - y2) * 1) + 0).toNat < n → iv a → jfr jW_X11_list a0 a → 0 ≤ y1 → y1 ≤ 39 → 0 ≤ y2 → y2 ≤ 7 → a 0 9 ≤ 7 → 1 ≤ a0 4 6 → jt (jxX E d 167 24 [some (.inr (.inr (.inl 0))), some (.inl y1), some (.inl y2)] [] (jxSH, a, b0)) (jQ_X11_list x1 a0 b0) := fun y1 y2 a hlt i0 i1 i2 i3 i4 i5 i6 i7 => (ih _ hlt) y1 y2 a (Nat.le_refl _) i0 i1 i2 i3 i4 i5 i6 i7
  have hc24 : ∀ (y1 y2 : Int) (a : Nat → Nat → Int), (((7 - y2) * 1) + 0).toNat ≤ n → iv a → jfr jW_X11_list a0 a → 0 ≤ y1 → y1 ≤ 39 → 0 ≤ y2 → y2 ≤ 7 → a 0 9 ≤ 7 → 1 ≤ a0 4 6 → jt (jxX E d 167 24 [some (.inr (.inr (.inl 0))), some (.inl y1), some (.inl y2)] [] (jxSH, a, b0)) (jQ_X11_list x1 a0 b0) := by
    intro y1 y2 a hm hv hf hi0 hi1 hi2 hi3 hi4 hi5
    refine jt_eq (bq_X11_list_24 E d y1 y2 a b0) ?_
    have h1193_ := iv_get hv (k := 0) (j := 9) (l := 0) (u := 8) rfl
    have h1194_ := iv_get hv0 (k := 4) (j := 6) (l := 0) (u := 40) rfl
    refine jt_ite (fun c1195_ => ?_) (fun c1195_ => ?_)
    ·
      refine jt_grd (by omega) ?_
      refine jt_ite (fun c1196_ => ?_) (fun c1196_ => ?_)
      ·
        exact jt_rI ⟨hv, hf, rfl, (show (a0 4 6 = 0 → (-1) = 0 - 1) from by omega)⟩
      ·
        have h1197_ : jxw (y2 + 1) = y2 + 1 := jxw_id (by omega) (by omega)
        exact ih24 y1 (jxw (y2 + 1)) a (show (((7 - (jxw (y2 + 1))) * 1) + 0).toNat < n from by omega) hv hf (show 0 ≤ y1 from by omega) (show y1 ≤ 39 from by omega) (show 0 ≤ jxw (y2 + 1) from by omega) (show jxw (y2 + 1) ≤ 7 from by omega) (show a 0 9 ≤ 7 from by omega) (show 1 ≤ a0 4 6 from by omega)
    ·
      refine jt_grd (by omega) ?_
      have h1199_ : jxw ((a 0 9) + 1) = (a 0 9) + 1 := jxw_id (by omega) (by omega)
      have hv1198_ : iv (jxu a 0 9 (jxw ((a 0 9) + 1))) := iv_put hv (l := 0) (u := 8) rfl (by omega) (by omega)
      have hv1200_ : iv (jxu (jxu a 0 9 (jxw ((a 0 9) + 1))) 76 ((a 0 9).toNat) y1) := iv_putf hv1198_ rfl
      have hf1201_ : jfr jW_X11_list a0 (jxu a 0 9 (jxw ((a 0 9) + 1))) := jfr_put hf rfl
      have hf1202_ : jfr jW_X11_list a0 (jxu (jxu a 0 9 (jxw ((a 0 9) + 1))) 76 ((a 0 9).toNat) y1) := jfr_put hf1201_ rfl
      exact cp_X11_list_67 E d hd x1 a0 b0 hv0 (jxu (jxu a 0 9 (jxw ((a 0 9) + 1))) 76 ((a 0 9).toNat) y1) hv1200_ hf1202_ (show 1 ≤ jxw ((a 0 9) + 1) from by omega) (show 1 ≤ a0 4 6 from by omega)
  exact hc24
theorem sp_X11_list (E : jxE) (d : Nat) (hd : Nat.ble 2 d = true) (x1 : Int) (a0 b0 : Nat → Nat → Int) (hv0 : iv a0) : jt (jxC E d 167 [.inr (.inr (.inl 0)), .inl x1] (jxSH, a0, b0)) (jQ_X11_list x1 a0 b0) := by
  obtain ⟨d, rfl⟩ := jd_succ hd
  refine jt_eq (bq_X11_list E d x1 a0 b0) ?_
  refine jt_eI (eq_X3_has E d (jd_le hd rfl) x1 a0 b0) ?_
  have h1203_ := f_X3_has_eq a0 b0 x1
  have h1204_ := iv_get hv0 (k := 4) (j := 6) (l := 0) (u := 40) rfl
  refine jt_ite (fun c1205_ => ?_) (fun c1205_ => ?_)
  ·
    exact jt_rI ⟨hv0, (jfr_rf _ _), rfl, (show (a0 4 6 = 0 → (-1) = 0 - 1) from by omega)⟩
  ·
    have h1206_ := iv_get hv0 (k := 0) (j := 9) (l := 0) (u := 8) rfl
    refine jt_ite (fun c1207_ => ?_) (fun c1207_ => ?_)
    ·
      exact (cp_X11_list_24 E d hd x1 a0 b0 hv0 _) x1 0 a0 (Nat.le_refl _) hv0 (jfr_rf _ _) (show 0 ≤ x1 from by omega) (show x1 ≤ 39 from by omega) (show 0 ≤ 0 from by omega) (show 0 ≤ 7 from by omega) (show a0 0 9 ≤ 7 from by omega) (show 1 ≤ a0 4 6 from by omega)
    ·
      exact jt_rI ⟨hv0, (jfr_rf _ _), rfl, (show (a0 4 6 = 0 → (-1) = 0 - 1) from by omega)⟩
def jW_X11_may : List (Nat × Nat) := [(70, 9999), (71, 9999), (72, 9999), (73, 9999), (74, 9999), (75, 9999)]
abbrev jQ_X11_may (x1 x2 : Int) (a0 b0 : Nat → Nat → Int) : List jxV → (Nat → Nat → Int) → (Nat → Nat → Int) → Prop := rI (fun r a b => (iv a) ∧ (jfr jW_X11_may a0 a) ∧ (b0 = b) ∧ ((a0 4 6 = 0 → r = 0 - 1)))
theorem cp_X11_may_39 (E : jxE) (d : Nat) (hd : Nat.ble 8 (d + 1) = true) (x1 x2 : Int) (a0 b0 : Nat → Nat → Int) (hv0 : iv a0) (hp0 : WISHR a0) : ∀ (y1 y2 : Int) (a : Nat → Nat → Int), iv a → jfr jW_X11_may a0 a → 0 ≤ y1 → y1 ≤ 39 → 0 ≤ y2 → y2 ≤ 39 → 1 ≤ a0 4 6 → jt (jxX E d 166 39 [some (.inr (.inr (.inl 0))), some (.inl y1), some (.inl y2)] [] (jxSH, a, b0)) (jQ_X11_may x1 x2 a0 b0) := by
  intro y1 y2 a hv hf hi0 hi1 hi2 hi3 hi4
  refine jt_eq (bq_X11_may_39 E d y1 y2 a b0) ?_
  have h1208_ := iv_get hv0 (k := 4) (j := 6) (l := 0) (u := 40) rfl
  refine jt_bJ (sp_X0_reachedBy E d (jd_le hd rfl) y1 a b0 hv) (fun r1209_ a1209_ b1209_ h1209_ => ?_)
  obtain ⟨rfl, rfl⟩ := h1209_
  refine jt_bI (sp_X11_mayGet E d (jd_le hd rfl) y1 y2 r1209_ a b0 hv (WISHR_fr hp0 hf (fun _ => rfl) (fun _ => rfl) (fun _ => rfl) (fun _ => rfl))) (fun r1210_ a1210_ b1210_ h1210_ => ?_)
  obtain ⟨rfl, rfl, hq1210_0⟩ := h1210_
  refine jt_ite (fun c1211_ => ?_) (fun c1211_ => ?_)
  ·
    exact jt_rI ⟨hv, hf, rfl, (show (a0 4 6 = 0 → 0 = 0 - 1) from by omega)⟩
  ·
    exact jt_rI ⟨hv, hf, rfl, (show (a0 4 6 = 0 → 1 = 0 - 1) from by omega)⟩
theorem sp_X11_may (E : jxE) (d : Nat) (hd : Nat.ble 8 d = true) (x1 x2 : Int) (a0 b0 : Nat → Nat → Int) (hv0 : iv a0) (hp0 : WISHR a0) : jt (jxC E d 166 [.inr (.inr (.inl 0)), .inl x1, .inl x2] (jxSH, a0, b0)) (jQ_X11_may x1 x2 a0 b0) := by
  obtain ⟨d, rfl⟩ := jd_succ hd
  refine jt_eq (bq_X11_may E d x1 x2 a0 b0) ?_
  refine jt_eI (eq_X3_has E d (jd_le hd rfl) x1 a0 b0) ?_
  have h1212_ := f_X3_has_eq a0 b0 x1
  have h1213_ := iv_get hv0 (k := 4) (j := 6) (l := 0) (u := 40) rfl
  refine jt_ite (fun c1214_ => ?_) (fun c1214_ => ?_)
  ·
    exact jt_rI ⟨hv0, (jfr_rf _ _), rfl, (show (a0 4 6 = 0 → (-1) = 0 - 1) from by omega)⟩
  ·
    refine jt_eI (eq_X3_has E d (jd_le hd rfl) x2 a0 b0) ?_
    have h1215_ := f_X3_has_eq a0 b0 x2
    refine jt_ite (fun c1216_ => ?_) (fun c1216_ => ?_)
    ·
      exact jt_rI ⟨hv0, (jfr_rf _ _), rfl, (show (a0 4 6 = 0 → (-1) = 0 - 1) from by omega)⟩
    ·
      refine jt_bV (sp_X7_take_r58 E d (jd_le hd rfl) (a0 0 0) a0 b0 hv0) (fun a1217_ b1217_ h1217_ => ?_)
      obtain ⟨hv1217_, hf1217_, rfl⟩ := h1217_
      have hf1218_ : jfr jW_X11_may a0 a1217_ := jfr_tr (jfr_rf _ _) hf1217_ rfl
      exact cp_X11_may_39 E d hd x1 x2 a0 b0 hv0 hp0 x1 x2 a1217_ hv1217_ hf1218_ (show 0 ≤ x1 from by omega) (show x1 ≤ 39 from by omega) (show 0 ≤ x2 from by omega) (show x2 ≤ 39 from by omega) (show 1 ≤ a0 4 6 from by omega)
abbrev jQ_X11_meets (x1 x2 : Int) (a0 b0 : Nat → Nat → Int) : List jxV → (Nat → Nat → Int) → (Nat → Nat → Int) → Prop := rI (fun r a b => (a0 = a) ∧ (b0 = b) ∧ ((a0 4 6 = 0 → r = 0 - 1)) ∧ (0 ≤ x1 → x1 < a0 4 6 → 0 ≤ x2 → x2 < a0 4 6 → ¬ x1 = x2 → r = METX a0 b0 x1 x2 (a0 0 0)) ∧ ((((((x1 < 0 ∨ a0 4 6 ≤ x1) ∨ x2 < 0) ∨ a0 4 6 ≤ x2) ∨ x1 = x2) → r = 0 - 1)))
theorem cp_X11_meets_45 (E : jxE) (d : Nat) (hd : Nat.ble 6 (d + 1) = true) (x1 x2 : Int) (a0 b0 : Nat → Nat → Int) (hv0 : iv a0) (hp0 : WISHR a0) : ((((0 ≤ x1 ∧ x1 < a0 4 6) ∧ 0 ≤ x2) ∧ x2 < a0 4 6) ∧ ¬ x1 = x2) → (METX a0 b0 x1 x2 (a0 0 0) = 1) → 1 ≤ a0 4 6 → jt (jxX E d 163 45 [none, none, none] [] (jxSH, a0, b0)) (jQ_X11_meets x1 x2 a0 b0) := by
  intro hi0 hmx hi2
  refine jt_eq (bq_X11_meets_45 E d a0 b0) ?_
  have h1219_ := iv_get hv0 (k := 4) (j := 6) (l := 0) (u := 40) rfl
  exact jt_rI ⟨rfl, rfl, (show (a0 4 6 = 0 → 1 = 0 - 1) from by omega), (fun _ _ _ _ _ => hmx.symm), (show (((((x1 < 0 ∨ a0 4 6 ≤ x1) ∨ x2 < 0) ∨ a0 4 6 ≤ x2) ∨ x1 = x2) → 1 = 0 - 1) from by omega)⟩
theorem cp_X11_meets_49 (E : jxE) (d : Nat) (hd : Nat.ble 6 (d + 1) = true) (x1 x2 : Int) (a0 b0 : Nat → Nat → Int) (hv0 : iv a0) (hp0 : WISHR a0) : ((((0 ≤ x1 ∧ x1 < a0 4 6) ∧ 0 ≤ x2) ∧ x2 < a0 4 6) ∧ ¬ x1 = x2) → (METX a0 b0 x1 x2 (a0 0 0) = 0) → 1 ≤ a0 4 6 → jt (jxX E d 163 49 [none, none, none] [] (jxSH, a0, b0)) (jQ_X11_meets x1 x2 a0 b0) := by
  intro hi0 hmx hi2
  refine jt_eq (bq_X11_meets_49 E d a0 b0) ?_
  have h1220_ := iv_get hv0 (k := 4) (j := 6) (l := 0) (u := 40) rfl
  exact jt_rI ⟨rfl, rfl, (show (a0 4 6 = 0 → 0 = 0 - 1) from by omega), (fun _ _ _ _ _ => hmx.symm), (show (((((x1 < 0 ∨ a0 4 6 ≤ x1) ∨ x2 < 0) ∨ a0 4 6 ≤ x2) ∨ x1 = x2) → 0 = 0 - 1) from by omega)⟩
theorem sp_X11_meets (E : jxE) (d : Nat) (hd : Nat.ble 6 d = true) (x1 x2 : Int) (a0 b0 : Nat → Nat → Int) (hv0 : iv a0) (hp0 : WISHR a0) : jt (jxC E d 163 [.inr (.inr (.inl 0)), .inl x1, .inl x2] (jxSH, a0, b0)) (jQ_X11_meets x1 x2 a0 b0) := by
  obtain ⟨d, rfl⟩ := jd_succ hd
  refine jt_eq (bq_X11_meets E d x1 x2 a0 b0) ?_
  refine jt_eI (eq_X3_has E d (jd_le hd rfl) x1 a0 b0) ?_
  have h1221_ := f_X3_has_eq a0 b0 x1
  have h1222_ := iv_get hv0 (k := 4) (j := 6) (l := 0) (u := 40) rfl
  refine jt_ite (fun c1223_ => ?_) (fun c1223_ => ?_)
  ·
    exact jt_rI ⟨rfl, rfl, (show (a0 4 6 = 0 → (-1) = 0 - 1) from by omega), (fun h1 h2 h3 h4 h5 => by omega), (show (((((x1 < 0 ∨ a0 4 6 ≤ x1) ∨ x2 < 0) ∨ a0 4 6 ≤ x2) ∨ x1 = x2) → (-1) = 0 - 1) from by omega)⟩
  ·
    refine jt_eI (eq_X3_has E d (jd_le hd rfl) x2 a0 b0) ?_
    have h1224_ := f_X3_has_eq a0 b0 x2
    refine jt_ite (fun c1225_ => ?_) (fun c1225_ => ?_)
    ·
      exact jt_rI ⟨rfl, rfl, (show (a0 4 6 = 0 → (-1) = 0 - 1) from by omega), (fun h1 h2 h3 h4 h5 => by omega), (show (((((x1 < 0 ∨ a0 4 6 ≤ x1) ∨ x2 < 0) ∨ a0 4 6 ≤ x2) ∨ x1 = x2) → (-1) = 0 - 1) from by omega)⟩
    ·
      refine jt_ite (fun c1226_ => ?_) (fun c1226_ => ?_)
      ·
        exact jt_rI ⟨rfl, rfl, (show (a0 4 6 = 0 → (-1) = 0 - 1) from by omega), (fun h1 h2 h3 h4 h5 => by omega), (show (((((x1 < 0 ∨ a0 4 6 ≤ x1) ∨ x2 < 0) ∨ a0 4 6 ≤ x2) ∨ x1 = x2) → (-1) = 0 - 1) from by omega)⟩
      ·
        refine jt_bI (sp_X10_isMet E d (jd_le hd rfl) x1 x2 (a0 0 0) a0 b0 hv0 hp0) (fun r1227_ a1227_ b1227_ h1227_ => ?_)
        obtain ⟨rfl, rfl, hq1227_0, hq1227_1⟩ := h1227_
        refine jt_ite (fun c1228_ => ?_) (fun c1228_ => ?_)
        ·
          exact cp_X11_meets_49 E d hd x1 x2 a0 b0 hv0 hp0 (show ((((0 ≤ x1 ∧ x1 < a0 4 6) ∧ 0 ≤ x2) ∧ x2 < a0 4 6) ∧ ¬ x1 = x2) from by omega) (by have q := hq1227_1 (by omega) (by omega) (by omega) (by omega); omega) (show 1 ≤ a0 4 6 from by omega)
        ·
          exact cp_X11_meets_45 E d hd x1 x2 a0 b0 hv0 hp0 (show ((((0 ≤ x1 ∧ x1 < a0 4 6) ∧ 0 ≤ x2) ∧ x2 < a0 4 6) ∧ ¬ x1 = x2) from by omega) (by have q := hq1227_1 (by omega) (by omega) (by omega) (by omega); omega) (show 1 ≤ a0 4 6 from by omega)
def jW_X3_add : List (Nat × Nat) := [(4, 6), (5, 9999), (6, 9999), (7, 9999), (8, 9999), (10, 9999)]
abbrev jQ_X3_add (x1 x2 x3 x4 : Int) (a0 b0 : Nat → Nat → Int) : List jxV → (Nat → Nat → Int) → (Nat → Nat → Int) → Prop := rI (fun r a b => (iv a) ∧ (jfr jW_X3_add a0 a) ∧ (b0 = b) ∧ ((((a0 4 6 < 40 ∧ r = a0 4 6) ∧ a 4 6 = (a0 4 6) + 1) ∨ ((40 ≤ a0 4 6 ∧ r = 0 - 1) ∧ a 4 6 = a0 4 6))) ∧ (0 ≤ r → MAD a0 a 5 6 7 8 10 r.toNat x1 x2 x3 x4) ∧ (r < 0 → MSA a0 a 5 6 7 8 10))
theorem cp_X3_add_62 (E : jxE) (d : Nat) (hd : Nat.ble 1 (d + 1) = true) (x1 x2 x3 x4 : Int) (a0 b0 : Nat → Nat → Int) (hv0 : iv a0) : ∀ (a : Nat → Nat → Int), iv a → jfr jW_X3_add a0 a → a 4 6 ≤ 39 → a 4 6 = a0 4 6 → a 4 6 ≤ 39 → (MAD a0 a 5 6 7 8 10 (a0 4 6).toNat x1 x2 x3 x4) → jt (jxX E d 54 62 [some (.inr (.inr (.inl 4))), none, none, none, none] [] (jxSH, a, b0)) (jQ_X3_add x1 x2 x3 x4 a0 b0) := by
  intro a hv hf hi0 hi1 hi2 hmad
  refine jt_eq (bq_X3_add_62 E d a b0) ?_
  have h1229_ := iv_get hv (k := 4) (j := 6) (l := 0) (u := 40) rfl
  have h1230_ := iv_get hv0 (k := 4) (j := 6) (l := 0) (u := 40) rfl
  have h1232_ : jxw ((a 4 6) + 1) = (a 4 6) + 1 := jxw_id (by omega) (by omega)
  have hv1231_ : iv (jxu a 4 6 (jxw ((a 4 6) + 1))) := iv_put hv (l := 0) (u := 40) rfl (by omega) (by omega)
  have hf1233_ : jfr jW_X3_add a0 (jxu a 4 6 (jxw ((a 4 6) + 1))) := jfr_put hf rfl
  exact jt_rI ⟨hv1231_, hf1233_, rfl, (show (((a0 4 6 < 40 ∧ a 4 6 = a0 4 6) ∧ jxw ((a 4 6) + 1) = (a0 4 6) + 1) ∨ ((40 ≤ a0 4 6 ∧ a 4 6 = 0 - 1) ∧ jxw ((a 4 6) + 1) = a0 4 6)) from by omega), (by first | (intro h; exact absurd h (by decide)) | (intro _; rw [show (a 4 6).toNat = (a0 4 6).toNat from by omega]; exact hmad)), (by first | (intro _; exact MSA_rf _ _ _ _ _ _) | (intro h; exact absurd h (by omega)))⟩
theorem cp_X3_add_31 (E : jxE) (d : Nat) (hd : Nat.ble 1 (d + 1) = true) (x1 x2 x3 x4 : Int) (a0 b0 : Nat → Nat → Int) (hv0 : iv a0) : ∀ (y3 y4 : Int) (a : Nat → Nat → Int), iv a → jfr jW_X3_add a0 a → a 4 6 ≤ 39 → a 4 6 = a0 4 6 → a 4 6 ≤ 39 → (UP (a0 5) (a 5) (a0 4 6).toNat x1 ∧ UP (a0 6) (a 6) (a0 4 6).toNat x2) → (y3 = x3) → (y4 = x4) → ((∀ j, a 7 j = a0 7 j) ∧ (∀ j, a 8 j = a0 8 j) ∧ (∀ j, a 10 j = a0 10 j)) → jt (jxX E d 54 31 [some (.inr (.inr (.inl 4))), none, none, some (.inl y3), some (.inl y4)] [] (jxSH, a, b0)) (jQ_X3_add x1 x2 x3 x4 a0 b0) := by
  intro y3 y4 a hv hf hi0 hi1 hi2 hu hy3 hy4 hs
  refine jt_eq (bq_X3_add_31 E d y3 y4 a b0) ?_
  have h1234_ := iv_get hv (k := 4) (j := 6) (l := 0) (u := 40) rfl
  have h1235_ := iv_get hv0 (k := 4) (j := 6) (l := 0) (u := 40) rfl
  refine jt_grd (by omega) ?_
  refine jt_grd (by omega) ?_
  refine jt_grd (by omega) ?_
  have hv1236_ : iv (jxu a 7 ((a 4 6).toNat) y3) := iv_putf hv rfl
  have hv1237_ : iv (jxu (jxu a 7 ((a 4 6).toNat) y3) 8 ((a 4 6).toNat) y4) := iv_putf hv1236_ rfl
  have hv1238_ : iv (jxu (jxu (jxu a 7 ((a 4 6).toNat) y3) 8 ((a 4 6).toNat) y4) 10 ((a 4 6).toNat) 1) := iv_putf hv1237_ rfl
  have hf1239_ : jfr jW_X3_add a0 (jxu a 7 ((a 4 6).toNat) y3) := jfr_put hf rfl
  have hf1240_ : jfr jW_X3_add a0 (jxu (jxu a 7 ((a 4 6).toNat) y3) 8 ((a 4 6).toNat) y4) := jfr_put hf1239_ rfl
  have hf1241_ : jfr jW_X3_add a0 (jxu (jxu (jxu a 7 ((a 4 6).toNat) y3) 8 ((a 4 6).toNat) y4) 10 ((a 4 6).toNat) 1) := jfr_put hf1240_ rfl
  exact cp_X3_add_62 E d hd x1 x2 x3 x4 a0 b0 hv0 (jxu (jxu (jxu a 7 ((a 4 6).toNat) y3) 8 ((a 4 6).toNat) y4) 10 ((a 4 6).toNat) 1) hv1238_ hf1241_ (show a 4 6 ≤ 39 from by omega) (show a 4 6 = a0 4 6 from by omega) (show a 4 6 ≤ 39 from by omega) (by subst hy3; subst hy4; rw [show (a 4 6).toNat = (a0 4 6).toNat from by omega]; exact ⟨hu.1, hu.2, UP_put hs.1, UP_put hs.2.1, UP_put hs.2.2⟩)
theorem sp_X3_add (E : jxE) (d : Nat) (hd : Nat.ble 1 d = true) (x1 x2 x3 x4 : Int) (a0 b0 : Nat → Nat → Int) (hv0 : iv a0) : jt (jxC E d 54 [.inr (.inr (.inl 4)), .inl x1, .inl x2, .inl x3, .inl x4] (jxSH, a0, b0)) (jQ_X3_add x1 x2 x3 x4 a0 b0) := by
  obtain ⟨d, rfl⟩ := jd_succ hd
  refine jt_eq (bq_X3_add E d x1 x2 x3 x4 a0 b0) ?_
  have h1242_ := iv_get hv0 (k := 4) (j := 6) (l := 0) (u := 40) rfl
  refine jt_ite (fun c1243_ => ?_) (fun c1243_ => ?_)
  ·
    refine jt_grd (by omega) ?_
    refine jt_grd (by omega) ?_
    have hv1244_ : iv (jxu a0 5 ((a0 4 6).toNat) x1) := iv_putf hv0 rfl
    have hv1245_ : iv (jxu (jxu a0 5 ((a0 4 6).toNat) x1) 6 ((a0 4 6).toNat) x2) := iv_putf hv1244_ rfl
    have hf1246_ : jfr jW_X3_add a0 (jxu a0 5 ((a0 4 6).toNat) x1) := jfr_put (jfr_rf _ _) rfl
    have hf1247_ : jfr jW_X3_add a0 (jxu (jxu a0 5 ((a0 4 6).toNat) x1) 6 ((a0 4 6).toNat) x2) := jfr_put hf1246_ rfl
    exact cp_X3_add_31 E d hd x1 x2 x3 x4 a0 b0 hv0 x3 x4 (jxu (jxu a0 5 ((a0 4 6).toNat) x1) 6 ((a0 4 6).toNat) x2) hv1245_ hf1247_ (show a0 4 6 ≤ 39 from by omega) (show a0 4 6 = a0 4 6 from by omega) (show a0 4 6 ≤ 39 from by omega) ⟨UP_put (fun _ => rfl), UP_put (fun _ => rfl)⟩ (by first | rfl | assumption) (by first | rfl | assumption) ⟨fun _ => rfl, fun _ => rfl, fun _ => rfl⟩
  ·
    exact jt_rI ⟨hv0, (jfr_rf _ _), rfl, (show (((a0 4 6 < 40 ∧ (-1) = a0 4 6) ∧ a0 4 6 = (a0 4 6) + 1) ∨ ((40 ≤ a0 4 6 ∧ (-1) = 0 - 1) ∧ a0 4 6 = a0 4 6)) from by omega), (by first | (intro h; exact absurd h (by decide)) | (intro _; rw [show (a 4 6).toNat = (a0 4 6).toNat from by omega]; exact hmad)), (by first | (intro _; exact MSA_rf _ _ _ _ _ _) | (intro h; exact absurd h (by omega)))⟩
def jWeM : List (Nat × Nat) := []
def jW_X11_member : List (Nat × Nat) := [(4, 6), (5, 9999), (6, 9999), (7, 9999), (8, 9999), (10, 9999)]
abbrev jQ_X11_member (x1 x2 x3 : Int) (a0 b0 : Nat → Nat → Int) : List jxV → (Nat → Nat → Int) → (Nat → Nat → Int) → Prop := rI (fun r a b => (iv a) ∧ (jfr jW_X11_member a0 a) ∧ (b0 = b) ∧ ((((((((((0 ≤ x1 ∧ x1 ≤ 15) ∧ 0 ≤ x2) ∧ x2 ≤ 65535) ∧ 0 - 1 ≤ x3) ∧ x3 ≤ 19) ∧ a0 4 6 < 40) ∧ r = a0 4 6) ∧ a 4 6 = (a0 4 6) + 1) ∨ ((((((((x1 < 0 ∨ 15 < x1) ∨ x2 < 0) ∨ 65535 < x2) ∨ x3 < 0 - 1) ∨ 19 < x3) ∨ 40 ≤ a0 4 6) ∧ r = 0 - 1) ∧ a 4 6 = a0 4 6))) ∧ (0 ≤ r → MAD a0 a 5 6 7 8 10 r.toNat x1 x2 x3 (a0 0 0)) ∧ (r < 0 → MSA a0 a 5 6 7 8 10))
theorem cp_X11_member_32 (E : jxE) (d : Nat) (hd : Nat.ble 3 (d + 1) = true) (x1 x2 x3 : Int) (a0 b0 : Nat → Nat → Int) (hv0 : iv a0) : ∀ (y1 y2 y3 s0 : Int) (a : Nat → Nat → Int), iv a → jfr jW_X11_member a0 a → 0 ≤ s0 → s0 ≤ 1 → y1 = x1 → y2 = x2 → y3 = x3 → (((((((s0 = 1 ∧ 0 ≤ x1) ∧ x1 ≤ 15) ∧ 0 ≤ x2) ∧ x2 ≤ 65535) ∧ 0 - 1 ≤ x3) ∧ x3 ≤ 19) ∨ (s0 = 0 ∧ (((((x1 < 0 ∨ 15 < x1) ∨ x2 < 0) ∨ 65535 < x2) ∨ x3 < 0 - 1) ∨ 19 < x3))) → a 4 6 = a0 4 6 → (jfr jWeM a0 a) → jt (jxX E d 156 32 [some (.inr (.inr (.inl 0))), some (.inl y1), some (.inl y2), some (.inl y3), none] [.inl s0] (jxSH, a, b0)) (jQ_X11_member x1 x2 x3 a0 b0) := by
  intro y1 y2 y3 s0 a hv hf hi0 hi1 hi2 hi3 hi4 hi5 hi6 hfe
  refine jt_eq (bq_X11_member_32 E d y1 y2 y3 s0 a b0) ?_
  have h1248_ := iv_get hv (k := 4) (j := 6) (l := 0) (u := 40) rfl
  have h1249_ := iv_get hv0 (k := 4) (j := 6) (l := 0) (u := 40) rfl
  refine jt_ite (fun c1250_ => ?_) (fun c1250_ => ?_)
  ·
    exact jt_rI ⟨hv, hf, rfl, (show (((((((((0 ≤ x1 ∧ x1 ≤ 15) ∧ 0 ≤ x2) ∧ x2 ≤ 65535) ∧ 0 - 1 ≤ x3) ∧ x3 ≤ 19) ∧ a0 4 6 < 40) ∧ (-1) = a0 4 6) ∧ a 4 6 = (a0 4 6) + 1) ∨ ((((((((x1 < 0 ∨ 15 < x1) ∨ x2 < 0) ∨ 65535 < x2) ∨ x3 < 0 - 1) ∨ 19 < x3) ∨ 40 ≤ a0 4 6) ∧ (-1) = 0 - 1) ∧ a 4 6 = a0 4 6)) from by omega), (fun h => absurd h (by decide)), (fun _ => MSA_e hfe)⟩
  ·
    refine jt_bI (sp_X3_add E d (jd_le hd rfl) y1 y2 y3 (a 0 0) a b0 hv) (fun r1251_ a1251_ b1251_ h1251_ => ?_)
    obtain ⟨hv1251_, hf1251_, rfl, hq1251_0, hq1251_1, hq1251_2⟩ := h1251_
    have h1252_ := iv_get hv1251_ (k := 4) (j := 6) (l := 0) (u := 40) rfl
    have hf1253_ : jfr jW_X11_member a0 a1251_ := jfr_tr hf hf1251_ rfl
    exact jt_rI ⟨hv1251_, hf1253_, rfl, (show (((((((((0 ≤ x1 ∧ x1 ≤ 15) ∧ 0 ≤ x2) ∧ x2 ≤ 65535) ∧ 0 - 1 ≤ x3) ∧ x3 ≤ 19) ∧ a0 4 6 < 40) ∧ r1251_ = a0 4 6) ∧ a1251_ 4 6 = (a0 4 6) + 1) ∨ ((((((((x1 < 0 ∨ 15 < x1) ∨ x2 < 0) ∨ 65535 < x2) ∨ x3 < 0 - 1) ∨ 19 < x3) ∨ 40 ≤ a0 4 6) ∧ r1251_ = 0 - 1) ∧ a1251_ 4 6 = a0 4 6)) from by omega), (fun h => MAD_e hfe (by rw [show x1 = y1 from by omega, show x2 = y2 from by omega, show x3 = y3 from by omega, show a0 0 0 = a 0 0 from (hfe 0 0 rfl).symm]; exact hq1251_1 h)), (fun h => MSA_e2 hfe (hq1251_2 h))⟩
theorem cp_X11_member_31 (E : jxE) (d : Nat) (hd : Nat.ble 3 (d + 1) = true) (x1 x2 x3 : Int) (a0 b0 : Nat → Nat → Int) (hv0 : iv a0) : ∀ (y1 y2 y3 : Int) (a : Nat → Nat → Int), iv a → jfr jW_X11_member a0 a → y1 = x1 → y2 = x2 → y3 = x3 → (((((x1 < 0 ∨ 15 < x1) ∨ x2 < 0) ∨ 65535 < x2) ∨ x3 < 0 - 1) ∨ 19 < x3) → a 4 6 = a0 4 6 → (jfr jWeM a0 a) → jt (jxX E d 156 31 [some (.inr (.inr (.inl 0))), some (.inl y1), some (.inl y2), some (.inl y3), none] [] (jxSH, a, b0)) (jQ_X11_member x1 x2 x3 a0 b0) := by
  intro y1 y2 y3 a hv hf hi0 hi1 hi2 hi3 hi4 hfe
  refine jt_eq (bq_X11_member_31 E d y1 y2 y3 a b0) ?_
  have h1254_ := iv_get hv (k := 4) (j := 6) (l := 0) (u := 40) rfl
  have h1255_ := iv_get hv0 (k := 4) (j := 6) (l := 0) (u := 40) rfl
  exact cp_X11_member_32 E d hd x1 x2 x3 a0 b0 hv0 y1 y2 y3 0 a hv hf (show 0 ≤ 0 from by omega) (show 0 ≤ 1 from by omega) (show y1 = x1 from by omega) (show y2 = x2 from by omega) (show y3 = x3 from by omega) (show (((((((0 = 1 ∧ 0 ≤ x1) ∧ x1 ≤ 15) ∧ 0 ≤ x2) ∧ x2 ≤ 65535) ∧ 0 - 1 ≤ x3) ∧ x3 ≤ 19) ∨ (0 = 0 ∧ (((((x1 < 0 ∨ 15 < x1) ∨ x2 < 0) ∨ 65535 < x2) ∨ x3 < 0 - 1) ∨ 19 < x3))) from by omega) (show a 4 6 = a0 4 6 from by omega) hfe
theorem sp_X11_member (E : jxE) (d : Nat) (hd : Nat.ble 3 d = true) (x1 x2 x3 : Int) (a0 b0 : Nat → Nat → Int) (hv0 : iv a0) : jt (jxC E d 156 [.inr (.inr (.inl 0)), .inl x1, .inl x2, .inl x3] (jxSH, a0, b0)) (jQ_X11_member x1 x2 x3 a0 b0) := by
  obtain ⟨d, rfl⟩ := jd_succ hd
  refine jt_eq (bq_X11_member E d x1 x2 x3 a0 b0) ?_
  refine jt_eI (eq_X11_isLand E d (jd_le hd rfl) x1 a0 b0) ?_
  have h1256_ := f_X11_isLand_eq a0 b0 x1
  have h1257_ := f_X11_within_eq a0 b0 x1 0 15
  refine jt_ite (fun c1258_ => ?_) (fun c1258_ => ?_)
  ·
    have h1259_ := iv_get hv0 (k := 4) (j := 6) (l := 0) (u := 40) rfl
    exact cp_X11_member_31 E d hd x1 x2 x3 a0 b0 hv0 x1 x2 x3 a0 hv0 (jfr_rf _ _) (show x1 = x1 from by omega) (show x2 = x2 from by omega) (show x3 = x3 from by omega) (show (((((x1 < 0 ∨ 15 < x1) ∨ x2 < 0) ∨ 65535 < x2) ∨ x3 < 0 - 1) ∨ 19 < x3) from by omega) (show a0 4 6 = a0 4 6 from by omega) (jfr_rf _ _)
  ·
    refine jt_eI (eq_X11_within E d (jd_le hd rfl) x2 0 65535 a0 b0) ?_
    have h1260_ := f_X11_within_eq a0 b0 x2 0 65535
    refine jt_ite (fun c1261_ => ?_) (fun c1261_ => ?_)
    ·
      have h1262_ := iv_get hv0 (k := 4) (j := 6) (l := 0) (u := 40) rfl
      exact cp_X11_member_31 E d hd x1 x2 x3 a0 b0 hv0 x1 x2 x3 a0 hv0 (jfr_rf _ _) (show x1 = x1 from by omega) (show x2 = x2 from by omega) (show x3 = x3 from by omega) (show (((((x1 < 0 ∨ 15 < x1) ∨ x2 < 0) ∨ 65535 < x2) ∨ x3 < 0 - 1) ∨ 19 < x3) from by omega) (show a0 4 6 = a0 4 6 from by omega) (jfr_rf _ _)
    ·
      refine jt_eI (eq_X11_within E d (jd_le hd rfl) x3 (-1) 19 a0 b0) ?_
      have h1263_ := f_X11_within_eq a0 b0 x3 (-1) 19
      refine jt_ite (fun c1264_ => ?_) (fun c1264_ => ?_)
      ·
        have h1265_ := iv_get hv0 (k := 4) (j := 6) (l := 0) (u := 40) rfl
        exact cp_X11_member_31 E d hd x1 x2 x3 a0 b0 hv0 x1 x2 x3 a0 hv0 (jfr_rf _ _) (show x1 = x1 from by omega) (show x2 = x2 from by omega) (show x3 = x3 from by omega) (show (((((x1 < 0 ∨ 15 < x1) ∨ x2 < 0) ∨ 65535 < x2) ∨ x3 < 0 - 1) ∨ 19 < x3) from by omega) (show a0 4 6 = a0 4 6 from by omega) (jfr_rf _ _)
      ·
        have h1266_ := iv_get hv0 (k := 4) (j := 6) (l := 0) (u := 40) rfl
        exact cp_X11_member_32 E d hd x1 x2 x3 a0 b0 hv0 x1 x2 x3 1 a0 hv0 (jfr_rf _ _) (show 0 ≤ 1 from by omega) (show 1 ≤ 1 from by omega) (show x1 = x1 from by omega) (show x2 = x2 from by omega) (show x3 = x3 from by omega) (show (((((((1 = 1 ∧ 0 ≤ x1) ∧ x1 ≤ 15) ∧ 0 ≤ x2) ∧ x2 ≤ 65535) ∧ 0 - 1 ≤ x3) ∧ x3 ≤ 19) ∨ (1 = 0 ∧ (((((x1 < 0 ∨ 15 < x1) ∨ x2 < 0) ∨ 65535 < x2) ∨ x3 < 0 - 1) ∨ 19 < x3))) from by omega) (show a0 4 6 = a0 4 6 from by omega) (jfr_rf _ _)
def jW_X4_add : List (Nat × Nat) := [(83, 6), (84, 9999), (85, 9999), (86, 9999), (87, 9999), (88, 9999), (89, 9999)]
abbrev jQ_X4_add (x1 x2 x3 : Int) (a0 b0 : Nat → Nat → Int) : List jxV → (Nat → Nat → Int) → (Nat → Nat → Int) → Prop := rI (fun r a b => (iv a) ∧ (jfr jW_X4_add a0 a) ∧ (b0 = b) ∧ ((((a0 83 6 < 20 ∧ r = a0 83 6) ∧ a 83 6 = (a0 83 6) + 1) ∨ ((20 ≤ a0 83 6 ∧ r = 0 - 1) ∧ a 83 6 = a0 83 6))))
theorem cp_X4_add_61 (E : jxE) (d : Nat) (hd : Nat.ble 1 (d + 1) = true) (x1 x2 x3 : Int) (a0 b0 : Nat → Nat → Int) (hv0 : iv a0) : ∀ (a : Nat → Nat → Int), iv a → jfr jW_X4_add a0 a → a 83 6 ≤ 19 → a 83 6 = a0 83 6 → a 83 6 ≤ 19 → jt (jxX E d 66 61 [some (.inr (.inr (.inl 83))), none, none, none] [] (jxSH, a, b0)) (jQ_X4_add x1 x2 x3 a0 b0) := by
  intro a hv hf hi0 hi1 hi2
  refine jt_eq (bq_X4_add_61 E d a b0) ?_
  have h1267_ := iv_get hv (k := 83) (j := 6) (l := 0) (u := 20) rfl
  have h1268_ := iv_get hv0 (k := 83) (j := 6) (l := 0) (u := 20) rfl
  refine jt_grd (by omega) ?_
  have hv1269_ : iv (jxu a 89 ((a 83 6).toNat) (-1)) := iv_putf hv rfl
  have h1271_ : jxw ((a 83 6) + 1) = (a 83 6) + 1 := jxw_id (by omega) (by omega)
  have hv1270_ : iv (jxu (jxu a 89 ((a 83 6).toNat) (-1)) 83 6 (jxw ((a 83 6) + 1))) := iv_put hv1269_ (l := 0) (u := 20) rfl (by omega) (by omega)
  have hf1272_ : jfr jW_X4_add a0 (jxu a 89 ((a 83 6).toNat) (-1)) := jfr_put hf rfl
  have hf1273_ : jfr jW_X4_add a0 (jxu (jxu a 89 ((a 83 6).toNat) (-1)) 83 6 (jxw ((a 83 6) + 1))) := jfr_put hf1272_ rfl
  exact jt_rI ⟨hv1270_, hf1273_, rfl, (show (((a0 83 6 < 20 ∧ a 83 6 = a0 83 6) ∧ jxw ((a 83 6) + 1) = (a0 83 6) + 1) ∨ ((20 ≤ a0 83 6 ∧ a 83 6 = 0 - 1) ∧ jxw ((a 83 6) + 1) = a0 83 6)) from by omega)⟩
theorem cp_X4_add_31 (E : jxE) (d : Nat) (hd : Nat.ble 1 (d + 1) = true) (x1 x2 x3 : Int) (a0 b0 : Nat → Nat → Int) (hv0 : iv a0) : ∀ (y3 : Int) (a : Nat → Nat → Int), iv a → jfr jW_X4_add a0 a → a 83 6 ≤ 19 → a 83 6 = a0 83 6 → a 83 6 ≤ 19 → jt (jxX E d 66 31 [some (.inr (.inr (.inl 83))), none, none, some (.inl y3)] [] (jxSH, a, b0)) (jQ_X4_add x1 x2 x3 a0 b0) := by
  intro y3 a hv hf hi0 hi1 hi2
  refine jt_eq (bq_X4_add_31 E d y3 a b0) ?_
  have h1274_ := iv_get hv (k := 83) (j := 6) (l := 0) (u := 20) rfl
  have h1275_ := iv_get hv0 (k := 83) (j := 6) (l := 0) (u := 20) rfl
  refine jt_grd (by omega) ?_
  refine jt_grd (by omega) ?_
  refine jt_grd (by omega) ?_
  have hv1276_ : iv (jxu a 86 ((a 83 6).toNat) y3) := iv_putf hv rfl
  have hv1277_ : iv (jxu (jxu a 86 ((a 83 6).toNat) y3) 87 ((a 83 6).toNat) 0) := iv_putf hv1276_ rfl
  have hv1278_ : iv (jxu (jxu (jxu a 86 ((a 83 6).toNat) y3) 87 ((a 83 6).toNat) 0) 88 ((a 83 6).toNat) (-1)) := iv_putf hv1277_ rfl
  have hf1279_ : jfr jW_X4_add a0 (jxu a 86 ((a 83 6).toNat) y3) := jfr_put hf rfl
  have hf1280_ : jfr jW_X4_add a0 (jxu (jxu a 86 ((a 83 6).toNat) y3) 87 ((a 83 6).toNat) 0) := jfr_put hf1279_ rfl
  have hf1281_ : jfr jW_X4_add a0 (jxu (jxu (jxu a 86 ((a 83 6).toNat) y3) 87 ((a 83 6).toNat) 0) 88 ((a 83 6).toNat) (-1)) := jfr_put hf1280_ rfl
  exact cp_X4_add_61 E d hd x1 x2 x3 a0 b0 hv0 (jxu (jxu (jxu a 86 ((a 83 6).toNat) y3) 87 ((a 83 6).toNat) 0) 88 ((a 83 6).toNat) (-1)) hv1278_ hf1281_ (show a 83 6 ≤ 19 from by omega) (show a 83 6 = a0 83 6 from by omega) (show a 83 6 ≤ 19 from by omega)
theorem sp_X4_add (E : jxE) (d : Nat) (hd : Nat.ble 1 d = true) (x1 x2 x3 : Int) (a0 b0 : Nat → Nat → Int) (hv0 : iv a0) : jt (jxC E d 66 [.inr (.inr (.inl 83)), .inl x1, .inl x2, .inl x3] (jxSH, a0, b0)) (jQ_X4_add x1 x2 x3 a0 b0) := by
  obtain ⟨d, rfl⟩ := jd_succ hd
  refine jt_eq (bq_X4_add E d x1 x2 x3 a0 b0) ?_
  have h1282_ := iv_get hv0 (k := 83) (j := 6) (l := 0) (u := 20) rfl
  refine jt_ite (fun c1283_ => ?_) (fun c1283_ => ?_)
  ·
    refine jt_grd (by omega) ?_
    refine jt_grd (by omega) ?_
    have hv1284_ : iv (jxu a0 84 ((a0 83 6).toNat) x1) := iv_putf hv0 rfl
    have hv1285_ : iv (jxu (jxu a0 84 ((a0 83 6).toNat) x1) 85 ((a0 83 6).toNat) x2) := iv_putf hv1284_ rfl
    have hf1286_ : jfr jW_X4_add a0 (jxu a0 84 ((a0 83 6).toNat) x1) := jfr_put (jfr_rf _ _) rfl
    have hf1287_ : jfr jW_X4_add a0 (jxu (jxu a0 84 ((a0 83 6).toNat) x1) 85 ((a0 83 6).toNat) x2) := jfr_put hf1286_ rfl
    exact cp_X4_add_31 E d hd x1 x2 x3 a0 b0 hv0 x3 (jxu (jxu a0 84 ((a0 83 6).toNat) x1) 85 ((a0 83 6).toNat) x2) hv1285_ hf1287_ (show a0 83 6 ≤ 19 from by omega) (show a0 83 6 = a0 83 6 from by omega) (show a0 83 6 ≤ 19 from by omega)
  ·
    exact jt_rI ⟨hv0, (jfr_rf _ _), rfl, (show (((a0 83 6 < 20 ∧ (-1) = a0 83 6) ∧ a0 83 6 = (a0 83 6) + 1) ∨ ((20 ≤ a0 83 6 ∧ (-1) = 0 - 1) ∧ a0 83 6 = a0 83 6)) from by omega)⟩
def jW_X11_offer : List (Nat × Nat) := [(83, 6), (84, 9999), (85, 9999), (86, 9999), (87, 9999), (88, 9999), (89, 9999)]
abbrev jQ_X11_offer (x1 x2 x3 : Int) (a0 b0 : Nat → Nat → Int) : List jxV → (Nat → Nat → Int) → (Nat → Nat → Int) → Prop := rI (fun r a b => (iv a) ∧ (jfr jW_X11_offer a0 a) ∧ (b0 = b) ∧ ((a0 4 6 = 0 → r = 0 - 1)) ∧ (((((((((0 ≤ x1 ∧ x1 < a0 4 6) ∧ ¬ a0 10 (x1.toNat) = 0) ∧ 0 ≤ x2) ∧ x2 ≤ 31) ∧ a0 83 6 < 20) ∧ r = a0 83 6) ∧ a 83 6 = (a0 83 6) + 1) ∨ (((((((x1 < 0 ∨ a0 4 6 ≤ x1) ∨ a0 10 (x1.toNat) = 0) ∨ x2 < 0) ∨ 31 < x2) ∨ 20 ≤ a0 83 6) ∧ r = 0 - 1) ∧ a 83 6 = a0 83 6))))
theorem sp_X11_offer (E : jxE) (d : Nat) (hd : Nat.ble 3 d = true) (x1 x2 x3 : Int) (a0 b0 : Nat → Nat → Int) (hv0 : iv a0) : jt (jxC E d 184 [.inr (.inr (.inl 0)), .inl x1, .inl x2, .inl x3] (jxSH, a0, b0)) (jQ_X11_offer x1 x2 x3 a0 b0) := by
  obtain ⟨d, rfl⟩ := jd_succ hd
  refine jt_eq (bq_X11_offer E d x1 x2 x3 a0 b0) ?_
  refine jt_eI (eq_X3_isThere E d (jd_le hd rfl) x1 a0 b0) ?_
  have h1288_ := f_X3_isThere_eq a0 b0 x1
  have h1289_ := f_X3_has_eq a0 b0 x1
  have h1290_ := iv_get hv0 (k := 4) (j := 6) (l := 0) (u := 40) rfl
  refine jt_ite (fun c1291_ => ?_) (fun c1291_ => ?_)
  ·
    have h1292_ := iv_get hv0 (k := 83) (j := 6) (l := 0) (u := 20) rfl
    exact jt_rI ⟨hv0, (jfr_rf _ _), rfl, (show (a0 4 6 = 0 → (-1) = 0 - 1) from by omega), (show ((((((((0 ≤ x1 ∧ x1 < a0 4 6) ∧ ¬ a0 10 (x1.toNat) = 0) ∧ 0 ≤ x2) ∧ x2 ≤ 31) ∧ a0 83 6 < 20) ∧ (-1) = a0 83 6) ∧ a0 83 6 = (a0 83 6) + 1) ∨ (((((((x1 < 0 ∨ a0 4 6 ≤ x1) ∨ a0 10 (x1.toNat) = 0) ∨ x2 < 0) ∨ 31 < x2) ∨ 20 ≤ a0 83 6) ∧ (-1) = 0 - 1) ∧ a0 83 6 = a0 83 6)) from by omega)⟩
  ·
    refine jt_eI (eq_X11_within E d (jd_le hd rfl) x2 0 31 a0 b0) ?_
    have h1293_ := f_X11_within_eq a0 b0 x2 0 31
    refine jt_ite (fun c1294_ => ?_) (fun c1294_ => ?_)
    ·
      have h1295_ := iv_get hv0 (k := 83) (j := 6) (l := 0) (u := 20) rfl
      exact jt_rI ⟨hv0, (jfr_rf _ _), rfl, (show (a0 4 6 = 0 → (-1) = 0 - 1) from by omega), (show ((((((((0 ≤ x1 ∧ x1 < a0 4 6) ∧ ¬ a0 10 (x1.toNat) = 0) ∧ 0 ≤ x2) ∧ x2 ≤ 31) ∧ a0 83 6 < 20) ∧ (-1) = a0 83 6) ∧ a0 83 6 = (a0 83 6) + 1) ∨ (((((((x1 < 0 ∨ a0 4 6 ≤ x1) ∨ a0 10 (x1.toNat) = 0) ∨ x2 < 0) ∨ 31 < x2) ∨ 20 ≤ a0 83 6) ∧ (-1) = 0 - 1) ∧ a0 83 6 = a0 83 6)) from by omega)⟩
    ·
      refine jt_bI (sp_X4_add E d (jd_le hd rfl) x1 x2 x3 a0 b0 hv0) (fun r1296_ a1296_ b1296_ h1296_ => ?_)
      obtain ⟨hv1296_, hf1296_, rfl, hq1296_0⟩ := h1296_
      have h1297_ := iv_get hv0 (k := 83) (j := 6) (l := 0) (u := 20) rfl
      have h1298_ := iv_get hv1296_ (k := 83) (j := 6) (l := 0) (u := 20) rfl
      have hf1299_ : jfr jW_X11_offer a0 a1296_ := jfr_tr (jfr_rf _ _) hf1296_ rfl
      exact jt_rI ⟨hv1296_, hf1299_, rfl, (show (a0 4 6 = 0 → r1296_ = 0 - 1) from by omega), (show ((((((((0 ≤ x1 ∧ x1 < a0 4 6) ∧ ¬ a0 10 (x1.toNat) = 0) ∧ 0 ≤ x2) ∧ x2 ≤ 31) ∧ a0 83 6 < 20) ∧ r1296_ = a0 83 6) ∧ a1296_ 83 6 = (a0 83 6) + 1) ∨ (((((((x1 < 0 ∨ a0 4 6 ≤ x1) ∨ a0 10 (x1.toNat) = 0) ∨ x2 < 0) ∨ 31 < x2) ∨ 20 ≤ a0 83 6) ∧ r1296_ = 0 - 1) ∧ a1296_ 83 6 = a0 83 6)) from by omega)⟩
abbrev jQ_X1_dearestStamp (a0 b0 : Nat → Nat → Int) : List jxV → (Nat → Nat → Int) → (Nat → Nat → Int) → Prop := rI (fun r a b => (a0 = a) ∧ (b0 = b))
theorem cp_X1_dearestStamp_4 (E : jxE) (d : Nat) (hd : Nat.ble 2 (d + 1) = true) (a0 b0 : Nat → Nat → Int) (hv0 : iv a0) : ∀ n : Nat, (∀ (y1 y2 : Int), (((8 - y2) * 1) + 0).toNat ≤ n → 0 ≤ y1 → 0 ≤ y2 → y2 ≤ 7 → jt (jxX E d 34 30 [some (.inr (.inr (.inl 141))), some (.inl y1), some (.inl y2)] [] (jxSH, a0, b0)) (jQ_X1_dearestStamp a0 b0)) ∧ (∀ (y1 y2 : Int), (((8 - y2) * 1) + 0).toNat ≤ n → 0 ≤ y1 → 0 ≤ y2 → y2 ≤ 8 → jt (jxX E d 34 4 [some (.inr (.inr (.inl 141))), some (.inl y1), some (.inl y2)] [] (jxSH, a0, b0)) (jQ_X1_dearestStamp a0 b0)) := by
  refine jx_ind fun n ih => ?_
  have ih30 : ∀ (y1 y2 : Int), (((8 - y2) * 1) + 0).toNat < n → 0 ≤ y1 → 0 ≤ y2 → y2 ≤ 7 → jt (jxX E d 34 30 [some (.inr (.inr (.inl 141))), some (.inl y1), some (.inl y2)] [] (jxSH, a0, b0)) (jQ_X1_dearestStamp a0 b0) := fun y1 y2 hlt i0 i1 i2 => (ih _ hlt).1 y1 y2 (Nat.le_refl _) i0 i1 i2
  have ih4 : ∀ (y1 y2 : Int), (((8 - y2) * 1) + 0).toNat < n → 0 ≤ y1 → 0 ≤ y2 → y2 ≤ 8 → jt (jxX E d 34 4 [some (.inr (.inr (.inl 141))), some (.inl y1), some (.inl y2)] [] (jxSH, a0, b0)) (jQ_X1_dearestStamp a0 b0) := fun y1 y2 hlt i0 i1 i2 => (ih _ hlt).2 y1 y2 (Nat.le_refl _) i0 i1 i2
  have hc30 : ∀ (y1 y2 : Int), (((8 - y2) * 1) + 0).toNat ≤ n → 0 ≤ y1 → 0 ≤ y2 → y2 ≤ 7 → jt (jxX E d 34 30 [some (.inr (.inr (.inl 141))), some (.inl y1), some (.inl y2)] [] (jxSH, a0, b0)) (jQ_X1_dearestStamp a0 b0) := by
    intro y1 y2 hm hi0 hi1 hi2
    refine jt_eq (bq_X1_dearestStamp_30 E d y1 y2 a0 b0) ?_
    have h1300_ : jxw (y2 + 1) = y2 + 1 := jxw_id (by omega) (by omega)
    exact ih4 y1 (jxw (y2 + 1)) (show (((8 - (jxw (y2 + 1))) * 1) + 0).toNat < n from by omega) (show 0 ≤ y1 from by omega) (show 0 ≤ jxw (y2 + 1) from by omega) (show jxw (y2 + 1) ≤ 8 from by omega)
  have hc4 : ∀ (y1 y2 : Int), (((8 - y2) * 1) + 0).toNat ≤ n → 0 ≤ y1 → 0 ≤ y2 → y2 ≤ 8 → jt (jxX E d 34 4 [some (.inr (.inr (.inl 141))), some (.inl y1), some (.inl y2)] [] (jxSH, a0, b0)) (jQ_X1_dearestStamp a0 b0) := by
    intro y1 y2 hm hi0 hi1 hi2
    refine jt_eq (bq_X1_dearestStamp_4 E d y1 y2 a0 b0) ?_
    refine jt_ite (fun c1301_ => ?_) (fun c1301_ => ?_)
    ·
      refine jt_grd (by omega) ?_
      refine jt_ite (fun c1302_ => ?_) (fun c1302_ => ?_)
      ·
        refine jt_grd (by omega) ?_
        refine jt_eI (eq_J9_max_7cf53 E d (jd_le hd rfl) y1 (a0 142 (y2.toNat)) a0 b0) ?_
        have h1303_ := f_J9_max_7cf53_eq a0 b0 y1 (a0 142 (y2.toNat))
        exact hc30 (f_J9_max_7cf53 a0 b0 y1 (a0 142 (y2.toNat))) y2 (show (((8 - y2) * 1) + 0).toNat ≤ n from by omega) (show 0 ≤ f_J9_max_7cf53 a0 b0 y1 (a0 142 (y2.toNat)) from by omega) (show 0 ≤ y2 from by omega) (show y2 ≤ 7 from by omega)
      ·
        exact hc30 y1 y2 (show (((8 - y2) * 1) + 0).toNat ≤ n from by omega) (show 0 ≤ y1 from by omega) (show 0 ≤ y2 from by omega) (show y2 ≤ 7 from by omega)
    ·
      exact jt_rI ⟨rfl, rfl⟩
  exact ⟨hc30, hc4⟩
theorem sp_X1_dearestStamp (E : jxE) (d : Nat) (hd : Nat.ble 2 d = true) (a0 b0 : Nat → Nat → Int) (hv0 : iv a0) : jt (jxC E d 34 [.inr (.inr (.inl 141))] (jxSH, a0, b0)) (jQ_X1_dearestStamp a0 b0) := by
  obtain ⟨d, rfl⟩ := jd_succ hd
  refine jt_eq (bq_X1_dearestStamp E d a0 b0) ?_
  exact (cp_X1_dearestStamp_4 E d hd a0 b0 hv0 _).2 0 0 (Nat.le_refl _) (show 0 ≤ 0 from by omega) (show 0 ≤ 0 from by omega) (show 0 ≤ 8 from by omega)
abbrev jQ_X1_tryBundle (x1 x2 x3 : Int) (a0 b0 : Nat → Nat → Int) : List jxV → (Nat → Nat → Int) → (Nat → Nat → Int) → Prop := rV (fun a b => (a0 = a))
theorem cp_X1_tryBundle_34 (E : jxE) (d : Nat) (hd : Nat.ble 2 (d + 1) = true) (x1 x2 x3 : Int) (a0 b0 : Nat → Nat → Int) (hv0 : iv a0) (hp0 : 0 ≤ x1) (hp1 : x1 ≤ 7) : ∀ n : Nat, (∀ (y4 y5 y7 : Int) (b : Nat → Nat → Int), ((y7 * 1) + 0).toNat ≤ n → 1 ≤ y4 → y4 ≤ 1399 → 1 ≤ y7 → y7 ≤ 1399 → 0 < y4 → y4 ≤ y7 → jt (jxX E d 37 93 [some (.inr (.inr (.inl 141))), none, none, none, some (.inl y4), some (.inr (.inl y5)), none, some (.inl y7)] [] (jxSH, a0, b)) (jQ_X1_tryBundle x1 x2 x3 a0 b0)) ∧ (∀ (y4 y5 y7 : Int) (b : Nat → Nat → Int), ((y7 * 1) + 0).toNat ≤ n → 1 ≤ y4 → y4 ≤ 1399 → 1 ≤ y7 → y7 ≤ 1399 → 0 < y4 → y4 ≤ y7 → jt (jxX E d 37 63 [some (.inr (.inr (.inl 141))), none, none, none, some (.inl y4), some (.inr (.inl y5)), none, some (.inl y7)] [] (jxSH, a0, b)) (jQ_X1_tryBundle x1 x2 x3 a0 b0)) ∧ (∀ (y4 y5 y7 : Int) (b : Nat → Nat → Int), ((y7 * 1) + 0).toNat ≤ n → y7 ≤ 1399 → jt (jxX E d 37 34 [some (.inr (.inr (.inl 141))), none, none, none, some (.inl y4), some (.inr (.inl y5)), none, some (.inl y7)] [] (jxSH, a0, b)) (jQ_X1_tryBundle x1 x2 x3 a0 b0)) := by
  refine jx_ind fun n ih => ?_
  have ih93 : ∀ (y4 y5 y7 : Int) (b : Nat → Nat → Int), ((y7 * 1) + 0).toNat < n → 1 ≤ y4 → y4 ≤ 1399 → 1 ≤ y7 → y7 ≤ 1399 → 0 < y4 → y4 ≤ y7 → jt (jxX E d 37 93 [some (.inr (.inr (.inl 141))), none, none, none, some (.inl y4), some (.inr (.inl y5)), none, some (.inl y7)] [] (jxSH, a0, b)) (jQ_X1_tryBundle x1 x2 x3 a0 b0) := fun y4 y5 y7 b hlt i0 i1 i2 i3 i4 i5 => (ih _ hlt).1 y4 y5 y7 b (Nat.le_refl _) i0 i1 i2 i3 i4 i5
  have ih63 : ∀ (y4 y5 y7 : Int) (b : Nat → Nat → Int), ((y7 * 1) + 0).toNat < n → 1 ≤ y4 → y4 ≤ 1399 → 1 ≤ y7 → y7 ≤ 1399 → 0 < y4 → y4 ≤ y7 → jt (jxX E d 37 63 [some (.inr (.inr (.inl 141))), none, none, none, some (.inl y4), some (.inr (.inl y5)), none, some (.inl y7)] [] (jxSH, a0, b)) (jQ_X1_tryBundle x1 x2 x3 a0 b0) := fun y4 y5 y7 b hlt i0 i1 i2 i3 i4 i5 => (ih _ hlt).2.1 y4 y5 y7 b (Nat.le_refl _) i0 i1 i2 i3 i4 i5
  have ih34 : ∀ (y4 y5 y7 : Int) (b : Nat → Nat → Int), ((y7 * 1) + 0).toNat < n → y7 ≤ 1399 → jt (jxX E d 37 34 [some (.inr (.inr (.inl 141))), none, none, none, some (.inl y4), some (.inr (.inl y5)), none, some (.inl y7)] [] (jxSH, a0, b)) (jQ_X1_tryBundle x1 x2 x3 a0 b0) := fun y4 y5 y7 b hlt i0 => (ih _ hlt).2.2 y4 y5 y7 b (Nat.le_refl _) i0
  have hc93 : ∀ (y4 y5 y7 : Int) (b : Nat → Nat → Int), ((y7 * 1) + 0).toNat ≤ n → 1 ≤ y4 → y4 ≤ 1399 → 1 ≤ y7 → y7 ≤ 1399 → 0 < y4 → y4 ≤ y7 → jt (jxX E d 37 93 [some (.inr (.inr (.inl 141))), none, none, none, some (.inl y4), some (.inr (.inl y5)), none, some (.inl y7)] [] (jxSH, a0, b)) (jQ_X1_tryBundle x1 x2 x3 a0 b0) := by
    intro y4 y5 y7 b hm hi0 hi1 hi2 hi3 hi4 hi5
    refine jt_eq (bq_X1_tryBundle_93 E d y4 y5 y7 a0 b) ?_
    have h1304_ : jxw (y7 + (-1)) = y7 + (-1) := jxw_id (by omega) (by omega)
    exact ih34 y4 y5 (jxw (y7 + (-1))) b (show (((jxw (y7 + (-1))) * 1) + 0).toNat < n from by omega) (show jxw (y7 + (-1)) ≤ 1399 from by omega)
  have hc63 : ∀ (y4 y5 y7 : Int) (b : Nat → Nat → Int), ((y7 * 1) + 0).toNat ≤ n → 1 ≤ y4 → y4 ≤ 1399 → 1 ≤ y7 → y7 ≤ 1399 → 0 < y4 → y4 ≤ y7 → jt (jxX E d 37 63 [some (.inr (.inr (.inl 141))), none, none, none, some (.inl y4), some (.inr (.inl y5)), none, some (.inl y7)] [] (jxSH, a0, b)) (jQ_X1_tryBundle x1 x2 x3 a0 b0) := by
    intro y4 y5 y7 b hm hi0 hi1 hi2 hi3 hi4 hi5
    refine jt_eq (bq_X1_tryBundle_63 E d y4 y5 y7 a0 b) ?_
    refine jt_grd (by omega) ?_
    have h1305_ : jxw (y7 - y4) = y7 - y4 := jxw_id (by omega) (by omega)
    refine jt_grd (by omega) ?_
    refine jt_eJ (eq_J9_min_f86c9 E d (jd_le hd rfl) (b 145 (y7.toNat)) (jxwl ((b 145 ((jxw (y7 - y4)).toNat)) + y5)) a0 b) ?_
    refine jt_grd (by omega) ?_
    exact hc93 y4 y5 y7 (jxu b 145 (y7.toNat) (f_J9_min_f86c9 a0 b (b 145 (y7.toNat)) (jxwl ((b 145 ((jxw (y7 - y4)).toNat)) + y5)))) (show ((y7 * 1) + 0).toNat ≤ n from by omega) (show 1 ≤ y4 from by omega) (show y4 ≤ 1399 from by omega) (show 1 ≤ y7 from by omega) (show y7 ≤ 1399 from by omega) (show 0 < y4 from by omega) (show y4 ≤ y7 from by omega)
  have hc34 : ∀ (y4 y5 y7 : Int) (b : Nat → Nat → Int), ((y7 * 1) + 0).toNat ≤ n → y7 ≤ 1399 → jt (jxX E d 37 34 [some (.inr (.inr (.inl 141))), none, none, none, some (.inl y4), some (.inr (.inl y5)), none, some (.inl y7)] [] (jxSH, a0, b)) (jQ_X1_tryBundle x1 x2 x3 a0 b0) := by
    intro y4 y5 y7 b hm hi0
    refine jt_eq (bq_X1_tryBundle_34 E d y4 y5 y7 a0 b) ?_
    refine jt_ite (fun c1306_ => ?_) (fun c1306_ => ?_)
    ·
      refine jt_ite (fun c1307_ => ?_) (fun c1307_ => ?_)
      ·
        exact jt_rV rfl
      ·
        have h1308_ : jxw (y7 - y4) = y7 - y4 := jxw_id (by omega) (by omega)
        refine jt_grd (by omega) ?_
        have h1309_ := jxlcmp_b (b 145 ((jxw (y7 - y4)).toNat)) 4611686018427387904
        refine jt_ite (fun c1310_ => ?_) (fun c1310_ => ?_)
        ·
          exact hc93 y4 y5 y7 b (show ((y7 * 1) + 0).toNat ≤ n from by omega) (show 1 ≤ y4 from by omega) (show y4 ≤ 1399 from by omega) (show 1 ≤ y7 from by omega) (show y7 ≤ 1399 from by omega) (show 0 < y4 from by omega) (show y4 ≤ y7 from by omega)
        ·
          exact hc63 y4 y5 y7 b (show ((y7 * 1) + 0).toNat ≤ n from by omega) (show 1 ≤ y4 from by omega) (show y4 ≤ 1399 from by omega) (show 1 ≤ y7 from by omega) (show y7 ≤ 1399 from by omega) (show 0 < y4 from by omega) (show y4 ≤ y7 from by omega)
    ·
      exact jt_rV rfl
  exact ⟨hc93, hc63, hc34⟩
theorem cp_X1_tryBundle_25 (E : jxE) (d : Nat) (hd : Nat.ble 2 (d + 1) = true) (x1 x2 x3 : Int) (a0 b0 : Nat → Nat → Int) (hv0 : iv a0) (hp0 : 0 ≤ x1) (hp1 : x1 ≤ 7) : ∀ (y3 y4 y5 : Int) (b : Nat → Nat → Int), jt (jxX E d 37 25 [some (.inr (.inr (.inl 141))), none, none, some (.inl y3), some (.inl y4), some (.inr (.inl y5)), none, none] [] (jxSH, a0, b)) (jQ_X1_tryBundle x1 x2 x3 a0 b0) := by
  intro y3 y4 y5 b
  refine jt_eq (bq_X1_tryBundle_25 E d y3 y4 y5 a0 b) ?_
  refine jt_eI (eq_J9_min_7cf53 E d (jd_le hd rfl) y3 1399 a0 b) ?_
  have h1311_ := f_J9_min_7cf53_eq a0 b y3 1399
  exact (cp_X1_tryBundle_34 E d hd x1 x2 x3 a0 b0 hv0 hp0 hp1 _).2.2 y4 y5 (f_J9_min_7cf53 a0 b y3 1399) b (Nat.le_refl _) (show f_J9_min_7cf53 a0 b y3 1399 ≤ 1399 from by omega)
theorem sp_X1_tryBundle (E : jxE) (d : Nat) (hd : Nat.ble 2 d = true) (x1 x2 x3 : Int) (a0 b0 : Nat → Nat → Int) (hv0 : iv a0) (hp0 : 0 ≤ x1) (hp1 : x1 ≤ 7) : jt (jxC E d 37 [.inr (.inr (.inl 141)), .inl x1, .inl x2, .inl x3] (jxSH, a0, b0)) (jQ_X1_tryBundle x1 x2 x3 a0 b0) := by
  obtain ⟨d, rfl⟩ := jd_succ hd
  refine jt_eq (bq_X1_tryBundle E d x1 x2 x3 a0 b0) ?_
  refine jt_grd (by omega) ?_
  refine jt_eI (eq_X1_shiftOf E d (jd_le hd rfl) x1 a0 b0) ?_
  exact cp_X1_tryBundle_25 E d hd x1 x2 x3 a0 b0 hv0 hp0 hp1 x3 (jxw (x2 * (a0 142 (x1.toNat)))) (jxwl (x2 * (jxwl (281474976710656 - (jxshll 1 (f_X1_shiftOf a0 b0 x1)))))) b0
abbrev jQ_X1_tryKind (x1 x2 : Int) (a0 b0 : Nat → Nat → Int) : List jxV → (Nat → Nat → Int) → (Nat → Nat → Int) → Prop := rV (fun a b => (a0 = a))
theorem cp_X1_tryKind_10 (E : jxE) (d : Nat) (hd : Nat.ble 3 (d + 1) = true) (x1 x2 : Int) (a0 b0 : Nat → Nat → Int) (hv0 : iv a0) (hp0 : 0 ≤ x1) (hp1 : x1 ≤ 7) : ∀ n : Nat, (∀ (y1 y2 y3 y4 y5 : Int) (b : Nat → Nat → Int), (((100 - y4) * 1) + 0).toNat ≤ n → 0 ≤ y1 → y1 ≤ 7 → 1 ≤ y3 → 1 ≤ y4 → y4 ≤ 50 → 1 ≤ y5 → y5 ≤ 50 → jt (jxX E d 36 37 [some (.inr (.inr (.inl 141))), some (.inl y1), some (.inl y2), some (.inl y3), some (.inl y4), some (.inl y5)] [] (jxSH, a0, b)) (jQ_X1_tryKind x1 x2 a0 b0)) ∧ (∀ (y1 y2 y3 y4 : Int) (b : Nat → Nat → Int), (((100 - y4) * 1) + 0).toNat ≤ n → 0 ≤ y1 → y1 ≤ 7 → 1 ≤ y4 → y4 ≤ 100 → jt (jxX E d 36 10 [some (.inr (.inr (.inl 141))), some (.inl y1), some (.inl y2), some (.inl y3), some (.inl y4), none] [] (jxSH, a0, b)) (jQ_X1_tryKind x1 x2 a0 b0)) := by
  refine jx_ind fun n ih => ?_
  have ih37 : ∀ (y1 y2 y3 y4 y5 : Int) (b : Nat → Nat → Int), (((100 - y4) * 1) + 0).toNat < n → 0 ≤ y1 → y1 ≤ 7 → 1 ≤ y3 → 1 ≤ y4 → y4 ≤ 50 → 1 ≤ y5 → y5 ≤ 50 → jt (jxX E d 36 37 [some (.inr (.inr (.inl 141))), some (.inl y1), some (.inl y2), some (.inl y3), some (.inl y4), some (.inl y5)] [] (jxSH, a0, b)) (jQ_X1_tryKind x1 x2 a0 b0) := fun y1 y2 y3 y4 y5 b hlt i0 i1 i2 i3 i4 i5 i6 => (ih _ hlt).1 y1 y2 y3 y4 y5 b (Nat.le_refl _) i0 i1 i2 i3 i4 i5 i6
  have ih10 : ∀ (y1 y2 y3 y4 : Int) (b : Nat → Nat → Int), (((100 - y4) * 1) + 0).toNat < n → 0 ≤ y1 → y1 ≤ 7 → 1 ≤ y4 → y4 ≤ 100 → jt (jxX E d 36 10 [some (.inr (.inr (.inl 141))), some (.inl y1), some (.inl y2), some (.inl y3), some (.inl y4), none] [] (jxSH, a0, b)) (jQ_X1_tryKind x1 x2 a0 b0) := fun y1 y2 y3 y4 b hlt i0 i1 i2 i3 => (ih _ hlt).2 y1 y2 y3 y4 b (Nat.le_refl _) i0 i1 i2 i3
  have hc37 : ∀ (y1 y2 y3 y4 y5 : Int) (b : Nat → Nat → Int), (((100 - y4) * 1) + 0).toNat ≤ n → 0 ≤ y1 → y1 ≤ 7 → 1 ≤ y3 → 1 ≤ y4 → y4 ≤ 50 → 1 ≤ y5 → y5 ≤ 50 → jt (jxX E d 36 37 [some (.inr (.inr (.inl 141))), some (.inl y1), some (.inl y2), some (.inl y3), some (.inl y4), some (.inl y5)] [] (jxSH, a0, b)) (jQ_X1_tryKind x1 x2 a0 b0) := by
    intro y1 y2 y3 y4 y5 b hm hi0 hi1 hi2 hi3 hi4 hi5 hi6
    refine jt_eq (bq_X1_tryKind_37 E d y1 y2 y3 y4 y5 a0 b) ?_
    have h1312_ : jxw (y4 * 2) = y4 * 2 := jxw_id (by omega) (by omega)
    exact ih10 y1 y2 (jxw (y3 - y5)) (jxw (y4 * 2)) b (show (((100 - (jxw (y4 * 2))) * 1) + 0).toNat < n from by omega) (show 0 ≤ y1 from by omega) (show y1 ≤ 7 from by omega) (show 1 ≤ jxw (y4 * 2) from by omega) (show jxw (y4 * 2) ≤ 100 from by omega)
  have hc10 : ∀ (y1 y2 y3 y4 : Int) (b : Nat → Nat → Int), (((100 - y4) * 1) + 0).toNat ≤ n → 0 ≤ y1 → y1 ≤ 7 → 1 ≤ y4 → y4 ≤ 100 → jt (jxX E d 36 10 [some (.inr (.inr (.inl 141))), some (.inl y1), some (.inl y2), some (.inl y3), some (.inl y4), none] [] (jxSH, a0, b)) (jQ_X1_tryKind x1 x2 a0 b0) := by
    intro y1 y2 y3 y4 b hm hi0 hi1 hi2 hi3
    refine jt_eq (bq_X1_tryKind_10 E d y1 y2 y3 y4 a0 b) ?_
    refine jt_ite (fun c1313_ => ?_) (fun c1313_ => ?_)
    ·
      refine jt_ite (fun c1314_ => ?_) (fun c1314_ => ?_)
      ·
        exact jt_rV rfl
      ·
        refine jt_eI (eq_J9_min_7cf53 E d (jd_le hd rfl) y4 y3 a0 b) ?_
        refine jt_bV (sp_X1_tryBundle E d (jd_le hd rfl) y1 (f_J9_min_7cf53 a0 b y4 y3) y2 a0 b hv0 (show 0 ≤ y1 from by omega) (show y1 ≤ 7 from by omega)) (fun a1315_ b1315_ h1315_ => ?_)
        subst h1315_
        have h1316_ := f_J9_min_7cf53_eq a0 b y4 y3
        exact hc37 y1 y2 y3 y4 (f_J9_min_7cf53 a0 b y4 y3) b1315_ (show (((100 - y4) * 1) + 0).toNat ≤ n from by omega) (show 0 ≤ y1 from by omega) (show y1 ≤ 7 from by omega) (show 1 ≤ y3 from by omega) (show 1 ≤ y4 from by omega) (show y4 ≤ 50 from by omega) (show 1 ≤ f_J9_min_7cf53 a0 b y4 y3 from by omega) (show f_J9_min_7cf53 a0 b y4 y3 ≤ 50 from by omega)
    ·
      exact jt_rV rfl
  exact ⟨hc37, hc10⟩
theorem sp_X1_tryKind (E : jxE) (d : Nat) (hd : Nat.ble 3 d = true) (x1 x2 : Int) (a0 b0 : Nat → Nat → Int) (hv0 : iv a0) (hp0 : 0 ≤ x1) (hp1 : x1 ≤ 7) : jt (jxC E d 36 [.inr (.inr (.inl 141)), .inl x1, .inl x2] (jxSH, a0, b0)) (jQ_X1_tryKind x1 x2 a0 b0) := by
  obtain ⟨d, rfl⟩ := jd_succ hd
  refine jt_eq (bq_X1_tryKind E d x1 x2 a0 b0) ?_
  refine jt_grd (by omega) ?_
  exact (cp_X1_tryKind_10 E d hd x1 x2 a0 b0 hv0 hp0 hp1 _).2 x1 x2 (a0 143 (x1.toNat)) 1 b0 (Nat.le_refl _) (show 0 ≤ x1 from by omega) (show x1 ≤ 7 from by omega) (show 1 ≤ 1 from by omega) (show 1 ≤ 100 from by omega)
abbrev jQ_X1_findBestWays (x1 : Int) (a0 b0 : Nat → Nat → Int) : List jxV → (Nat → Nat → Int) → (Nat → Nat → Int) → Prop := rV (fun a b => (a0 = a))
theorem cp_X1_findBestWays_38 (E : jxE) (d : Nat) (hd : Nat.ble 4 (d + 1) = true) (x1 : Int) (a0 b0 : Nat → Nat → Int) (hv0 : iv a0) : ∀ n : Nat, (∀ (y1 y2 : Int) (b : Nat → Nat → Int), (((8 - y2) * 1) + 0).toNat ≤ n → 0 ≤ y2 → y2 ≤ 8 → jt (jxX E d 35 38 [some (.inr (.inr (.inl 141))), some (.inl y1), some (.inl y2)] [] (jxSH, a0, b)) (jQ_X1_findBestWays x1 a0 b0)) := by
  refine jx_ind fun n ih => ?_
  have ih38 : ∀ (y1 y2 : Int) (b : Nat → Nat → Int), (((8 - y2) * 1) + 0).toNat < n → 0 ≤ y2 → y2 ≤ 8 → jt (jxX E d 35 38 [some (.inr (.inr (.inl 141))), some (.inl y1), some (.inl y2)] [] (jxSH, a0, b)) (jQ_X1_findBestWays x1 a0 b0) := fun y1 y2 b hlt i0 i1 => (ih _ hlt) y1 y2 b (Nat.le_refl _) i0 i1
  have hc38 : ∀ (y1 y2 : Int) (b : Nat → Nat → Int), (((8 - y2) * 1) + 0).toNat ≤ n → 0 ≤ y2 → y2 ≤ 8 → jt (jxX E d 35 38 [some (.inr (.inr (.inl 141))), some (.inl y1), some (.inl y2)] [] (jxSH, a0, b)) (jQ_X1_findBestWays x1 a0 b0) := by
    intro y1 y2 b hm hi0 hi1
    refine jt_eq (bq_X1_findBestWays_38 E d y1 y2 a0 b) ?_
    refine jt_ite (fun c1317_ => ?_) (fun c1317_ => ?_)
    ·
      refine jt_bV (sp_X1_tryKind E d (jd_le hd rfl) y2 y1 a0 b hv0 (show 0 ≤ y2 from by omega) (show y2 ≤ 7 from by omega)) (fun a1318_ b1318_ h1318_ => ?_)
      subst h1318_
      have h1319_ : jxw (y2 + 1) = y2 + 1 := jxw_id (by omega) (by omega)
      exact ih38 y1 (jxw (y2 + 1)) b1318_ (show (((8 - (jxw (y2 + 1))) * 1) + 0).toNat < n from by omega) (show 0 ≤ jxw (y2 + 1) from by omega) (show jxw (y2 + 1) ≤ 8 from by omega)
    ·
      exact jt_rV rfl
  exact hc38
theorem cp_X1_findBestWays_29 (E : jxE) (d : Nat) (hd : Nat.ble 4 (d + 1) = true) (x1 : Int) (a0 b0 : Nat → Nat → Int) (hv0 : iv a0) : ∀ (y1 : Int) (b : Nat → Nat → Int), jt (jxX E d 35 29 [some (.inr (.inr (.inl 141))), some (.inl y1), none] [] (jxSH, a0, b)) (jQ_X1_findBestWays x1 a0 b0) := by
  intro y1 b
  refine jt_eq (bq_X1_findBestWays_29 E d y1 a0 b) ?_
  exact (cp_X1_findBestWays_38 E d hd x1 a0 b0 hv0 _) y1 0 (jxu b 145 0 0) (Nat.le_refl _) (show 0 ≤ 0 from by omega) (show 0 ≤ 8 from by omega)
theorem cp_X1_findBestWays_2 (E : jxE) (d : Nat) (hd : Nat.ble 4 (d + 1) = true) (x1 : Int) (a0 b0 : Nat → Nat → Int) (hv0 : iv a0) : ∀ n : Nat, (∀ (y1 y2 : Int) (b : Nat → Nat → Int), (((1400 - y2) * 1) + 0).toNat ≤ n → 1 ≤ y2 → y2 ≤ 1400 → jt (jxX E d 35 2 [some (.inr (.inr (.inl 141))), some (.inl y1), some (.inl y2)] [] (jxSH, a0, b)) (jQ_X1_findBestWays x1 a0 b0)) := by
  refine jx_ind fun n ih => ?_
  have ih2 : ∀ (y1 y2 : Int) (b : Nat → Nat → Int), (((1400 - y2) * 1) + 0).toNat < n → 1 ≤ y2 → y2 ≤ 1400 → jt (jxX E d 35 2 [some (.inr (.inr (.inl 141))), some (.inl y1), some (.inl y2)] [] (jxSH, a0, b)) (jQ_X1_findBestWays x1 a0 b0) := fun y1 y2 b hlt i0 i1 => (ih _ hlt) y1 y2 b (Nat.le_refl _) i0 i1
  have hc2 : ∀ (y1 y2 : Int) (b : Nat → Nat → Int), (((1400 - y2) * 1) + 0).toNat ≤ n → 1 ≤ y2 → y2 ≤ 1400 → jt (jxX E d 35 2 [some (.inr (.inr (.inl 141))), some (.inl y1), some (.inl y2)] [] (jxSH, a0, b)) (jQ_X1_findBestWays x1 a0 b0) := by
    intro y1 y2 b hm hi0 hi1
    refine jt_eq (bq_X1_findBestWays_2 E d y1 y2 a0 b) ?_
    refine jt_ite (fun c1320_ => ?_) (fun c1320_ => ?_)
    ·
      exact cp_X1_findBestWays_29 E d hd x1 a0 b0 hv0 y1 b
    ·
      refine jt_ite (fun c1321_ => ?_) (fun c1321_ => ?_)
      ·
        refine jt_grd (by omega) ?_
        have h1322_ : jxw (y2 + 1) = y2 + 1 := jxw_id (by omega) (by omega)
        exact ih2 y1 (jxw (y2 + 1)) (jxu b 145 (y2.toNat) 4611686018427387904) (show (((1400 - (jxw (y2 + 1))) * 1) + 0).toNat < n from by omega) (show 1 ≤ jxw (y2 + 1) from by omega) (show jxw (y2 + 1) ≤ 1400 from by omega)
      ·
        exact cp_X1_findBestWays_29 E d hd x1 a0 b0 hv0 y1 b
  exact hc2
theorem sp_X1_findBestWays (E : jxE) (d : Nat) (hd : Nat.ble 4 d = true) (x1 : Int) (a0 b0 : Nat → Nat → Int) (hv0 : iv a0) : jt (jxC E d 35 [.inr (.inr (.inl 141)), .inl x1] (jxSH, a0, b0)) (jQ_X1_findBestWays x1 a0 b0) := by
  obtain ⟨d, rfl⟩ := jd_succ hd
  refine jt_eq (bq_X1_findBestWays E d x1 a0 b0) ?_
  exact (cp_X1_findBestWays_2 E d hd x1 a0 b0 hv0 _) x1 1 b0 (Nat.le_refl _) (show 1 ≤ 1 from by omega) (show 1 ≤ 1400 from by omega)
def jW_X1_takeOut : List (Nat × Nat) := [(143, 9999), (144, 9999)]
abbrev jQ_X1_takeOut (x1 : Int) (a0 b0 : Nat → Nat → Int) : List jxV → (Nat → Nat → Int) → (Nat → Nat → Int) → Prop := rV (fun a b => (iv a) ∧ (jfr jW_X1_takeOut a0 a) ∧ (b0 = b))
theorem cp_X1_takeOut_22 (E : jxE) (d : Nat) (hd : Nat.ble 2 (d + 1) = true) (x1 : Int) (a0 b0 : Nat → Nat → Int) (hv0 : iv a0) : ∀ n : Nat, (∀ (y5 y7 : Int) (a : Nat → Nat → Int), (((8 - y7) * 1) + 0).toNat ≤ n → iv a → jfr jW_X1_takeOut a0 a → 0 ≤ y7 → y7 ≤ 7 → jt (jxX E d 38 48 [some (.inr (.inr (.inl 141))), none, none, none, none, some (.inr (.inl y5)), none, some (.inl y7)] [] (jxSH, a, b0)) (jQ_X1_takeOut x1 a0 b0)) ∧ (∀ (y5 y7 : Int) (a : Nat → Nat → Int), (((8 - y7) * 1) + 0).toNat ≤ n → iv a → jfr jW_X1_takeOut a0 a → 0 ≤ y7 → y7 ≤ 8 → jt (jxX E d 38 22 [some (.inr (.inr (.inl 141))), none, none, none, none, some (.inr (.inl y5)), none, some (.inl y7)] [] (jxSH, a, b0)) (jQ_X1_takeOut x1 a0 b0)) := by
  refine jx_ind fun n ih => ?_
  have ih48 : ∀ (y5 y7 : Int) (a : Nat → Nat → Int), (((8 - y7) * 1) + 0).toNat < n → iv a → jfr jW_X1_takeOut a0 a → 0 ≤ y7 → y7 ≤ 7 → jt (jxX E d 38 48 [some (.inr (.inr (.inl 141))), none, none, none, none, some (.inr (.inl y5)), none, some (.inl y7)] [] (jxSH, a, b0)) (jQ_X1_takeOut x1 a0 b0) := fun y5 y7 a hlt i0 i1 i2 i3 => (ih _ hlt).1 y5 y7 a (Nat.le_refl _) i0 i1 i2 i3
  have ih22 : ∀ (y5 y7 : Int) (a : Nat → Nat → Int), (((8 - y7) * 1) + 0).toNat < n → iv a → jfr jW_X1_takeOut a0 a → 0 ≤ y7 → y7 ≤ 8 → jt (jxX E d 38 22 [some (.inr (.inr (.inl 141))), none, none, none, none, some (.inr (.inl y5)), none, some (.inl y7)] [] (jxSH, a, b0)) (jQ_X1_takeOut x1 a0 b0) := fun y5 y7 a hlt i0 i1 i2 i3 => (ih _ hlt).2 y5 y7 a (Nat.le_refl _) i0 i1 i2 i3
  have hc48 : ∀ (y5 y7 : Int) (a : Nat → Nat → Int), (((8 - y7) * 1) + 0).toNat ≤ n → iv a → jfr jW_X1_takeOut a0 a → 0 ≤ y7 → y7 ≤ 7 → jt (jxX E d 38 48 [some (.inr (.inr (.inl 141))), none, none, none, none, some (.inr (.inl y5)), none, some (.inl y7)] [] (jxSH, a, b0)) (jQ_X1_takeOut x1 a0 b0) := by
    intro y5 y7 a hm hv hf hi0 hi1
    refine jt_eq (bq_X1_takeOut_48 E d y5 y7 a b0) ?_
    refine jt_grd (by omega) ?_
    refine jt_grd (by omega) ?_
    refine jt_grd (by omega) ?_
    have hv1323_ : iv (jxu a 143 (y7.toNat) (jxw ((a 143 (y7.toNat)) - (a 144 (y7.toNat))))) := iv_putf hv rfl
    have hf1324_ : jfr jW_X1_takeOut a0 (jxu a 143 (y7.toNat) (jxw ((a 143 (y7.toNat)) - (a 144 (y7.toNat))))) := jfr_put hf rfl
    have h1325_ : jxw (y7 + 1) = y7 + 1 := jxw_id (by omega) (by omega)
    exact ih22 y5 (jxw (y7 + 1)) (jxu a 143 (y7.toNat) (jxw ((a 143 (y7.toNat)) - (a 144 (y7.toNat))))) (show (((8 - (jxw (y7 + 1))) * 1) + 0).toNat < n from by omega) hv1323_ hf1324_ (show 0 ≤ jxw (y7 + 1) from by omega) (show jxw (y7 + 1) ≤ 8 from by omega)
  have hc22 : ∀ (y5 y7 : Int) (a : Nat → Nat → Int), (((8 - y7) * 1) + 0).toNat ≤ n → iv a → jfr jW_X1_takeOut a0 a → 0 ≤ y7 → y7 ≤ 8 → jt (jxX E d 38 22 [some (.inr (.inr (.inl 141))), none, none, none, none, some (.inr (.inl y5)), none, some (.inl y7)] [] (jxSH, a, b0)) (jQ_X1_takeOut x1 a0 b0) := by
    intro y5 y7 a hm hv hf hi0 hi1
    refine jt_eq (bq_X1_takeOut_22 E d y5 y7 a b0) ?_
    refine jt_ite (fun c1326_ => ?_) (fun c1326_ => ?_)
    ·
      refine jt_eI (eq_X1_shiftOf E d (jd_le hd rfl) y7 a b0) ?_
      refine jt_grd (by omega) ?_
      have hv1327_ : iv (jxu a 144 (y7.toNat) (jxand (jxw (jxshrl y5 (f_X1_shiftOf a b0 y7))) 63)) := iv_putf hv rfl
      have hf1328_ : jfr jW_X1_takeOut a0 (jxu a 144 (y7.toNat) (jxand (jxw (jxshrl y5 (f_X1_shiftOf a b0 y7))) 63)) := jfr_put hf rfl
      exact hc48 y5 y7 (jxu a 144 (y7.toNat) (jxand (jxw (jxshrl y5 (f_X1_shiftOf a b0 y7))) 63)) (show (((8 - y7) * 1) + 0).toNat ≤ n from by omega) hv1327_ hf1328_ (show 0 ≤ y7 from by omega) (show y7 ≤ 7 from by omega)
    ·
      exact jt_rV ⟨hv, hf, rfl⟩
  exact ⟨hc48, hc22⟩
theorem cp_X1_takeOut_19 (E : jxE) (d : Nat) (hd : Nat.ble 2 (d + 1) = true) (x1 : Int) (a0 b0 : Nat → Nat → Int) (hv0 : iv a0) : ∀ (y5 : Int) (a : Nat → Nat → Int), iv a → jfr jW_X1_takeOut a0 a → jt (jxX E d 38 19 [some (.inr (.inr (.inl 141))), none, none, none, none, some (.inr (.inl y5)), none, none] [] (jxSH, a, b0)) (jQ_X1_takeOut x1 a0 b0) := by
  intro y5 a hv hf
  refine jt_eq (bq_X1_takeOut_19 E d y5 a b0) ?_
  exact (cp_X1_takeOut_22 E d hd x1 a0 b0 hv0 _).2 y5 0 a (Nat.le_refl _) hv hf (show 0 ≤ 0 from by omega) (show 0 ≤ 8 from by omega)
theorem sp_X1_takeOut (E : jxE) (d : Nat) (hd : Nat.ble 2 d = true) (x1 : Int) (a0 b0 : Nat → Nat → Int) (hv0 : iv a0) : jt (jxC E d 38 [.inr (.inr (.inl 141)), .inr (.inl x1)] (jxSH, a0, b0)) (jQ_X1_takeOut x1 a0 b0) := by
  obtain ⟨d, rfl⟩ := jd_succ hd
  refine jt_eq (bq_X1_takeOut E d x1 a0 b0) ?_
  exact cp_X1_takeOut_19 E d hd x1 a0 b0 hv0 (jxwl ((jxshll (jxshrl (jxwl ((jxwl (x1 + 281474976710656)) - 1)) 48) 48) - x1)) a0 hv0 (jfr_rf _ _)
def jW_X1_payAtLeast : List (Nat × Nat) := [(143, 9999), (144, 9999)]
abbrev jQ_X1_payAtLeast (x1 : Int) (a0 b0 : Nat → Nat → Int) : List jxV → (Nat → Nat → Int) → (Nat → Nat → Int) → Prop := rI (fun r a b => (iv a) ∧ (jfr jW_X1_payAtLeast a0 a))
theorem cp_X1_payAtLeast_54 (E : jxE) (d : Nat) (hd : Nat.ble 5 (d + 1) = true) (x1 : Int) (a0 b0 : Nat → Nat → Int) (hv0 : iv a0) : ∀ (y3 : Int) (a b : Nat → Nat → Int), iv a → jfr jW_X1_payAtLeast a0 a → 0 ≤ y3 → y3 ≤ 1399 → jt (jxX E d 33 54 [none, none, none, some (.inl y3)] [] (jxSH, a, b)) (jQ_X1_payAtLeast x1 a0 b0) := by
  intro y3 a b hv hf hi0 hi1
  refine jt_eq (bq_X1_payAtLeast_54 E d y3 a b) ?_
  exact jt_rI ⟨hv, hf⟩
theorem cp_X1_payAtLeast_26 (E : jxE) (d : Nat) (hd : Nat.ble 5 (d + 1) = true) (x1 : Int) (a0 b0 : Nat → Nat → Int) (hv0 : iv a0) : ∀ n : Nat, (∀ (y2 y3 : Int) (a b : Nat → Nat → Int), (((1400 - y3) * 1) + 0).toNat ≤ n → iv a → jfr jW_X1_payAtLeast a0 a → y2 ≤ 1399 → 0 ≤ y3 → jt (jxX E d 33 26 [some (.inr (.inr (.inl 141))), none, some (.inl y2), some (.inl y3)] [] (jxSH, a, b)) (jQ_X1_payAtLeast x1 a0 b0)) := by
  refine jx_ind fun n ih => ?_
  have ih26 : ∀ (y2 y3 : Int) (a b : Nat → Nat → Int), (((1400 - y3) * 1) + 0).toNat < n → iv a → jfr jW_X1_payAtLeast a0 a → y2 ≤ 1399 → 0 ≤ y3 → jt (jxX E d 33 26 [some (.inr (.inr (.inl 141))), none, some (.inl y2), some (.inl y3)] [] (jxSH, a, b)) (jQ_X1_payAtLeast x1 a0 b0) := fun y2 y3 a b hlt i0 i1 i2 i3 => (ih _ hlt) y2 y3 a b (Nat.le_refl _) i0 i1 i2 i3
  have hc26 : ∀ (y2 y3 : Int) (a b : Nat → Nat → Int), (((1400 - y3) * 1) + 0).toNat ≤ n → iv a → jfr jW_X1_payAtLeast a0 a → y2 ≤ 1399 → 0 ≤ y3 → jt (jxX E d 33 26 [some (.inr (.inr (.inl 141))), none, some (.inl y2), some (.inl y3)] [] (jxSH, a, b)) (jQ_X1_payAtLeast x1 a0 b0) := by
    intro y2 y3 a b hm hv hf hi0 hi1
    refine jt_eq (bq_X1_payAtLeast_26 E d y2 y3 a b) ?_
    refine jt_ite (fun c1329_ => ?_) (fun c1329_ => ?_)
    ·
      exact jt_rI ⟨hv, hf⟩
    ·
      refine jt_grd (by omega) ?_
      have h1330_ := jxlcmp_b (b 145 (y3.toNat)) 4611686018427387904
      refine jt_ite (fun c1331_ => ?_) (fun c1331_ => ?_)
      ·
        have h1332_ : jxw (y3 + 1) = y3 + 1 := jxw_id (by omega) (by omega)
        exact ih26 y2 (jxw (y3 + 1)) a b (show (((1400 - (jxw (y3 + 1))) * 1) + 0).toNat < n from by omega) hv hf (show y2 ≤ 1399 from by omega) (show 0 ≤ jxw (y3 + 1) from by omega)
      ·
        refine jt_grd (by omega) ?_
        refine jt_bV (sp_X1_takeOut E d (jd_le hd rfl) (b 145 (y3.toNat)) a b hv) (fun a1333_ b1333_ h1333_ => ?_)
        obtain ⟨hv1333_, hf1333_, rfl⟩ := h1333_
        have hf1334_ : jfr jW_X1_payAtLeast a0 a1333_ := jfr_tr hf hf1333_ rfl
        exact cp_X1_payAtLeast_54 E d hd x1 a0 b0 hv0 y3 a1333_ b hv1333_ hf1334_ (show 0 ≤ y3 from by omega) (show y3 ≤ 1399 from by omega)
  exact hc26
theorem sp_X1_payAtLeast (E : jxE) (d : Nat) (hd : Nat.ble 5 d = true) (x1 : Int) (a0 b0 : Nat → Nat → Int) (hv0 : iv a0) : jt (jxC E d 33 [.inr (.inr (.inl 141)), .inl x1] (jxSH, a0, b0)) (jQ_X1_payAtLeast x1 a0 b0) := by
  obtain ⟨d, rfl⟩ := jd_succ hd
  refine jt_eq (bq_X1_payAtLeast E d x1 a0 b0) ?_
  refine jt_bI (sp_X1_dearestStamp E d (jd_le hd rfl) a0 b0 hv0) (fun r1335_ a1335_ b1335_ h1335_ => ?_)
  obtain ⟨rfl, rfl⟩ := h1335_
  refine jt_eI (eq_J9_min_7cf53 E d (jd_le hd rfl) (jxw ((jxw (x1 + r1335_)) - 1)) 1399 a0 b0) ?_
  refine jt_bV (sp_X1_findBestWays E d (jd_le hd rfl) (f_J9_min_7cf53 a0 b0 (jxw ((jxw (x1 + r1335_)) - 1)) 1399) a0 b0 hv0) (fun a1336_ b1336_ h1336_ => ?_)
  subst h1336_
  refine jt_eI (eq_J9_max_7cf53 E d (jd_le hd rfl) x1 0 a0 b1336_) ?_
  have h1337_ := jxw_im (x1 + r1335_)
  have h1338_ := jxw_rg (x1 + r1335_)
  have h1339_ := jxw_im ((jxw (x1 + r1335_)) - 1)
  have h1340_ := jxw_rg ((jxw (x1 + r1335_)) - 1)
  have h1341_ := f_J9_min_7cf53_eq a0 b0 (jxw ((jxw (x1 + r1335_)) - 1)) 1399
  have h1342_ := f_J9_max_7cf53_eq a0 b1336_ x1 0
  exact (cp_X1_payAtLeast_26 E d hd x1 a0 b0 hv0 _) (f_J9_min_7cf53 a0 b0 (jxw ((jxw (x1 + r1335_)) - 1)) 1399) (f_J9_max_7cf53 a0 b1336_ x1 0) a0 b1336_ (Nat.le_refl _) hv0 (jfr_rf _ _) (show f_J9_min_7cf53 a0 b0 (jxw ((jxw (x1 + r1335_)) - 1)) 1399 ≤ 1399 from by omega) (show 0 ≤ f_J9_max_7cf53 a0 b1336_ x1 0 from by omega)
abbrev jQ_X9_holdingOn (x1 : Int) (a0 b0 : Nat → Nat → Int) : List jxV → (Nat → Nat → Int) → (Nat → Nat → Int) → Prop := rI (fun r a b => (a0 = a) ∧ (b0 = b) ∧ ((a0 105 5 = 0 → r = 0 - 1)) ∧ (r = HO (a0 106) x1 (a0 105 5).toNat))
theorem cp_X9_holdingOn_4 (E : jxE) (d : Nat) (hd : Nat.ble 1 (d + 1) = true) (x1 : Int) (a0 b0 : Nat → Nat → Int) (hv0 : iv a0) : ∀ n : Nat, (∀ (y1 y2 y3 : Int), (((10 - y3) * 1) + 0).toNat ≤ n → 0 - 1 ≤ y2 → y2 ≤ 9 → 0 ≤ y3 → y3 ≤ 9 → 1 ≤ a0 105 5 → (y1 = x1) → y3 < a0 105 5 → (y2 = HO (a0 106) x1 (y3.toNat + 1)) → jt (jxX E d 139 44 [some (.inr (.inr (.inl 105))), some (.inl y1), some (.inl y2), some (.inl y3)] [] (jxSH, a0, b0)) (jQ_X9_holdingOn x1 a0 b0)) ∧ (∀ (y1 y3 : Int), (((10 - y3) * 1) + 0).toNat ≤ n → 0 ≤ y3 → y3 ≤ 9 → 1 ≤ a0 105 5 → (y1 = x1) → y3 < a0 105 5 → (HO (a0 106) x1 (y3.toNat + 1) = y3) → jt (jxX E d 139 42 [some (.inr (.inr (.inl 105))), some (.inl y1), none, some (.inl y3)] [] (jxSH, a0, b0)) (jQ_X9_holdingOn x1 a0 b0)) ∧ (∀ (y1 y2 y3 : Int), (((10 - y3) * 1) + 0).toNat ≤ n → 0 - 1 ≤ y2 → y2 ≤ 9 → 0 ≤ y3 → y3 ≤ 10 → (a0 105 5 = 0 → y2 = 0 - 1) → (y1 = x1) → y3 ≤ a0 105 5 → (y2 = HO (a0 106) x1 y3.toNat) → jt (jxX E d 139 4 [some (.inr (.inr (.inl 105))), some (.inl y1), some (.inl y2), some (.inl y3)] [] (jxSH, a0, b0)) (jQ_X9_holdingOn x1 a0 b0)) := by
  refine jx_ind fun n ih => ?_
  have ih44 : ∀ (y1 y2 y3 : Int), (((10 - y3) * 1) + 0).toNat < n → 0 - 1 ≤ y2 → y2 ≤ 9 → 0 ≤ y3 → y3 ≤ 9 → 1 ≤ a0 105 5 → (y1 = x1) → y3 < a0 105 5 → (y2 = HO (a0 106) x1 (y3.toNat + 1)) → jt (jxX E d 139 44 [some (.inr (.inr (.inl 105))), some (.inl y1), some (.inl y2), some (.inl y3)] [] (jxSH, a0, b0)) (jQ_X9_holdingOn x1 a0 b0) := fun y1 y2 y3 hlt i0 i1 i2 i3 i4 i5 i6 i7 => (ih _ hlt).1 y1 y2 y3 (Nat.le_refl _) i0 i1 i2 i3 i4 i5 i6 i7
  have ih42 : ∀ (y1 y3 : Int), (((10 - y3) * 1) + 0).toNat < n → 0 ≤ y3 → y3 ≤ 9 → 1 ≤ a0 105 5 → (y1 = x1) → y3 < a0 105 5 → (HO (a0 106) x1 (y3.toNat + 1) = y3) → jt (jxX E d 139 42 [some (.inr (.inr (.inl 105))), some (.inl y1), none, some (.inl y3)] [] (jxSH, a0, b0)) (jQ_X9_holdingOn x1 a0 b0) := fun y1 y3 hlt i0 i1 i2 i3 i4 i5 => (ih _ hlt).2.1 y1 y3 (Nat.le_refl _) i0 i1 i2 i3 i4 i5
  have ih4 : ∀ (y1 y2 y3 : Int), (((10 - y3) * 1) + 0).toNat < n → 0 - 1 ≤ y2 → y2 ≤ 9 → 0 ≤ y3 → y3 ≤ 10 → (a0 105 5 = 0 → y2 = 0 - 1) → (y1 = x1) → y3 ≤ a0 105 5 → (y2 = HO (a0 106) x1 y3.toNat) → jt (jxX E d 139 4 [some (.inr (.inr (.inl 105))), some (.inl y1), some (.inl y2), some (.inl y3)] [] (jxSH, a0, b0)) (jQ_X9_holdingOn x1 a0 b0) := fun y1 y2 y3 hlt i0 i1 i2 i3 i4 i5 i6 i7 => (ih _ hlt).2.2 y1 y2 y3 (Nat.le_refl _) i0 i1 i2 i3 i4 i5 i6 i7
  have hc44 : ∀ (y1 y2 y3 : Int), (((10 - y3) * 1) + 0).toNat ≤ n → 0 - 1 ≤ y2 → y2 ≤ 9 → 0 ≤ y3 → y3 ≤ 9 → 1 ≤ a0 105 5 → (y1 = x1) → y3 < a0 105 5 → (y2 = HO (a0 106) x1 (y3.toNat + 1)) → jt (jxX E d 139 44 [some (.inr (.inr (.inl 105))), some (.inl y1), some (.inl y2), some (.inl y3)] [] (jxSH, a0, b0)) (jQ_X9_holdingOn x1 a0 b0) := by
    intro y1 y2 y3 hm hi0 hi1 hi2 hi3 hi4 hy1 hi6 hho
    refine jt_eq (bq_X9_holdingOn_44 E d y1 y2 y3 a0 b0) ?_
    have h1343_ := iv_get hv0 (k := 105) (j := 5) (l := 0) (u := 10) rfl
    have h1344_ : jxw (y3 + 1) = y3 + 1 := jxw_id (by omega) (by omega)
    exact ih4 y1 y2 (jxw (y3 + 1)) (show (((10 - (jxw (y3 + 1))) * 1) + 0).toNat < n from by omega) (show 0 - 1 ≤ y2 from by omega) (show y2 ≤ 9 from by omega) (show 0 ≤ jxw (y3 + 1) from by omega) (show jxw (y3 + 1) ≤ 10 from by omega) (show (a0 105 5 = 0 → y2 = 0 - 1) from by omega) (by first | rfl | assumption) (show jxw (y3 + 1) ≤ a0 105 5 from by omega) (by first | rfl | (rw [show (jxw (y3 + 1)).toNat = y3.toNat + 1 from by omega]; exact hho))
  have hc42 : ∀ (y1 y3 : Int), (((10 - y3) * 1) + 0).toNat ≤ n → 0 ≤ y3 → y3 ≤ 9 → 1 ≤ a0 105 5 → (y1 = x1) → y3 < a0 105 5 → (HO (a0 106) x1 (y3.toNat + 1) = y3) → jt (jxX E d 139 42 [some (.inr (.inr (.inl 105))), some (.inl y1), none, some (.inl y3)] [] (jxSH, a0, b0)) (jQ_X9_holdingOn x1 a0 b0) := by
    intro y1 y3 hm hi0 hi1 hi2 hy1 hi4 hh
    refine jt_eq (bq_X9_holdingOn_42 E d y1 y3 a0 b0) ?_
    have h1345_ := iv_get hv0 (k := 105) (j := 5) (l := 0) (u := 10) rfl
    exact hc44 y1 y3 y3 (show (((10 - y3) * 1) + 0).toNat ≤ n from by omega) (show 0 - 1 ≤ y3 from by omega) (show y3 ≤ 9 from by omega) (show 0 ≤ y3 from by omega) (show y3 ≤ 9 from by omega) (show 1 ≤ a0 105 5 from by omega) (by first | rfl | assumption) (show y3 < a0 105 5 from by omega) (by first | (rw [HO_s2 (Or.inl (by rw [← hy1]; omega))]; exact hho) | (rw [HO_s2 (Or.inr ⟨by rw [← hho]; omega, by rw [← hho]; omega⟩)]; exact hho) | exact hh.symm)
  have hc4 : ∀ (y1 y2 y3 : Int), (((10 - y3) * 1) + 0).toNat ≤ n → 0 - 1 ≤ y2 → y2 ≤ 9 → 0 ≤ y3 → y3 ≤ 10 → (a0 105 5 = 0 → y2 = 0 - 1) → (y1 = x1) → y3 ≤ a0 105 5 → (y2 = HO (a0 106) x1 y3.toNat) → jt (jxX E d 139 4 [some (.inr (.inr (.inl 105))), some (.inl y1), some (.inl y2), some (.inl y3)] [] (jxSH, a0, b0)) (jQ_X9_holdingOn x1 a0 b0) := by
    intro y1 y2 y3 hm hi0 hi1 hi2 hi3 hi4 hy1 hi6 hho
    refine jt_eq (bq_X9_holdingOn_4 E d y1 y2 y3 a0 b0) ?_
    have h1346_ := iv_get hv0 (k := 105) (j := 5) (l := 0) (u := 10) rfl
    refine jt_ite (fun c1347_ => ?_) (fun c1347_ => ?_)
    ·
      refine jt_grd (by omega) ?_
      refine jt_ite (fun c1348_ => ?_) (fun c1348_ => ?_)
      ·
        exact hc44 y1 y2 y3 (show (((10 - y3) * 1) + 0).toNat ≤ n from by omega) (show 0 - 1 ≤ y2 from by omega) (show y2 ≤ 9 from by omega) (show 0 ≤ y3 from by omega) (show y3 ≤ 9 from by omega) (show 1 ≤ a0 105 5 from by omega) (by first | rfl | assumption) (show y3 < a0 105 5 from by omega) (by first | (rw [HO_s2 (Or.inl (by rw [← hy1]; omega))]; exact hho) | (rw [HO_s2 (Or.inr ⟨by rw [← hho]; omega, by rw [← hho]; omega⟩)]; exact hho) | exact hh.symm)
      ·
        refine jt_ite (fun c1349_ => ?_) (fun c1349_ => ?_)
        ·
          exact hc42 y1 y3 (show (((10 - y3) * 1) + 0).toNat ≤ n from by omega) (show 0 ≤ y3 from by omega) (show y3 ≤ 9 from by omega) (show 1 ≤ a0 105 5 from by omega) (by first | rfl | assumption) (show y3 < a0 105 5 from by omega) (by have e := HO_s1 (f := a0 106) (d := x1) (m := y3.toNat) (by rw [← hy1]; omega) (by rw [← hho]; first | (left; omega) | (right; omega)); rw [e]; omega)
        ·
          refine jt_grd (by omega) ?_
          refine jt_grd (by omega) ?_
          refine jt_ite (fun c1350_ => ?_) (fun c1350_ => ?_)
          ·
            exact hc44 y1 y2 y3 (show (((10 - y3) * 1) + 0).toNat ≤ n from by omega) (show 0 - 1 ≤ y2 from by omega) (show y2 ≤ 9 from by omega) (show 0 ≤ y3 from by omega) (show y3 ≤ 9 from by omega) (show 1 ≤ a0 105 5 from by omega) (by first | rfl | assumption) (show y3 < a0 105 5 from by omega) (by first | (rw [HO_s2 (Or.inl (by rw [← hy1]; omega))]; exact hho) | (rw [HO_s2 (Or.inr ⟨by rw [← hho]; omega, by rw [← hho]; omega⟩)]; exact hho) | exact hh.symm)
          ·
            exact hc42 y1 y3 (show (((10 - y3) * 1) + 0).toNat ≤ n from by omega) (show 0 ≤ y3 from by omega) (show y3 ≤ 9 from by omega) (show 1 ≤ a0 105 5 from by omega) (by first | rfl | assumption) (show y3 < a0 105 5 from by omega) (by have e := HO_s1 (f := a0 106) (d := x1) (m := y3.toNat) (by rw [← hy1]; omega) (by rw [← hho]; first | (left; omega) | (right; omega)); rw [e]; omega)
    ·
      exact jt_rI ⟨rfl, rfl, (show (a0 105 5 = 0 → y2 = 0 - 1) from by omega), (by rw [show (a0 105 5).toNat = y3.toNat from by omega]; exact hho)⟩
  exact ⟨hc44, hc42, hc4⟩
theorem sp_X9_holdingOn (E : jxE) (d : Nat) (hd : Nat.ble 1 d = true) (x1 : Int) (a0 b0 : Nat → Nat → Int) (hv0 : iv a0) : jt (jxC E d 139 [.inr (.inr (.inl 105)), .inl x1] (jxSH, a0, b0)) (jQ_X9_holdingOn x1 a0 b0) := by
  obtain ⟨d, rfl⟩ := jd_succ hd
  refine jt_eq (bq_X9_holdingOn E d x1 a0 b0) ?_
  have h1351_ := iv_get hv0 (k := 105) (j := 5) (l := 0) (u := 10) rfl
  exact (cp_X9_holdingOn_4 E d hd x1 a0 b0 hv0 _).2.2 x1 (-1) 0 (Nat.le_refl _) (show 0 - 1 ≤ (-1) from by omega) (show (-1) ≤ 9 from by omega) (show 0 ≤ 0 from by omega) (show 0 ≤ 10 from by omega) (show (a0 105 5 = 0 → (-1) = 0 - 1) from by omega) (by first | rfl | assumption) (show 0 ≤ a0 105 5 from by omega) (by first | rfl | (rw [show (jxw (y3 + 1)).toNat = y3.toNat + 1 from by omega]; exact hho))
abbrev jQ_X9_coinsFor (x1 x2 x3 : Int) (a0 b0 : Nat → Nat → Int) : List jxV → (Nat → Nat → Int) → (Nat → Nat → Int) → Prop := rI (fun r a b => (a0 = a) ∧ (b0 = b) ∧ ((a0 105 5 = 0 → r = 0 - 1)) ∧ (r = (if HO (a0 106) x3 (a0 105 5).toNat < 0 then -1 else CO (fun c => a0 108 ((HO (a0 106) x3 (a0 105 5).toNat).toNat * 12 + c)) (fun c => a0 119 ((HO (a0 106) x3 (a0 105 5).toNat).toNat * 12 + c)) (fun c => a0 130 ((HO (a0 106) x3 (a0 105 5).toNat).toNat * 12 + c)) (a0 107 (HO (a0 106) x3 (a0 105 5).toNat).toNat).toNat x1 x2 0)))
theorem cp_X9_coinsFor_26 (E : jxE) (d : Nat) (hd : Nat.ble 2 (d + 1) = true) (x1 x2 x3 : Int) (a0 b0 : Nat → Nat → Int) (hv0 : iv a0) : ∀ n : Nat, (∀ (y1 y2 y4 y5 : Int), (((12 - y5) * 1) + 0).toNat ≤ n → 0 ≤ y4 → y4 ≤ 9 → 0 ≤ y5 → y5 ≤ 11 → (y1 = x1) → (y2 = x2) → (y4 = HO (a0 106) x3 (a0 105 5).toNat) → 0 ≤ y5 → y5 < a0 107 (y4.toNat) → (CO (fun c => a0 108 ((HO (a0 106) x3 (a0 105 5).toNat).toNat * 12 + c)) (fun c => a0 119 ((HO (a0 106) x3 (a0 105 5).toNat).toNat * 12 + c)) (fun c => a0 130 ((HO (a0 106) x3 (a0 105 5).toNat).toNat * 12 + c)) (a0 107 (HO (a0 106) x3 (a0 105 5).toNat).toNat).toNat x1 x2 (y5.toNat + 1) = CO (fun c => a0 108 ((HO (a0 106) x3 (a0 105 5).toNat).toNat * 12 + c)) (fun c => a0 119 ((HO (a0 106) x3 (a0 105 5).toNat).toNat * 12 + c)) (fun c => a0 130 ((HO (a0 106) x3 (a0 105 5).toNat).toNat * 12 + c)) (a0 107 (HO (a0 106) x3 (a0 105 5).toNat).toNat).toNat x1 x2 0) → 1 ≤ a0 105 5 → jt (jxX E d 138 84 [some (.inr (.inr (.inl 105))), some (.inl y1), some (.inl y2), none, some (.inl y4), some (.inl y5)] [] (jxSH, a0, b0)) (jQ_X9_coinsFor x1 x2 x3 a0 b0)) ∧ (∀ (y1 y2 y4 y5 : Int), (((12 - y5) * 1) + 0).toNat ≤ n → 0 ≤ y1 → y1 ≤ 999 → 0 ≤ y4 → y4 ≤ 9 → 0 ≤ y5 → y5 ≤ 11 → (y1 = x1) → (y2 = x2) → (y4 = HO (a0 106) x3 (a0 105 5).toNat) → 0 ≤ y5 → y5 < a0 107 (y4.toNat) → (CO (fun c => a0 108 ((HO (a0 106) x3 (a0 105 5).toNat).toNat * 12 + c)) (fun c => a0 119 ((HO (a0 106) x3 (a0 105 5).toNat).toNat * 12 + c)) (fun c => a0 130 ((HO (a0 106) x3 (a0 105 5).toNat).toNat * 12 + c)) (a0 107 (HO (a0 106) x3 (a0 105 5).toNat).toNat).toNat x1 x2 y5.toNat = CO (fun c => a0 108 ((HO (a0 106) x3 (a0 105 5).toNat).toNat * 12 + c)) (fun c => a0 119 ((HO (a0 106) x3 (a0 105 5).toNat).toNat * 12 + c)) (fun c => a0 130 ((HO (a0 106) x3 (a0 105 5).toNat).toNat * 12 + c)) (a0 107 (HO (a0 106) x3 (a0 105 5).toNat).toNat).toNat x1 x2 0) → (a0 108 (y4.toNat * 12 + y5.toNat) = x1) → 1 ≤ a0 105 5 → jt (jxX E d 138 59 [some (.inr (.inr (.inl 105))), some (.inl y1), some (.inl y2), none, some (.inl y4), some (.inl y5)] [] (jxSH, a0, b0)) (jQ_X9_coinsFor x1 x2 x3 a0 b0)) ∧ (∀ (y1 y2 y4 y5 : Int), (((12 - y5) * 1) + 0).toNat ≤ n → 0 ≤ y4 → y4 ≤ 9 → 0 ≤ y5 → y5 ≤ 12 → (y1 = x1) → (y2 = x2) → (y4 = HO (a0 106) x3 (a0 105 5).toNat) → 0 ≤ y5 → (CO (fun c => a0 108 ((HO (a0 106) x3 (a0 105 5).toNat).toNat * 12 + c)) (fun c => a0 119 ((HO (a0 106) x3 (a0 105 5).toNat).toNat * 12 + c)) (fun c => a0 130 ((HO (a0 106) x3 (a0 105 5).toNat).toNat * 12 + c)) (a0 107 (HO (a0 106) x3 (a0 105 5).toNat).toNat).toNat x1 x2 y5.toNat = CO (fun c => a0 108 ((HO (a0 106) x3 (a0 105 5).toNat).toNat * 12 + c)) (fun c => a0 119 ((HO (a0 106) x3 (a0 105 5).toNat).toNat * 12 + c)) (fun c => a0 130 ((HO (a0 106) x3 (a0 105 5).toNat).toNat * 12 + c)) (a0 107 (HO (a0 106) x3 (a0 105 5).toNat).toNat).toNat x1 x2 0) → 1 ≤ a0 105 5 → jt (jxX E d 138 26 [some (.inr (.inr (.inl 105))), some (.inl y1), some (.inl y2), none, some (.inl y4), some (.inl y5)] [] (jxSH, a0, b0)) (jQ_X9_coinsFor x1 x2 x3 a0 b0)) := by
  refine jx_ind fun n ih => ?_
  have ih84 : ∀ (y1 y2 y4 y5 : Int), (((12 - y5) * 1) + 0).toNat < n → 0 ≤ y4 → y4 ≤ 9 → 0 ≤ y5 → y5 ≤ 11 → (y1 = x1) → (y2 = x2) → (y4 = HO (a0 106) x3 (a0 105 5).toNat) → 0 ≤ y5 → y5 < a0 107 (y4.toNat) → (CO (fun c => a0 108 ((HO (a0 106) x3 (a0 105 5).toNat).toNat * 12 + c)) (fun c => a0 119 ((HO (a0 106) x3 (a0 105 5).toNat).toNat * 12 + c)) (fun c => a0 130 ((HO (a0 106) x3 (a0 105 5).toNat).toNat * 12 + c)) (a0 107 (HO (a0 106) x3 (a0 105 5).toNat).toNat).toNat x1 x2 (y5.toNat + 1) = CO (fun c => a0 108 ((HO (a0 106) x3 (a0 105 5).toNat).toNat * 12 + c)) (fun c => a0 119 ((HO (a0 106) x3 (a0 105 5).toNat).toNat * 12 + c)) (fun c => a0 130 ((HO (a0 106) x3 (a0 105 5).toNat).toNat * 12 + c)) (a0 107 (HO (a0 106) x3 (a0 105 5).toNat).toNat).toNat x1 x2 0) → 1 ≤ a0 105 5 → jt (jxX E d 138 84 [some (.inr (.inr (.inl 105))), some (.inl y1), some (.inl y2), none, some (.inl y4), some (.inl y5)] [] (jxSH, a0, b0)) (jQ_X9_coinsFor x1 x2 x3 a0 b0) := fun y1 y2 y4 y5 hlt i0 i1 i2 i3 i4 i5 i6 i7 i8 i9 i10 => (ih _ hlt).1 y1 y2 y4 y5 (Nat.le_refl _) i0 i1 i2 i3 i4 i5 i6 i7 i8 i9 i10
  have ih59 : ∀ (y1 y2 y4 y5 : Int), (((12 - y5) * 1) + 0).toNat < n → 0 ≤ y1 → y1 ≤ 999 → 0 ≤ y4 → y4 ≤ 9 → 0 ≤ y5 → y5 ≤ 11 → (y1 = x1) → (y2 = x2) → (y4 = HO (a0 106) x3 (a0 105 5).toNat) → 0 ≤ y5 → y5 < a0 107 (y4.toNat) → (CO (fun c => a0 108 ((HO (a0 106) x3 (a0 105 5).toNat).toNat * 12 + c)) (fun c => a0 119 ((HO (a0 106) x3 (a0 105 5).toNat).toNat * 12 + c)) (fun c => a0 130 ((HO (a0 106) x3 (a0 105 5).toNat).toNat * 12 + c)) (a0 107 (HO (a0 106) x3 (a0 105 5).toNat).toNat).toNat x1 x2 y5.toNat = CO (fun c => a0 108 ((HO (a0 106) x3 (a0 105 5).toNat).toNat * 12 + c)) (fun c => a0 119 ((HO (a0 106) x3 (a0 105 5).toNat).toNat * 12 + c)) (fun c => a0 130 ((HO (a0 106) x3 (a0 105 5).toNat).toNat * 12 + c)) (a0 107 (HO (a0 106) x3 (a0 105 5).toNat).toNat).toNat x1 x2 0) → (a0 108 (y4.toNat * 12 + y5.toNat) = x1) → 1 ≤ a0 105 5 → jt (jxX E d 138 59 [some (.inr (.inr (.inl 105))), some (.inl y1), some (.inl y2), none, some (.inl y4), some (.inl y5)] [] (jxSH, a0, b0)) (jQ_X9_coinsFor x1 x2 x3 a0 b0) := fun y1 y2 y4 y5 hlt i0 i1 i2 i3 i4 i5 i6 i7 i8 i9 i10 i11 i12 i13 => (ih _ hlt).2.1 y1 y2 y4 y5 (Nat.le_refl _) i0 i1 i2 i3 i4 i5 i6 i7 i8 i9 i10 i11 i12 i13
  have ih26 : ∀ (y1 y2 y4 y5 : Int), (((12 - y5) * 1) + 0).toNat < n → 0 ≤ y4 → y4 ≤ 9 → 0 ≤ y5 → y5 ≤ 12 → (y1 = x1) → (y2 = x2) → (y4 = HO (a0 106) x3 (a0 105 5).toNat) → 0 ≤ y5 → (CO (fun c => a0 108 ((HO (a0 106) x3 (a0 105 5).toNat).toNat * 12 + c)) (fun c => a0 119 ((HO (a0 106) x3 (a0 105 5).toNat).toNat * 12 + c)) (fun c => a0 130 ((HO (a0 106) x3 (a0 105 5).toNat).toNat * 12 + c)) (a0 107 (HO (a0 106) x3 (a0 105 5).toNat).toNat).toNat x1 x2 y5.toNat = CO (fun c => a0 108 ((HO (a0 106) x3 (a0 105 5).toNat).toNat * 12 + c)) (fun c => a0 119 ((HO (a0 106) x3 (a0 105 5).toNat).toNat * 12 + c)) (fun c => a0 130 ((HO (a0 106) x3 (a0 105 5).toNat).toNat * 12 + c)) (a0 107 (HO (a0 106) x3 (a0 105 5).toNat).toNat).toNat x1 x2 0) → 1 ≤ a0 105 5 → jt (jxX E d 138 26 [some (.inr (.inr (.inl 105))), some (.inl y1), some (.inl y2), none, some (.inl y4), some (.inl y5)] [] (jxSH, a0, b0)) (jQ_X9_coinsFor x1 x2 x3 a0 b0) := fun y1 y2 y4 y5 hlt i0 i1 i2 i3 i4 i5 i6 i7 i8 i9 => (ih _ hlt).2.2 y1 y2 y4 y5 (Nat.le_refl _) i0 i1 i2 i3 i4 i5 i6 i7 i8 i9
  have hc84 : ∀ (y1 y2 y4 y5 : Int), (((12 - y5) * 1) + 0).toNat ≤ n → 0 ≤ y4 → y4 ≤ 9 → 0 ≤ y5 → y5 ≤ 11 → (y1 = x1) → (y2 = x2) → (y4 = HO (a0 106) x3 (a0 105 5).toNat) → 0 ≤ y5 → y5 < a0 107 (y4.toNat) → (CO (fun c => a0 108 ((HO (a0 106) x3 (a0 105 5).toNat).toNat * 12 + c)) (fun c => a0 119 ((HO (a0 106) x3 (a0 105 5).toNat).toNat * 12 + c)) (fun c => a0 130 ((HO (a0 106) x3 (a0 105 5).toNat).toNat * 12 + c)) (a0 107 (HO (a0 106) x3 (a0 105 5).toNat).toNat).toNat x1 x2 (y5.toNat + 1) = CO (fun c => a0 108 ((HO (a0 106) x3 (a0 105 5).toNat).toNat * 12 + c)) (fun c => a0 119 ((HO (a0 106) x3 (a0 105 5).toNat).toNat * 12 + c)) (fun c => a0 130 ((HO (a0 106) x3 (a0 105 5).toNat).toNat * 12 + c)) (a0 107 (HO (a0 106) x3 (a0 105 5).toNat).toNat).toNat x1 x2 0) → 1 ≤ a0 105 5 → jt (jxX E d 138 84 [some (.inr (.inr (.inl 105))), some (.inl y1), some (.inl y2), none, some (.inl y4), some (.inl y5)] [] (jxSH, a0, b0)) (jQ_X9_coinsFor x1 x2 x3 a0 b0) := by
    intro y1 y2 y4 y5 hm hi0 hi1 hi2 hi3 hy1 hy2 hhy hi7 hi8 hco hi10
    refine jt_eq (bq_X9_coinsFor_84 E d y1 y2 y4 y5 a0 b0) ?_
    have h1352_ := iv_get hv0 (k := 107) (j := y4.toNat) (l := 0) (u := 12) rfl
    have h1353_ := iv_get hv0 (k := 105) (j := 5) (l := 0) (u := 10) rfl
    have h1354_ : jxw (y5 + 1) = y5 + 1 := jxw_id (by omega) (by omega)
    exact ih26 y1 y2 y4 (jxw (y5 + 1)) (show (((12 - (jxw (y5 + 1))) * 1) + 0).toNat < n from by omega) (show 0 ≤ y4 from by omega) (show y4 ≤ 9 from by omega) (show 0 ≤ jxw (y5 + 1) from by omega) (show jxw (y5 + 1) ≤ 12 from by omega) (by first | rfl | assumption) (by first | rfl | assumption) (by first | exact hhy | exact hq0_1) (show 0 ≤ jxw (y5 + 1) from by omega) (by first | rfl | (rw [show (jxw (y5 + 1)).toNat = y5.toNat + 1 from by omega]; exact hco)) (show 1 ≤ a0 105 5 from by omega)
  have hc59 : ∀ (y1 y2 y4 y5 : Int), (((12 - y5) * 1) + 0).toNat ≤ n → 0 ≤ y1 → y1 ≤ 999 → 0 ≤ y4 → y4 ≤ 9 → 0 ≤ y5 → y5 ≤ 11 → (y1 = x1) → (y2 = x2) → (y4 = HO (a0 106) x3 (a0 105 5).toNat) → 0 ≤ y5 → y5 < a0 107 (y4.toNat) → (CO (fun c => a0 108 ((HO (a0 106) x3 (a0 105 5).toNat).toNat * 12 + c)) (fun c => a0 119 ((HO (a0 106) x3 (a0 105 5).toNat).toNat * 12 + c)) (fun c => a0 130 ((HO (a0 106) x3 (a0 105 5).toNat).toNat * 12 + c)) (a0 107 (HO (a0 106) x3 (a0 105 5).toNat).toNat).toNat x1 x2 y5.toNat = CO (fun c => a0 108 ((HO (a0 106) x3 (a0 105 5).toNat).toNat * 12 + c)) (fun c => a0 119 ((HO (a0 106) x3 (a0 105 5).toNat).toNat * 12 + c)) (fun c => a0 130 ((HO (a0 106) x3 (a0 105 5).toNat).toNat * 12 + c)) (a0 107 (HO (a0 106) x3 (a0 105 5).toNat).toNat).toNat x1 x2 0) → (a0 108 (y4.toNat * 12 + y5.toNat) = x1) → 1 ≤ a0 105 5 → jt (jxX E d 138 59 [some (.inr (.inr (.inl 105))), some (.inl y1), some (.inl y2), none, some (.inl y4), some (.inl y5)] [] (jxSH, a0, b0)) (jQ_X9_coinsFor x1 x2 x3 a0 b0) := by
    intro y1 y2 y4 y5 hm hi0 hi1 hi2 hi3 hi4 hi5 hy1 hy2 hhy hi9 hi10 hco hz hi13
    refine jt_eq (bq_X9_coinsFor_59 E d y1 y2 y4 y5 a0 b0) ?_
    have h1355_ := iv_get hv0 (k := 107) (j := y4.toNat) (l := 0) (u := 12) rfl
    have h1356_ := iv_get hv0 (k := 105) (j := 5) (l := 0) (u := 10) rfl
    refine jt_grd (by omega) ?_
    refine jt_grd (by omega) ?_
    refine jt_grd (by omega) ?_
    have h1357_ := iv_get hv0 (k := 119) (j := (y4.toNat) * 12 + (y5.toNat)) (l := 0) (u := 999) rfl
    refine jt_ite (fun c1358_ => ?_) (fun c1358_ => ?_)
    ·
      exact hc84 y1 y2 y4 y5 (show (((12 - y5) * 1) + 0).toNat ≤ n from by omega) (show 0 ≤ y4 from by omega) (show y4 ≤ 9 from by omega) (show 0 ≤ y5 from by omega) (show y5 ≤ 11 from by omega) (by first | rfl | assumption) (by first | rfl | assumption) (by first | exact hhy | exact hq0_1) (show 0 ≤ y5 from by omega) (show y5 < a0 107 (y4.toNat) from by omega) (by rw [← hco]; rw [← hhy]; refine (CO_on (by omega) ?_).symm; first | (left; rw [← hy1]; assumption) | (right; rw [← hy2]; assumption)) (show 1 ≤ a0 105 5 from by omega)
    ·
      refine jt_grd (by omega) ?_
      refine jt_grd (by omega) ?_
      refine jt_grd (by omega) ?_
      have h1359_ := iv_get hv0 (k := 130) (j := (y4.toNat) * 12 + (y5.toNat)) (l := 0) (u := 999) rfl
      exact jt_rI ⟨rfl, rfl, (show (a0 105 5 = 0 → a0 130 ((y4.toNat) * 12 + (y5.toNat)) = 0 - 1) from by omega), (by first | exact absurd (by omega : False) id | (rw [← hhy, if_neg (by omega)]; have h := hco; rw [← hhy] at h; rw [← h]; first | (rw [CO_end (by omega)]) | exact (CO_hit (z := fun c => a0 108 (y4.toNat * 12 + c)) (g := fun c => a0 119 (y4.toNat * 12 + c)) (k := fun c => a0 130 (y4.toNat * 12 + c)) (c := y5.toNat) (by omega) hz (by show x2 ≤ a0 119 (y4.toNat * 12 + y5.toNat); omega)).symm))⟩
  have hc26 : ∀ (y1 y2 y4 y5 : Int), (((12 - y5) * 1) + 0).toNat ≤ n → 0 ≤ y4 → y4 ≤ 9 → 0 ≤ y5 → y5 ≤ 12 → (y1 = x1) → (y2 = x2) → (y4 = HO (a0 106) x3 (a0 105 5).toNat) → 0 ≤ y5 → (CO (fun c => a0 108 ((HO (a0 106) x3 (a0 105 5).toNat).toNat * 12 + c)) (fun c => a0 119 ((HO (a0 106) x3 (a0 105 5).toNat).toNat * 12 + c)) (fun c => a0 130 ((HO (a0 106) x3 (a0 105 5).toNat).toNat * 12 + c)) (a0 107 (HO (a0 106) x3 (a0 105 5).toNat).toNat).toNat x1 x2 y5.toNat = CO (fun c => a0 108 ((HO (a0 106) x3 (a0 105 5).toNat).toNat * 12 + c)) (fun c => a0 119 ((HO (a0 106) x3 (a0 105 5).toNat).toNat * 12 + c)) (fun c => a0 130 ((HO (a0 106) x3 (a0 105 5).toNat).toNat * 12 + c)) (a0 107 (HO (a0 106) x3 (a0 105 5).toNat).toNat).toNat x1 x2 0) → 1 ≤ a0 105 5 → jt (jxX E d 138 26 [some (.inr (.inr (.inl 105))), some (.inl y1), some (.inl y2), none, some (.inl y4), some (.inl y5)] [] (jxSH, a0, b0)) (jQ_X9_coinsFor x1 x2 x3 a0 b0) := by
    intro y1 y2 y4 y5 hm hi0 hi1 hi2 hi3 hy1 hy2 hhy hi7 hco hi9
    refine jt_eq (bq_X9_coinsFor_26 E d y1 y2 y4 y5 a0 b0) ?_
    have h1360_ := iv_get hv0 (k := 105) (j := 5) (l := 0) (u := 10) rfl
    refine jt_grd (by omega) ?_
    have h1361_ := iv_get hv0 (k := 107) (j := y4.toNat) (l := 0) (u := 12) rfl
    refine jt_ite (fun c1362_ => ?_) (fun c1362_ => ?_)
    ·
      refine jt_ite (fun c1363_ => ?_) (fun c1363_ => ?_)
      ·
        refine jt_grd (by omega) ?_
        refine jt_grd (by omega) ?_
        refine jt_grd (by omega) ?_
        have h1364_ := iv_get hv0 (k := 108) (j := (y4.toNat) * 12 + (y5.toNat)) (l := 0) (u := 999) rfl
        refine jt_ite (fun c1365_ => ?_) (fun c1365_ => ?_)
        ·
          exact hc59 y1 y2 y4 y5 (show (((12 - y5) * 1) + 0).toNat ≤ n from by omega) (show 0 ≤ y1 from by omega) (show y1 ≤ 999 from by omega) (show 0 ≤ y4 from by omega) (show y4 ≤ 9 from by omega) (show 0 ≤ y5 from by omega) (show y5 ≤ 11 from by omega) (by first | rfl | assumption) (by first | rfl | assumption) (by first | exact hhy | exact hq0_1) (show 0 ≤ y5 from by omega) (show y5 < a0 107 (y4.toNat) from by omega) hco (by rw [← hy1]; assumption) (show 1 ≤ a0 105 5 from by omega)
        ·
          exact hc84 y1 y2 y4 y5 (show (((12 - y5) * 1) + 0).toNat ≤ n from by omega) (show 0 ≤ y4 from by omega) (show y4 ≤ 9 from by omega) (show 0 ≤ y5 from by omega) (show y5 ≤ 11 from by omega) (by first | rfl | assumption) (by first | rfl | assumption) (by first | exact hhy | exact hq0_1) (show 0 ≤ y5 from by omega) (show y5 < a0 107 (y4.toNat) from by omega) (by rw [← hco]; rw [← hhy]; refine (CO_on (by omega) ?_).symm; first | (left; rw [← hy1]; assumption) | (right; rw [← hy2]; assumption)) (show 1 ≤ a0 105 5 from by omega)
      ·
        exact jt_rI ⟨rfl, rfl, (show (a0 105 5 = 0 → (-1) = 0 - 1) from by omega), (by first | exact absurd (by omega : False) id | (rw [← hhy, if_neg (by omega)]; have h := hco; rw [← hhy] at h; rw [← h]; first | (rw [CO_end (by omega)]) | exact (CO_hit (z := fun c => a0 108 (y4.toNat * 12 + c)) (g := fun c => a0 119 (y4.toNat * 12 + c)) (k := fun c => a0 130 (y4.toNat * 12 + c)) (c := y5.toNat) (by omega) hz (by show x2 ≤ a0 119 (y4.toNat * 12 + y5.toNat); omega)).symm))⟩
    ·
      exact jt_rI ⟨rfl, rfl, (show (a0 105 5 = 0 → (-1) = 0 - 1) from by omega), (by first | exact absurd (by omega : False) id | (rw [← hhy, if_neg (by omega)]; have h := hco; rw [← hhy] at h; rw [← h]; first | (rw [CO_end (by omega)]) | exact (CO_hit (z := fun c => a0 108 (y4.toNat * 12 + c)) (g := fun c => a0 119 (y4.toNat * 12 + c)) (k := fun c => a0 130 (y4.toNat * 12 + c)) (c := y5.toNat) (by omega) hz (by show x2 ≤ a0 119 (y4.toNat * 12 + y5.toNat); omega)).symm))⟩
  exact ⟨hc84, hc59, hc26⟩
theorem sp_X9_coinsFor (E : jxE) (d : Nat) (hd : Nat.ble 2 d = true) (x1 x2 x3 : Int) (a0 b0 : Nat → Nat → Int) (hv0 : iv a0) : jt (jxC E d 138 [.inr (.inr (.inl 105)), .inl x1, .inl x2, .inl x3] (jxSH, a0, b0)) (jQ_X9_coinsFor x1 x2 x3 a0 b0) := by
  obtain ⟨d, rfl⟩ := jd_succ hd
  refine jt_eq (bq_X9_coinsFor E d x1 x2 x3 a0 b0) ?_
  refine jt_bI (sp_X9_holdingOn E d (jd_le hd rfl) x3 a0 b0 hv0) (fun r1366_ a1366_ b1366_ h1366_ => ?_)
  obtain ⟨rfl, rfl, hq1366_0, hq1366_1⟩ := h1366_
  have h1367_ := iv_get hv0 (k := 105) (j := 5) (l := 0) (u := 10) rfl
  refine jt_ite (fun c1368_ => ?_) (fun c1368_ => ?_)
  ·
    exact jt_rI ⟨rfl, rfl, (show (a0 105 5 = 0 → (-1) = 0 - 1) from by omega), (by first | (rw [← hq1366_1, if_pos (by omega)]) | exact absurd (by have q := HO_bd (a0 106) x3 (a0 105 5).toNat; rw [← hq1366_1] at q; omega : False) id)⟩
  ·
    refine jt_ite (fun c1369_ => ?_) (fun c1369_ => ?_)
    ·
      exact (cp_X9_coinsFor_26 E d hd x1 x2 x3 a0 b0 hv0 _).2.2 x1 x2 r1366_ 0 (Nat.le_refl _) (show 0 ≤ r1366_ from by omega) (show r1366_ ≤ 9 from by omega) (show 0 ≤ 0 from by omega) (show 0 ≤ 12 from by omega) (by first | rfl | assumption) (by first | rfl | assumption) (by first | exact hhy | exact hq1366_1) (show 0 ≤ 0 from by omega) (by first | rfl | (rw [show (jxw (y5 + 1)).toNat = y5.toNat + 1 from by omega]; exact hco)) (show 1 ≤ a0 105 5 from by omega)
    ·
      exact jt_rI ⟨rfl, rfl, (show (a0 105 5 = 0 → (-1) = 0 - 1) from by omega), (by first | (rw [← hq1366_1, if_pos (by omega)]) | exact absurd (by have q := HO_bd (a0 106) x3 (a0 105 5).toNat; rw [← hq1366_1] at q; omega : False) id)⟩
def jW_X11_pay : List (Nat × Nat) := [(143, 9999), (144, 9999)]
abbrev jQ_X11_pay (x1 x2 : Int) (a0 b0 : Nat → Nat → Int) : List jxV → (Nat → Nat → Int) → (Nat → Nat → Int) → Prop := rI (fun r a b => (iv a) ∧ (jfr jW_X11_pay a0 a) ∧ ((a0 58 8 = 0 → r = 0 - 1)))
theorem cp_X11_pay_78 (E : jxE) (d : Nat) (hd : Nat.ble 6 (d + 1) = true) (x1 x2 : Int) (a0 b0 : Nat → Nat → Int) (hv0 : iv a0) : ∀ (y5 : Int) (a b : Nat → Nat → Int), iv a → jfr jW_X11_pay a0 a → 1 ≤ a0 58 8 → jt (jxX E d 194 78 [some (.inr (.inr (.inl 0))), none, none, none, none, some (.inl y5), none] [] (jxSH, a, b)) (jQ_X11_pay x1 x2 a0 b0) := by
  intro y5 a b hv hf hi0
  refine jt_eq (bq_X11_pay_78 E d y5 a b) ?_
  have h1370_ := iv_get hv0 (k := 58) (j := 8) (l := 0) (u := 300) rfl
  refine jt_ite (fun c1371_ => ?_) (fun c1371_ => ?_)
  ·
    exact jt_rI ⟨hv, hf, (show (a0 58 8 = 0 → (-2) = 0 - 1) from by omega)⟩
  ·
    refine jt_bI (sp_X1_payAtLeast E d (jd_le hd rfl) y5 a b hv) (fun r1372_ a1372_ b1372_ h1372_ => ?_)
    obtain ⟨hv1372_, hf1372_⟩ := h1372_
    refine jt_ite (fun c1373_ => ?_) (fun c1373_ => ?_)
    ·
      have hf1374_ : jfr jW_X11_pay a0 a1372_ := jfr_tr hf hf1372_ rfl
      exact jt_rI ⟨hv1372_, hf1374_, (show (a0 58 8 = 0 → (-3) = 0 - 1) from by omega)⟩
    ·
      have hf1375_ : jfr jW_X11_pay a0 a1372_ := jfr_tr hf hf1372_ rfl
      exact jt_rI ⟨hv1372_, hf1375_, (show (a0 58 8 = 0 → r1372_ = 0 - 1) from by omega)⟩
theorem cp_X11_pay_40 (E : jxE) (d : Nat) (hd : Nat.ble 6 (d + 1) = true) (x1 x2 : Int) (a0 b0 : Nat → Nat → Int) (hv0 : iv a0) : ∀ (y1 y2 y3 : Int) (a b : Nat → Nat → Int), iv a → jfr jW_X11_pay a0 a → 0 ≤ y1 → y1 ≤ 299 → 1 ≤ y2 → y2 ≤ 500 → 1 ≤ a0 58 8 → jt (jxX E d 194 40 [some (.inr (.inr (.inl 0))), some (.inl y1), some (.inl y2), some (.inl y3), none, none, none] [] (jxSH, a, b)) (jQ_X11_pay x1 x2 a0 b0) := by
  intro y1 y2 y3 a b hv hf hi0 hi1 hi2 hi3 hi4
  refine jt_eq (bq_X11_pay_40 E d y1 y2 y3 a b) ?_
  have h1376_ := iv_get hv0 (k := 58) (j := 8) (l := 0) (u := 300) rfl
  refine jt_eI (eq_X0_toOf E d (jd_le hd rfl) y1 a b) ?_
  refine jt_eI (eq_X3_landOf E d (jd_le hd rfl) (f_X0_toOf a b y1) a b) ?_
  refine jt_eI (eq_X11_zone E d (jd_le hd rfl) y3 (f_X3_landOf a b (f_X0_toOf a b y1)) a b) ?_
  refine jt_bI (sp_X9_coinsFor E d (jd_le hd rfl) (f_X11_zone a b y3 (f_X3_landOf a b (f_X0_toOf a b y1))) y2 (a 0 0) a b hv) (fun r1377_ a1377_ b1377_ h1377_ => ?_)
  obtain ⟨rfl, rfl, hq1377_0, hq1377_1⟩ := h1377_
  have h1378_ := iv_get hv (k := 105) (j := 5) (l := 0) (u := 10) rfl
  have h1379_ : a 105 5 = a0 105 5 := hf 105 5 rfl
  have h1380_ := iv_get hv0 (k := 105) (j := 5) (l := 0) (u := 10) rfl
  exact cp_X11_pay_78 E d hd x1 x2 a0 b0 hv0 r1377_ a b hv hf (show 1 ≤ a0 58 8 from by omega)
theorem sp_X11_pay (E : jxE) (d : Nat) (hd : Nat.ble 6 d = true) (x1 x2 : Int) (a0 b0 : Nat → Nat → Int) (hv0 : iv a0) : jt (jxC E d 194 [.inr (.inr (.inl 0)), .inl x1, .inl x2] (jxSH, a0, b0)) (jQ_X11_pay x1 x2 a0 b0) := by
  obtain ⟨d, rfl⟩ := jd_succ hd
  refine jt_eq (bq_X11_pay E d x1 x2 a0 b0) ?_
  refine jt_eI (eq_X0_has E d (jd_le hd rfl) x1 a0 b0) ?_
  have h1381_ := f_X0_has_eq a0 b0 x1
  have h1382_ := iv_get hv0 (k := 58) (j := 8) (l := 0) (u := 300) rfl
  refine jt_ite (fun c1383_ => ?_) (fun c1383_ => ?_)
  ·
    exact jt_rI ⟨hv0, (jfr_rf _ _), (show (a0 58 8 = 0 → (-1) = 0 - 1) from by omega)⟩
  ·
    refine jt_eI (eq_X11_within E d (jd_le hd rfl) x2 1 500 a0 b0) ?_
    have h1384_ := f_X11_within_eq a0 b0 x2 1 500
    refine jt_ite (fun c1385_ => ?_) (fun c1385_ => ?_)
    ·
      exact jt_rI ⟨hv0, (jfr_rf _ _), (show (a0 58 8 = 0 → (-1) = 0 - 1) from by omega)⟩
    ·
      refine jt_eI (eq_X0_fromOf E d (jd_le hd rfl) x1 a0 b0) ?_
      refine jt_eI (eq_X3_landOf E d (jd_le hd rfl) (f_X0_fromOf a0 b0 x1) a0 b0) ?_
      exact cp_X11_pay_40 E d hd x1 x2 a0 b0 hv0 x1 x2 (f_X3_landOf a0 b0 (f_X0_fromOf a0 b0 x1)) a0 b0 hv0 (jfr_rf _ _) (show 0 ≤ x1 from by omega) (show x1 ≤ 299 from by omega) (show 1 ≤ x2 from by omega) (show x2 ≤ 500 from by omega) (show 1 ≤ a0 58 8 from by omega)
abbrev jQ_X11_price (x1 x2 x3 x4 : Int) (a0 b0 : Nat → Nat → Int) : List jxV → (Nat → Nat → Int) → (Nat → Nat → Int) → Prop := rI (fun r a b => (a0 = a) ∧ (b0 = b) ∧ ((a0 105 5 = 0 → (((((((((0 ≤ x1 ∧ x1 ≤ 15) ∧ 0 ≤ x2) ∧ x2 ≤ 15) ∧ 1 ≤ x3) ∧ x3 ≤ 500) ∧ 0 ≤ x4) ∧ x4 ≤ 1999) ∧ r = 0 - 2) ∨ ((((((((x1 < 0 ∨ 15 < x1) ∨ x2 < 0) ∨ 15 < x2) ∨ x3 < 1) ∨ 500 < x3) ∨ x4 < 0) ∨ 1999 < x4) ∧ r = 0 - 1)))) ∧ (0 ≤ x1 ∧ x1 ≤ 15 ∧ 0 ≤ x2 ∧ x2 ≤ 15 ∧ 1 ≤ x3 ∧ x3 ≤ 500 ∧ 0 ≤ x4 ∧ x4 ≤ 1999 → r = PR1 a0 (ZN x1 x2 (a0 1 (16 * x1 + x2).toNat)) x3 x4) ∧ (((((((((x1 < 0 ∨ 15 < x1) ∨ x2 < 0) ∨ 15 < x2) ∨ x3 < 1) ∨ 500 < x3) ∨ x4 < 0) ∨ 1999 < x4) → r = 0 - 1)))
theorem cp_X11_price_33 (E : jxE) (d : Nat) (hd : Nat.ble 4 (d + 1) = true) (x1 x2 x3 x4 : Int) (a0 b0 : Nat → Nat → Int) (hv0 : iv a0) : (((((((x1 < 0 ∨ 15 < x1) ∨ x2 < 0) ∨ 15 < x2) ∨ x3 < 1) ∨ 500 < x3) ∨ x4 < 0) ∨ 1999 < x4) → jt (jxX E d 192 33 [none, none, none, none, none, none] [] (jxSH, a0, b0)) (jQ_X11_price x1 x2 x3 x4 a0 b0) := by
  intro hi0
  refine jt_eq (bq_X11_price_33 E d a0 b0) ?_
  have h1386_ := iv_get hv0 (k := 105) (j := 5) (l := 0) (u := 10) rfl
  exact jt_rI ⟨rfl, rfl, (show (a0 105 5 = 0 → (((((((((0 ≤ x1 ∧ x1 ≤ 15) ∧ 0 ≤ x2) ∧ x2 ≤ 15) ∧ 1 ≤ x3) ∧ x3 ≤ 500) ∧ 0 ≤ x4) ∧ x4 ≤ 1999) ∧ (-1) = 0 - 2) ∨ ((((((((x1 < 0 ∨ 15 < x1) ∨ x2 < 0) ∨ 15 < x2) ∨ x3 < 1) ∨ 500 < x3) ∨ x4 < 0) ∨ 1999 < x4) ∧ (-1) = 0 - 1))) from by omega), (fun h => absurd h (by omega)), (show ((((((((x1 < 0 ∨ 15 < x1) ∨ x2 < 0) ∨ 15 < x2) ∨ x3 < 1) ∨ 500 < x3) ∨ x4 < 0) ∨ 1999 < x4) → (-1) = 0 - 1) from by omega)⟩
theorem cp_X11_price_35 (E : jxE) (d : Nat) (hd : Nat.ble 4 (d + 1) = true) (x1 x2 x3 x4 : Int) (a0 b0 : Nat → Nat → Int) (hv0 : iv a0) : ∀ (y1 y2 y3 y4 : Int), 0 ≤ y1 → y1 ≤ 15 → 0 ≤ y2 → y2 ≤ 15 → 1 ≤ y3 → y3 ≤ 500 → 0 ≤ y4 → y4 ≤ 1999 → (((((((0 ≤ x1 ∧ x1 ≤ 15) ∧ 0 ≤ x2) ∧ x2 ≤ 15) ∧ 1 ≤ x3) ∧ x3 ≤ 500) ∧ 0 ≤ x4) ∧ x4 ≤ 1999) → (y1 = x1) → (y2 = x2) → (y3 = x3) → (y4 = x4) → jt (jxX E d 192 35 [some (.inr (.inr (.inl 0))), some (.inl y1), some (.inl y2), some (.inl y3), some (.inl y4), none] [] (jxSH, a0, b0)) (jQ_X11_price x1 x2 x3 x4 a0 b0) := by
  intro y1 y2 y3 y4 hi0 hi1 hi2 hi3 hi4 hi5 hi6 hi7 hi8 hy1 hy2 hy3 hy4
  refine jt_eq (bq_X11_price_35 E d y1 y2 y3 y4 a0 b0) ?_
  refine jt_eI (eq_X11_zone E d (jd_le hd rfl) y1 y2 a0 b0) ?_
  refine jt_bI (sp_X9_coinsFor E d (jd_le hd rfl) (f_X11_zone a0 b0 y1 y2) y3 y4 a0 b0 hv0) (fun r1387_ a1387_ b1387_ h1387_ => ?_)
  obtain ⟨rfl, rfl, hq1387_0, hq1387_1⟩ := h1387_
  have h1388_ := iv_get hv0 (k := 105) (j := 5) (l := 0) (u := 10) rfl
  refine jt_ite (fun c1389_ => ?_) (fun c1389_ => ?_)
  ·
    exact jt_rI ⟨rfl, rfl, (show (a0 105 5 = 0 → (((((((((0 ≤ x1 ∧ x1 ≤ 15) ∧ 0 ≤ x2) ∧ x2 ≤ 15) ∧ 1 ≤ x3) ∧ x3 ≤ 500) ∧ 0 ≤ x4) ∧ x4 ≤ 1999) ∧ (-2) = 0 - 2) ∨ ((((((((x1 < 0 ∨ 15 < x1) ∨ x2 < 0) ∨ 15 < x2) ∨ x3 < 1) ∨ 500 < x3) ∨ x4 < 0) ∨ 1999 < x4) ∧ (-2) = 0 - 1))) from by omega), (fun _ => by have e := hq1387_1; rw [zn11 a0 b0 y1 y2 (by omega) (by omega), hy1, hy2, hy3, hy4] at e; unfold PR1 PRC; by_cases h0 : HO (a0 106) x4 (a0 105 5).toNat < 0 <;> first | (rw [if_pos h0] at e; first | exact absurd e (by assumption) | (rw [if_pos h0])) | (rw [if_neg h0] at e ⊢; rw [← e]; first | (rw [if_pos (by assumption)]) | (rw [if_neg (by assumption)]))), (show ((((((((x1 < 0 ∨ 15 < x1) ∨ x2 < 0) ∨ 15 < x2) ∨ x3 < 1) ∨ 500 < x3) ∨ x4 < 0) ∨ 1999 < x4) → (-2) = 0 - 1) from by omega)⟩
  ·
    exact jt_rI ⟨rfl, rfl, (show (a0 105 5 = 0 → (((((((((0 ≤ x1 ∧ x1 ≤ 15) ∧ 0 ≤ x2) ∧ x2 ≤ 15) ∧ 1 ≤ x3) ∧ x3 ≤ 500) ∧ 0 ≤ x4) ∧ x4 ≤ 1999) ∧ r1387_ = 0 - 2) ∨ ((((((((x1 < 0 ∨ 15 < x1) ∨ x2 < 0) ∨ 15 < x2) ∨ x3 < 1) ∨ 500 < x3) ∨ x4 < 0) ∨ 1999 < x4) ∧ r1387_ = 0 - 1))) from by omega), (fun _ => by have e := hq1387_1; rw [zn11 a0 b0 y1 y2 (by omega) (by omega), hy1, hy2, hy3, hy4] at e; unfold PR1 PRC; by_cases h0 : HO (a0 106) x4 (a0 105 5).toNat < 0 <;> first | (rw [if_pos h0] at e; first | exact absurd e (by assumption) | (rw [if_pos h0])) | (rw [if_neg h0] at e ⊢; rw [← e]; first | (rw [if_pos (by assumption)]) | (rw [if_neg (by assumption)]))), (show ((((((((x1 < 0 ∨ 15 < x1) ∨ x2 < 0) ∨ 15 < x2) ∨ x3 < 1) ∨ 500 < x3) ∨ x4 < 0) ∨ 1999 < x4) → r1387_ = 0 - 1) from by omega)⟩
theorem sp_X11_price (E : jxE) (d : Nat) (hd : Nat.ble 4 d = true) (x1 x2 x3 x4 : Int) (a0 b0 : Nat → Nat → Int) (hv0 : iv a0) : jt (jxC E d 192 [.inr (.inr (.inl 0)), .inl x1, .inl x2, .inl x3, .inl x4] (jxSH, a0, b0)) (jQ_X11_price x1 x2 x3 x4 a0 b0) := by
  obtain ⟨d, rfl⟩ := jd_succ hd
  refine jt_eq (bq_X11_price E d x1 x2 x3 x4 a0 b0) ?_
  refine jt_eI (eq_X11_isLand E d (jd_le hd rfl) x1 a0 b0) ?_
  have h1390_ := f_X11_isLand_eq a0 b0 x1
  have h1391_ := f_X11_within_eq a0 b0 x1 0 15
  refine jt_ite (fun c1392_ => ?_) (fun c1392_ => ?_)
  ·
    exact cp_X11_price_33 E d hd x1 x2 x3 x4 a0 b0 hv0 (show (((((((x1 < 0 ∨ 15 < x1) ∨ x2 < 0) ∨ 15 < x2) ∨ x3 < 1) ∨ 500 < x3) ∨ x4 < 0) ∨ 1999 < x4) from by omega)
  ·
    refine jt_eI (eq_X11_isLand E d (jd_le hd rfl) x2 a0 b0) ?_
    have h1393_ := f_X11_isLand_eq a0 b0 x2
    have h1394_ := f_X11_within_eq a0 b0 x2 0 15
    refine jt_ite (fun c1395_ => ?_) (fun c1395_ => ?_)
    ·
      exact cp_X11_price_33 E d hd x1 x2 x3 x4 a0 b0 hv0 (show (((((((x1 < 0 ∨ 15 < x1) ∨ x2 < 0) ∨ 15 < x2) ∨ x3 < 1) ∨ 500 < x3) ∨ x4 < 0) ∨ 1999 < x4) from by omega)
    ·
      refine jt_eI (eq_X11_within E d (jd_le hd rfl) x3 1 500 a0 b0) ?_
      have h1396_ := f_X11_within_eq a0 b0 x3 1 500
      refine jt_ite (fun c1397_ => ?_) (fun c1397_ => ?_)
      ·
        exact cp_X11_price_33 E d hd x1 x2 x3 x4 a0 b0 hv0 (show (((((((x1 < 0 ∨ 15 < x1) ∨ x2 < 0) ∨ 15 < x2) ∨ x3 < 1) ∨ 500 < x3) ∨ x4 < 0) ∨ 1999 < x4) from by omega)
      ·
        refine jt_eI (eq_X11_isDay E d (jd_le hd rfl) x4 a0 b0) ?_
        have h1398_ := f_X11_isDay_eq a0 b0 x4
        have h1399_ := f_X11_within_eq a0 b0 x4 0 1999
        refine jt_ite (fun c1400_ => ?_) (fun c1400_ => ?_)
        ·
          exact cp_X11_price_33 E d hd x1 x2 x3 x4 a0 b0 hv0 (show (((((((x1 < 0 ∨ 15 < x1) ∨ x2 < 0) ∨ 15 < x2) ∨ x3 < 1) ∨ 500 < x3) ∨ x4 < 0) ∨ 1999 < x4) from by omega)
        ·
          exact cp_X11_price_35 E d hd x1 x2 x3 x4 a0 b0 hv0 x1 x2 x3 x4 (show 0 ≤ x1 from by omega) (show x1 ≤ 15 from by omega) (show 0 ≤ x2 from by omega) (show x2 ≤ 15 from by omega) (show 1 ≤ x3 from by omega) (show x3 ≤ 500 from by omega) (show 0 ≤ x4 from by omega) (show x4 ≤ 1999 from by omega) (show (((((((0 ≤ x1 ∧ x1 ≤ 15) ∧ 0 ≤ x2) ∧ x2 ≤ 15) ∧ 1 ≤ x3) ∧ x3 ≤ 500) ∧ 0 ≤ x4) ∧ x4 ≤ 1999) from by omega) (by first | rfl | assumption) (by first | rfl | assumption) (by first | rfl | assumption) (by first | rfl | assumption)
abbrev jQ_X9_lastGrams (x1 : Int) (a0 b0 : Nat → Nat → Int) : List jxV → (Nat → Nat → Int) → (Nat → Nat → Int) → Prop := rI (fun r a b => (a0 = a) ∧ (b0 = b) ∧ (r = LG (fun c => a0 108 ((a0 105 5).toNat * 12 + c)) (fun c => a0 119 ((a0 105 5).toNat * 12 + c)) x1 (a0 107 (a0 105 5).toNat).toNat))
theorem cp_X9_lastGrams_4 (E : jxE) (d : Nat) (hd : Nat.ble 1 (d + 1) = true) (x1 : Int) (a0 b0 : Nat → Nat → Int) (hv0 : iv a0) (hp0 : a0 105 5 ≤ 9) : ∀ n : Nat, (∀ (y1 y2 y3 : Int), (((12 - y3) * 1) + 0).toNat ≤ n → 0 ≤ y2 → y2 ≤ 999 → 0 ≤ y3 → y3 ≤ 11 → (y1 = x1) → y3 < a0 107 ((a0 105 5).toNat) → (y2 = LG (fun c => a0 108 ((a0 105 5).toNat * 12 + c)) (fun c => a0 119 ((a0 105 5).toNat * 12 + c)) x1 (y3.toNat + 1)) → jt (jxX E d 137 44 [some (.inr (.inr (.inl 105))), some (.inl y1), some (.inl y2), some (.inl y3)] [] (jxSH, a0, b0)) (jQ_X9_lastGrams x1 a0 b0)) ∧ (∀ (y1 y3 : Int), (((12 - y3) * 1) + 0).toNat ≤ n → 0 ≤ y1 → y1 ≤ 999 → 0 ≤ y3 → y3 ≤ 11 → (y1 = x1) → y3 < a0 107 ((a0 105 5).toNat) → (a0 108 ((a0 105 5).toNat * 12 + y3.toNat) = x1) → jt (jxX E d 137 32 [some (.inr (.inr (.inl 105))), some (.inl y1), none, some (.inl y3)] [] (jxSH, a0, b0)) (jQ_X9_lastGrams x1 a0 b0)) ∧ (∀ (y1 y2 y3 : Int), (((12 - y3) * 1) + 0).toNat ≤ n → 0 ≤ y2 → y2 ≤ 999 → 0 ≤ y3 → y3 ≤ 12 → (y1 = x1) → y3 ≤ a0 107 ((a0 105 5).toNat) → (y2 = LG (fun c => a0 108 ((a0 105 5).toNat * 12 + c)) (fun c => a0 119 ((a0 105 5).toNat * 12 + c)) x1 y3.toNat) → jt (jxX E d 137 4 [some (.inr (.inr (.inl 105))), some (.inl y1), some (.inl y2), some (.inl y3)] [] (jxSH, a0, b0)) (jQ_X9_lastGrams x1 a0 b0)) := by
  refine jx_ind fun n ih => ?_
  have ih44 : ∀ (y1 y2 y3 : Int), (((12 - y3) * 1) + 0).toNat < n → 0 ≤ y2 → y2 ≤ 999 → 0 ≤ y3 → y3 ≤ 11 → (y1 = x1) → y3 < a0 107 ((a0 105 5).toNat) → (y2 = LG (fun c => a0 108 ((a0 105 5).toNat * 12 + c)) (fun c => a0 119 ((a0 105 5).toNat * 12 + c)) x1 (y3.toNat + 1)) → jt (jxX E d 137 44 [some (.inr (.inr (.inl 105))), some (.inl y1), some (.inl y2), some (.inl y3)] [] (jxSH, a0, b0)) (jQ_X9_lastGrams x1 a0 b0) := fun y1 y2 y3 hlt i0 i1 i2 i3 i4 i5 i6 => (ih _ hlt).1 y1 y2 y3 (Nat.le_refl _) i0 i1 i2 i3 i4 i5 i6
  have ih32 : ∀ (y1 y3 : Int), (((12 - y3) * 1) + 0).toNat < n → 0 ≤ y1 → y1 ≤ 999 → 0 ≤ y3 → y3 ≤ 11 → (y1 = x1) → y3 < a0 107 ((a0 105 5).toNat) → (a0 108 ((a0 105 5).toNat * 12 + y3.toNat) = x1) → jt (jxX E d 137 32 [some (.inr (.inr (.inl 105))), some (.inl y1), none, some (.inl y3)] [] (jxSH, a0, b0)) (jQ_X9_lastGrams x1 a0 b0) := fun y1 y3 hlt i0 i1 i2 i3 i4 i5 i6 => (ih _ hlt).2.1 y1 y3 (Nat.le_refl _) i0 i1 i2 i3 i4 i5 i6
  have ih4 : ∀ (y1 y2 y3 : Int), (((12 - y3) * 1) + 0).toNat < n → 0 ≤ y2 → y2 ≤ 999 → 0 ≤ y3 → y3 ≤ 12 → (y1 = x1) → y3 ≤ a0 107 ((a0 105 5).toNat) → (y2 = LG (fun c => a0 108 ((a0 105 5).toNat * 12 + c)) (fun c => a0 119 ((a0 105 5).toNat * 12 + c)) x1 y3.toNat) → jt (jxX E d 137 4 [some (.inr (.inr (.inl 105))), some (.inl y1), some (.inl y2), some (.inl y3)] [] (jxSH, a0, b0)) (jQ_X9_lastGrams x1 a0 b0) := fun y1 y2 y3 hlt i0 i1 i2 i3 i4 i5 i6 => (ih _ hlt).2.2 y1 y2 y3 (Nat.le_refl _) i0 i1 i2 i3 i4 i5 i6
  have hc44 : ∀ (y1 y2 y3 : Int), (((12 - y3) * 1) + 0).toNat ≤ n → 0 ≤ y2 → y2 ≤ 999 → 0 ≤ y3 → y3 ≤ 11 → (y1 = x1) → y3 < a0 107 ((a0 105 5).toNat) → (y2 = LG (fun c => a0 108 ((a0 105 5).toNat * 12 + c)) (fun c => a0 119 ((a0 105 5).toNat * 12 + c)) x1 (y3.toNat + 1)) → jt (jxX E d 137 44 [some (.inr (.inr (.inl 105))), some (.inl y1), some (.inl y2), some (.inl y3)] [] (jxSH, a0, b0)) (jQ_X9_lastGrams x1 a0 b0) := by
    intro y1 y2 y3 hm hi0 hi1 hi2 hi3 hy1 hi5 hlg
    refine jt_eq (bq_X9_lastGrams_44 E d y1 y2 y3 a0 b0) ?_
    have h1401_ := iv_get hv0 (k := 105) (j := 5) (l := 0) (u := 10) rfl
    have h1402_ := iv_get hv0 (k := 107) (j := (a0 105 5).toNat) (l := 0) (u := 12) rfl
    have h1403_ : jxw (y3 + 1) = y3 + 1 := jxw_id (by omega) (by omega)
    exact ih4 y1 y2 (jxw (y3 + 1)) (show (((12 - (jxw (y3 + 1))) * 1) + 0).toNat < n from by omega) (show 0 ≤ y2 from by omega) (show y2 ≤ 999 from by omega) (show 0 ≤ jxw (y3 + 1) from by omega) (show jxw (y3 + 1) ≤ 12 from by omega) (by first | rfl | assumption) (show jxw (y3 + 1) ≤ a0 107 ((a0 105 5).toNat) from by omega) (by first | rfl | (rw [show (jxw (y3 + 1)).toNat = y3.toNat + 1 from by omega]; exact hlg))
  have hc32 : ∀ (y1 y3 : Int), (((12 - y3) * 1) + 0).toNat ≤ n → 0 ≤ y1 → y1 ≤ 999 → 0 ≤ y3 → y3 ≤ 11 → (y1 = x1) → y3 < a0 107 ((a0 105 5).toNat) → (a0 108 ((a0 105 5).toNat * 12 + y3.toNat) = x1) → jt (jxX E d 137 32 [some (.inr (.inr (.inl 105))), some (.inl y1), none, some (.inl y3)] [] (jxSH, a0, b0)) (jQ_X9_lastGrams x1 a0 b0) := by
    intro y1 y3 hm hi0 hi1 hi2 hi3 hy1 hi5 hz
    refine jt_eq (bq_X9_lastGrams_32 E d y1 y3 a0 b0) ?_
    have h1404_ := iv_get hv0 (k := 105) (j := 5) (l := 0) (u := 10) rfl
    have h1405_ := iv_get hv0 (k := 107) (j := (a0 105 5).toNat) (l := 0) (u := 12) rfl
    refine jt_grd (by omega) ?_
    refine jt_grd (by omega) ?_
    refine jt_grd (by omega) ?_
    have h1406_ := iv_get hv0 (k := 119) (j := ((a0 105 5).toNat) * 12 + (y3.toNat)) (l := 0) (u := 999) rfl
    exact hc44 y1 (a0 119 (((a0 105 5).toNat) * 12 + (y3.toNat))) y3 (show (((12 - y3) * 1) + 0).toNat ≤ n from by omega) (show 0 ≤ a0 119 (((a0 105 5).toNat) * 12 + (y3.toNat)) from by omega) (show a0 119 (((a0 105 5).toNat) * 12 + (y3.toNat)) ≤ 999 from by omega) (show 0 ≤ y3 from by omega) (show y3 ≤ 11 from by omega) (by first | rfl | assumption) (show y3 < a0 107 ((a0 105 5).toNat) from by omega) (by first | exact (LG_s1 (z := fun c => a0 108 ((a0 105 5).toNat * 12 + c)) (g := fun c => a0 119 ((a0 105 5).toNat * 12 + c)) (m := y3.toNat) hz).symm | (rw [LG_s2 (by rw [← hy1]; assumption)]; exact hlg))
  have hc4 : ∀ (y1 y2 y3 : Int), (((12 - y3) * 1) + 0).toNat ≤ n → 0 ≤ y2 → y2 ≤ 999 → 0 ≤ y3 → y3 ≤ 12 → (y1 = x1) → y3 ≤ a0 107 ((a0 105 5).toNat) → (y2 = LG (fun c => a0 108 ((a0 105 5).toNat * 12 + c)) (fun c => a0 119 ((a0 105 5).toNat * 12 + c)) x1 y3.toNat) → jt (jxX E d 137 4 [some (.inr (.inr (.inl 105))), some (.inl y1), some (.inl y2), some (.inl y3)] [] (jxSH, a0, b0)) (jQ_X9_lastGrams x1 a0 b0) := by
    intro y1 y2 y3 hm hi0 hi1 hi2 hi3 hy1 hi5 hlg
    refine jt_eq (bq_X9_lastGrams_4 E d y1 y2 y3 a0 b0) ?_
    have h1407_ := iv_get hv0 (k := 105) (j := 5) (l := 0) (u := 10) rfl
    have h1408_ := iv_get hv0 (k := 107) (j := (a0 105 5).toNat) (l := 0) (u := 12) rfl
    refine jt_grd (by omega) ?_
    refine jt_ite (fun c1409_ => ?_) (fun c1409_ => ?_)
    ·
      refine jt_grd (by omega) ?_
      refine jt_grd (by omega) ?_
      refine jt_grd (by omega) ?_
      have h1410_ := iv_get hv0 (k := 108) (j := ((a0 105 5).toNat) * 12 + (y3.toNat)) (l := 0) (u := 999) rfl
      refine jt_ite (fun c1411_ => ?_) (fun c1411_ => ?_)
      ·
        exact hc32 y1 y3 (show (((12 - y3) * 1) + 0).toNat ≤ n from by omega) (show 0 ≤ y1 from by omega) (show y1 ≤ 999 from by omega) (show 0 ≤ y3 from by omega) (show y3 ≤ 11 from by omega) (by first | rfl | assumption) (show y3 < a0 107 ((a0 105 5).toNat) from by omega) (by rw [← hy1]; assumption)
      ·
        exact hc44 y1 y2 y3 (show (((12 - y3) * 1) + 0).toNat ≤ n from by omega) (show 0 ≤ y2 from by omega) (show y2 ≤ 999 from by omega) (show 0 ≤ y3 from by omega) (show y3 ≤ 11 from by omega) (by first | rfl | assumption) (show y3 < a0 107 ((a0 105 5).toNat) from by omega) (by first | exact (LG_s1 (z := fun c => a0 108 ((a0 105 5).toNat * 12 + c)) (g := fun c => a0 119 ((a0 105 5).toNat * 12 + c)) (m := y3.toNat) hz).symm | (rw [LG_s2 (by rw [← hy1]; assumption)]; exact hlg))
    ·
      exact jt_rI ⟨rfl, rfl, (by rw [show (a0 107 (a0 105 5).toNat).toNat = y3.toNat from by omega]; exact hlg)⟩
  exact ⟨hc44, hc32, hc4⟩
theorem sp_X9_lastGrams (E : jxE) (d : Nat) (hd : Nat.ble 1 d = true) (x1 : Int) (a0 b0 : Nat → Nat → Int) (hv0 : iv a0) (hp0 : a0 105 5 ≤ 9) : jt (jxC E d 137 [.inr (.inr (.inl 105)), .inl x1] (jxSH, a0, b0)) (jQ_X9_lastGrams x1 a0 b0) := by
  obtain ⟨d, rfl⟩ := jd_succ hd
  refine jt_eq (bq_X9_lastGrams E d x1 a0 b0) ?_
  have h1412_ := iv_get hv0 (k := 105) (j := 5) (l := 0) (u := 10) rfl
  have h1413_ := iv_get hv0 (k := 107) (j := (a0 105 5).toNat) (l := 0) (u := 12) rfl
  exact (cp_X9_lastGrams_4 E d hd x1 a0 b0 hv0 hp0 _).2.2 x1 0 0 (Nat.le_refl _) (show 0 ≤ 0 from by omega) (show 0 ≤ 999 from by omega) (show 0 ≤ 0 from by omega) (show 0 ≤ 12 from by omega) (by first | rfl | assumption) (show 0 ≤ a0 107 ((a0 105 5).toNat) from by omega) (by first | rfl | (rw [show (jxw (y3 + 1)).toNat = y3.toNat + 1 from by omega]; exact hlg))
def jW_X9_readClause_r2 : List (Nat × Nat) := [(2, 2), (2, 3), (107, 9999), (108, 9999), (119, 9999), (130, 9999)]
abbrev jQ_X9_readClause_r2 (a0 b0 : Nat → Nat → Int) : List jxV → (Nat → Nat → Int) → (Nat → Nat → Int) → Prop := rV (fun a b => (iv a) ∧ (jfr jW_X9_readClause_r2 a0 a) ∧ (b0 = b) ∧ ((((a0 2 1 = 0 ∧ a0 2 2 = 0) ∧ a0 2 3 = 0) → (a 2 3 = 1 ∧ a 2 2 = 0))) ∧ (a 2 3 = CF (a0 3) (a0 2 1).toNat (a0 2 2).toNat (a0 107 (a0 105 5).toNat) (LSa a0)) ∧ ((RCU a0 a (a0 105 5).toNat ((a0 105 5).toNat * 12 + (a0 107 (a0 105 5).toNat).toNat) (NV (a0 3) (a0 2 1).toNat (C1 (a0 3) (a0 2 1).toNat (a0 2 2).toNat)) (NV (a0 3) (a0 2 1).toNat (C2 (a0 3) (a0 2 1).toNat (a0 2 2).toNat)) (NV (a0 3) (a0 2 1).toNat (C3 (a0 3) (a0 2 1).toNat (a0 2 2).toNat)) ((a0 107 (a0 105 5).toNat) + 1)) ∨ (RCS a0 a ∧ ¬ CF (a0 3) (a0 2 1).toNat (a0 2 2).toNat (a0 107 (a0 105 5).toNat) (LSa a0) = 0)) ∧ (CF (a0 3) (a0 2 1).toNat (a0 2 2).toNat (a0 107 (a0 105 5).toNat) (LSa a0) = 0 → a 2 2 = ((C4 (a0 3) (a0 2 1).toNat (a0 2 2).toNat) : Int)))
theorem cp_X9_readClause_r2_35 (E : jxE) (d : Nat) (hd : Nat.ble 6 (d + 1) = true) (a0 b0 : Nat → Nat → Int) (hv0 : iv a0) (hp0 : a0 105 5 ≤ 9) (hp1 : a0 2 3 = 0) : ∀ (y2 : Int) (a : Nat → Nat → Int), iv a → jfr jW_X9_readClause_r2 a0 a → 0 ≤ y2 → y2 ≤ 200 → a 105 5 ≤ 9 → (TW (a0 3) (a0 2 1).toNat (a0 2 2).toNat 15) → (12 ≤ (a0 107 (a0 105 5).toNat)) → (y2 = a0 2 2) → a 2 3 = 0 → (∀ j, a 108 j = a0 108 j) → (∀ j, a 119 j = a0 119 j) → (∀ j, a 130 j = a0 130 j) → (∀ j, a 107 j = a0 107 j) → 1 ≤ a0 2 1 → jt (jxX E d 136 35 [none, some (.inr (.inr (.inl 2))), some (.inl y2), none, none] [] (jxSH, a, b0)) (jQ_X9_readClause_r2 a0 b0) := by
  intro y2 a hv hf hi0 hi1 hi2 htw h12 hy2 hi6 hs108 hs119 hs130 hs107 hi11
  refine jt_eq (bq_X9_readClause_r2_35 E d y2 a b0) ?_
  have h1414_ := iv_get hv (k := 105) (j := 5) (l := 0) (u := 10) rfl
  have h1415_ : a 105 5 = a0 105 5 := hf 105 5 rfl
  have h1416_ := iv_get hv0 (k := 105) (j := 5) (l := 0) (u := 10) rfl
  have h1417_ := iv_get hv0 (k := 2) (j := 1) (l := 0) (u := 200) rfl
  have h3 : a 3 = a0 3 := funext fun j => hf 3 j rfl
  have h21 := hf 2 1 rfl
  refine jt_bV (sp_X8_noteFault E d (jd_le hd rfl) y2 2 a b0 hv) (fun a1418_ b1418_ h1418_ => ?_)
  obtain ⟨hv1418_, hf1418_, rfl, hq1418_0, hq1418_1⟩ := h1418_
  have hf1419_ : jfr jW_X9_readClause_r2 a0 a1418_ := jfr_tr hf hf1418_ rfl
  have h1420_ := iv_get hv0 (k := 2) (j := 2) (l := 0) (u := 200) rfl
  have h1421_ := iv_get hv1418_ (k := 2) (j := 2) (l := 0) (u := 200) rfl
  have h1422_ : a1418_ 2 2 = a 2 2 := hf1418_ 2 2 rfl
  have h1423_ := iv_get hv (k := 2) (j := 2) (l := 0) (u := 200) rfl
  exact jt_rV ⟨hv1418_, hf1419_, rfl, (show (((a0 2 1 = 0 ∧ a0 2 2 = 0) ∧ a0 2 3 = 0) → (a1418_ 2 3 = 1 ∧ a1418_ 2 2 = 0)) from by omega), (by rw [CF_12 htw h12]; omega), (Or.inr ⟨fun j => ⟨((hf1418_ 108 j rfl)).trans (hs108 j), ((hf1418_ 119 j rfl)).trans (hs119 j), ((hf1418_ 130 j rfl)).trans (hs130 j), ((hf1418_ 107 j rfl)).trans (hs107 j)⟩, (by rw [CF_12 htw h12]; omega)⟩), (fun h => absurd h (by rw [CF_12 htw h12]; omega))⟩
theorem cp_X9_readClause_r2_152 (E : jxE) (d : Nat) (hd : Nat.ble 6 (d + 1) = true) (a0 b0 : Nat → Nat → Int) (hv0 : iv a0) (hp0 : a0 105 5 ≤ 9) (hp1 : a0 2 3 = 0) : ∀ (a : Nat → Nat → Int), iv a → jfr jW_X9_readClause_r2 a0 a → a 105 5 ≤ 9 → (a 2 3 = CF (a0 3) (a0 2 1).toNat (a0 2 2).toNat (a0 107 (a0 105 5).toNat) (LSa a0)) → (a 2 2 = ((C4 (a0 3) (a0 2 1).toNat (a0 2 2).toNat) : Int)) → (RCU a0 a (a0 105 5).toNat ((a0 105 5).toNat * 12 + (a0 107 (a0 105 5).toNat).toNat) (NV (a0 3) (a0 2 1).toNat (C1 (a0 3) (a0 2 1).toNat (a0 2 2).toNat)) (NV (a0 3) (a0 2 1).toNat (C2 (a0 3) (a0 2 1).toNat (a0 2 2).toNat)) (NV (a0 3) (a0 2 1).toNat (C3 (a0 3) (a0 2 1).toNat (a0 2 2).toNat)) ((a0 107 (a0 105 5).toNat) + 1)) → 1 ≤ a0 2 1 → jt (jxX E d 136 152 [none, none, none, none, none] [] (jxSH, a, b0)) (jQ_X9_readClause_r2 a0 b0) := by
  intro a hv hf hi0 hcf hat hru hi4
  refine jt_eq (bq_X9_readClause_r2_152 E d a b0) ?_
  have h1424_ := iv_get hv (k := 105) (j := 5) (l := 0) (u := 10) rfl
  have h1425_ : a 105 5 = a0 105 5 := hf 105 5 rfl
  have h1426_ := iv_get hv0 (k := 105) (j := 5) (l := 0) (u := 10) rfl
  have h1427_ := iv_get hv0 (k := 2) (j := 1) (l := 0) (u := 200) rfl
  have h3 : a 3 = a0 3 := funext fun j => hf 3 j rfl
  have h21 := hf 2 1 rfl
  have h1428_ := iv_get hv0 (k := 2) (j := 2) (l := 0) (u := 200) rfl
  have h1429_ := iv_get hv (k := 2) (j := 2) (l := 0) (u := 200) rfl
  exact jt_rV ⟨hv, hf, rfl, (show (((a0 2 1 = 0 ∧ a0 2 2 = 0) ∧ a0 2 3 = 0) → (a 2 3 = 1 ∧ a 2 2 = 0)) from by omega), hcf, (Or.inl hru), (fun _ => hat)⟩
theorem cp_X9_readClause_r2_120 (E : jxE) (d : Nat) (hd : Nat.ble 6 (d + 1) = true) (a0 b0 : Nat → Nat → Int) (hv0 : iv a0) (hp0 : a0 105 5 ≤ 9) (hp1 : a0 2 3 = 0) : ∀ (y3 : Int) (a : Nat → Nat → Int), iv a → jfr jW_X9_readClause_r2 a0 a → 0 ≤ y3 → y3 ≤ 11 → a 105 5 ≤ 9 → (TW (a0 3) (a0 2 1).toNat (a0 2 2).toNat 15) → (y3 = (a0 107 (a0 105 5).toNat)) → y3 ≤ 11 → (UP (a0 108) (a 108) ((a0 105 5).toNat * 12 + (a0 107 (a0 105 5).toNat).toNat) (NV (a0 3) (a0 2 1).toNat (C1 (a0 3) (a0 2 1).toNat (a0 2 2).toNat))) → (UP (a0 119) (a 119) ((a0 105 5).toNat * 12 + (a0 107 (a0 105 5).toNat).toNat) (NV (a0 3) (a0 2 1).toNat (C2 (a0 3) (a0 2 1).toNat (a0 2 2).toNat))) → (∀ j, a 130 j = a0 130 j) → (∀ j, a 107 j = a0 107 j) → (a 2 2 = ((C3 (a0 3) (a0 2 1).toNat (a0 2 2).toNat) : Int)) → (a 2 3 = (if ¬ NF (a0 3) (a0 2 1).toNat (C1 (a0 3) (a0 2 1).toNat (a0 2 2).toNat) 0 3 = 0 then NF (a0 3) (a0 2 1).toNat (C1 (a0 3) (a0 2 1).toNat (a0 2 2).toNat) 0 3 else NF (a0 3) (a0 2 1).toNat (C2 (a0 3) (a0 2 1).toNat (a0 2 2).toNat) (LSa a0 + 1) 500)) → y3 = a 107 ((a0 105 5).toNat) → 1 ≤ a0 2 1 → jt (jxX E d 136 120 [some (.inr (.inr (.inl 105))), some (.inr (.inr (.inl 2))), none, some (.inl y3), none] [] (jxSH, a, b0)) (jQ_X9_readClause_r2 a0 b0) := by
  intro y3 a hv hf hi0 hi1 hi2 htw hy3 hi5 hu108 hu119 hs130 hs107 hat hft2 hi12 hi13
  refine jt_eq (bq_X9_readClause_r2_120 E d y3 a b0) ?_
  have h1430_ := iv_get hv (k := 105) (j := 5) (l := 0) (u := 10) rfl
  have h1431_ : a 105 5 = a0 105 5 := hf 105 5 rfl
  have h1432_ := iv_get hv0 (k := 105) (j := 5) (l := 0) (u := 10) rfl
  have h1433_ := iv_get hv (k := 107) (j := (a0 105 5).toNat) (l := 0) (u := 12) rfl
  have h1434_ := iv_get hv0 (k := 2) (j := 1) (l := 0) (u := 200) rfl
  have h3 : a 3 = a0 3 := funext fun j => hf 3 j rfl
  have h21 := hf 2 1 rfl
  have hP : (a 2 2).toNat = (C3 (a0 3) (a0 2 1).toNat (a0 2 2).toNat) := by rw [hat]; exact Int.toNat_natCast _
  have hi : (a 105 5).toNat * 12 + y3.toNat = ((a0 105 5).toNat * 12 + (a0 107 (a0 105 5).toNat).toNat) := by rw [hf 105 5 rfl, hy3]
  refine jt_grd (by omega) ?_
  refine jt_bI (sp_X8_takeNumber E d (jd_le hd rfl) 1 900 a b0 hv) (fun r1435_ a1435_ b1435_ h1435_ => ?_)
  obtain ⟨hv1435_, hf1435_, rfl, hq1435_0, hq1435_1, hq1435_2, hq1435_3⟩ := h1435_
  refine jt_grd (by omega) ?_
  refine jt_grd (by omega) ?_
  have h1436_ := iv_get hv1435_ (k := 105) (j := 5) (l := 0) (u := 10) rfl
  have h1437_ : a1435_ 105 5 = a 105 5 := hf1435_ 105 5 rfl
  refine jt_grd (by omega) ?_
  refine jt_grd (by omega) ?_
  have hv1438_ : iv (jxu a1435_ 130 (((a 105 5).toNat) * 12 + (y3.toNat)) r1435_) := iv_put hv1435_ (l := 0) (u := 999) rfl (by omega) (by omega)
  have h1440_ : a1435_ 107 ((a1435_ 105 5).toNat) = a1435_ 107 ((a0 105 5).toNat) := by rw [show a1435_ 105 5 = a0 105 5 from by omega]
  have h1441_ := iv_get hv1435_ (k := 107) (j := (a0 105 5).toNat) (l := 0) (u := 12) rfl
  have h1442_ : a1435_ 107 ((a0 105 5).toNat) = a 107 ((a0 105 5).toNat) := hf1435_ 107 ((a0 105 5).toNat) rfl
  have h1443_ := iv_get hv1435_ (k := 107) (j := (a1435_ 105 5).toNat) (l := 0) (u := 12) rfl
  have h1444_ : a1435_ 107 ((a1435_ 105 5).toNat) = a 107 ((a1435_ 105 5).toNat) := hf1435_ 107 ((a1435_ 105 5).toNat) rfl
  have h1445_ : a 107 ((a1435_ 105 5).toNat) = a 107 ((a0 105 5).toNat) := by rw [show a1435_ 105 5 = a0 105 5 from by omega]
  have h1446_ := iv_get hv (k := 107) (j := (a1435_ 105 5).toNat) (l := 0) (u := 12) rfl
  have h1447_ : jxw ((a1435_ 107 ((a1435_ 105 5).toNat)) + 1) = (a1435_ 107 ((a1435_ 105 5).toNat)) + 1 := jxw_id (by omega) (by omega)
  have hv1439_ : iv (jxu (jxu a1435_ 130 (((a 105 5).toNat) * 12 + (y3.toNat)) r1435_) 107 ((a1435_ 105 5).toNat) (jxw ((a1435_ 107 ((a1435_ 105 5).toNat)) + 1))) := iv_put hv1438_ (l := 0) (u := 12) rfl (by omega) (by omega)
  have hf1448_ : jfr jW_X9_readClause_r2 a0 a1435_ := jfr_tr hf hf1435_ rfl
  have hf1449_ : jfr jW_X9_readClause_r2 a0 (jxu a1435_ 130 (((a 105 5).toNat) * 12 + (y3.toNat)) r1435_) := jfr_put hf1448_ rfl
  have hf1450_ : jfr jW_X9_readClause_r2 a0 (jxu (jxu a1435_ 130 (((a 105 5).toNat) * 12 + (y3.toNat)) r1435_) 107 ((a1435_ 105 5).toNat) (jxw ((a1435_ 107 ((a1435_ 105 5).toNat)) + 1))) := jfr_put hf1449_ rfl
  exact cp_X9_readClause_r2_152 E d hd a0 b0 hv0 hp0 hp1 (jxu (jxu a1435_ 130 (((a 105 5).toNat) * 12 + (y3.toNat)) r1435_) 107 ((a1435_ 105 5).toNat) (jxw ((a1435_ 107 ((a1435_ 105 5).toNat)) + 1))) hv1439_ hf1450_ (show a1435_ 105 5 ≤ 9 from by omega) (by have e0 := hq1435_0; have e1 := hq1435_1; have e2 := hq1435_2; rw [h3, h21, hP] at e0 e1 e2; rw [CF_go htw (by rw [← hy3]; omega), ← CF_split, ← hft2]; exact e2) (by have e0 := hq1435_0; have e1 := hq1435_1; have e2 := hq1435_2; rw [h3, h21, hP] at e0 e1 e2; exact e1) (by have e0 := hq1435_0; have e1 := hq1435_1; have e2 := hq1435_2; rw [h3, h21, hP] at e0 e1 e2; have hs7 : a1435_ 105 5 = a0 105 5 := (hf1435_ 105 5 rfl).trans (hf 105 5 rfl); refine ⟨UP_cr hu108 (fun j => hf1435_ 108 j rfl), UP_cr hu119 (fun j => hf1435_ 119 j rfl), ?_, ?_⟩ <;> first | (rw [← hi, ← e0]; exact UP_put (fun j => (hf1435_ 130 j rfl).trans (hs130 j))) | (rw [show (a0 107 (a0 105 5).toNat) + 1 = jxw ((a1435_ 107 ((a1435_ 105 5).toNat)) + 1) from (by rw [hs7, hf1435_ 107 _ rfl, hs107, ← hy3, jxw_id (by omega) (by omega)]), ← hs7]; exact UP_put (fun j => (hf1435_ 107 j rfl).trans (hs107 j)))) (show 1 ≤ a0 2 1 from by omega)
theorem cp_X9_readClause_r2_113 (E : jxE) (d : Nat) (hd : Nat.ble 6 (d + 1) = true) (a0 b0 : Nat → Nat → Int) (hv0 : iv a0) (hp0 : a0 105 5 ≤ 9) (hp1 : a0 2 3 = 0) : ∀ (y3 y4 : Int) (a : Nat → Nat → Int), iv a → jfr jW_X9_readClause_r2 a0 a → 0 ≤ y3 → y3 ≤ 11 → 0 ≤ y4 → y4 ≤ 200 → a 105 5 ≤ 9 → (TW (a0 3) (a0 2 1).toNat (a0 2 2).toNat 15) → (y3 = (a0 107 (a0 105 5).toNat)) → y3 ≤ 11 → (UP (a0 108) (a 108) ((a0 105 5).toNat * 12 + (a0 107 (a0 105 5).toNat).toNat) (NV (a0 3) (a0 2 1).toNat (C1 (a0 3) (a0 2 1).toNat (a0 2 2).toNat))) → (UP (a0 119) (a 119) ((a0 105 5).toNat * 12 + (a0 107 (a0 105 5).toNat).toNat) (NV (a0 3) (a0 2 1).toNat (C2 (a0 3) (a0 2 1).toNat (a0 2 2).toNat))) → (∀ j, a 130 j = a0 130 j) → (∀ j, a 107 j = a0 107 j) → (a 2 2 = ((C3 (a0 3) (a0 2 1).toNat (a0 2 2).toNat) : Int)) → (y4 = ((C2 (a0 3) (a0 2 1).toNat (a0 2 2).toNat) : Int)) → (a 2 3 = (if NF (a0 3) (a0 2 1).toNat (C1 (a0 3) (a0 2 1).toNat (a0 2 2).toNat) 0 3 = 0 then NF (a0 3) (a0 2 1).toNat (C2 (a0 3) (a0 2 1).toNat (a0 2 2).toNat) 1 500 else NF (a0 3) (a0 2 1).toNat (C1 (a0 3) (a0 2 1).toNat (a0 2 2).toNat) 0 3)) → (NV (a0 3) (a0 2 1).toNat (C2 (a0 3) (a0 2 1).toNat (a0 2 2).toNat) ≤ LSa a0) → y3 = a 107 ((a0 105 5).toNat) → 1 ≤ a0 2 1 → jt (jxX E d 136 113 [some (.inr (.inr (.inl 105))), some (.inr (.inr (.inl 2))), none, some (.inl y3), some (.inl y4)] [] (jxSH, a, b0)) (jQ_X9_readClause_r2 a0 b0) := by
  intro y3 y4 a hv hf hi0 hi1 hi2 hi3 hi4 htw hy3 hi7 hu108 hu119 hs130 hs107 hat hy4 hft hle hi16 hi17
  refine jt_eq (bq_X9_readClause_r2_113 E d y3 y4 a b0) ?_
  have h1451_ := iv_get hv (k := 105) (j := 5) (l := 0) (u := 10) rfl
  have h1452_ : a 105 5 = a0 105 5 := hf 105 5 rfl
  have h1453_ := iv_get hv0 (k := 105) (j := 5) (l := 0) (u := 10) rfl
  have h1454_ := iv_get hv (k := 107) (j := (a0 105 5).toNat) (l := 0) (u := 12) rfl
  have h1455_ := iv_get hv0 (k := 2) (j := 1) (l := 0) (u := 200) rfl
  have h3 : a 3 = a0 3 := funext fun j => hf 3 j rfl
  have h21 := hf 2 1 rfl
  refine jt_bV (sp_X8_noteFault E d (jd_le hd rfl) y4 1 a b0 hv) (fun a1456_ b1456_ h1456_ => ?_)
  obtain ⟨hv1456_, hf1456_, rfl, hq1456_0, hq1456_1⟩ := h1456_
  have hf1457_ : jfr jW_X9_readClause_r2 a0 a1456_ := jfr_tr hf hf1456_ rfl
  have h1458_ := iv_get hv1456_ (k := 105) (j := 5) (l := 0) (u := 10) rfl
  have h1459_ : a1456_ 105 5 = a 105 5 := hf1456_ 105 5 rfl
  have h1460_ := iv_get hv1456_ (k := 107) (j := (a0 105 5).toNat) (l := 0) (u := 12) rfl
  have h1461_ : a1456_ 107 ((a0 105 5).toNat) = a 107 ((a0 105 5).toNat) := hf1456_ 107 ((a0 105 5).toNat) rfl
  exact cp_X9_readClause_r2_120 E d hd a0 b0 hv0 hp0 hp1 y3 a1456_ hv1456_ hf1457_ (show 0 ≤ y3 from by omega) (show y3 ≤ 11 from by omega) (show a1456_ 105 5 ≤ 9 from by omega) (by first | exact htw | exact (hq1456_3 (by omega)).2.1) (by first | exact hy3 | (rw [hf1456_ 107 _ rfl, hf1456_ 105 5 rfl])) (show y3 ≤ 11 from by omega) (UP_cr hu108 (fun j => (hf1456_ 108 j rfl))) (UP_cr hu119 (fun j => (hf1456_ 119 j rfl))) (fun j => ((hf1456_ 130 j rfl)).trans (hs130 j)) (fun j => ((hf1456_ 107 j rfl)).trans (hs107 j)) (by rw [hf1456_ 2 2 rfl]; exact hat) (by have hb := LSa_bd hv0; have n1 := NF_pos (a0 3) (a0 2 1).toNat (C1 (a0 3) (a0 2 1).toNat (a0 2 2).toNat) 0 3; have n2 := NF_pos (a0 3) (a0 2 1).toNat (C2 (a0 3) (a0 2 1).toNat (a0 2 2).toNat) 1 500; rw [NF_two hb.1, if_pos hle]; have p0 := hq1456_0; have p1 := hq1456_1; rw [hft] at p0 p1; split at p0 <;> split <;> (try split) <;> omega) (show y3 = a1456_ 107 ((a0 105 5).toNat) from by omega) (show 1 ≤ a0 2 1 from by omega)
theorem cp_X9_readClause_r2_65 (E : jxE) (d : Nat) (hd : Nat.ble 6 (d + 1) = true) (a0 b0 : Nat → Nat → Int) (hv0 : iv a0) (hp0 : a0 105 5 ≤ 9) (hp1 : a0 2 3 = 0) : ∀ (y3 y4 : Int) (a : Nat → Nat → Int), iv a → jfr jW_X9_readClause_r2 a0 a → 0 ≤ y3 → y3 ≤ 11 → 0 ≤ y4 → y4 ≤ 200 → a 105 5 ≤ 9 → (TW (a0 3) (a0 2 1).toNat (a0 2 2).toNat 15) → (y3 = (a0 107 (a0 105 5).toNat)) → y3 ≤ 11 → (y4 = ((C2 (a0 3) (a0 2 1).toNat (a0 2 2).toNat) : Int)) → (a 2 2 = ((C2 (a0 3) (a0 2 1).toNat (a0 2 2).toNat) : Int)) → (UP (a0 108) (a 108) ((a0 105 5).toNat * 12 + (a0 107 (a0 105 5).toNat).toNat) (NV (a0 3) (a0 2 1).toNat (C1 (a0 3) (a0 2 1).toNat (a0 2 2).toNat))) → (a 2 3 = NF (a0 3) (a0 2 1).toNat (C1 (a0 3) (a0 2 1).toNat (a0 2 2).toNat) 0 3) → (∀ j, a 119 j = a0 119 j) → (∀ j, a 130 j = a0 130 j) → (∀ j, a 107 j = a0 107 j) → y3 = a 107 ((a0 105 5).toNat) → 1 ≤ a0 2 1 → jt (jxX E d 136 65 [some (.inr (.inr (.inl 105))), some (.inr (.inr (.inl 2))), none, some (.inl y3), some (.inl y4)] [] (jxSH, a, b0)) (jQ_X9_readClause_r2 a0 b0) := by
  intro y3 y4 a hv hf hi0 hi1 hi2 hi3 hi4 htw hy3 hi7 hy4 hat hu108 hft hs119 hs130 hs107 hi15 hi16
  refine jt_eq (bq_X9_readClause_r2_65 E d y3 y4 a b0) ?_
  have h1462_ := iv_get hv (k := 105) (j := 5) (l := 0) (u := 10) rfl
  have h1463_ : a 105 5 = a0 105 5 := hf 105 5 rfl
  have h1464_ := iv_get hv0 (k := 105) (j := 5) (l := 0) (u := 10) rfl
  have h1465_ := iv_get hv (k := 107) (j := (a0 105 5).toNat) (l := 0) (u := 12) rfl
  have h1466_ := iv_get hv0 (k := 2) (j := 1) (l := 0) (u := 200) rfl
  have h3 : a 3 = a0 3 := funext fun j => hf 3 j rfl
  have h21 := hf 2 1 rfl
  have hP : (a 2 2).toNat = (C2 (a0 3) (a0 2 1).toNat (a0 2 2).toNat) := by rw [hat]; exact Int.toNat_natCast _
  have hi : (a 105 5).toNat * 12 + y3.toNat = ((a0 105 5).toNat * 12 + (a0 107 (a0 105 5).toNat).toNat) := by rw [hf 105 5 rfl, hy3]
  refine jt_grd (by omega) ?_
  refine jt_bI (sp_X8_takeNumber E d (jd_le hd rfl) 1 500 a b0 hv) (fun r1467_ a1467_ b1467_ h1467_ => ?_)
  obtain ⟨hv1467_, hf1467_, rfl, hq1467_0, hq1467_1, hq1467_2, hq1467_3⟩ := h1467_
  refine jt_grd (by omega) ?_
  refine jt_grd (by omega) ?_
  have h1468_ := iv_get hv1467_ (k := 105) (j := 5) (l := 0) (u := 10) rfl
  have h1469_ : a1467_ 105 5 = a 105 5 := hf1467_ 105 5 rfl
  refine jt_grd (by omega) ?_
  refine jt_grd (by omega) ?_
  refine jt_grd (by omega) ?_
  refine jt_grd (by omega) ?_
  refine jt_grd (by omega) ?_
  refine jt_grd (by omega) ?_
  have hv1470_ : iv (jxu a1467_ 119 (((a 105 5).toNat) * 12 + (y3.toNat)) r1467_) := iv_put hv1467_ (l := 0) (u := 999) rfl (by omega) (by omega)
  refine jt_bI (sp_X9_lastGrams E d (jd_le hd rfl) (a1467_ 108 (((a1467_ 105 5).toNat) * 12 + (y3.toNat))) (jxu a1467_ 119 (((a 105 5).toNat) * 12 + (y3.toNat)) r1467_) b0 hv1470_ (show a1467_ 105 5 ≤ 9 from by omega)) (fun r1471_ a1471_ b1471_ h1471_ => ?_)
  obtain ⟨he1471_, rfl, hq1471_0⟩ := h1471_
  have hv1471_ : iv a1471_ := he1471_ ▸ hv1470_
  have hf1471_ : jfr [] (jxu a1467_ 119 (((a 105 5).toNat) * 12 + (y3.toNat)) r1467_) a1471_ := jfr_eq he1471_
  have h1472_ := iv_get hv1470_ (k := 119) (j := ((a1467_ 105 5).toNat) * 12 + (y3.toNat)) (l := 0) (u := 999) rfl
  have h1473_ := jxu_sp a1467_ 119 (((a 105 5).toNat) * 12 + (y3.toNat)) r1467_ (((a1467_ 105 5).toNat) * 12 + (y3.toNat))
  have h1474_ := iv_get hv1467_ (k := 119) (j := ((a1467_ 105 5).toNat) * 12 + (y3.toNat)) (l := 0) (u := 999) rfl
  have h1475_ : a1467_ 119 (((a1467_ 105 5).toNat) * 12 + (y3.toNat)) = a 119 (((a1467_ 105 5).toNat) * 12 + (y3.toNat)) := hf1467_ 119 (((a1467_ 105 5).toNat) * 12 + (y3.toNat)) rfl
  have h1476_ := iv_get hv (k := 119) (j := ((a1467_ 105 5).toNat) * 12 + (y3.toNat)) (l := 0) (u := 999) rfl
  refine jt_ite (fun c1477_ => ?_) (fun c1477_ => ?_)
  ·
    have hf1478_ : jfr jW_X9_readClause_r2 a0 a1467_ := jfr_tr hf hf1467_ rfl
    have hf1479_ : jfr jW_X9_readClause_r2 a0 (jxu a1467_ 119 (((a 105 5).toNat) * 12 + (y3.toNat)) r1467_) := jfr_put hf1478_ rfl
    have hf1480_ : jfr jW_X9_readClause_r2 a0 a1471_ := jfr_tr hf1479_ hf1471_ rfl
    have h1481_ := iv_get hv1471_ (k := 105) (j := 5) (l := 0) (u := 10) rfl
    have h1482_ : a1471_ 105 5 = a1467_ 105 5 := hf1471_ 105 5 rfl
    have h1483_ := iv_get hv1471_ (k := 107) (j := (a0 105 5).toNat) (l := 0) (u := 12) rfl
    have h1484_ : a1471_ 107 ((a0 105 5).toNat) = a1467_ 107 ((a0 105 5).toNat) := hf1471_ 107 ((a0 105 5).toNat) rfl
    have h1485_ := iv_get hv1467_ (k := 107) (j := (a0 105 5).toNat) (l := 0) (u := 12) rfl
    have h1486_ : a1467_ 107 ((a0 105 5).toNat) = a 107 ((a0 105 5).toNat) := hf1467_ 107 ((a0 105 5).toNat) rfl
    exact cp_X9_readClause_r2_120 E d hd a0 b0 hv0 hp0 hp1 y3 a1471_ hv1471_ hf1480_ (show 0 ≤ y3 from by omega) (show y3 ≤ 11 from by omega) (show a1471_ 105 5 ≤ 9 from by omega) (by first | exact htw | exact (hq1471_3 (by omega)).2.1) (by first | exact hy3 | (rw [hf1471_ 107 _ rfl, hf1471_ 105 5 rfl])) (show y3 ≤ 11 from by omega) (UP_cr hu108 (fun j => ((hf1471_ 108 j rfl).trans (hf1467_ 108 j rfl)))) (by have e0 := hq1467_0; have e1 := hq1467_1; have e2 := hq1467_2; rw [h3, h21, hP] at e0 e1 e2; rw [← hi, ← e0]; exact UP_cr (UP_put (fun j => (hf1467_ 119 j rfl).trans (hs119 j))) (fun j => hf1471_ 119 j rfl)) (fun j => (((hf1471_ 130 j rfl).trans (hf1467_ 130 j rfl))).trans (hs130 j)) (fun j => (((hf1471_ 107 j rfl).trans (hf1467_ 107 j rfl))).trans (hs107 j)) (by have e0 := hq1467_0; have e1 := hq1467_1; have e2 := hq1467_2; rw [h3, h21, hP] at e0 e1 e2; exact (hf1471_ 2 2 rfl).trans e1) (by have e0 := hq1467_0; have e1 := hq1467_1; have e2 := hq1467_2; rw [h3, h21, hP] at e0 e1 e2; have hl := hq1471_0; have hU8 : UP (a0 108) (a1467_ 108) ((a0 105 5).toNat * 12 + (a0 107 (a0 105 5).toNat).toNat) _ := UP_cr hu108 (fun j => hf1467_ 108 j rfl); have hU9 : UP (a0 119) (jxu a1467_ 119 ((a0 105 5).toNat * 12 + (a0 107 (a0 105 5).toNat).toNat) r1467_ 119) ((a0 105 5).toNat * 12 + (a0 107 (a0 105 5).toNat).toNat) r1467_ := UP_put (fun j => (hf1467_ 119 j rfl).trans (hs119 j)); have hlr : r1471_ = LSa a0 := (by rw [hl]; show LG (fun c => a1467_ 108 ((a1467_ 105 5).toNat * 12 + c)) (fun c => jxu a1467_ 119 ((a 105 5).toNat * 12 + y3.toNat) r1467_ 119 ((a1467_ 105 5).toNat * 12 + c)) (a1467_ 108 ((a1467_ 105 5).toNat * 12 + y3.toNat)) (a1467_ 107 (a1467_ 105 5).toNat).toNat = _; rw [hf1467_ 105 5 rfl, hi, hf1467_ 107 _ rfl, hs107, hf 105 5 rfl, LG_keep hU8 hU9, hU8 _, if_pos rfl]; rfl); have hb := LSa_bd hv0; rw [NF_two_ok hb.1 (by rw [← hlr, ← e0]; omega)]; rw [hft] at e2; rw [hf1471_ 2 3 rfl]; show a1467_ 2 3 = _; rw [e2]; split <;> (try split) <;> (try split) <;> first | rfl | omega) (show y3 = a1471_ 107 ((a0 105 5).toNat) from by omega) (show 1 ≤ a0 2 1 from by omega)
  ·
    have hf1487_ : jfr jW_X9_readClause_r2 a0 a1467_ := jfr_tr hf hf1467_ rfl
    have hf1488_ : jfr jW_X9_readClause_r2 a0 (jxu a1467_ 119 (((a 105 5).toNat) * 12 + (y3.toNat)) r1467_) := jfr_put hf1487_ rfl
    have hf1489_ : jfr jW_X9_readClause_r2 a0 a1471_ := jfr_tr hf1488_ hf1471_ rfl
    have h1490_ := iv_get hv1471_ (k := 105) (j := 5) (l := 0) (u := 10) rfl
    have h1491_ : a1471_ 105 5 = a1467_ 105 5 := hf1471_ 105 5 rfl
    have h1492_ := iv_get hv1471_ (k := 107) (j := (a0 105 5).toNat) (l := 0) (u := 12) rfl
    have h1493_ : a1471_ 107 ((a0 105 5).toNat) = a1467_ 107 ((a0 105 5).toNat) := hf1471_ 107 ((a0 105 5).toNat) rfl
    have h1494_ := iv_get hv1467_ (k := 107) (j := (a0 105 5).toNat) (l := 0) (u := 12) rfl
    have h1495_ : a1467_ 107 ((a0 105 5).toNat) = a 107 ((a0 105 5).toNat) := hf1467_ 107 ((a0 105 5).toNat) rfl
    exact cp_X9_readClause_r2_113 E d hd a0 b0 hv0 hp0 hp1 y3 y4 a1471_ hv1471_ hf1489_ (show 0 ≤ y3 from by omega) (show y3 ≤ 11 from by omega) (show 0 ≤ y4 from by omega) (show y4 ≤ 200 from by omega) (show a1471_ 105 5 ≤ 9 from by omega) (by first | exact htw | exact (hq1471_3 (by omega)).2.1) (by first | exact hy3 | (rw [hf1471_ 107 _ rfl, hf1471_ 105 5 rfl])) (show y3 ≤ 11 from by omega) (UP_cr hu108 (fun j => ((hf1471_ 108 j rfl).trans (hf1467_ 108 j rfl)))) (by have e0 := hq1467_0; have e1 := hq1467_1; have e2 := hq1467_2; rw [h3, h21, hP] at e0 e1 e2; rw [← hi, ← e0]; exact UP_cr (UP_put (fun j => (hf1467_ 119 j rfl).trans (hs119 j))) (fun j => hf1471_ 119 j rfl)) (fun j => (((hf1471_ 130 j rfl).trans (hf1467_ 130 j rfl))).trans (hs130 j)) (fun j => (((hf1471_ 107 j rfl).trans (hf1467_ 107 j rfl))).trans (hs107 j)) (by have e0 := hq1467_0; have e1 := hq1467_1; have e2 := hq1467_2; rw [h3, h21, hP] at e0 e1 e2; exact (hf1471_ 2 2 rfl).trans e1) hy4 (by have e0 := hq1467_0; have e1 := hq1467_1; have e2 := hq1467_2; rw [h3, h21, hP] at e0 e1 e2; rw [hft] at e2; exact (hf1471_ 2 3 rfl).trans e2) (by have e0 := hq1467_0; have e1 := hq1467_1; have e2 := hq1467_2; rw [h3, h21, hP] at e0 e1 e2; have hl := hq1471_0; have hU8 : UP (a0 108) (a1467_ 108) ((a0 105 5).toNat * 12 + (a0 107 (a0 105 5).toNat).toNat) _ := UP_cr hu108 (fun j => hf1467_ 108 j rfl); have hU9 : UP (a0 119) (jxu a1467_ 119 ((a0 105 5).toNat * 12 + (a0 107 (a0 105 5).toNat).toNat) r1467_ 119) ((a0 105 5).toNat * 12 + (a0 107 (a0 105 5).toNat).toNat) r1467_ := UP_put (fun j => (hf1467_ 119 j rfl).trans (hs119 j)); have hlr : r1471_ = LSa a0 := (by rw [hl]; show LG (fun c => a1467_ 108 ((a1467_ 105 5).toNat * 12 + c)) (fun c => jxu a1467_ 119 ((a 105 5).toNat * 12 + y3.toNat) r1467_ 119 ((a1467_ 105 5).toNat * 12 + c)) (a1467_ 108 ((a1467_ 105 5).toNat * 12 + y3.toNat)) (a1467_ 107 (a1467_ 105 5).toNat).toNat = _; rw [hf1467_ 105 5 rfl, hi, hf1467_ 107 _ rfl, hs107, hf 105 5 rfl, LG_keep hU8 hU9, hU8 _, if_pos rfl]; rfl); rw [← hlr, ← e0]; omega) (show y3 = a1471_ 107 ((a0 105 5).toNat) from by omega) (show 1 ≤ a0 2 1 from by omega)
theorem cp_X9_readClause_r2_42 (E : jxE) (d : Nat) (hd : Nat.ble 6 (d + 1) = true) (a0 b0 : Nat → Nat → Int) (hv0 : iv a0) (hp0 : a0 105 5 ≤ 9) (hp1 : a0 2 3 = 0) : ∀ (y3 : Int) (a : Nat → Nat → Int), iv a → jfr jW_X9_readClause_r2 a0 a → 0 ≤ y3 → y3 ≤ 11 → a 105 5 ≤ 9 → (TW (a0 3) (a0 2 1).toNat (a0 2 2).toNat 15) → (y3 = (a0 107 (a0 105 5).toNat)) → y3 ≤ 11 → (a 2 2 = ((C1 (a0 3) (a0 2 1).toNat (a0 2 2).toNat) : Int)) → a 2 3 = 0 → (∀ j, a 108 j = a0 108 j) → (∀ j, a 119 j = a0 119 j) → (∀ j, a 130 j = a0 130 j) → (∀ j, a 107 j = a0 107 j) → y3 = a 107 ((a0 105 5).toNat) → 1 ≤ a0 2 1 → jt (jxX E d 136 42 [some (.inr (.inr (.inl 105))), some (.inr (.inr (.inl 2))), none, some (.inl y3), none] [] (jxSH, a, b0)) (jQ_X9_readClause_r2 a0 b0) := by
  intro y3 a hv hf hi0 hi1 hi2 htw hy3 hi5 hat hi7 hs108 hs119 hs130 hs107 hi12 hi13
  refine jt_eq (bq_X9_readClause_r2_42 E d y3 a b0) ?_
  have h1496_ := iv_get hv (k := 105) (j := 5) (l := 0) (u := 10) rfl
  have h1497_ : a 105 5 = a0 105 5 := hf 105 5 rfl
  have h1498_ := iv_get hv0 (k := 105) (j := 5) (l := 0) (u := 10) rfl
  have h1499_ := iv_get hv (k := 107) (j := (a0 105 5).toNat) (l := 0) (u := 12) rfl
  have h1500_ := iv_get hv0 (k := 2) (j := 1) (l := 0) (u := 200) rfl
  have h3 : a 3 = a0 3 := funext fun j => hf 3 j rfl
  have h21 := hf 2 1 rfl
  have hP : (a 2 2).toNat = (C1 (a0 3) (a0 2 1).toNat (a0 2 2).toNat) := by rw [hat]; exact Int.toNat_natCast _
  have hi : (a 105 5).toNat * 12 + y3.toNat = ((a0 105 5).toNat * 12 + (a0 107 (a0 105 5).toNat).toNat) := by rw [hf 105 5 rfl, hy3]
  refine jt_grd (by omega) ?_
  refine jt_bI (sp_X8_takeNumber E d (jd_le hd rfl) 0 3 a b0 hv) (fun r1501_ a1501_ b1501_ h1501_ => ?_)
  obtain ⟨hv1501_, hf1501_, rfl, hq1501_0, hq1501_1, hq1501_2, hq1501_3⟩ := h1501_
  refine jt_grd (by omega) ?_
  refine jt_grd (by omega) ?_
  refine jt_eI (eq_X8_place E d (jd_le hd rfl) (jxu a1501_ 108 (((a 105 5).toNat) * 12 + (y3.toNat)) r1501_) b0) ?_
  have hv1502_ : iv (jxu a1501_ 108 (((a 105 5).toNat) * 12 + (y3.toNat)) r1501_) := iv_put hv1501_ (l := 0) (u := 999) rfl (by omega) (by omega)
  have hf1503_ : jfr jW_X9_readClause_r2 a0 a1501_ := jfr_tr hf hf1501_ rfl
  have hf1504_ : jfr jW_X9_readClause_r2 a0 (jxu a1501_ 108 (((a 105 5).toNat) * 12 + (y3.toNat)) r1501_) := jfr_put hf1503_ rfl
  have h1505_ : f_X8_place (jxu a1501_ 108 (((a 105 5).toNat) * 12 + (y3.toNat)) r1501_) b0 = (a1501_ 2 2) := f_X8_place_eq (jxu a1501_ 108 (((a 105 5).toNat) * 12 + (y3.toNat)) r1501_) b0
  have h1506_ := iv_get hv1501_ (k := 2) (j := 2) (l := 0) (u := 200) rfl
  have h1507_ := iv_get hv1501_ (k := 105) (j := 5) (l := 0) (u := 10) rfl
  have h1508_ : a1501_ 105 5 = a 105 5 := hf1501_ 105 5 rfl
  have h1509_ := iv_get hv1501_ (k := 107) (j := (a0 105 5).toNat) (l := 0) (u := 12) rfl
  have h1510_ : a1501_ 107 ((a0 105 5).toNat) = a 107 ((a0 105 5).toNat) := hf1501_ 107 ((a0 105 5).toNat) rfl
  exact cp_X9_readClause_r2_65 E d hd a0 b0 hv0 hp0 hp1 y3 (f_X8_place (jxu a1501_ 108 (((a 105 5).toNat) * 12 + (y3.toNat)) r1501_) b0) (jxu a1501_ 108 (((a 105 5).toNat) * 12 + (y3.toNat)) r1501_) hv1502_ hf1504_ (show 0 ≤ y3 from by omega) (show y3 ≤ 11 from by omega) (show 0 ≤ f_X8_place (jxu a1501_ 108 (((a 105 5).toNat) * 12 + (y3.toNat)) r1501_) b0 from by omega) (show f_X8_place (jxu a1501_ 108 (((a 105 5).toNat) * 12 + (y3.toNat)) r1501_) b0 ≤ 200 from by omega) (show a1501_ 105 5 ≤ 9 from by omega) (by first | exact htw | exact (hq1501_3 (by omega)).2.1) (by first | exact hy3 | (rw [hf1501_ 107 _ rfl, hf1501_ 105 5 rfl])) (show y3 ≤ 11 from by omega) (by have e0 := hq1501_0; have e1 := hq1501_1; have e2 := hq1501_2; rw [h3, h21, hP] at e0 e1 e2; exact e1) (by have e0 := hq1501_0; have e1 := hq1501_1; have e2 := hq1501_2; rw [h3, h21, hP] at e0 e1 e2; exact e1) (by have e0 := hq1501_0; have e1 := hq1501_1; have e2 := hq1501_2; rw [h3, h21, hP] at e0 e1 e2; rw [← hi, ← e0]; exact UP_put (fun j => (hf1501_ 108 j rfl).trans (hs108 j))) (by have e0 := hq1501_0; have e1 := hq1501_1; have e2 := hq1501_2; rw [h3, h21, hP] at e0 e1 e2; rw [if_pos (by omega)] at e2; exact e2) (fun j => ((hf1501_ 119 j rfl)).trans (hs119 j)) (fun j => ((hf1501_ 130 j rfl)).trans (hs130 j)) (fun j => ((hf1501_ 107 j rfl)).trans (hs107 j)) (show y3 = a1501_ 107 ((a0 105 5).toNat) from by omega) (show 1 ≤ a0 2 1 from by omega)
theorem sp_X9_readClause_r2 (E : jxE) (d : Nat) (hd : Nat.ble 6 d = true) (a0 b0 : Nat → Nat → Int) (hv0 : iv a0) (hp0 : a0 105 5 ≤ 9) (hp1 : a0 2 3 = 0) : jt (jxC E d 136 [.inr (.inr (.inl 105)), .inr (.inr (.inl 2))] (jxSH, a0, b0)) (jQ_X9_readClause_r2 a0 b0) := by
  obtain ⟨d, rfl⟩ := jd_succ hd
  refine jt_eq (bq_X9_readClause_r2 E d a0 b0) ?_
  have h1511_ := iv_get hv0 (k := 105) (j := 5) (l := 0) (u := 10) rfl
  refine jt_eI (eq_X8_place E d (jd_le hd rfl) a0 b0) ?_
  refine jt_bI (sp_X8_takesWord_r1015 E d (jd_le hd rfl) a0 b0 hv0) (fun r1512_ a1512_ b1512_ h1512_ => ?_)
  obtain ⟨hv1512_, hf1512_, rfl, hq1512_0, hq1512_1, hq1512_2, hq1512_3, hq1512_4⟩ := h1512_
  have h1513_ := iv_get hv0 (k := 2) (j := 1) (l := 0) (u := 200) rfl
  have h1514_ := iv_get hv0 (k := 2) (j := 2) (l := 0) (u := 200) rfl
  have h1515_ := iv_get hv1512_ (k := 2) (j := 2) (l := 0) (u := 200) rfl
  refine jt_ite (fun c1516_ => ?_) (fun c1516_ => ?_)
  ·
    refine jt_bV (sp_X8_noteCannotStand E d (jd_le hd rfl) a1512_ b0 hv1512_) (fun a1517_ b1517_ h1517_ => ?_)
    obtain ⟨hv1517_, hf1517_, rfl, hq1517_0, hq1517_1⟩ := h1517_
    have h1518_ : a1512_ 2 3 = a0 2 3 := hf1512_ 2 3 rfl
    have hf1519_ : jfr jW_X9_readClause_r2 a0 a1512_ := jfr_tr (jfr_rf _ _) hf1512_ rfl
    have hf1520_ : jfr jW_X9_readClause_r2 a0 a1517_ := jfr_tr hf1519_ hf1517_ rfl
    have h1521_ := iv_get hv1517_ (k := 2) (j := 2) (l := 0) (u := 200) rfl
    have h1522_ : a1517_ 2 2 = a1512_ 2 2 := hf1517_ 2 2 rfl
    exact jt_rV ⟨hv1517_, hf1520_, rfl, (show (((a0 2 1 = 0 ∧ a0 2 2 = 0) ∧ a0 2 3 = 0) → (a1517_ 2 3 = 1 ∧ a1517_ 2 2 = 0)) from by omega), (by rw [CF_no ((hq1512_4 (by omega)).resolve_left (fun h => h (by omega)))]; omega), (Or.inr ⟨fun j => ⟨((hf1517_ 108 j rfl).trans (hf1512_ 108 j rfl)), ((hf1517_ 119 j rfl).trans (hf1512_ 119 j rfl)), ((hf1517_ 130 j rfl).trans (hf1512_ 130 j rfl)), ((hf1517_ 107 j rfl).trans (hf1512_ 107 j rfl))⟩, (by rw [CF_no ((hq1512_4 (by omega)).resolve_left (fun h => h (by omega)))]; omega)⟩), (fun h => absurd h (by rw [CF_no ((hq1512_4 (by omega)).resolve_left (fun h => h (by omega)))]; omega))⟩
  ·
    have h1523_ := iv_get hv1512_ (k := 105) (j := 5) (l := 0) (u := 10) rfl
    have h1524_ : a1512_ 105 5 = a0 105 5 := hf1512_ 105 5 rfl
    refine jt_grd (by omega) ?_
    have h1525_ : a1512_ 107 ((a1512_ 105 5).toNat) = a1512_ 107 ((a0 105 5).toNat) := by rw [show a1512_ 105 5 = a0 105 5 from by omega]
    have h1526_ := iv_get hv1512_ (k := 107) (j := (a0 105 5).toNat) (l := 0) (u := 12) rfl
    have h1527_ : a1512_ 107 ((a0 105 5).toNat) = a0 107 ((a0 105 5).toNat) := hf1512_ 107 ((a0 105 5).toNat) rfl
    have h1528_ := iv_get hv0 (k := 107) (j := (a0 105 5).toNat) (l := 0) (u := 12) rfl
    have h1529_ := iv_get hv1512_ (k := 107) (j := (a1512_ 105 5).toNat) (l := 0) (u := 12) rfl
    have h1530_ : a1512_ 107 ((a1512_ 105 5).toNat) = a0 107 ((a1512_ 105 5).toNat) := hf1512_ 107 ((a1512_ 105 5).toNat) rfl
    have h1531_ : a0 107 ((a1512_ 105 5).toNat) = a0 107 ((a0 105 5).toNat) := by rw [show a1512_ 105 5 = a0 105 5 from by omega]
    have h1532_ := iv_get hv0 (k := 107) (j := (a1512_ 105 5).toNat) (l := 0) (u := 12) rfl
    refine jt_ite (fun c1533_ => ?_) (fun c1533_ => ?_)
    ·
      have hf1534_ : jfr jW_X9_readClause_r2 a0 a1512_ := jfr_tr (jfr_rf _ _) hf1512_ rfl
      have h1535_ : a1512_ 2 3 = a0 2 3 := hf1512_ 2 3 rfl
      exact cp_X9_readClause_r2_42 E d hd a0 b0 hv0 hp0 hp1 (a1512_ 107 ((a1512_ 105 5).toNat)) a1512_ hv1512_ hf1534_ (show 0 ≤ a1512_ 107 ((a1512_ 105 5).toNat) from by omega) (show a1512_ 107 ((a1512_ 105 5).toNat) ≤ 11 from by omega) (show a1512_ 105 5 ≤ 9 from by omega) (by first | exact htw | exact (hq1512_3 (by omega)).2.1) (by first | exact hy3 | (rw [hf1512_ 107 _ rfl, hf1512_ 105 5 rfl])) (show a1512_ 107 ((a1512_ 105 5).toNat) ≤ 11 from by omega) ((hq1512_3 (by omega)).2.2) (show a1512_ 2 3 = 0 from by omega) (fun j => (hf1512_ 108 j rfl)) (fun j => (hf1512_ 119 j rfl)) (fun j => (hf1512_ 130 j rfl)) (fun j => (hf1512_ 107 j rfl)) (show a1512_ 107 ((a1512_ 105 5).toNat) = a1512_ 107 ((a0 105 5).toNat) from by omega) (show 1 ≤ a0 2 1 from by omega)
    ·
      have hf1536_ : jfr jW_X9_readClause_r2 a0 a1512_ := jfr_tr (jfr_rf _ _) hf1512_ rfl
      have h1537_ := f_X8_place_eq a0 b0
      have h1538_ : a1512_ 2 3 = a0 2 3 := hf1512_ 2 3 rfl
      exact cp_X9_readClause_r2_35 E d hd a0 b0 hv0 hp0 hp1 (f_X8_place a0 b0) a1512_ hv1512_ hf1536_ (show 0 ≤ f_X8_place a0 b0 from by omega) (show f_X8_place a0 b0 ≤ 200 from by omega) (show a1512_ 105 5 ≤ 9 from by omega) (by first | exact htw | exact (hq1512_3 (by omega)).2.1) (by have e := hf1512_ 107 ((a1512_ 105 5).toNat) rfl; rw [hf1512_ 105 5 rfl] at *; omega) (by rfl) (show a1512_ 2 3 = 0 from by omega) (fun j => (hf1512_ 108 j rfl)) (fun j => (hf1512_ 119 j rfl)) (fun j => (hf1512_ 130 j rfl)) (fun j => (hf1512_ 107 j rfl)) (show 1 ≤ a0 2 1 from by omega)
def jW_X9_read_r2 : List (Nat × Nat) := [(2, 2), (2, 3), (105, 5), (106, 9999), (107, 9999), (108, 9999), (119, 9999), (130, 9999)]
abbrev jQ_X9_read_r2 (x2 : Int) (a0 b0 : Nat → Nat → Int) : List jxV → (Nat → Nat → Int) → (Nat → Nat → Int) → Prop := rI (fun r a b => (iv a) ∧ (jfr jW_X9_read_r2 a0 a) ∧ (b0 = b) ∧ (((a0 2 1 = 0 ∧ a0 105 5 ≤ 9) → r = 0 - 3)) ∧ (a0 105 5 ≤ 9 → RTR (a0 3) (a0 2 1).toNat r) ∧ (a0 105 5 ≤ 9 → (1 ≤ r ∧ a 105 5 = a0 105 5 + 1) ∨ (r < 0 ∧ a 105 5 = a0 105 5)) ∧ (KPR a0 a (a0 105 5).toNat) ∧ (1 ≤ r → RWS a (a0 3) (a0 2 1).toNat (a0 105 5).toNat r.toNat ∧ a 107 (a0 105 5).toNat = r ∧ UP (a0 106) (a 106) (a0 105 5).toNat x2) ∧ (r < 0 → ∀ j, a 106 j = a0 106 j))
theorem cp_X9_read_r2_70 (E : jxE) (d : Nat) (hd : Nat.ble 7 (d + 1) = true) (x2 : Int) (a0 b0 : Nat → Nat → Int) (hv0 : iv a0) : ∀ (y2 : Int) (a : Nat → Nat → Int), iv a → jfr jW_X9_read_r2 a0 a → a 105 5 ≤ 9 → (a0 2 1 = 0 → (a 2 2 = 0 ∧ a 2 3 = 1)) → a 105 5 = a0 105 5 → a 105 5 ≤ 9 → (KPR a0 a (a0 105 5).toNat) → (RD7 a0 a (a0 105 5).toNat) → (y2 = x2) → (∀ j, a 106 j = a0 106 j) → jt (jxX E d 135 70 [some (.inr (.inr (.inl 105))), some (.inr (.inr (.inl 2))), some (.inl y2), none, none] [] (jxSH, a, b0)) (jQ_X9_read_r2 x2 a0 b0) := by
  intro y2 a hv hf hi0 hi1 hi2 hi3 hkp hrd hy2 hs106
  refine jt_eq (bq_X9_read_r2_70 E d y2 a b0) ?_
  have h1539_ := iv_get hv (k := 105) (j := 5) (l := 0) (u := 10) rfl
  have h1540_ := iv_get hv0 (k := 2) (j := 1) (l := 0) (u := 200) rfl
  have h1541_ := iv_get hv (k := 2) (j := 2) (l := 0) (u := 200) rfl
  have h1542_ := iv_get hv0 (k := 105) (j := 5) (l := 0) (u := 10) rfl
  have h3 : a 3 = a0 3 := funext fun j => hf 3 j rfl
  have h21 := hf 2 1 rfl
  have h105 : True := trivial
  refine jt_eI (eq_X8_isFaulty E d (jd_le hd rfl) a b0) ?_
  have h1543_ := f_X8_isFaulty_eq a b0
  refine jt_ite (fun c1544_ => ?_) (fun c1544_ => ?_)
  ·
    refine jt_grd (by omega) ?_
    refine jt_grd (by omega) ?_
    have hv1545_ : iv (jxu a 106 ((a 105 5).toNat) y2) := iv_putf hv rfl
    have h1547_ : jxw ((a 105 5) + 1) = (a 105 5) + 1 := jxw_id (by omega) (by omega)
    have hv1546_ : iv (jxu (jxu a 106 ((a 105 5).toNat) y2) 105 5 (jxw ((a 105 5) + 1))) := iv_put hv1545_ (l := 0) (u := 10) rfl (by omega) (by omega)
    have hf1548_ : jfr jW_X9_read_r2 a0 (jxu a 106 ((a 105 5).toNat) y2) := jfr_put hf rfl
    have hf1549_ : jfr jW_X9_read_r2 a0 (jxu (jxu a 106 ((a 105 5).toNat) y2) 105 5 (jxw ((a 105 5) + 1))) := jfr_put hf1548_ rfl
    have h1550_ := iv_get hv (k := 107) (j := (a 105 5).toNat) (l := 0) (u := 12) rfl
    exact jt_rI ⟨hv1546_, hf1549_, rfl, (show ((a0 2 1 = 0 ∧ a0 105 5 ≤ 9) → a 107 ((a 105 5).toNat) = 0 - 3) from by omega), (fun _ => by have e5 : (a 105 5).toNat = (a0 105 5).toNat := (by rw [show a 105 5 = a0 105 5 from by omega]); rw [e5]; exact (hrd.1 (by omega)).1), (fun _ => Or.inl ⟨by have q := (hrd.1 (by omega)).2.1; have e5 : (a 105 5).toNat = (a0 105 5).toNat := (by rw [show a 105 5 = a0 105 5 from by omega]); rw [e5]; exact q, show jxw ((a 105 5) + 1) = _ from by omega⟩), hkp, (fun _ => by have e5 : (a 105 5).toNat = (a0 105 5).toNat := (by rw [show a 105 5 = a0 105 5 from by omega]); rw [e5]; exact ⟨(hrd.1 (by omega)).2.2, rfl, by rw [← hy2, ← e5]; exact UP_put (fun j => hs106 j)⟩), (fun h => absurd h (by have q := (hrd.1 (by omega)).2.1; have e5 : (a 105 5).toNat = (a0 105 5).toNat := (by rw [show a 105 5 = a0 105 5 from by omega]); rw [← e5] at q; omega))⟩
  ·
    refine jt_eI (eq_X8_answerOfFault E d (jd_le hd rfl) a b0) ?_
    have h1551_ := f_X8_answerOfFault_eq a b0
    have h1552_ := jxw_im ((-2) - (a 2 3))
    have h1553_ := jxw_rg ((-2) - (a 2 3))
    exact jt_rI ⟨hv, hf, rfl, (show ((a0 2 1 = 0 ∧ a0 105 5 ≤ 9) → f_X8_answerOfFault a b0 = 0 - 3) from by omega), (fun _ => by have e5 : (a 105 5).toNat = (a0 105 5).toNat := (by rw [show a 105 5 = a0 105 5 from by omega]); have q := (hrd.2 (by omega)).1; have q2 := RTR_bd q (tn200 hv0); have q3 := (hrd.2 (by omega)).2; rw [show f_X8_answerOfFault a b0 = -2 - a 2 3 from by omega]; exact q), (fun _ => Or.inr ⟨by have q := (hrd.2 (by omega)).2; have q2 := RTR_bd (hrd.2 (by omega)).1 (tn200 hv0); omega, by omega⟩), hkp, (fun h => absurd h (by have q := (hrd.2 (by omega)).2; have q2 := RTR_bd (hrd.2 (by omega)).1 (tn200 hv0); omega)), (fun _ => hs106)⟩
theorem cp_X9_read_r2_59 (E : jxE) (d : Nat) (hd : Nat.ble 7 (d + 1) = true) (x2 : Int) (a0 b0 : Nat → Nat → Int) (hv0 : iv a0) : ∀ (y2 : Int) (a : Nat → Nat → Int), iv a → jfr jW_X9_read_r2 a0 a → a 105 5 ≤ 9 → (a0 2 1 = 0 → (a 2 2 = 0 ∧ a 2 3 = 1)) → a 105 5 = a0 105 5 → a 105 5 ≤ 9 → (KPR a0 a (a0 105 5).toNat) → (RDE a0 a (a0 105 5).toNat) → (y2 = x2) → (∀ j, a 106 j = a0 106 j) → jt (jxX E d 135 59 [some (.inr (.inr (.inl 105))), some (.inr (.inr (.inl 2))), some (.inl y2), none, none] [] (jxSH, a, b0)) (jQ_X9_read_r2 x2 a0 b0) := by
  intro y2 a hv hf hi0 hi1 hi2 hi3 hkp hre hy2 hs106
  refine jt_eq (bq_X9_read_r2_59 E d y2 a b0) ?_
  have h1554_ := iv_get hv (k := 105) (j := 5) (l := 0) (u := 10) rfl
  have h1555_ := iv_get hv0 (k := 2) (j := 1) (l := 0) (u := 200) rfl
  have h1556_ := iv_get hv (k := 2) (j := 2) (l := 0) (u := 200) rfl
  have h1557_ := iv_get hv0 (k := 105) (j := 5) (l := 0) (u := 10) rfl
  have h3 : a 3 = a0 3 := funext fun j => hf 3 j rfl
  have h21 := hf 2 1 rfl
  have h105 : True := trivial
  refine jt_eI (eq_X8_isAtEnd E d (jd_le hd rfl) a b0) ?_
  have h1558_ := f_X8_isAtEnd_eq a b0
  have h1559_ := iv_get hv (k := 2) (j := 1) (l := 0) (u := 200) rfl
  have h1560_ : a 2 1 = a0 2 1 := hf 2 1 rfl
  refine jt_ite (fun c1561_ => ?_) (fun c1561_ => ?_)
  ·
    refine jt_bV (sp_X8_noteCannotStand E d (jd_le hd rfl) a b0 hv) (fun a1562_ b1562_ h1562_ => ?_)
    obtain ⟨hv1562_, hf1562_, rfl, hq1562_0, hq1562_1⟩ := h1562_
    have hf1563_ : jfr jW_X9_read_r2 a0 a1562_ := jfr_tr hf hf1562_ rfl
    have h1564_ := iv_get hv1562_ (k := 105) (j := 5) (l := 0) (u := 10) rfl
    have h1565_ : a1562_ 105 5 = a 105 5 := hf1562_ 105 5 rfl
    have h1566_ := iv_get hv1562_ (k := 2) (j := 2) (l := 0) (u := 200) rfl
    have h1567_ : a1562_ 2 2 = a 2 2 := hf1562_ 2 2 rfl
    exact cp_X9_read_r2_70 E d hd x2 a0 b0 hv0 y2 a1562_ hv1562_ hf1563_ (show a1562_ 105 5 ≤ 9 from by omega) (show (a0 2 1 = 0 → (a1562_ 2 2 = 0 ∧ a1562_ 2 3 = 1)) from by omega) (show a1562_ 105 5 = a0 105 5 from by omega) (show a1562_ 105 5 ≤ 9 from by omega) (KPR_cl hkp (fun j => ⟨(hf1562_ 108 j rfl), (hf1562_ 119 j rfl), (hf1562_ 130 j rfl), (hf1562_ 107 j rfl)⟩)) (RD_end2 hre (hf 2 1 rfl) (by omega) (by omega) hq1562_0 hq1562_1) (by first | rfl | assumption) (fun j => ((hf1562_ 106 j rfl)).trans (hs106 j))
  ·
    exact cp_X9_read_r2_70 E d hd x2 a0 b0 hv0 y2 a hv hf (show a 105 5 ≤ 9 from by omega) (show (a0 2 1 = 0 → (a 2 2 = 0 ∧ a 2 3 = 1)) from by omega) (show a 105 5 = a0 105 5 from by omega) (show a 105 5 ≤ 9 from by omega) (KPR_cl hkp (fun j => ⟨rfl, rfl, rfl, rfl⟩)) (RD_end1 hre (hf 2 1 rfl) (by omega)) (by first | rfl | assumption) (fun j => (rfl).trans (hs106 j))
theorem cp_X9_read_r2_30 (E : jxE) (d : Nat) (hd : Nat.ble 7 (d + 1) = true) (x2 : Int) (a0 b0 : Nat → Nat → Int) (hv0 : iv a0) : ∀ n : Nat, (∀ (y2 y3 y4 : Int) (a : Nat → Nat → Int), (((13 - y4) * 1) + 0).toNat ≤ n → iv a → jfr jW_X9_read_r2 a0 a → 0 ≤ y3 → y3 ≤ 1 → 0 ≤ y4 → y4 ≤ 13 → a 105 5 ≤ 9 → (a0 2 1 = 0 → ((((a 2 2 = 0 ∧ y4 = 0) ∧ ¬ y3 = 0) ∧ a 2 3 = 0) ∨ ((a 2 2 = 0 ∧ y3 = 0) ∧ a 2 3 = 1))) → a 105 5 = a0 105 5 → a 105 5 ≤ 9 → (KPR a0 a (a0 105 5).toNat) → (¬ y3 = 0 → RDL a0 a (a0 105 5).toNat y4) → (y3 = 0 → RDE a0 a (a0 105 5).toNat) → (y2 = x2) → (∀ j, a 106 j = a0 106 j) → jt (jxX E d 135 30 [some (.inr (.inr (.inl 105))), some (.inr (.inr (.inl 2))), some (.inl y2), some (.inl y3), some (.inl y4)] [] (jxSH, a, b0)) (jQ_X9_read_r2 x2 a0 b0)) := by
  refine jx_ind fun n ih => ?_
  have ih30 : ∀ (y2 y3 y4 : Int) (a : Nat → Nat → Int), (((13 - y4) * 1) + 0).toNat < n → iv a → jfr jW_X9_read_r2 a0 a → 0 ≤ y3 → y3 ≤ 1 → 0 ≤ y4 → y4 ≤ 13 → a 105 5 ≤ 9 → (a0 2 1 = 0 → ((((a 2 2 = 0 ∧ y4 = 0) ∧ ¬ y3 = 0) ∧ a 2 3 = 0) ∨ ((a 2 2 = 0 ∧ y3 = 0) ∧ a 2 3 = 1))) → a 105 5 = a0 105 5 → a 105 5 ≤ 9 → (KPR a0 a (a0 105 5).toNat) → (¬ y3 = 0 → RDL a0 a (a0 105 5).toNat y4) → (y3 = 0 → RDE a0 a (a0 105 5).toNat) → (y2 = x2) → (∀ j, a 106 j = a0 106 j) → jt (jxX E d 135 30 [some (.inr (.inr (.inl 105))), some (.inr (.inr (.inl 2))), some (.inl y2), some (.inl y3), some (.inl y4)] [] (jxSH, a, b0)) (jQ_X9_read_r2 x2 a0 b0) := fun y2 y3 y4 a hlt i0 i1 i2 i3 i4 i5 i6 i7 i8 i9 i10 i11 i12 i13 i14 => (ih _ hlt) y2 y3 y4 a (Nat.le_refl _) i0 i1 i2 i3 i4 i5 i6 i7 i8 i9 i10 i11 i12 i13 i14
  have hc30 : ∀ (y2 y3 y4 : Int) (a : Nat → Nat → Int), (((13 - y4) * 1) + 0).toNat ≤ n → iv a → jfr jW_X9_read_r2 a0 a → 0 ≤ y3 → y3 ≤ 1 → 0 ≤ y4 → y4 ≤ 13 → a 105 5 ≤ 9 → (a0 2 1 = 0 → ((((a 2 2 = 0 ∧ y4 = 0) ∧ ¬ y3 = 0) ∧ a 2 3 = 0) ∨ ((a 2 2 = 0 ∧ y3 = 0) ∧ a 2 3 = 1))) → a 105 5 = a0 105 5 → a 105 5 ≤ 9 → (KPR a0 a (a0 105 5).toNat) → (¬ y3 = 0 → RDL a0 a (a0 105 5).toNat y4) → (y3 = 0 → RDE a0 a (a0 105 5).toNat) → (y2 = x2) → (∀ j, a 106 j = a0 106 j) → jt (jxX E d 135 30 [some (.inr (.inr (.inl 105))), some (.inr (.inr (.inl 2))), some (.inl y2), some (.inl y3), some (.inl y4)] [] (jxSH, a, b0)) (jQ_X9_read_r2 x2 a0 b0) := by
    intro y2 y3 y4 a hm hv hf hi0 hi1 hi2 hi3 hi4 hi5 hi6 hi7 hkp hrl hre hy2 hs106
    refine jt_eq (bq_X9_read_r2_30 E d y2 y3 y4 a b0) ?_
    have h1568_ := iv_get hv (k := 105) (j := 5) (l := 0) (u := 10) rfl
    have h1569_ := iv_get hv0 (k := 2) (j := 1) (l := 0) (u := 200) rfl
    have h1570_ := iv_get hv (k := 2) (j := 2) (l := 0) (u := 200) rfl
    have h1571_ := iv_get hv0 (k := 105) (j := 5) (l := 0) (u := 10) rfl
    have h3 : a 3 = a0 3 := funext fun j => hf 3 j rfl
    have h21 := hf 2 1 rfl
    have h105 : True := trivial
    have hf0 : ¬ y3 = 0 → a 2 3 = 0 := fun h => (hrl h).1
    have hbig : ¬ y3 = 0 → y4 ≤ 12 := fun h => by rcases Int.lt_or_le 12 y4 with q | q <;> first | exact (RDL_big (hrl h) q).elim | exact q
    refine jt_ite (fun c1572_ => ?_) (fun c1572_ => ?_)
    ·
      exact cp_X9_read_r2_59 E d hd x2 a0 b0 hv0 y2 a hv hf (show a 105 5 ≤ 9 from by omega) (show (a0 2 1 = 0 → (a 2 2 = 0 ∧ a 2 3 = 1)) from by omega) (show a 105 5 = a0 105 5 from by omega) (show a 105 5 ≤ 9 from by omega) (KPR_cl hkp (fun j => ⟨rfl, rfl, rfl, rfl⟩)) (by first | exact hre (by omega) | exact absurd (by omega : False) id) (by first | rfl | assumption) (fun j => (rfl).trans (hs106 j))
    ·
      refine jt_ite (fun c1573_ => ?_) (fun c1573_ => ?_)
      ·
        exact cp_X9_read_r2_59 E d hd x2 a0 b0 hv0 y2 a hv hf (show a 105 5 ≤ 9 from by omega) (show (a0 2 1 = 0 → (a 2 2 = 0 ∧ a 2 3 = 1)) from by omega) (show a 105 5 = a0 105 5 from by omega) (show a 105 5 ≤ 9 from by omega) (KPR_cl hkp (fun j => ⟨rfl, rfl, rfl, rfl⟩)) (by first | exact hre (by omega) | exact absurd (by omega : False) id) (by first | rfl | assumption) (fun j => (rfl).trans (hs106 j))
      ·
        refine jt_bV (sp_X9_readClause_r2 E d (jd_le hd rfl) a b0 hv (show a 105 5 ≤ 9 from by omega) (show a 2 3 = 0 from by omega)) (fun a1574_ b1574_ h1574_ => ?_)
        obtain ⟨hv1574_, hf1574_, rfl, hq1574_0, hq1574_1, hq1574_2, hq1574_3⟩ := h1574_
        have h1575_ := iv_get hv (k := 2) (j := 1) (l := 0) (u := 200) rfl
        have h1576_ : a 2 1 = a0 2 1 := hf 2 1 rfl
        have h1577_ := iv_get hv1574_ (k := 2) (j := 2) (l := 0) (u := 200) rfl
        refine jt_bI (sp_X8_takesSign E d (jd_le hd rfl) 59 a1574_ b0 hv1574_) (fun r1578_ a1578_ b1578_ h1578_ => ?_)
        obtain ⟨hv1578_, hf1578_, rfl, hq1578_0, hq1578_1, hq1578_2, hq1578_3, hq1578_4⟩ := h1578_
        have h1579_ := iv_get hv1574_ (k := 2) (j := 1) (l := 0) (u := 200) rfl
        have h1580_ : a1574_ 2 1 = a 2 1 := hf1574_ 2 1 rfl
        have h1581_ := iv_get hv1578_ (k := 2) (j := 2) (l := 0) (u := 200) rfl
        have hstep := RD_step (s := (a0 105 5).toNat) (i := y4) (r := r1578_) (by omega) (hrl (by omega)) hkp h3 (hf 2 1 rfl) (by rw [show a 105 5 = a0 105 5 from by omega]) hq1574_1 hq1574_2 hq1574_3 (funext fun j => hf1574_ 3 j rfl) (hf1574_ 2 1 rfl) hq1578_2 hq1578_3 hq1578_4 (hf1578_ 2 3 rfl) (fun j => ⟨hf1578_ 108 j rfl, hf1578_ 119 j rfl, hf1578_ 130 j rfl, hf1578_ 107 j rfl⟩) (by omega)
        have hf1582_ : jfr jW_X9_read_r2 a0 a1574_ := jfr_tr hf hf1574_ rfl
        have hf1583_ : jfr jW_X9_read_r2 a0 a1578_ := jfr_tr hf1582_ hf1578_ rfl
        have h1584_ : jxw (y4 + 1) = y4 + 1 := jxw_id (by omega) (by omega)
        have h1585_ := iv_get hv1578_ (k := 105) (j := 5) (l := 0) (u := 10) rfl
        have h1586_ : a1578_ 105 5 = a1574_ 105 5 := hf1578_ 105 5 rfl
        have h1587_ := iv_get hv1574_ (k := 105) (j := 5) (l := 0) (u := 10) rfl
        have h1588_ : a1574_ 105 5 = a 105 5 := hf1574_ 105 5 rfl
        have h1589_ : a1578_ 2 3 = a1574_ 2 3 := hf1578_ 2 3 rfl
        exact ih30 y2 r1578_ (jxw (y4 + 1)) a1578_ (show (((13 - (jxw (y4 + 1))) * 1) + 0).toNat < n from by omega) hv1578_ hf1583_ (show 0 ≤ r1578_ from by omega) (show r1578_ ≤ 1 from by omega) (show 0 ≤ jxw (y4 + 1) from by omega) (show jxw (y4 + 1) ≤ 13 from by omega) (show a1578_ 105 5 ≤ 9 from by omega) (show (a0 2 1 = 0 → ((((a1578_ 2 2 = 0 ∧ jxw (y4 + 1) = 0) ∧ ¬ r1578_ = 0) ∧ a1578_ 2 3 = 0) ∨ ((a1578_ 2 2 = 0 ∧ r1578_ = 0) ∧ a1578_ 2 3 = 1))) from by omega) (show a1578_ 105 5 = a0 105 5 from by omega) (show a1578_ 105 5 ≤ 9 from by omega) (hstep).2.2 (by first | exact (fun _ => hrl) | (rw [show jxw (y4 + 1) = y4 + 1 from by omega]; exact hstep.1)) (by first | exact (fun h => absurd h (by omega)) | exact hstep.2.1) (by first | rfl | assumption) (fun j => (((hf1578_ 106 j rfl).trans (hf1574_ 106 j rfl))).trans (hs106 j))
  exact hc30
theorem cp_X9_read_r2_27 (E : jxE) (d : Nat) (hd : Nat.ble 7 (d + 1) = true) (x2 : Int) (a0 b0 : Nat → Nat → Int) (hv0 : iv a0) : ∀ (y2 y3 : Int) (a : Nat → Nat → Int), iv a → jfr jW_X9_read_r2 a0 a → 1 ≤ y3 → y3 ≤ 1 → a 105 5 ≤ 9 → (a0 2 1 = 0 → (a 2 2 = 0 ∧ a 2 3 = 0)) → y3 = 1 → a 105 5 = a0 105 5 → a 105 5 ≤ 9 → (KPR a0 a (a0 105 5).toNat) → (RDL a0 a (a0 105 5).toNat 0) → (y2 = x2) → (∀ j, a 106 j = a0 106 j) → jt (jxX E d 135 27 [some (.inr (.inr (.inl 105))), some (.inr (.inr (.inl 2))), some (.inl y2), some (.inl y3), none] [] (jxSH, a, b0)) (jQ_X9_read_r2 x2 a0 b0) := by
  intro y2 y3 a hv hf hi0 hi1 hi2 hi3 hi4 hi5 hi6 hkp hrl hy2 hs106
  refine jt_eq (bq_X9_read_r2_27 E d y2 y3 a b0) ?_
  have h1590_ := iv_get hv (k := 105) (j := 5) (l := 0) (u := 10) rfl
  have h1591_ := iv_get hv0 (k := 2) (j := 1) (l := 0) (u := 200) rfl
  have h1592_ := iv_get hv (k := 2) (j := 2) (l := 0) (u := 200) rfl
  have h1593_ := iv_get hv0 (k := 105) (j := 5) (l := 0) (u := 10) rfl
  have h3 : a 3 = a0 3 := funext fun j => hf 3 j rfl
  have h21 := hf 2 1 rfl
  have h105 : True := trivial
  exact (cp_X9_read_r2_30 E d hd x2 a0 b0 hv0 _) y2 y3 0 a (Nat.le_refl _) hv hf (show 0 ≤ y3 from by omega) (show y3 ≤ 1 from by omega) (show 0 ≤ 0 from by omega) (show 0 ≤ 13 from by omega) (show a 105 5 ≤ 9 from by omega) (show (a0 2 1 = 0 → ((((a 2 2 = 0 ∧ 0 = 0) ∧ ¬ y3 = 0) ∧ a 2 3 = 0) ∨ ((a 2 2 = 0 ∧ y3 = 0) ∧ a 2 3 = 1))) from by omega) (show a 105 5 = a0 105 5 from by omega) (show a 105 5 ≤ 9 from by omega) (KPR_cl hkp (fun j => ⟨rfl, rfl, rfl, rfl⟩)) (by first | exact (fun _ => hrl) | (rw [show jxw (y4 + 1) = y4 + 1 from by omega]; exact hstep.1)) (by first | exact (fun h => absurd h (by omega)) | exact hstep.2.1) (by first | rfl | assumption) (fun j => (rfl).trans (hs106 j))
theorem sp_X9_read_r2 (E : jxE) (d : Nat) (hd : Nat.ble 7 d = true) (x2 : Int) (a0 b0 : Nat → Nat → Int) (hv0 : iv a0) : jt (jxC E d 135 [.inr (.inr (.inl 105)), .inr (.inr (.inl 2)), .inl x2] (jxSH, a0, b0)) (jQ_X9_read_r2 x2 a0 b0) := by
  obtain ⟨d, rfl⟩ := jd_succ hd
  refine jt_eq (bq_X9_read_r2 E d x2 a0 b0) ?_
  have h1594_ := iv_get hv0 (k := 105) (j := 5) (l := 0) (u := 10) rfl
  refine jt_ite (fun c1595_ => ?_) (fun c1595_ => ?_)
  ·
    refine jt_grd (by omega) ?_
    have hv1596_ : iv (jxu a0 107 ((a0 105 5).toNat) 0) := iv_put hv0 (l := 0) (u := 12) rfl (by omega) (by omega)
    refine jt_bV (sp_X8_startReading E d (jd_le hd rfl) (jxu a0 107 ((a0 105 5).toNat) 0) b0 hv1596_) (fun a1597_ b1597_ h1597_ => ?_)
    obtain ⟨hv1597_, hf1597_, rfl, hq1597_0, hq1597_1, hq1597_2⟩ := h1597_
    have h1598_ : a1597_ 2 3 = 0 := hq1597_0
    have h1599_ := iv_get hv0 (k := 2) (j := 1) (l := 0) (u := 200) rfl
    have h1600_ := iv_get hv1597_ (k := 2) (j := 2) (l := 0) (u := 200) rfl
    have h1601_ : (a0 2 1 = 0 → a1597_ 2 2 = 0) := hq1597_1
    have hf1602_ : jfr jW_X9_read_r2 a0 (jxu a0 107 ((a0 105 5).toNat) 0) := jfr_put (jfr_rf _ _) rfl
    have hf1603_ : jfr jW_X9_read_r2 a0 a1597_ := jfr_tr hf1602_ hf1597_ rfl
    have h1604_ := iv_get hv1597_ (k := 105) (j := 5) (l := 0) (u := 10) rfl
    have h1605_ : a1597_ 105 5 = a0 105 5 := hf1597_ 105 5 rfl
    exact cp_X9_read_r2_27 E d hd x2 a0 b0 hv0 x2 1 a1597_ hv1597_ hf1603_ (show 1 ≤ 1 from by omega) (show 1 ≤ 1 from by omega) (show a1597_ 105 5 ≤ 9 from by omega) (show (a0 2 1 = 0 → (a1597_ 2 2 = 0 ∧ a1597_ 2 3 = 0)) from by omega) (show 1 = 1 from by omega) (show a1597_ 105 5 = a0 105 5 from by omega) (show a1597_ 105 5 ≤ 9 from by omega) ⟨fun j hj => ((hf1597_ 107 j rfl)).trans (show jxu a0 107 (a0 105 5).toNat 0 107 j = a0 107 j from by simp only [jxu]; simp; omega), fun j _ => ⟨(hf1597_ 108 j rfl), (hf1597_ 119 j rfl), (hf1597_ 130 j rfl)⟩⟩ (by refine ⟨?_, ?_, ?_, fun k hk => absurd hk (Nat.not_lt_zero _), fun k hk => absurd hk (Nat.not_lt_zero _)⟩ <;> first | omega | exact hq1597_2 | (rw [hf1597_ 107 _ rfl]; simp [jxu])) (by first | rfl | assumption) (fun j => (hf1597_ 106 j rfl))
  ·
    have h1606_ := iv_get hv0 (k := 2) (j := 1) (l := 0) (u := 200) rfl
    exact jt_rI ⟨hv0, (jfr_rf _ _), rfl, (show ((a0 2 1 = 0 ∧ a0 105 5 ≤ 9) → (-1) = 0 - 3) from by omega), (fun h => absurd h (by omega)), (fun h => absurd h (by omega)), ⟨fun _ _ => rfl, fun _ _ => ⟨rfl, rfl, rfl⟩⟩, (fun h => absurd h (by decide)), (fun _ _ => rfl)⟩
def jW_X11_rates : List (Nat × Nat) := [(2, 1), (2, 2), (2, 3), (105, 5), (106, 9999), (107, 9999), (108, 9999), (119, 9999), (130, 9999)]
abbrev jQ_X11_rates (x1 : Int) (a0 b0 : Nat → Nat → Int) : List jxV → (Nat → Nat → Int) → (Nat → Nat → Int) → Prop := rI (fun r a b => (iv a) ∧ (jfr jW_X11_rates a0 a) ∧ (b0 = b) ∧ (((a0 2 1 = 0 ∧ a0 105 5 = 0) → (((0 ≤ x1 ∧ x1 ≤ 1999) ∧ r = 0 - 3) ∨ ((x1 < 0 ∨ 1999 < x1) ∧ r = 0 - 1)))) ∧ ((((0 ≤ x1 ∧ x1 ≤ 1999) ∧ a0 105 5 ≤ 9) → a 2 1 = 0)) ∧ ((((x1 < 0 ∨ 1999 < x1) ∨ 9 < a0 105 5) → ((r = 0 - 1 ∧ a 2 1 = a0 2 1) ∧ a 105 5 = a0 105 5))) ∧ (0 ≤ x1 ∧ x1 ≤ 1999 ∧ a0 105 5 ≤ 9 → RTR (a0 3) (a0 2 1).toNat r ∧ ((1 ≤ r ∧ a 105 5 = a0 105 5 + 1) ∨ (r < 0 ∧ a 105 5 = a0 105 5))) ∧ (KPR a0 a (a0 105 5).toNat ∧ (1 ≤ r → RWS a (a0 3) (a0 2 1).toNat (a0 105 5).toNat r.toNat ∧ a 107 (a0 105 5).toNat = r ∧ UP (a0 106) (a 106) (a0 105 5).toNat x1) ∧ (r < 0 → ∀ j, a 106 j = a0 106 j)))
theorem cp_X11_rates_32 (E : jxE) (d : Nat) (hd : Nat.ble 8 (d + 1) = true) (x1 : Int) (a0 b0 : Nat → Nat → Int) (hv0 : iv a0) : ∀ (y2 : Int) (a : Nat → Nat → Int), iv a → jfr jW_X11_rates a0 a → ((a0 2 1 = 0 ∧ a0 105 5 = 0) → ((0 ≤ x1 ∧ x1 ≤ 1999) ∧ y2 = 0 - 3)) → ((0 ≤ x1 ∧ x1 ≤ 1999) ∧ a0 105 5 ≤ 9) → (RTR (a0 3) (a0 2 1).toNat y2 ∧ ((1 ≤ y2 ∧ a 105 5 = a0 105 5 + 1) ∨ (y2 < 0 ∧ a 105 5 = a0 105 5))) → (KPR a0 a (a0 105 5).toNat ∧ (1 ≤ y2 → RWS a (a0 3) (a0 2 1).toNat (a0 105 5).toNat y2.toNat ∧ a 107 (a0 105 5).toNat = y2 ∧ UP (a0 106) (a 106) (a0 105 5).toNat x1) ∧ (y2 < 0 → ∀ j, a 106 j = a0 106 j)) → jt (jxX E d 191 32 [some (.inr (.inr (.inl 0))), none, some (.inl y2)] [] (jxSH, a, b0)) (jQ_X11_rates x1 a0 b0) := by
  intro y2 a hv hf hi0 hi1 hrt hrw
  refine jt_eq (bq_X11_rates_32 E d y2 a b0) ?_
  have h1607_ := iv_get hv0 (k := 2) (j := 1) (l := 0) (u := 200) rfl
  have h1608_ := iv_get hv0 (k := 105) (j := 5) (l := 0) (u := 10) rfl
  refine jt_bV (sp_X8_cut E d (jd_le hd rfl) 0 a b0 hv) (fun a1609_ b1609_ h1609_ => ?_)
  obtain ⟨hv1609_, hf1609_, rfl, hq1609_0⟩ := h1609_
  have h1610_ := iv_get hv (k := 2) (j := 1) (l := 0) (u := 200) rfl
  have h1611_ := iv_get hv1609_ (k := 2) (j := 1) (l := 0) (u := 200) rfl
  have hf1612_ : jfr jW_X11_rates a0 a1609_ := jfr_tr hf hf1609_ rfl
  have h1613_ := iv_get hv1609_ (k := 105) (j := 5) (l := 0) (u := 10) rfl
  have h1614_ : a1609_ 105 5 = a 105 5 := hf1609_ 105 5 rfl
  have h1615_ := iv_get hv (k := 105) (j := 5) (l := 0) (u := 10) rfl
  exact jt_rI ⟨hv1609_, hf1612_, rfl, (show ((a0 2 1 = 0 ∧ a0 105 5 = 0) → (((0 ≤ x1 ∧ x1 ≤ 1999) ∧ y2 = 0 - 3) ∨ ((x1 < 0 ∨ 1999 < x1) ∧ y2 = 0 - 1))) from by omega), (show (((0 ≤ x1 ∧ x1 ≤ 1999) ∧ a0 105 5 ≤ 9) → a1609_ 2 1 = 0) from by omega), (show (((x1 < 0 ∨ 1999 < x1) ∨ 9 < a0 105 5) → ((y2 = 0 - 1 ∧ a1609_ 2 1 = a0 2 1) ∧ a1609_ 105 5 = a0 105 5)) from by omega), (fun _ => by rw [hf1609_ 105 5 rfl]; exact hrt), ⟨KPR_cl hrw.1 (fun j => ⟨hf1609_ 108 j rfl, hf1609_ 119 j rfl, hf1609_ 130 j rfl, hf1609_ 107 j rfl⟩), fun q => ⟨fun k hk => by rw [hf1609_ 108 _ rfl, hf1609_ 119 _ rfl, hf1609_ 130 _ rfl]; exact (hrw.2.1 q).1 k hk, (hf1609_ 107 _ rfl).trans (hrw.2.1 q).2.1, UP_cr (hrw.2.1 q).2.2 (fun j => hf1609_ 106 j rfl)⟩, fun q j => (hf1609_ 106 j rfl).trans (hrw.2.2 q j)⟩⟩
theorem sp_X11_rates (E : jxE) (d : Nat) (hd : Nat.ble 8 d = true) (x1 : Int) (a0 b0 : Nat → Nat → Int) (hv0 : iv a0) : jt (jxC E d 191 [.inr (.inr (.inl 0)), .inl x1] (jxSH, a0, b0)) (jQ_X11_rates x1 a0 b0) := by
  obtain ⟨d, rfl⟩ := jd_succ hd
  refine jt_eq (bq_X11_rates E d x1 a0 b0) ?_
  refine jt_eI (eq_X11_isDay E d (jd_le hd rfl) x1 a0 b0) ?_
  have h1616_ := f_X11_isDay_eq a0 b0 x1
  have h1617_ := f_X11_within_eq a0 b0 x1 0 1999
  refine jt_ite (fun c1618_ => ?_) (fun c1618_ => ?_)
  ·
    have h1619_ := iv_get hv0 (k := 2) (j := 1) (l := 0) (u := 200) rfl
    have h1620_ := iv_get hv0 (k := 105) (j := 5) (l := 0) (u := 10) rfl
    exact jt_rI ⟨hv0, (jfr_rf _ _), rfl, (show ((a0 2 1 = 0 ∧ a0 105 5 = 0) → (((0 ≤ x1 ∧ x1 ≤ 1999) ∧ (-1) = 0 - 3) ∨ ((x1 < 0 ∨ 1999 < x1) ∧ (-1) = 0 - 1))) from by omega), (show (((0 ≤ x1 ∧ x1 ≤ 1999) ∧ a0 105 5 ≤ 9) → a0 2 1 = 0) from by omega), (show (((x1 < 0 ∨ 1999 < x1) ∨ 9 < a0 105 5) → (((-1) = 0 - 1 ∧ a0 2 1 = a0 2 1) ∧ a0 105 5 = a0 105 5)) from by omega), (fun h => absurd h (by omega)), ⟨⟨fun _ _ => rfl, fun _ _ => ⟨rfl, rfl, rfl⟩⟩, fun h => absurd h (by decide), fun _ _ => rfl⟩⟩
  ·
    refine jt_eI (eq_X9_hasRoom E d (jd_le hd rfl) a0 b0) ?_
    have h1621_ := f_X9_hasRoom_eq a0 b0
    have h1622_ := iv_get hv0 (k := 105) (j := 5) (l := 0) (u := 10) rfl
    refine jt_ite (fun c1623_ => ?_) (fun c1623_ => ?_)
    ·
      have h1624_ := iv_get hv0 (k := 2) (j := 1) (l := 0) (u := 200) rfl
      exact jt_rI ⟨hv0, (jfr_rf _ _), rfl, (show ((a0 2 1 = 0 ∧ a0 105 5 = 0) → (((0 ≤ x1 ∧ x1 ≤ 1999) ∧ (-1) = 0 - 3) ∨ ((x1 < 0 ∨ 1999 < x1) ∧ (-1) = 0 - 1))) from by omega), (show (((0 ≤ x1 ∧ x1 ≤ 1999) ∧ a0 105 5 ≤ 9) → a0 2 1 = 0) from by omega), (show (((x1 < 0 ∨ 1999 < x1) ∨ 9 < a0 105 5) → (((-1) = 0 - 1 ∧ a0 2 1 = a0 2 1) ∧ a0 105 5 = a0 105 5)) from by omega), (fun h => absurd h (by omega)), ⟨⟨fun _ _ => rfl, fun _ _ => ⟨rfl, rfl, rfl⟩⟩, fun h => absurd h (by decide), fun _ _ => rfl⟩⟩
    ·
      refine jt_bI (sp_X9_read_r2 E d (jd_le hd rfl) x1 a0 b0 hv0) (fun r1625_ a1625_ b1625_ h1625_ => ?_)
      obtain ⟨hv1625_, hf1625_, rfl, hq1625_0, hq1625_1, hq1625_2, hq1625_3, hq1625_4, hq1625_5⟩ := h1625_
      have h1626_ := iv_get hv0 (k := 2) (j := 1) (l := 0) (u := 200) rfl
      have hf1627_ : jfr jW_X11_rates a0 a1625_ := jfr_tr (jfr_rf _ _) hf1625_ rfl
      exact cp_X11_rates_32 E d hd x1 a0 b0 hv0 r1625_ a1625_ hv1625_ hf1627_ (show ((a0 2 1 = 0 ∧ a0 105 5 = 0) → ((0 ≤ x1 ∧ x1 ≤ 1999) ∧ r1625_ = 0 - 3)) from by omega) (show ((0 ≤ x1 ∧ x1 ≤ 1999) ∧ a0 105 5 ≤ 9) from by omega) ⟨hq1625_1 (by omega), hq1625_2 (by omega)⟩ ⟨hq1625_3, hq1625_4, hq1625_5⟩
def jW_X5_linkSeats : List (Nat × Nat) := [(92, 9999), (93, 9999)]
abbrev jQ_X5_linkSeats (a0 b0 : Nat → Nat → Int) : List jxV → (Nat → Nat → Int) → (Nat → Nat → Int) → Prop := rV (fun a b => (iv a) ∧ (jfr jW_X5_linkSeats a0 a) ∧ (b0 = b))
theorem cp_X5_linkSeats_2 (E : jxE) (d : Nat) (hd : Nat.ble 3 (d + 1) = true) (a0 b0 : Nat → Nat → Int) (hv0 : iv a0) : ∀ n : Nat, (∀ (y1 y2 : Int) (a : Nat → Nat → Int), (((((12 - y1) * 15) + 0) + ((12 - y2) * 1)) + 0).toNat ≤ n → iv a → jfr jW_X5_linkSeats a0 a → 0 ≤ y1 → y1 ≤ 11 → 0 ≤ y2 → y2 ≤ 11 → 1 ≤ a 90 3 → jt (jxX E d 84 130 [some (.inr (.inr (.inl 90))), some (.inl y1), some (.inl y2)] [] (jxSH, a, b0)) (jQ_X5_linkSeats a0 b0)) ∧ (∀ (y1 y2 : Int) (a : Nat → Nat → Int), (((((12 - y1) * 15) + 0) + ((12 - y2) * 1)) + 0).toNat ≤ n → iv a → jfr jW_X5_linkSeats a0 a → 0 ≤ y1 → y1 ≤ 11 → 0 ≤ y2 → y2 ≤ 11 → 1 ≤ a 90 3 → jt (jxX E d 84 70 [some (.inr (.inr (.inl 90))), some (.inl y1), some (.inl y2)] [] (jxSH, a, b0)) (jQ_X5_linkSeats a0 b0)) ∧ (∀ (y1 y2 : Int) (a : Nat → Nat → Int), (((((12 - y1) * 15) + 0) + ((12 - y2) * 1)) + 0).toNat ≤ n → iv a → jfr jW_X5_linkSeats a0 a → 0 ≤ y1 → y1 ≤ 11 → 0 ≤ y2 → y2 ≤ 11 → 1 ≤ a 90 3 → jt (jxX E d 84 118 [some (.inr (.inr (.inl 90))), some (.inl y1), some (.inl y2)] [] (jxSH, a, b0)) (jQ_X5_linkSeats a0 b0)) ∧ (∀ (y1 y2 : Int) (a : Nat → Nat → Int), (((((12 - y1) * 15) + 0) + ((12 - y2) * 1)) + 0).toNat ≤ n → iv a → jfr jW_X5_linkSeats a0 a → 0 ≤ y1 → y1 ≤ 11 → 0 ≤ y2 → y2 ≤ 11 → 1 ≤ a 90 3 → jt (jxX E d 84 85 [some (.inr (.inr (.inl 90))), some (.inl y1), some (.inl y2)] [] (jxSH, a, b0)) (jQ_X5_linkSeats a0 b0)) ∧ (∀ (y1 y2 : Int) (a : Nat → Nat → Int), (((((12 - y1) * 15) + 0) + ((12 - y2) * 1)) + 0).toNat ≤ n → iv a → jfr jW_X5_linkSeats a0 a → 0 ≤ y1 → y1 ≤ 11 → 0 ≤ y2 → y2 ≤ 12 → 1 ≤ a 90 3 → jt (jxX E d 84 26 [some (.inr (.inr (.inl 90))), some (.inl y1), some (.inl y2)] [] (jxSH, a, b0)) (jQ_X5_linkSeats a0 b0)) ∧ (∀ (y1 : Int) (a : Nat → Nat → Int), (((12 - y1) * 15) + 14).toNat ≤ n → iv a → jfr jW_X5_linkSeats a0 a → 0 ≤ y1 → y1 ≤ 11 → 1 ≤ a 90 3 → jt (jxX E d 84 24 [some (.inr (.inr (.inl 90))), some (.inl y1), none] [] (jxSH, a, b0)) (jQ_X5_linkSeats a0 b0)) ∧ (∀ (y1 : Int) (a : Nat → Nat → Int), (((12 - y1) * 15) + 14).toNat ≤ n → iv a → jfr jW_X5_linkSeats a0 a → 0 ≤ y1 → y1 ≤ 12 → jt (jxX E d 84 2 [some (.inr (.inr (.inl 90))), some (.inl y1), none] [] (jxSH, a, b0)) (jQ_X5_linkSeats a0 b0)) := by
  refine jx_ind fun n ih => ?_
  have ih130 : ∀ (y1 y2 : Int) (a : Nat → Nat → Int), (((((12 - y1) * 15) + 0) + ((12 - y2) * 1)) + 0).toNat < n → iv a → jfr jW_X5_linkSeats a0 a → 0 ≤ y1 → y1 ≤ 11 → 0 ≤ y2 → y2 ≤ 11 → 1 ≤ a 90 3 → jt (jxX E d 84 130 [some (.inr (.inr (.inl 90))), some (.inl y1), some (.inl y2)] [] (jxSH, a, b0)) (jQ_X5_linkSeats a0 b0) := fun y1 y2 a hlt i0 i1 i2 i3 i4 i5 i6 => (ih _ hlt).1 y1 y2 a (Nat.le_refl _) i0 i1 i2 i3 i4 i5 i6
  have ih70 : ∀ (y1 y2 : Int) (a : Nat → Nat → Int), (((((12 - y1) * 15) + 0) + ((12 - y2) * 1)) + 0).toNat < n → iv a → jfr jW_X5_linkSeats a0 a → 0 ≤ y1 → y1 ≤ 11 → 0 ≤ y2 → y2 ≤ 11 → 1 ≤ a 90 3 → jt (jxX E d 84 70 [some (.inr (.inr (.inl 90))), some (.inl y1), some (.inl y2)] [] (jxSH, a, b0)) (jQ_X5_linkSeats a0 b0) := fun y1 y2 a hlt i0 i1 i2 i3 i4 i5 i6 => (ih _ hlt).2.1 y1 y2 a (Nat.le_refl _) i0 i1 i2 i3 i4 i5 i6
  have ih118 : ∀ (y1 y2 : Int) (a : Nat → Nat → Int), (((((12 - y1) * 15) + 0) + ((12 - y2) * 1)) + 0).toNat < n → iv a → jfr jW_X5_linkSeats a0 a → 0 ≤ y1 → y1 ≤ 11 → 0 ≤ y2 → y2 ≤ 11 → 1 ≤ a 90 3 → jt (jxX E d 84 118 [some (.inr (.inr (.inl 90))), some (.inl y1), some (.inl y2)] [] (jxSH, a, b0)) (jQ_X5_linkSeats a0 b0) := fun y1 y2 a hlt i0 i1 i2 i3 i4 i5 i6 => (ih _ hlt).2.2.1 y1 y2 a (Nat.le_refl _) i0 i1 i2 i3 i4 i5 i6
  have ih85 : ∀ (y1 y2 : Int) (a : Nat → Nat → Int), (((((12 - y1) * 15) + 0) + ((12 - y2) * 1)) + 0).toNat < n → iv a → jfr jW_X5_linkSeats a0 a → 0 ≤ y1 → y1 ≤ 11 → 0 ≤ y2 → y2 ≤ 11 → 1 ≤ a 90 3 → jt (jxX E d 84 85 [some (.inr (.inr (.inl 90))), some (.inl y1), some (.inl y2)] [] (jxSH, a, b0)) (jQ_X5_linkSeats a0 b0) := fun y1 y2 a hlt i0 i1 i2 i3 i4 i5 i6 => (ih _ hlt).2.2.2.1 y1 y2 a (Nat.le_refl _) i0 i1 i2 i3 i4 i5 i6
  have ih26 : ∀ (y1 y2 : Int) (a : Nat → Nat → Int), (((((12 - y1) * 15) + 0) + ((12 - y2) * 1)) + 0).toNat < n → iv a → jfr jW_X5_linkSeats a0 a → 0 ≤ y1 → y1 ≤ 11 → 0 ≤ y2 → y2 ≤ 12 → 1 ≤ a 90 3 → jt (jxX E d 84 26 [some (.inr (.inr (.inl 90))), some (.inl y1), some (.inl y2)] [] (jxSH, a, b0)) (jQ_X5_linkSeats a0 b0) := fun y1 y2 a hlt i0 i1 i2 i3 i4 i5 i6 => (ih _ hlt).2.2.2.2.1 y1 y2 a (Nat.le_refl _) i0 i1 i2 i3 i4 i5 i6
  have ih24 : ∀ (y1 : Int) (a : Nat → Nat → Int), (((12 - y1) * 15) + 14).toNat < n → iv a → jfr jW_X5_linkSeats a0 a → 0 ≤ y1 → y1 ≤ 11 → 1 ≤ a 90 3 → jt (jxX E d 84 24 [some (.inr (.inr (.inl 90))), some (.inl y1), none] [] (jxSH, a, b0)) (jQ_X5_linkSeats a0 b0) := fun y1 a hlt i0 i1 i2 i3 i4 => (ih _ hlt).2.2.2.2.2.1 y1 a (Nat.le_refl _) i0 i1 i2 i3 i4
  have ih2 : ∀ (y1 : Int) (a : Nat → Nat → Int), (((12 - y1) * 15) + 14).toNat < n → iv a → jfr jW_X5_linkSeats a0 a → 0 ≤ y1 → y1 ≤ 12 → jt (jxX E d 84 2 [some (.inr (.inr (.inl 90))), some (.inl y1), none] [] (jxSH, a, b0)) (jQ_X5_linkSeats a0 b0) := fun y1 a hlt i0 i1 i2 i3 => (ih _ hlt).2.2.2.2.2.2 y1 a (Nat.le_refl _) i0 i1 i2 i3
  have hc130 : ∀ (y1 y2 : Int) (a : Nat → Nat → Int), (((((12 - y1) * 15) + 0) + ((12 - y2) * 1)) + 0).toNat ≤ n → iv a → jfr jW_X5_linkSeats a0 a → 0 ≤ y1 → y1 ≤ 11 → 0 ≤ y2 → y2 ≤ 11 → 1 ≤ a 90 3 → jt (jxX E d 84 130 [some (.inr (.inr (.inl 90))), some (.inl y1), some (.inl y2)] [] (jxSH, a, b0)) (jQ_X5_linkSeats a0 b0) := by
    intro y1 y2 a hm hv hf hi0 hi1 hi2 hi3 hi4
    refine jt_eq (bq_X5_linkSeats_130 E d y1 y2 a b0) ?_
    have h1628_ := iv_get hv (k := 90) (j := 3) (l := 0) (u := 12) rfl
    have h1629_ : a 90 3 = a0 90 3 := hf 90 3 rfl
    have h1630_ := iv_get hv0 (k := 90) (j := 3) (l := 0) (u := 12) rfl
    have h1631_ : jxw (y2 + 1) = y2 + 1 := jxw_id (by omega) (by omega)
    exact ih26 y1 (jxw (y2 + 1)) a (show (((((12 - y1) * 15) + 0) + ((12 - (jxw (y2 + 1))) * 1)) + 0).toNat < n from by omega) hv hf (show 0 ≤ y1 from by omega) (show y1 ≤ 11 from by omega) (show 0 ≤ jxw (y2 + 1) from by omega) (show jxw (y2 + 1) ≤ 12 from by omega) (show 1 ≤ a 90 3 from by omega)
  have hc70 : ∀ (y1 y2 : Int) (a : Nat → Nat → Int), (((((12 - y1) * 15) + 0) + ((12 - y2) * 1)) + 0).toNat ≤ n → iv a → jfr jW_X5_linkSeats a0 a → 0 ≤ y1 → y1 ≤ 11 → 0 ≤ y2 → y2 ≤ 11 → 1 ≤ a 90 3 → jt (jxX E d 84 70 [some (.inr (.inr (.inl 90))), some (.inl y1), some (.inl y2)] [] (jxSH, a, b0)) (jQ_X5_linkSeats a0 b0) := by
    intro y1 y2 a hm hv hf hi0 hi1 hi2 hi3 hi4
    refine jt_eq (bq_X5_linkSeats_70 E d y1 y2 a b0) ?_
    have h1632_ := iv_get hv (k := 90) (j := 3) (l := 0) (u := 12) rfl
    have h1633_ : a 90 3 = a0 90 3 := hf 90 3 rfl
    have h1634_ := iv_get hv0 (k := 90) (j := 3) (l := 0) (u := 12) rfl
    refine jt_grd (by omega) ?_
    refine jt_grd (by omega) ?_
    have hv1635_ : iv (jxu a 93 (y1.toNat) (jxor (a 93 (y1.toNat)) (jxshl 1 y2))) := iv_putf hv rfl
    have hf1636_ : jfr jW_X5_linkSeats a0 (jxu a 93 (y1.toNat) (jxor (a 93 (y1.toNat)) (jxshl 1 y2))) := jfr_put hf rfl
    exact hc130 y1 y2 (jxu a 93 (y1.toNat) (jxor (a 93 (y1.toNat)) (jxshl 1 y2))) (show (((((12 - y1) * 15) + 0) + ((12 - y2) * 1)) + 0).toNat ≤ n from by omega) hv1635_ hf1636_ (show 0 ≤ y1 from by omega) (show y1 ≤ 11 from by omega) (show 0 ≤ y2 from by omega) (show y2 ≤ 11 from by omega) (show 1 ≤ a 90 3 from by omega)
  have hc118 : ∀ (y1 y2 : Int) (a : Nat → Nat → Int), (((((12 - y1) * 15) + 0) + ((12 - y2) * 1)) + 0).toNat ≤ n → iv a → jfr jW_X5_linkSeats a0 a → 0 ≤ y1 → y1 ≤ 11 → 0 ≤ y2 → y2 ≤ 11 → 1 ≤ a 90 3 → jt (jxX E d 84 118 [some (.inr (.inr (.inl 90))), some (.inl y1), some (.inl y2)] [] (jxSH, a, b0)) (jQ_X5_linkSeats a0 b0) := by
    intro y1 y2 a hm hv hf hi0 hi1 hi2 hi3 hi4
    refine jt_eq (bq_X5_linkSeats_118 E d y1 y2 a b0) ?_
    have h1637_ := iv_get hv (k := 90) (j := 3) (l := 0) (u := 12) rfl
    have h1638_ : a 90 3 = a0 90 3 := hf 90 3 rfl
    have h1639_ := iv_get hv0 (k := 90) (j := 3) (l := 0) (u := 12) rfl
    refine jt_grd (by omega) ?_
    refine jt_grd (by omega) ?_
    have hv1640_ : iv (jxu a 92 (y1.toNat) (jxor (a 92 (y1.toNat)) (jxshl 1 y2))) := iv_putf hv rfl
    have hf1641_ : jfr jW_X5_linkSeats a0 (jxu a 92 (y1.toNat) (jxor (a 92 (y1.toNat)) (jxshl 1 y2))) := jfr_put hf rfl
    exact hc130 y1 y2 (jxu a 92 (y1.toNat) (jxor (a 92 (y1.toNat)) (jxshl 1 y2))) (show (((((12 - y1) * 15) + 0) + ((12 - y2) * 1)) + 0).toNat ≤ n from by omega) hv1640_ hf1641_ (show 0 ≤ y1 from by omega) (show y1 ≤ 11 from by omega) (show 0 ≤ y2 from by omega) (show y2 ≤ 11 from by omega) (show 1 ≤ a 90 3 from by omega)
  have hc85 : ∀ (y1 y2 : Int) (a : Nat → Nat → Int), (((((12 - y1) * 15) + 0) + ((12 - y2) * 1)) + 0).toNat ≤ n → iv a → jfr jW_X5_linkSeats a0 a → 0 ≤ y1 → y1 ≤ 11 → 0 ≤ y2 → y2 ≤ 11 → 1 ≤ a 90 3 → jt (jxX E d 84 85 [some (.inr (.inr (.inl 90))), some (.inl y1), some (.inl y2)] [] (jxSH, a, b0)) (jQ_X5_linkSeats a0 b0) := by
    intro y1 y2 a hm hv hf hi0 hi1 hi2 hi3 hi4
    refine jt_eq (bq_X5_linkSeats_85 E d y1 y2 a b0) ?_
    have h1642_ := iv_get hv (k := 90) (j := 3) (l := 0) (u := 12) rfl
    have h1643_ : a 90 3 = a0 90 3 := hf 90 3 rfl
    have h1644_ := iv_get hv0 (k := 90) (j := 3) (l := 0) (u := 12) rfl
    refine jt_grd (by omega) ?_
    refine jt_eI (eq_X4_wantsOf E d (jd_le hd rfl) (a 91 (y2.toNat)) a b0) ?_
    refine jt_grd (by omega) ?_
    refine jt_eI (eq_X4_kindOf E d (jd_le hd rfl) (a 91 (y1.toNat)) a b0) ?_
    have h1645_ : a 91 (y2.toNat) = a0 91 (y2.toNat) := hf 91 (y2.toNat) rfl
    have h1646_ := f_X4_wantsOf_eq a b0 (a 91 (y2.toNat))
    have h1647_ := f_X4_has_eq a b0 (a 91 (y2.toNat))
    have h1648_ := iv_get hv (k := 83) (j := 6) (l := 0) (u := 20) rfl
    have h1649_ : a 83 6 = a0 83 6 := hf 83 6 rfl
    have h1650_ := iv_get hv0 (k := 83) (j := 6) (l := 0) (u := 20) rfl
    have h1651_ : a 86 ((a 91 (y2.toNat)).toNat) = a0 86 ((a 91 (y2.toNat)).toNat) := hf 86 ((a 91 (y2.toNat)).toNat) rfl
    have h1652_ : a 91 (y1.toNat) = a0 91 (y1.toNat) := hf 91 (y1.toNat) rfl
    have h1653_ := f_X4_kindOf_eq a b0 (a 91 (y1.toNat))
    have h1654_ := f_X11_entry_r85_eq a b0 (a 83 6) (a 91 (y1.toNat))
    have h1655_ : a 85 ((a 91 (y1.toNat)).toNat) = a0 85 ((a 91 (y1.toNat)).toNat) := hf 85 ((a 91 (y1.toNat)).toNat) rfl
    have h1656_ := jxshr_b (f_X4_wantsOf a b0 (a 91 (y2.toNat))) (f_X4_kindOf a b0 (a 91 (y1.toNat)))
    have h1657_ := jxand_r (jxshr (f_X4_wantsOf a b0 (a 91 (y2.toNat))) (f_X4_kindOf a b0 (a 91 (y1.toNat)))) 1 (by decide) (by decide)
    refine jt_ite (fun c1658_ => ?_) (fun c1658_ => ?_)
    ·
      exact hc118 y1 y2 a (show (((((12 - y1) * 15) + 0) + ((12 - y2) * 1)) + 0).toNat ≤ n from by omega) hv hf (show 0 ≤ y1 from by omega) (show y1 ≤ 11 from by omega) (show 0 ≤ y2 from by omega) (show y2 ≤ 11 from by omega) (show 1 ≤ a 90 3 from by omega)
    ·
      exact hc130 y1 y2 a (show (((((12 - y1) * 15) + 0) + ((12 - y2) * 1)) + 0).toNat ≤ n from by omega) hv hf (show 0 ≤ y1 from by omega) (show y1 ≤ 11 from by omega) (show 0 ≤ y2 from by omega) (show y2 ≤ 11 from by omega) (show 1 ≤ a 90 3 from by omega)
  have hc26 : ∀ (y1 y2 : Int) (a : Nat → Nat → Int), (((((12 - y1) * 15) + 0) + ((12 - y2) * 1)) + 0).toNat ≤ n → iv a → jfr jW_X5_linkSeats a0 a → 0 ≤ y1 → y1 ≤ 11 → 0 ≤ y2 → y2 ≤ 12 → 1 ≤ a 90 3 → jt (jxX E d 84 26 [some (.inr (.inr (.inl 90))), some (.inl y1), some (.inl y2)] [] (jxSH, a, b0)) (jQ_X5_linkSeats a0 b0) := by
    intro y1 y2 a hm hv hf hi0 hi1 hi2 hi3 hi4
    refine jt_eq (bq_X5_linkSeats_26 E d y1 y2 a b0) ?_
    have h1659_ := iv_get hv (k := 90) (j := 3) (l := 0) (u := 12) rfl
    have h1660_ : a 90 3 = a0 90 3 := hf 90 3 rfl
    have h1661_ := iv_get hv0 (k := 90) (j := 3) (l := 0) (u := 12) rfl
    refine jt_ite (fun c1662_ => ?_) (fun c1662_ => ?_)
    ·
      refine jt_grd (by omega) ?_
      refine jt_eI (eq_X4_memberOf E d (jd_le hd rfl) (a 91 (y1.toNat)) a b0) ?_
      refine jt_grd (by omega) ?_
      refine jt_eI (eq_X4_memberOf E d (jd_le hd rfl) (a 91 (y2.toNat)) a b0) ?_
      refine jt_eI (eq_X3_areKin E d (jd_le hd rfl) (f_X4_memberOf a b0 (a 91 (y1.toNat))) (f_X4_memberOf a b0 (a 91 (y2.toNat))) a b0) ?_
      have h1663_ : a 91 (y1.toNat) = a0 91 (y1.toNat) := hf 91 (y1.toNat) rfl
      have h1664_ := f_X4_memberOf_eq a b0 (a 91 (y1.toNat))
      have h1665_ := iv_get hv (k := 83) (j := 6) (l := 0) (u := 20) rfl
      have h1666_ : a 83 6 = a0 83 6 := hf 83 6 rfl
      have h1667_ := iv_get hv0 (k := 83) (j := 6) (l := 0) (u := 20) rfl
      have h1668_ := f_X11_entry_r84_eq a b0 (a 83 6) (a 91 (y1.toNat))
      have h1669_ : a 84 ((a 91 (y1.toNat)).toNat) = a0 84 ((a 91 (y1.toNat)).toNat) := hf 84 ((a 91 (y1.toNat)).toNat) rfl
      have h1670_ : a 91 (y2.toNat) = a0 91 (y2.toNat) := hf 91 (y2.toNat) rfl
      have h1671_ := f_X4_memberOf_eq a b0 (a 91 (y2.toNat))
      have h1672_ := f_X11_entry_r84_eq a b0 (a 83 6) (a 91 (y2.toNat))
      have h1673_ : a 84 ((a 91 (y2.toNat)).toNat) = a0 84 ((a 91 (y2.toNat)).toNat) := hf 84 ((a 91 (y2.toNat)).toNat) rfl
      have h1674_ := f_X3_areKin_bool a b0 (f_X4_memberOf a b0 (a 91 (y1.toNat))) (f_X4_memberOf a b0 (a 91 (y2.toNat)))
      refine jt_ite (fun c1675_ => ?_) (fun c1675_ => ?_)
      ·
        exact hc85 y1 y2 a (show (((((12 - y1) * 15) + 0) + ((12 - y2) * 1)) + 0).toNat ≤ n from by omega) hv hf (show 0 ≤ y1 from by omega) (show y1 ≤ 11 from by omega) (show 0 ≤ y2 from by omega) (show y2 ≤ 11 from by omega) (show 1 ≤ a 90 3 from by omega)
      ·
        exact hc70 y1 y2 a (show (((((12 - y1) * 15) + 0) + ((12 - y2) * 1)) + 0).toNat ≤ n from by omega) hv hf (show 0 ≤ y1 from by omega) (show y1 ≤ 11 from by omega) (show 0 ≤ y2 from by omega) (show y2 ≤ 11 from by omega) (show 1 ≤ a 90 3 from by omega)
    ·
      have h1676_ : jxw (y1 + 1) = y1 + 1 := jxw_id (by omega) (by omega)
      exact ih2 (jxw (y1 + 1)) a (show (((12 - (jxw (y1 + 1))) * 15) + 14).toNat < n from by omega) hv hf (show 0 ≤ jxw (y1 + 1) from by omega) (show jxw (y1 + 1) ≤ 12 from by omega)
  have hc24 : ∀ (y1 : Int) (a : Nat → Nat → Int), (((12 - y1) * 15) + 14).toNat ≤ n → iv a → jfr jW_X5_linkSeats a0 a → 0 ≤ y1 → y1 ≤ 11 → 1 ≤ a 90 3 → jt (jxX E d 84 24 [some (.inr (.inr (.inl 90))), some (.inl y1), none] [] (jxSH, a, b0)) (jQ_X5_linkSeats a0 b0) := by
    intro y1 a hm hv hf hi0 hi1 hi2
    refine jt_eq (bq_X5_linkSeats_24 E d y1 a b0) ?_
    have h1677_ := iv_get hv (k := 90) (j := 3) (l := 0) (u := 12) rfl
    have h1678_ : a 90 3 = a0 90 3 := hf 90 3 rfl
    have h1679_ := iv_get hv0 (k := 90) (j := 3) (l := 0) (u := 12) rfl
    exact hc26 y1 0 a (show (((((12 - y1) * 15) + 0) + ((12 - 0) * 1)) + 0).toNat ≤ n from by omega) hv hf (show 0 ≤ y1 from by omega) (show y1 ≤ 11 from by omega) (show 0 ≤ 0 from by omega) (show 0 ≤ 12 from by omega) (show 1 ≤ a 90 3 from by omega)
  have hc2 : ∀ (y1 : Int) (a : Nat → Nat → Int), (((12 - y1) * 15) + 14).toNat ≤ n → iv a → jfr jW_X5_linkSeats a0 a → 0 ≤ y1 → y1 ≤ 12 → jt (jxX E d 84 2 [some (.inr (.inr (.inl 90))), some (.inl y1), none] [] (jxSH, a, b0)) (jQ_X5_linkSeats a0 b0) := by
    intro y1 a hm hv hf hi0 hi1
    refine jt_eq (bq_X5_linkSeats_2 E d y1 a b0) ?_
    have h1680_ := iv_get hv (k := 90) (j := 3) (l := 0) (u := 12) rfl
    have h1681_ : a 90 3 = a0 90 3 := hf 90 3 rfl
    have h1682_ := iv_get hv0 (k := 90) (j := 3) (l := 0) (u := 12) rfl
    refine jt_ite (fun c1683_ => ?_) (fun c1683_ => ?_)
    ·
      refine jt_grd (by omega) ?_
      refine jt_grd (by omega) ?_
      have hv1684_ : iv (jxu a 92 (y1.toNat) 0) := iv_putf hv rfl
      have hv1685_ : iv (jxu (jxu a 92 (y1.toNat) 0) 93 (y1.toNat) 0) := iv_putf hv1684_ rfl
      have hf1686_ : jfr jW_X5_linkSeats a0 (jxu a 92 (y1.toNat) 0) := jfr_put hf rfl
      have hf1687_ : jfr jW_X5_linkSeats a0 (jxu (jxu a 92 (y1.toNat) 0) 93 (y1.toNat) 0) := jfr_put hf1686_ rfl
      exact hc24 y1 (jxu (jxu a 92 (y1.toNat) 0) 93 (y1.toNat) 0) (show (((12 - y1) * 15) + 14).toNat ≤ n from by omega) hv1685_ hf1687_ (show 0 ≤ y1 from by omega) (show y1 ≤ 11 from by omega) (show 1 ≤ a 90 3 from by omega)
    ·
      exact jt_rV ⟨hv, hf, rfl⟩
  exact ⟨hc130, hc70, hc118, hc85, hc26, hc24, hc2⟩
theorem sp_X5_linkSeats (E : jxE) (d : Nat) (hd : Nat.ble 3 d = true) (a0 b0 : Nat → Nat → Int) (hv0 : iv a0) : jt (jxC E d 84 [.inr (.inr (.inl 90))] (jxSH, a0, b0)) (jQ_X5_linkSeats a0 b0) := by
  obtain ⟨d, rfl⟩ := jd_succ hd
  refine jt_eq (bq_X5_linkSeats E d a0 b0) ?_
  exact (cp_X5_linkSeats_2 E d hd a0 b0 hv0 _).2.2.2.2.2.2 0 a0 (Nat.le_refl _) hv0 (jfr_rf _ _) (show 0 ≤ 0 from by omega) (show 0 ≤ 12 from by omega)
def jW_X5_seatOpenOffers : List (Nat × Nat) := [(90, 3), (91, 9999)]
abbrev jQ_X5_seatOpenOffers (a0 b0 : Nat → Nat → Int) : List jxV → (Nat → Nat → Int) → (Nat → Nat → Int) → Prop := rV (fun a b => (iv a) ∧ (jfr jW_X5_seatOpenOffers a0 a) ∧ (b0 = b) ∧ ((a0 83 6 = 0 → a 90 3 = 0)))
theorem cp_X5_seatOpenOffers_7 (E : jxE) (d : Nat) (hd : Nat.ble 3 (d + 1) = true) (a0 b0 : Nat → Nat → Int) (hv0 : iv a0) : ∀ n : Nat, (∀ (y1 : Int) (a : Nat → Nat → Int), (((20 - y1) * 1) + 0).toNat ≤ n → iv a → jfr jW_X5_seatOpenOffers a0 a → 0 ≤ y1 → y1 ≤ 19 → 1 ≤ a0 83 6 → jt (jxX E d 83 55 [some (.inr (.inr (.inl 90))), some (.inl y1)] [] (jxSH, a, b0)) (jQ_X5_seatOpenOffers a0 b0)) ∧ (∀ (y1 : Int) (a : Nat → Nat → Int), (((20 - y1) * 1) + 0).toNat ≤ n → iv a → jfr jW_X5_seatOpenOffers a0 a → 0 ≤ y1 → y1 ≤ 19 → a 90 3 ≤ 11 → 1 ≤ a0 83 6 → jt (jxX E d 83 38 [some (.inr (.inr (.inl 90))), some (.inl y1)] [] (jxSH, a, b0)) (jQ_X5_seatOpenOffers a0 b0)) ∧ (∀ (y1 : Int) (a : Nat → Nat → Int), (((20 - y1) * 1) + 0).toNat ≤ n → iv a → jfr jW_X5_seatOpenOffers a0 a → 0 ≤ y1 → y1 ≤ 20 → (a0 83 6 = 0 → a 90 3 = 0) → jt (jxX E d 83 7 [some (.inr (.inr (.inl 90))), some (.inl y1)] [] (jxSH, a, b0)) (jQ_X5_seatOpenOffers a0 b0)) := by
  refine jx_ind fun n ih => ?_
  have ih55 : ∀ (y1 : Int) (a : Nat → Nat → Int), (((20 - y1) * 1) + 0).toNat < n → iv a → jfr jW_X5_seatOpenOffers a0 a → 0 ≤ y1 → y1 ≤ 19 → 1 ≤ a0 83 6 → jt (jxX E d 83 55 [some (.inr (.inr (.inl 90))), some (.inl y1)] [] (jxSH, a, b0)) (jQ_X5_seatOpenOffers a0 b0) := fun y1 a hlt i0 i1 i2 i3 i4 => (ih _ hlt).1 y1 a (Nat.le_refl _) i0 i1 i2 i3 i4
  have ih38 : ∀ (y1 : Int) (a : Nat → Nat → Int), (((20 - y1) * 1) + 0).toNat < n → iv a → jfr jW_X5_seatOpenOffers a0 a → 0 ≤ y1 → y1 ≤ 19 → a 90 3 ≤ 11 → 1 ≤ a0 83 6 → jt (jxX E d 83 38 [some (.inr (.inr (.inl 90))), some (.inl y1)] [] (jxSH, a, b0)) (jQ_X5_seatOpenOffers a0 b0) := fun y1 a hlt i0 i1 i2 i3 i4 i5 => (ih _ hlt).2.1 y1 a (Nat.le_refl _) i0 i1 i2 i3 i4 i5
  have ih7 : ∀ (y1 : Int) (a : Nat → Nat → Int), (((20 - y1) * 1) + 0).toNat < n → iv a → jfr jW_X5_seatOpenOffers a0 a → 0 ≤ y1 → y1 ≤ 20 → (a0 83 6 = 0 → a 90 3 = 0) → jt (jxX E d 83 7 [some (.inr (.inr (.inl 90))), some (.inl y1)] [] (jxSH, a, b0)) (jQ_X5_seatOpenOffers a0 b0) := fun y1 a hlt i0 i1 i2 i3 i4 => (ih _ hlt).2.2 y1 a (Nat.le_refl _) i0 i1 i2 i3 i4
  have hc55 : ∀ (y1 : Int) (a : Nat → Nat → Int), (((20 - y1) * 1) + 0).toNat ≤ n → iv a → jfr jW_X5_seatOpenOffers a0 a → 0 ≤ y1 → y1 ≤ 19 → 1 ≤ a0 83 6 → jt (jxX E d 83 55 [some (.inr (.inr (.inl 90))), some (.inl y1)] [] (jxSH, a, b0)) (jQ_X5_seatOpenOffers a0 b0) := by
    intro y1 a hm hv hf hi0 hi1 hi2
    refine jt_eq (bq_X5_seatOpenOffers_55 E d y1 a b0) ?_
    have h1688_ := iv_get hv0 (k := 83) (j := 6) (l := 0) (u := 20) rfl
    have h1689_ : jxw (y1 + 1) = y1 + 1 := jxw_id (by omega) (by omega)
    have h1690_ := iv_get hv (k := 90) (j := 3) (l := 0) (u := 12) rfl
    exact ih7 (jxw (y1 + 1)) a (show (((20 - (jxw (y1 + 1))) * 1) + 0).toNat < n from by omega) hv hf (show 0 ≤ jxw (y1 + 1) from by omega) (show jxw (y1 + 1) ≤ 20 from by omega) (show (a0 83 6 = 0 → a 90 3 = 0) from by omega)
  have hc38 : ∀ (y1 : Int) (a : Nat → Nat → Int), (((20 - y1) * 1) + 0).toNat ≤ n → iv a → jfr jW_X5_seatOpenOffers a0 a → 0 ≤ y1 → y1 ≤ 19 → a 90 3 ≤ 11 → 1 ≤ a0 83 6 → jt (jxX E d 83 38 [some (.inr (.inr (.inl 90))), some (.inl y1)] [] (jxSH, a, b0)) (jQ_X5_seatOpenOffers a0 b0) := by
    intro y1 a hm hv hf hi0 hi1 hi2 hi3
    refine jt_eq (bq_X5_seatOpenOffers_38 E d y1 a b0) ?_
    have h1691_ := iv_get hv (k := 90) (j := 3) (l := 0) (u := 12) rfl
    have h1692_ := iv_get hv0 (k := 83) (j := 6) (l := 0) (u := 20) rfl
    refine jt_grd (by omega) ?_
    have h1694_ : jxw ((a 90 3) + 1) = (a 90 3) + 1 := jxw_id (by omega) (by omega)
    have hv1693_ : iv (jxu a 90 3 (jxw ((a 90 3) + 1))) := iv_put hv (l := 0) (u := 12) rfl (by omega) (by omega)
    have hv1695_ : iv (jxu (jxu a 90 3 (jxw ((a 90 3) + 1))) 91 ((a 90 3).toNat) y1) := iv_putf hv1693_ rfl
    have hf1696_ : jfr jW_X5_seatOpenOffers a0 (jxu a 90 3 (jxw ((a 90 3) + 1))) := jfr_put hf rfl
    have hf1697_ : jfr jW_X5_seatOpenOffers a0 (jxu (jxu a 90 3 (jxw ((a 90 3) + 1))) 91 ((a 90 3).toNat) y1) := jfr_put hf1696_ rfl
    exact hc55 y1 (jxu (jxu a 90 3 (jxw ((a 90 3) + 1))) 91 ((a 90 3).toNat) y1) (show (((20 - y1) * 1) + 0).toNat ≤ n from by omega) hv1695_ hf1697_ (show 0 ≤ y1 from by omega) (show y1 ≤ 19 from by omega) (show 1 ≤ a0 83 6 from by omega)
  have hc7 : ∀ (y1 : Int) (a : Nat → Nat → Int), (((20 - y1) * 1) + 0).toNat ≤ n → iv a → jfr jW_X5_seatOpenOffers a0 a → 0 ≤ y1 → y1 ≤ 20 → (a0 83 6 = 0 → a 90 3 = 0) → jt (jxX E d 83 7 [some (.inr (.inr (.inl 90))), some (.inl y1)] [] (jxSH, a, b0)) (jQ_X5_seatOpenOffers a0 b0) := by
    intro y1 a hm hv hf hi0 hi1 hi2
    refine jt_eq (bq_X5_seatOpenOffers_7 E d y1 a b0) ?_
    have h1698_ := iv_get hv0 (k := 83) (j := 6) (l := 0) (u := 20) rfl
    have h1699_ := iv_get hv (k := 90) (j := 3) (l := 0) (u := 12) rfl
    refine jt_eI (eq_X4_size E d (jd_le hd rfl) a b0) ?_
    have h1700_ := f_X4_size_eq a b0
    have h1701_ := iv_get hv (k := 83) (j := 6) (l := 0) (u := 20) rfl
    have h1702_ : a 83 6 = a0 83 6 := hf 83 6 rfl
    refine jt_ite (fun c1703_ => ?_) (fun c1703_ => ?_)
    ·
      refine jt_ite (fun c1704_ => ?_) (fun c1704_ => ?_)
      ·
        refine jt_eI (eq_X4_isOpen E d (jd_le hd rfl) y1 a b0) ?_
        have h1705_ := f_X4_isOpen_eq a b0 y1
        have h1706_ := f_X4_has_eq a b0 y1
        have h1707_ : a 87 (y1.toNat) = a0 87 (y1.toNat) := hf 87 (y1.toNat) rfl
        refine jt_ite (fun c1708_ => ?_) (fun c1708_ => ?_)
        ·
          exact hc55 y1 a (show (((20 - y1) * 1) + 0).toNat ≤ n from by omega) hv hf (show 0 ≤ y1 from by omega) (show y1 ≤ 19 from by omega) (show 1 ≤ a0 83 6 from by omega)
        ·
          exact hc38 y1 a (show (((20 - y1) * 1) + 0).toNat ≤ n from by omega) hv hf (show 0 ≤ y1 from by omega) (show y1 ≤ 19 from by omega) (show a 90 3 ≤ 11 from by omega) (show 1 ≤ a0 83 6 from by omega)
      ·
        exact jt_rV ⟨hv, hf, rfl, (show (a0 83 6 = 0 → a 90 3 = 0) from by omega)⟩
    ·
      exact jt_rV ⟨hv, hf, rfl, (show (a0 83 6 = 0 → a 90 3 = 0) from by omega)⟩
  exact ⟨hc55, hc38, hc7⟩
theorem sp_X5_seatOpenOffers (E : jxE) (d : Nat) (hd : Nat.ble 3 d = true) (a0 b0 : Nat → Nat → Int) (hv0 : iv a0) : jt (jxC E d 83 [.inr (.inr (.inl 90))] (jxSH, a0, b0)) (jQ_X5_seatOpenOffers a0 b0) := by
  obtain ⟨d, rfl⟩ := jd_succ hd
  refine jt_eq (bq_X5_seatOpenOffers E d a0 b0) ?_
  have hv1709_ : iv (jxu a0 90 3 0) := iv_put hv0 (l := 0) (u := 12) rfl (by omega) (by omega)
  have hf1710_ : jfr jW_X5_seatOpenOffers a0 (jxu a0 90 3 0) := jfr_put (jfr_rf _ _) rfl
  have h1711_ := iv_get hv0 (k := 83) (j := 6) (l := 0) (u := 20) rfl
  exact (cp_X5_seatOpenOffers_7 E d hd a0 b0 hv0 _).2.2 0 (jxu a0 90 3 0) (Nat.le_refl _) hv1709_ hf1710_ (show 0 ≤ 0 from by omega) (show 0 ≤ 20 from by omega) (show (a0 83 6 = 0 → 0 = 0) from by omega)
def jW_X5_keepRing : List (Nat × Nat) := [(90, 12), (97, 9999), (104, 9999)]
abbrev jQ_X5_keepRing (x1 : Int) (a0 b0 : Nat → Nat → Int) : List jxV → (Nat → Nat → Int) → (Nat → Nat → Int) → Prop := rI (fun r a b => (iv a) ∧ (jfr jW_X5_keepRing a0 a) ∧ (b0 = b) ∧ (0 ≤ r) ∧ (r ≤ 4095))
theorem cp_X5_keepRing_88 (E : jxE) (d : Nat) (hd : Nat.ble 1 (d + 1) = true) (x1 : Int) (a0 b0 : Nat → Nat → Int) (hv0 : iv a0) (hp0 : 1 ≤ x1) (hp1 : x1 ≤ 5) : ∀ (y2 : Int) (a : Nat → Nat → Int), iv a → jfr jW_X5_keepRing a0 a → 0 ≤ y2 → y2 ≤ 4095 → 1 ≤ a 90 12 → jt (jxX E d 96 88 [none, none, some (.inl y2), none] [] (jxSH, a, b0)) (jQ_X5_keepRing x1 a0 b0) := by
  intro y2 a hv hf hi0 hi1 hi2
  refine jt_eq (bq_X5_keepRing_88 E d y2 a b0) ?_
  have h1712_ := iv_get hv (k := 90) (j := 12) (l := 0) (u := 6) rfl
  exact jt_rI ⟨hv, hf, rfl, (show 0 ≤ y2 from by omega), (show y2 ≤ 4095 from by omega)⟩
theorem cp_X5_keepRing_62 (E : jxE) (d : Nat) (hd : Nat.ble 1 (d + 1) = true) (x1 : Int) (a0 b0 : Nat → Nat → Int) (hv0 : iv a0) (hp0 : 1 ≤ x1) (hp1 : x1 ≤ 5) : ∀ (y1 y2 : Int) (a : Nat → Nat → Int), iv a → jfr jW_X5_keepRing a0 a → 1 ≤ y1 → y1 ≤ 5 → 0 ≤ y2 → y2 ≤ 4095 → jt (jxX E d 96 62 [some (.inr (.inr (.inl 90))), some (.inl y1), some (.inl y2), none] [] (jxSH, a, b0)) (jQ_X5_keepRing x1 a0 b0) := by
  intro y1 y2 a hv hf hi0 hi1 hi2 hi3
  refine jt_eq (bq_X5_keepRing_62 E d y1 y2 a b0) ?_
  have h1713_ := iv_get hv (k := 90) (j := 12) (l := 0) (u := 6) rfl
  refine jt_ite (fun c1714_ => ?_) (fun c1714_ => ?_)
  ·
    refine jt_grd (by omega) ?_
    have h1716_ : jxw ((a 90 12) + 1) = (a 90 12) + 1 := jxw_id (by omega) (by omega)
    have hv1715_ : iv (jxu a 90 12 (jxw ((a 90 12) + 1))) := iv_put hv (l := 0) (u := 6) rfl (by omega) (by omega)
    have hv1717_ : iv (jxu (jxu a 90 12 (jxw ((a 90 12) + 1))) 104 ((a 90 12).toNat) y1) := iv_put hv1715_ (l := 0) (u := 5) rfl (by omega) (by omega)
    have hf1718_ : jfr jW_X5_keepRing a0 (jxu a 90 12 (jxw ((a 90 12) + 1))) := jfr_put hf rfl
    have hf1719_ : jfr jW_X5_keepRing a0 (jxu (jxu a 90 12 (jxw ((a 90 12) + 1))) 104 ((a 90 12).toNat) y1) := jfr_put hf1718_ rfl
    exact cp_X5_keepRing_88 E d hd x1 a0 b0 hv0 hp0 hp1 y2 (jxu (jxu a 90 12 (jxw ((a 90 12) + 1))) 104 ((a 90 12).toNat) y1) hv1717_ hf1719_ (show 0 ≤ y2 from by omega) (show y2 ≤ 4095 from by omega) (show 1 ≤ jxw ((a 90 12) + 1) from by omega)
  ·
    exact cp_X5_keepRing_88 E d hd x1 a0 b0 hv0 hp0 hp1 y2 a hv hf (show 0 ≤ y2 from by omega) (show y2 ≤ 4095 from by omega) (show 1 ≤ a 90 12 from by omega)
theorem cp_X5_keepRing_4 (E : jxE) (d : Nat) (hd : Nat.ble 1 (d + 1) = true) (x1 : Int) (a0 b0 : Nat → Nat → Int) (hv0 : iv a0) (hp0 : 1 ≤ x1) (hp1 : x1 ≤ 5) : ∀ n : Nat, (∀ (y1 y2 y3 : Int) (a : Nat → Nat → Int), (((5 - y3) * 1) + 0).toNat ≤ n → iv a → jfr jW_X5_keepRing a0 a → 1 ≤ y1 → y1 ≤ 5 → 0 ≤ y2 → y2 ≤ 4095 → 0 ≤ y3 → y3 ≤ 4 → jt (jxX E d 96 56 [some (.inr (.inr (.inl 90))), some (.inl y1), some (.inl y2), some (.inl y3)] [] (jxSH, a, b0)) (jQ_X5_keepRing x1 a0 b0)) ∧ (∀ (y1 y2 y3 : Int) (a : Nat → Nat → Int), (((5 - y3) * 1) + 0).toNat ≤ n → iv a → jfr jW_X5_keepRing a0 a → 1 ≤ y1 → y1 ≤ 5 → 0 ≤ y2 → y2 ≤ 4095 → 0 ≤ y3 → y3 ≤ 4 → jt (jxX E d 96 25 [some (.inr (.inr (.inl 90))), some (.inl y1), some (.inl y2), some (.inl y3)] [] (jxSH, a, b0)) (jQ_X5_keepRing x1 a0 b0)) ∧ (∀ (y1 y2 y3 : Int) (a : Nat → Nat → Int), (((5 - y3) * 1) + 0).toNat ≤ n → iv a → jfr jW_X5_keepRing a0 a → 1 ≤ y1 → y1 ≤ 5 → 0 ≤ y2 → y2 ≤ 4095 → 0 ≤ y3 → y3 ≤ 5 → jt (jxX E d 96 4 [some (.inr (.inr (.inl 90))), some (.inl y1), some (.inl y2), some (.inl y3)] [] (jxSH, a, b0)) (jQ_X5_keepRing x1 a0 b0)) := by
  refine jx_ind fun n ih => ?_
  have ih56 : ∀ (y1 y2 y3 : Int) (a : Nat → Nat → Int), (((5 - y3) * 1) + 0).toNat < n → iv a → jfr jW_X5_keepRing a0 a → 1 ≤ y1 → y1 ≤ 5 → 0 ≤ y2 → y2 ≤ 4095 → 0 ≤ y3 → y3 ≤ 4 → jt (jxX E d 96 56 [some (.inr (.inr (.inl 90))), some (.inl y1), some (.inl y2), some (.inl y3)] [] (jxSH, a, b0)) (jQ_X5_keepRing x1 a0 b0) := fun y1 y2 y3 a hlt i0 i1 i2 i3 i4 i5 i6 i7 => (ih _ hlt).1 y1 y2 y3 a (Nat.le_refl _) i0 i1 i2 i3 i4 i5 i6 i7
  have ih25 : ∀ (y1 y2 y3 : Int) (a : Nat → Nat → Int), (((5 - y3) * 1) + 0).toNat < n → iv a → jfr jW_X5_keepRing a0 a → 1 ≤ y1 → y1 ≤ 5 → 0 ≤ y2 → y2 ≤ 4095 → 0 ≤ y3 → y3 ≤ 4 → jt (jxX E d 96 25 [some (.inr (.inr (.inl 90))), some (.inl y1), some (.inl y2), some (.inl y3)] [] (jxSH, a, b0)) (jQ_X5_keepRing x1 a0 b0) := fun y1 y2 y3 a hlt i0 i1 i2 i3 i4 i5 i6 i7 => (ih _ hlt).2.1 y1 y2 y3 a (Nat.le_refl _) i0 i1 i2 i3 i4 i5 i6 i7
  have ih4 : ∀ (y1 y2 y3 : Int) (a : Nat → Nat → Int), (((5 - y3) * 1) + 0).toNat < n → iv a → jfr jW_X5_keepRing a0 a → 1 ≤ y1 → y1 ≤ 5 → 0 ≤ y2 → y2 ≤ 4095 → 0 ≤ y3 → y3 ≤ 5 → jt (jxX E d 96 4 [some (.inr (.inr (.inl 90))), some (.inl y1), some (.inl y2), some (.inl y3)] [] (jxSH, a, b0)) (jQ_X5_keepRing x1 a0 b0) := fun y1 y2 y3 a hlt i0 i1 i2 i3 i4 i5 i6 i7 => (ih _ hlt).2.2 y1 y2 y3 a (Nat.le_refl _) i0 i1 i2 i3 i4 i5 i6 i7
  have hc56 : ∀ (y1 y2 y3 : Int) (a : Nat → Nat → Int), (((5 - y3) * 1) + 0).toNat ≤ n → iv a → jfr jW_X5_keepRing a0 a → 1 ≤ y1 → y1 ≤ 5 → 0 ≤ y2 → y2 ≤ 4095 → 0 ≤ y3 → y3 ≤ 4 → jt (jxX E d 96 56 [some (.inr (.inr (.inl 90))), some (.inl y1), some (.inl y2), some (.inl y3)] [] (jxSH, a, b0)) (jQ_X5_keepRing x1 a0 b0) := by
    intro y1 y2 y3 a hm hv hf hi0 hi1 hi2 hi3 hi4 hi5
    refine jt_eq (bq_X5_keepRing_56 E d y1 y2 y3 a b0) ?_
    have h1720_ : jxw (y3 + 1) = y3 + 1 := jxw_id (by omega) (by omega)
    exact ih4 y1 y2 (jxw (y3 + 1)) a (show (((5 - (jxw (y3 + 1))) * 1) + 0).toNat < n from by omega) hv hf (show 1 ≤ y1 from by omega) (show y1 ≤ 5 from by omega) (show 0 ≤ y2 from by omega) (show y2 ≤ 4095 from by omega) (show 0 ≤ jxw (y3 + 1) from by omega) (show jxw (y3 + 1) ≤ 5 from by omega)
  have hc25 : ∀ (y1 y2 y3 : Int) (a : Nat → Nat → Int), (((5 - y3) * 1) + 0).toNat ≤ n → iv a → jfr jW_X5_keepRing a0 a → 1 ≤ y1 → y1 ≤ 5 → 0 ≤ y2 → y2 ≤ 4095 → 0 ≤ y3 → y3 ≤ 4 → jt (jxX E d 96 25 [some (.inr (.inr (.inl 90))), some (.inl y1), some (.inl y2), some (.inl y3)] [] (jxSH, a, b0)) (jQ_X5_keepRing x1 a0 b0) := by
    intro y1 y2 y3 a hm hv hf hi0 hi1 hi2 hi3 hi4 hi5
    refine jt_eq (bq_X5_keepRing_25 E d y1 y2 y3 a b0) ?_
    have h1721_ := iv_get hv (k := 90) (j := 12) (l := 0) (u := 6) rfl
    refine jt_ite (fun c1722_ => ?_) (fun c1722_ => ?_)
    ·
      refine jt_grd (by omega) ?_
      refine jt_grd (by omega) ?_
      have h1723_ := iv_get hv (k := 96) (j := y3.toNat) (l := 0) (u := 11) rfl
      have h1724_ : a 96 (y3.toNat) = a0 96 (y3.toNat) := hf 96 (y3.toNat) rfl
      have h1725_ := iv_get hv0 (k := 96) (j := y3.toNat) (l := 0) (u := 11) rfl
      refine jt_grd (by omega) ?_
      refine jt_grd (by omega) ?_
      refine jt_grd (by omega) ?_
      have hv1726_ : iv (jxu a 97 (((a 90 12).toNat) * 5 + (y3.toNat)) (a 91 ((a 96 (y3.toNat)).toNat))) := iv_putf hv rfl
      have hf1727_ : jfr jW_X5_keepRing a0 (jxu a 97 (((a 90 12).toNat) * 5 + (y3.toNat)) (a 91 ((a 96 (y3.toNat)).toNat))) := jfr_put hf rfl
      exact hc56 y1 y2 y3 (jxu a 97 (((a 90 12).toNat) * 5 + (y3.toNat)) (a 91 ((a 96 (y3.toNat)).toNat))) (show (((5 - y3) * 1) + 0).toNat ≤ n from by omega) hv1726_ hf1727_ (show 1 ≤ y1 from by omega) (show y1 ≤ 5 from by omega) (show 0 ≤ y2 from by omega) (show y2 ≤ 4095 from by omega) (show 0 ≤ y3 from by omega) (show y3 ≤ 4 from by omega)
    ·
      exact hc56 y1 y2 y3 a (show (((5 - y3) * 1) + 0).toNat ≤ n from by omega) hv hf (show 1 ≤ y1 from by omega) (show y1 ≤ 5 from by omega) (show 0 ≤ y2 from by omega) (show y2 ≤ 4095 from by omega) (show 0 ≤ y3 from by omega) (show y3 ≤ 4 from by omega)
  have hc4 : ∀ (y1 y2 y3 : Int) (a : Nat → Nat → Int), (((5 - y3) * 1) + 0).toNat ≤ n → iv a → jfr jW_X5_keepRing a0 a → 1 ≤ y1 → y1 ≤ 5 → 0 ≤ y2 → y2 ≤ 4095 → 0 ≤ y3 → y3 ≤ 5 → jt (jxX E d 96 4 [some (.inr (.inr (.inl 90))), some (.inl y1), some (.inl y2), some (.inl y3)] [] (jxSH, a, b0)) (jQ_X5_keepRing x1 a0 b0) := by
    intro y1 y2 y3 a hm hv hf hi0 hi1 hi2 hi3 hi4 hi5
    refine jt_eq (bq_X5_keepRing_4 E d y1 y2 y3 a b0) ?_
    refine jt_ite (fun c1728_ => ?_) (fun c1728_ => ?_)
    ·
      refine jt_ite (fun c1729_ => ?_) (fun c1729_ => ?_)
      ·
        refine jt_grd (by omega) ?_
        have h1730_ := iv_get hv (k := 96) (j := y3.toNat) (l := 0) (u := 11) rfl
        have h1731_ : a 96 (y3.toNat) = a0 96 (y3.toNat) := hf 96 (y3.toNat) rfl
        have h1732_ := iv_get hv0 (k := 96) (j := y3.toNat) (l := 0) (u := 11) rfl
        have h1733_ := jxshl1_b (a 96 (y3.toNat))
        have h1734_ := jxor_b y2 (jxshl 1 (a 96 (y3.toNat)))
        exact hc25 y1 (jxor y2 (jxshl 1 (a 96 (y3.toNat)))) y3 a (show (((5 - y3) * 1) + 0).toNat ≤ n from by omega) hv hf (show 1 ≤ y1 from by omega) (show y1 ≤ 5 from by omega) (show 0 ≤ jxor y2 (jxshl 1 (a 96 (y3.toNat))) from by omega) (show jxor y2 (jxshl 1 (a 96 (y3.toNat))) ≤ 4095 from by omega) (show 0 ≤ y3 from by omega) (show y3 ≤ 4 from by omega)
      ·
        exact cp_X5_keepRing_62 E d hd x1 a0 b0 hv0 hp0 hp1 y1 y2 a hv hf (show 1 ≤ y1 from by omega) (show y1 ≤ 5 from by omega) (show 0 ≤ y2 from by omega) (show y2 ≤ 4095 from by omega)
    ·
      exact cp_X5_keepRing_62 E d hd x1 a0 b0 hv0 hp0 hp1 y1 y2 a hv hf (show 1 ≤ y1 from by omega) (show y1 ≤ 5 from by omega) (show 0 ≤ y2 from by omega) (show y2 ≤ 4095 from by omega)
  exact ⟨hc56, hc25, hc4⟩
theorem sp_X5_keepRing (E : jxE) (d : Nat) (hd : Nat.ble 1 d = true) (x1 : Int) (a0 b0 : Nat → Nat → Int) (hv0 : iv a0) (hp0 : 1 ≤ x1) (hp1 : x1 ≤ 5) : jt (jxC E d 96 [.inr (.inr (.inl 90)), .inl x1] (jxSH, a0, b0)) (jQ_X5_keepRing x1 a0 b0) := by
  obtain ⟨d, rfl⟩ := jd_succ hd
  refine jt_eq (bq_X5_keepRing E d x1 a0 b0) ?_
  exact (cp_X5_keepRing_4 E d hd x1 a0 b0 hv0 hp0 hp1 _).2.2 x1 0 0 a0 (Nat.le_refl _) hv0 (jfr_rf _ _) (show 1 ≤ x1 from by omega) (show x1 ≤ 5 from by omega) (show 0 ≤ 0 from by omega) (show 0 ≤ 4095 from by omega) (show 0 ≤ 0 from by omega) (show 0 ≤ 5 from by omega)
abbrev jQ_X5_weigh (x1 : Int) (a0 b0 : Nat → Nat → Int) : List jxV → (Nat → Nat → Int) → (Nat → Nat → Int) → Prop := rI (fun r a b => (a0 = a) ∧ (b0 = b))
theorem cp_X5_weigh_29 (E : jxE) (d : Nat) (hd : Nat.ble 3 (d + 1) = true) (x1 : Int) (a0 b0 : Nat → Nat → Int) (hv0 : iv a0) (hp0 : 0 ≤ x1) (hp1 : x1 ≤ 4095) : ∀ n : Nat, (∀ (y2 y3 y4 y5 y6 : Int), ((y6 * 1) + 0).toNat ≤ n → 0 ≤ y2 → y2 ≤ 4095 → 0 ≤ y3 → y3 ≤ 4095 → 1 ≤ y6 → y6 ≤ 4095 → jt (jxX E d 91 79 [some (.inr (.inr (.inl 90))), none, some (.inl y2), some (.inl y3), some (.inl y4), some (.inl y5), some (.inl y6)] [] (jxSH, a0, b0)) (jQ_X5_weigh x1 a0 b0)) ∧ (∀ (y2 y3 y4 y5 y6 : Int), ((y6 * 1) + 0).toNat ≤ n → 0 ≤ y2 → y2 ≤ 4095 → 0 ≤ y3 → y3 ≤ 4095 → 0 ≤ y6 → y6 ≤ 4095 → jt (jxX E d 91 29 [some (.inr (.inr (.inl 90))), none, some (.inl y2), some (.inl y3), some (.inl y4), some (.inl y5), some (.inl y6)] [] (jxSH, a0, b0)) (jQ_X5_weigh x1 a0 b0)) := by
  refine jx_ind fun n ih => ?_
  have ih79 : ∀ (y2 y3 y4 y5 y6 : Int), ((y6 * 1) + 0).toNat < n → 0 ≤ y2 → y2 ≤ 4095 → 0 ≤ y3 → y3 ≤ 4095 → 1 ≤ y6 → y6 ≤ 4095 → jt (jxX E d 91 79 [some (.inr (.inr (.inl 90))), none, some (.inl y2), some (.inl y3), some (.inl y4), some (.inl y5), some (.inl y6)] [] (jxSH, a0, b0)) (jQ_X5_weigh x1 a0 b0) := fun y2 y3 y4 y5 y6 hlt i0 i1 i2 i3 i4 i5 => (ih _ hlt).1 y2 y3 y4 y5 y6 (Nat.le_refl _) i0 i1 i2 i3 i4 i5
  have ih29 : ∀ (y2 y3 y4 y5 y6 : Int), ((y6 * 1) + 0).toNat < n → 0 ≤ y2 → y2 ≤ 4095 → 0 ≤ y3 → y3 ≤ 4095 → 0 ≤ y6 → y6 ≤ 4095 → jt (jxX E d 91 29 [some (.inr (.inr (.inl 90))), none, some (.inl y2), some (.inl y3), some (.inl y4), some (.inl y5), some (.inl y6)] [] (jxSH, a0, b0)) (jQ_X5_weigh x1 a0 b0) := fun y2 y3 y4 y5 y6 hlt i0 i1 i2 i3 i4 i5 => (ih _ hlt).2 y2 y3 y4 y5 y6 (Nat.le_refl _) i0 i1 i2 i3 i4 i5
  have hc79 : ∀ (y2 y3 y4 y5 y6 : Int), ((y6 * 1) + 0).toNat ≤ n → 0 ≤ y2 → y2 ≤ 4095 → 0 ≤ y3 → y3 ≤ 4095 → 1 ≤ y6 → y6 ≤ 4095 → jt (jxX E d 91 79 [some (.inr (.inr (.inl 90))), none, some (.inl y2), some (.inl y3), some (.inl y4), some (.inl y5), some (.inl y6)] [] (jxSH, a0, b0)) (jQ_X5_weigh x1 a0 b0) := by
    intro y2 y3 y4 y5 y6 hm hi0 hi1 hi2 hi3 hi4 hi5
    refine jt_eq (bq_X5_weigh_79 E d y2 y3 y4 y5 y6 a0 b0) ?_
    have h1735_ : jxw (y6 - 1) = y6 - 1 := jxw_id (by omega) (by omega)
    have h1736_ := jxand_b (jxw (y6 - 1)) y3
    exact ih29 y2 y3 y4 y5 (jxand (jxw (y6 - 1)) y3) (show (((jxand (jxw (y6 - 1)) y3) * 1) + 0).toNat < n from by omega) (show 0 ≤ y2 from by omega) (show y2 ≤ 4095 from by omega) (show 0 ≤ y3 from by omega) (show y3 ≤ 4095 from by omega) (show 0 ≤ jxand (jxw (y6 - 1)) y3 from by omega) (show jxand (jxw (y6 - 1)) y3 ≤ 4095 from by omega)
  have hc29 : ∀ (y2 y3 y4 y5 y6 : Int), ((y6 * 1) + 0).toNat ≤ n → 0 ≤ y2 → y2 ≤ 4095 → 0 ≤ y3 → y3 ≤ 4095 → 0 ≤ y6 → y6 ≤ 4095 → jt (jxX E d 91 29 [some (.inr (.inr (.inl 90))), none, some (.inl y2), some (.inl y3), some (.inl y4), some (.inl y5), some (.inl y6)] [] (jxSH, a0, b0)) (jQ_X5_weigh x1 a0 b0) := by
    intro y2 y3 y4 y5 y6 hm hi0 hi1 hi2 hi3 hi4 hi5
    refine jt_eq (bq_X5_weigh_29 E d y2 y3 y4 y5 y6 a0 b0) ?_
    refine jt_ite (fun c1737_ => ?_) (fun c1737_ => ?_)
    ·
      refine jt_ite (fun c1738_ => ?_) (fun c1738_ => ?_)
      ·
        refine jt_eI (eq_X5_isRingSet E d (jd_le hd rfl) (jxor y2 y6) a0 b0) ?_
        have h1739_ := jxor_b y2 y6
        have h1740_ := f_X5_isRingSet_bool a0 b0 (jxor y2 y6)
        refine jt_ite (fun c1741_ => ?_) (fun c1741_ => ?_)
        ·
          exact hc79 y2 y3 y4 y5 y6 (show ((y6 * 1) + 0).toNat ≤ n from by omega) (show 0 ≤ y2 from by omega) (show y2 ≤ 4095 from by omega) (show 0 ≤ y3 from by omega) (show y3 ≤ 4095 from by omega) (show 1 ≤ y6 from by omega) (show y6 ≤ 4095 from by omega)
        ·
          have h1742_ := jxxor_b y3 y6
          refine jt_grd (by omega) ?_
          refine jt_eI (eq_J6_bitCount_0f7a4 E d (jd_le hd rfl) y6 a0 b0) ?_
          refine jt_eI (eq_X5_worth E d (jd_le hd rfl) (jxw (1 + (f_J6_bitCount_0f7a4 a0 b0 y6))) a0 b0) ?_
          refine jt_eI (eq_J9_max_7cf53 E d (jd_le hd rfl) y5 (jxw ((a0 95 ((jxxor y3 y6).toNat)) + (f_X5_worth a0 b0 (jxw (1 + (f_J6_bitCount_0f7a4 a0 b0 y6)))))) a0 b0) ?_
          exact hc79 y2 y3 y4 (f_J9_max_7cf53 a0 b0 y5 (jxw ((a0 95 ((jxxor y3 y6).toNat)) + (f_X5_worth a0 b0 (jxw (1 + (f_J6_bitCount_0f7a4 a0 b0 y6))))))) y6 (show ((y6 * 1) + 0).toNat ≤ n from by omega) (show 0 ≤ y2 from by omega) (show y2 ≤ 4095 from by omega) (show 0 ≤ y3 from by omega) (show y3 ≤ 4095 from by omega) (show 1 ≤ y6 from by omega) (show y6 ≤ 4095 from by omega)
      ·
        exact jt_rI ⟨rfl, rfl⟩
    ·
      exact jt_rI ⟨rfl, rfl⟩
  exact ⟨hc79, hc29⟩
theorem cp_X5_weigh_26 (E : jxE) (d : Nat) (hd : Nat.ble 3 (d + 1) = true) (x1 : Int) (a0 b0 : Nat → Nat → Int) (hv0 : iv a0) (hp0 : 0 ≤ x1) (hp1 : x1 ≤ 4095) : ∀ (y2 y3 y4 y5 : Int), 0 ≤ y2 → y2 ≤ 4095 → 0 ≤ y3 → y3 ≤ 4095 → jt (jxX E d 91 26 [some (.inr (.inr (.inl 90))), none, some (.inl y2), some (.inl y3), some (.inl y4), some (.inl y5), none] [] (jxSH, a0, b0)) (jQ_X5_weigh x1 a0 b0) := by
  intro y2 y3 y4 y5 hi0 hi1 hi2 hi3
  refine jt_eq (bq_X5_weigh_26 E d y2 y3 y4 y5 a0 b0) ?_
  exact (cp_X5_weigh_29 E d hd x1 a0 b0 hv0 hp0 hp1 _).2 y2 y3 y4 y5 y3 (Nat.le_refl _) (show 0 ≤ y2 from by omega) (show y2 ≤ 4095 from by omega) (show 0 ≤ y3 from by omega) (show y3 ≤ 4095 from by omega) (show 0 ≤ y3 from by omega) (show y3 ≤ 4095 from by omega)
theorem sp_X5_weigh (E : jxE) (d : Nat) (hd : Nat.ble 3 d = true) (x1 : Int) (a0 b0 : Nat → Nat → Int) (hv0 : iv a0) (hp0 : 0 ≤ x1) (hp1 : x1 ≤ 4095) : jt (jxC E d 91 [.inr (.inr (.inl 90)), .inl x1] (jxSH, a0, b0)) (jQ_X5_weigh x1 a0 b0) := by
  obtain ⟨d, rfl⟩ := jd_succ hd
  refine jt_eq (bq_X5_weigh E d x1 a0 b0) ?_
  refine jt_eI (eq_J6_bitCount_0f7a4 E d (jd_le hd rfl) x1 a0 b0) ?_
  refine jt_eI (eq_X5_mostWorth E d (jd_le hd rfl) (f_J6_bitCount_0f7a4 a0 b0 x1) a0 b0) ?_
  have h1743_ : jxw (-x1) = -x1 := jxw_id (by omega) (by omega)
  have h1744_ := jxand_b x1 (jxw (-x1))
  have h1745_ := jxxor_b x1 (jxand x1 (jxw (-x1)))
  refine jt_grd (by omega) ?_
  exact cp_X5_weigh_26 E d hd x1 a0 b0 hv0 hp0 hp1 (jxand x1 (jxw (-x1))) (jxxor x1 (jxand x1 (jxw (-x1)))) (f_X5_mostWorth a0 b0 (f_J6_bitCount_0f7a4 a0 b0 x1)) (a0 95 ((jxxor x1 (jxand x1 (jxw (-x1)))).toNat)) (show 0 ≤ jxand x1 (jxw (-x1)) from by omega) (show jxand x1 (jxw (-x1)) ≤ 4095 from by omega) (show 0 ≤ jxxor x1 (jxand x1 (jxw (-x1))) from by omega) (show jxxor x1 (jxand x1 (jxw (-x1))) ≤ 4095 from by omega)
def jW_X5_weighSets : List (Nat × Nat) := [(95, 9999)]
abbrev jQ_X5_weighSets (a0 b0 : Nat → Nat → Int) : List jxV → (Nat → Nat → Int) → (Nat → Nat → Int) → Prop := rV (fun a b => (iv a) ∧ (jfr jW_X5_weighSets a0 a) ∧ (b0 = b))
theorem cp_X5_weighSets_11 (E : jxE) (d : Nat) (hd : Nat.ble 4 (d + 1) = true) (a0 b0 : Nat → Nat → Int) (hv0 : iv a0) : ∀ n : Nat, (∀ (y1 y2 : Int) (a : Nat → Nat → Int), (((4096 - y2) * 1) + 0).toNat ≤ n → iv a → jfr jW_X5_weighSets a0 a → 1 ≤ y1 → y1 ≤ 4095 → 1 ≤ y2 → y2 ≤ 4095 → jt (jxX E d 90 46 [some (.inr (.inr (.inl 90))), some (.inl y1), some (.inl y2)] [] (jxSH, a, b0)) (jQ_X5_weighSets a0 b0)) ∧ (∀ (y1 y2 : Int) (a : Nat → Nat → Int), (((4096 - y2) * 1) + 0).toNat ≤ n → iv a → jfr jW_X5_weighSets a0 a → 0 ≤ y1 → y1 ≤ 4095 → 1 ≤ y2 → y2 ≤ 4096 → jt (jxX E d 90 11 [some (.inr (.inr (.inl 90))), some (.inl y1), some (.inl y2)] [] (jxSH, a, b0)) (jQ_X5_weighSets a0 b0)) := by
  refine jx_ind fun n ih => ?_
  have ih46 : ∀ (y1 y2 : Int) (a : Nat → Nat → Int), (((4096 - y2) * 1) + 0).toNat < n → iv a → jfr jW_X5_weighSets a0 a → 1 ≤ y1 → y1 ≤ 4095 → 1 ≤ y2 → y2 ≤ 4095 → jt (jxX E d 90 46 [some (.inr (.inr (.inl 90))), some (.inl y1), some (.inl y2)] [] (jxSH, a, b0)) (jQ_X5_weighSets a0 b0) := fun y1 y2 a hlt i0 i1 i2 i3 i4 i5 => (ih _ hlt).1 y1 y2 a (Nat.le_refl _) i0 i1 i2 i3 i4 i5
  have ih11 : ∀ (y1 y2 : Int) (a : Nat → Nat → Int), (((4096 - y2) * 1) + 0).toNat < n → iv a → jfr jW_X5_weighSets a0 a → 0 ≤ y1 → y1 ≤ 4095 → 1 ≤ y2 → y2 ≤ 4096 → jt (jxX E d 90 11 [some (.inr (.inr (.inl 90))), some (.inl y1), some (.inl y2)] [] (jxSH, a, b0)) (jQ_X5_weighSets a0 b0) := fun y1 y2 a hlt i0 i1 i2 i3 i4 i5 => (ih _ hlt).2 y1 y2 a (Nat.le_refl _) i0 i1 i2 i3 i4 i5
  have hc46 : ∀ (y1 y2 : Int) (a : Nat → Nat → Int), (((4096 - y2) * 1) + 0).toNat ≤ n → iv a → jfr jW_X5_weighSets a0 a → 1 ≤ y1 → y1 ≤ 4095 → 1 ≤ y2 → y2 ≤ 4095 → jt (jxX E d 90 46 [some (.inr (.inr (.inl 90))), some (.inl y1), some (.inl y2)] [] (jxSH, a, b0)) (jQ_X5_weighSets a0 b0) := by
    intro y1 y2 a hm hv hf hi0 hi1 hi2 hi3
    refine jt_eq (bq_X5_weighSets_46 E d y1 y2 a b0) ?_
    have h1746_ : jxw (y2 + 1) = y2 + 1 := jxw_id (by omega) (by omega)
    exact ih11 y1 (jxw (y2 + 1)) a (show (((4096 - (jxw (y2 + 1))) * 1) + 0).toNat < n from by omega) hv hf (show 0 ≤ y1 from by omega) (show y1 ≤ 4095 from by omega) (show 1 ≤ jxw (y2 + 1) from by omega) (show jxw (y2 + 1) ≤ 4096 from by omega)
  have hc11 : ∀ (y1 y2 : Int) (a : Nat → Nat → Int), (((4096 - y2) * 1) + 0).toNat ≤ n → iv a → jfr jW_X5_weighSets a0 a → 0 ≤ y1 → y1 ≤ 4095 → 1 ≤ y2 → y2 ≤ 4096 → jt (jxX E d 90 11 [some (.inr (.inr (.inl 90))), some (.inl y1), some (.inl y2)] [] (jxSH, a, b0)) (jQ_X5_weighSets a0 b0) := by
    intro y1 y2 a hm hv hf hi0 hi1 hi2 hi3
    refine jt_eq (bq_X5_weighSets_11 E d y1 y2 a b0) ?_
    refine jt_ite (fun c1747_ => ?_) (fun c1747_ => ?_)
    ·
      have h1748_ := iv_get hv (k := 90) (j := 8) (l := 0) (u := 4095) rfl
      have h1749_ : a 90 8 = a0 90 8 := hf 90 8 rfl
      have h1750_ := iv_get hv0 (k := 90) (j := 8) (l := 0) (u := 4095) rfl
      have h1751_ : jxw (y1 - (a 90 8)) = y1 - (a 90 8) := jxw_id (by omega) (by omega)
      have h1752_ := jxand_b (jxw (y1 - (a 90 8))) (a 90 8)
      refine jt_ite (fun c1753_ => ?_) (fun c1753_ => ?_)
      ·
        exact jt_rV ⟨hv, hf, rfl⟩
      ·
        refine jt_bI (sp_X5_weigh E d (jd_le hd rfl) (jxand (jxw (y1 - (a 90 8))) (a 90 8)) a b0 hv (show 0 ≤ jxand (jxw (y1 - (a 90 8))) (a 90 8) from by omega) (show jxand (jxw (y1 - (a 90 8))) (a 90 8) ≤ 4095 from by omega)) (fun r1754_ a1754_ b1754_ h1754_ => ?_)
        obtain ⟨rfl, rfl⟩ := h1754_
        refine jt_grd (by omega) ?_
        have hv1755_ : iv (jxu a 95 ((jxand (jxw (y1 - (a 90 8))) (a 90 8)).toNat) r1754_) := iv_putf hv rfl
        have hf1756_ : jfr jW_X5_weighSets a0 (jxu a 95 ((jxand (jxw (y1 - (a 90 8))) (a 90 8)).toNat) r1754_) := jfr_put hf rfl
        exact hc46 (jxand (jxw (y1 - (a 90 8))) (a 90 8)) y2 (jxu a 95 ((jxand (jxw (y1 - (a 90 8))) (a 90 8)).toNat) r1754_) (show (((4096 - y2) * 1) + 0).toNat ≤ n from by omega) hv1755_ hf1756_ (show 1 ≤ jxand (jxw (y1 - (a 90 8))) (a 90 8) from by omega) (show jxand (jxw (y1 - (a 90 8))) (a 90 8) ≤ 4095 from by omega) (show 1 ≤ y2 from by omega) (show y2 ≤ 4095 from by omega)
    ·
      exact jt_rV ⟨hv, hf, rfl⟩
  exact ⟨hc46, hc11⟩
theorem sp_X5_weighSets (E : jxE) (d : Nat) (hd : Nat.ble 4 d = true) (a0 b0 : Nat → Nat → Int) (hv0 : iv a0) : jt (jxC E d 90 [.inr (.inr (.inl 90))] (jxSH, a0, b0)) (jQ_X5_weighSets a0 b0) := by
  obtain ⟨d, rfl⟩ := jd_succ hd
  refine jt_eq (bq_X5_weighSets E d a0 b0) ?_
  have hv1757_ : iv (jxu a0 95 0 0) := iv_putf hv0 rfl
  have hf1758_ : jfr jW_X5_weighSets a0 (jxu a0 95 0 0) := jfr_put (jfr_rf _ _) rfl
  exact (cp_X5_weighSets_11 E d hd a0 b0 hv0 _).2 0 1 (jxu a0 95 0 0) (Nat.le_refl _) hv1757_ hf1758_ (show 0 ≤ 0 from by omega) (show 0 ≤ 4095 from by omega) (show 1 ≤ 1 from by omega) (show 1 ≤ 4096 from by omega)
def jW_X6_takeRuleWord_r2 : List (Nat × Nat) := [(2, 2)]
abbrev jQ_X6_takeRuleWord_r2 (a0 b0 : Nat → Nat → Int) : List jxV → (Nat → Nat → Int) → (Nat → Nat → Int) → Prop := rI (fun r a b => (iv a) ∧ (jfr jW_X6_takeRuleWord_r2 a0 a) ∧ (b0 = b) ∧ (r = WI (a0 3) (a0 2 1).toNat (a0 2 2).toNat) ∧ (0 ≤ r → a 2 2 = (SK (a0 3) (a0 2 1).toNat ((a0 2 2).toNat + wdn (10 + r.toNat)) : Int)) ∧ (r < 0 → a 2 2 = a0 2 2))
theorem cp_X6_takeRuleWord_r2_42 (E : jxE) (d : Nat) (hd : Nat.ble 6 (d + 1) = true) (a0 b0 : Nat → Nat → Int) (hv0 : iv a0) (hp0 : a0 2 3 = 0) : ∀ (a : Nat → Nat → Int), iv a → jfr jW_X6_takeRuleWord_r2 a0 a → (TW (a0 3) (a0 2 1).toNat (a0 2 2).toNat 13) → (a 2 2 = (SK (a0 3) (a0 2 1).toNat ((a0 2 2).toNat + wdn 13) : Int)) → jt (jxX E d 106 42 [none] [] (jxSH, a, b0)) (jQ_X6_takeRuleWord_r2 a0 b0) := by
  intro a hv hf htw hat
  refine jt_eq (bq_X6_takeRuleWord_r2_42 E d a b0) ?_
  have h3 : a 3 = a0 3 := funext fun j => hf 3 j rfl
  have h21 := hf 2 1 rfl
  exact jt_rI ⟨hv, hf, rfl, (WI_3 htw).symm, (fun _ => hat), (fun h => absurd h (by decide))⟩
theorem cp_X6_takeRuleWord_r2_44 (E : jxE) (d : Nat) (hd : Nat.ble 6 (d + 1) = true) (a0 b0 : Nat → Nat → Int) (hv0 : iv a0) (hp0 : a0 2 3 = 0) : ∀ (a : Nat → Nat → Int), iv a → jfr jW_X6_takeRuleWord_r2 a0 a → (¬ TW (a0 3) (a0 2 1).toNat (a0 2 2).toNat 10 ∧ ¬ TW (a0 3) (a0 2 1).toNat (a0 2 2).toNat 11 ∧ ¬ TW (a0 3) (a0 2 1).toNat (a0 2 2).toNat 12 ∧ ¬ TW (a0 3) (a0 2 1).toNat (a0 2 2).toNat 13) → a 2 2 = a0 2 2 → a 2 3 = 0 → jt (jxX E d 106 44 [some (.inr (.inr (.inl 2)))] [] (jxSH, a, b0)) (jQ_X6_takeRuleWord_r2 a0 b0) := by
  intro a hv hf hn hi1 hi2
  refine jt_eq (bq_X6_takeRuleWord_r2_44 E d a b0) ?_
  have h1759_ := iv_get hv (k := 2) (j := 2) (l := 0) (u := 200) rfl
  have h1760_ := iv_get hv0 (k := 2) (j := 2) (l := 0) (u := 200) rfl
  have h1761_ : a 2 3 = a0 2 3 := hf 2 3 rfl
  have h3 : a 3 = a0 3 := funext fun j => hf 3 j rfl
  have h21 := hf 2 1 rfl
  refine jt_bI (sp_X8_takesWord_r1014 E d (jd_le hd rfl) a b0 hv) (fun r1762_ a1762_ b1762_ h1762_ => ?_)
  obtain ⟨hv1762_, hf1762_, rfl, hq1762_0, hq1762_1, hq1762_2, hq1762_3, hq1762_4⟩ := h1762_
  have h1763_ := iv_get hv (k := 2) (j := 1) (l := 0) (u := 200) rfl
  have h1764_ : a 2 1 = a0 2 1 := hf 2 1 rfl
  have h1765_ := iv_get hv0 (k := 2) (j := 1) (l := 0) (u := 200) rfl
  have h1766_ := iv_get hv1762_ (k := 2) (j := 2) (l := 0) (u := 200) rfl
  have hz1762 := hf1762_ 2 3 rfl
  refine jt_ite (fun c1767_ => ?_) (fun c1767_ => ?_)
  ·
    have hf1768_ : jfr jW_X6_takeRuleWord_r2 a0 a1762_ := jfr_tr hf hf1762_ rfl
    exact jt_rI ⟨hv1762_, hf1768_, rfl, (WI_no hn.1 hn.2.1 hn.2.2.1 hn.2.2.2 (by have q := (hq1762_4 (by omega)).resolve_left (fun h => h (by omega)); rw [show a 3 = a0 3 from funext (fun j => hf 3 j rfl), show a 2 1 = a0 2 1 from hf 2 1 rfl, show a 2 2 = a0 2 2 from by omega] at q; exact q)).symm, (fun h => absurd h (by decide)), (fun _ => by omega)⟩
  ·
    have hf1769_ : jfr jW_X6_takeRuleWord_r2 a0 a1762_ := jfr_tr hf hf1762_ rfl
    exact jt_rI ⟨hv1762_, hf1769_, rfl, (by have q := (hq1762_3 (by omega)).2.1; rw [show a 3 = a0 3 from funext (fun j => hf 3 j rfl), show a 2 1 = a0 2 1 from hf 2 1 rfl, show a 2 2 = a0 2 2 from by omega] at q; exact (WI_4 q).symm), (fun _ => by have q := (hq1762_3 (by omega)).2.2; rw [show a 3 = a0 3 from funext (fun j => hf 3 j rfl), show a 2 1 = a0 2 1 from hf 2 1 rfl, show a 2 2 = a0 2 2 from by omega] at q; exact q), (fun h => absurd h (by decide))⟩
theorem sp_X6_takeRuleWord_r2 (E : jxE) (d : Nat) (hd : Nat.ble 6 d = true) (a0 b0 : Nat → Nat → Int) (hv0 : iv a0) (hp0 : a0 2 3 = 0) : jt (jxC E d 106 [.inr (.inr (.inl 2))] (jxSH, a0, b0)) (jQ_X6_takeRuleWord_r2 a0 b0) := by
  obtain ⟨d, rfl⟩ := jd_succ hd
  refine jt_eq (bq_X6_takeRuleWord_r2 E d a0 b0) ?_
  refine jt_bI (sp_X8_takesWord_r1010 E d (jd_le hd rfl) a0 b0 hv0) (fun r1770_ a1770_ b1770_ h1770_ => ?_)
  obtain ⟨hv1770_, hf1770_, rfl, hq1770_0, hq1770_1, hq1770_2, hq1770_3, hq1770_4⟩ := h1770_
  have h1771_ := iv_get hv0 (k := 2) (j := 1) (l := 0) (u := 200) rfl
  have h1772_ := iv_get hv0 (k := 2) (j := 2) (l := 0) (u := 200) rfl
  have h1773_ := iv_get hv1770_ (k := 2) (j := 2) (l := 0) (u := 200) rfl
  have hz1770 := hf1770_ 2 3 rfl
  refine jt_ite (fun c1774_ => ?_) (fun c1774_ => ?_)
  ·
    refine jt_bI (sp_X8_takesWord_r1011 E d (jd_le hd rfl) a1770_ b0 hv1770_) (fun r1775_ a1775_ b1775_ h1775_ => ?_)
    obtain ⟨hv1775_, hf1775_, rfl, hq1775_0, hq1775_1, hq1775_2, hq1775_3, hq1775_4⟩ := h1775_
    have h1776_ : a1770_ 2 3 = a0 2 3 := hf1770_ 2 3 rfl
    have h1777_ := iv_get hv1770_ (k := 2) (j := 1) (l := 0) (u := 200) rfl
    have h1778_ : a1770_ 2 1 = a0 2 1 := hf1770_ 2 1 rfl
    have h1779_ := iv_get hv1775_ (k := 2) (j := 2) (l := 0) (u := 200) rfl
    have hz1775 := hf1775_ 2 3 rfl
    refine jt_ite (fun c1780_ => ?_) (fun c1780_ => ?_)
    ·
      refine jt_bI (sp_X8_takesWord_r1012 E d (jd_le hd rfl) a1775_ b0 hv1775_) (fun r1781_ a1781_ b1781_ h1781_ => ?_)
      obtain ⟨hv1781_, hf1781_, rfl, hq1781_0, hq1781_1, hq1781_2, hq1781_3, hq1781_4⟩ := h1781_
      have h1782_ : a1775_ 2 3 = a1770_ 2 3 := hf1775_ 2 3 rfl
      have h1783_ := iv_get hv1775_ (k := 2) (j := 1) (l := 0) (u := 200) rfl
      have h1784_ : a1775_ 2 1 = a1770_ 2 1 := hf1775_ 2 1 rfl
      have h1785_ := iv_get hv1781_ (k := 2) (j := 2) (l := 0) (u := 200) rfl
      have hz1781 := hf1781_ 2 3 rfl
      refine jt_ite (fun c1786_ => ?_) (fun c1786_ => ?_)
      ·
        refine jt_bI (sp_X8_takesWord_r1013 E d (jd_le hd rfl) a1781_ b0 hv1781_) (fun r1787_ a1787_ b1787_ h1787_ => ?_)
        obtain ⟨hv1787_, hf1787_, rfl, hq1787_0, hq1787_1, hq1787_2, hq1787_3, hq1787_4⟩ := h1787_
        have h1788_ : a1781_ 2 3 = a1775_ 2 3 := hf1781_ 2 3 rfl
        have h1789_ := iv_get hv1781_ (k := 2) (j := 1) (l := 0) (u := 200) rfl
        have h1790_ : a1781_ 2 1 = a1775_ 2 1 := hf1781_ 2 1 rfl
        have h1791_ := iv_get hv1787_ (k := 2) (j := 2) (l := 0) (u := 200) rfl
        have hz1787 := hf1787_ 2 3 rfl
        refine jt_ite (fun c1792_ => ?_) (fun c1792_ => ?_)
        ·
          have hf1793_ : jfr jW_X6_takeRuleWord_r2 a0 a1770_ := jfr_tr (jfr_rf _ _) hf1770_ rfl
          have hf1794_ : jfr jW_X6_takeRuleWord_r2 a0 a1775_ := jfr_tr hf1793_ hf1775_ rfl
          have hf1795_ : jfr jW_X6_takeRuleWord_r2 a0 a1781_ := jfr_tr hf1794_ hf1781_ rfl
          have hf1796_ : jfr jW_X6_takeRuleWord_r2 a0 a1787_ := jfr_tr hf1795_ hf1787_ rfl
          have h1797_ : a1787_ 2 3 = a1781_ 2 3 := hf1787_ 2 3 rfl
          exact cp_X6_takeRuleWord_r2_44 E d hd a0 b0 hv0 hp0 a1787_ hv1787_ hf1796_ ⟨(by have q := (hq1770_4 (by omega)).resolve_left (fun h => h (by omega)); exact q), (by have q := (hq1775_4 (by omega)).resolve_left (fun h => h (by omega)); rw [show a1770_ 3 = a0 3 from funext (fun j => hf1793_ 3 j rfl), show a1770_ 2 1 = a0 2 1 from hf1793_ 2 1 rfl, show a1770_ 2 2 = a0 2 2 from by omega] at q; exact q), (by have q := (hq1781_4 (by omega)).resolve_left (fun h => h (by omega)); rw [show a1775_ 3 = a0 3 from funext (fun j => hf1794_ 3 j rfl), show a1775_ 2 1 = a0 2 1 from hf1794_ 2 1 rfl, show a1775_ 2 2 = a0 2 2 from by omega] at q; exact q), (by have q := (hq1787_4 (by omega)).resolve_left (fun h => h (by omega)); rw [show a1781_ 3 = a0 3 from funext (fun j => hf1795_ 3 j rfl), show a1781_ 2 1 = a0 2 1 from hf1795_ 2 1 rfl, show a1781_ 2 2 = a0 2 2 from by omega] at q; exact q)⟩ (show a1787_ 2 2 = a0 2 2 from by omega) (show a1787_ 2 3 = 0 from by omega)
        ·
          have hf1798_ : jfr jW_X6_takeRuleWord_r2 a0 a1770_ := jfr_tr (jfr_rf _ _) hf1770_ rfl
          have hf1799_ : jfr jW_X6_takeRuleWord_r2 a0 a1775_ := jfr_tr hf1798_ hf1775_ rfl
          have hf1800_ : jfr jW_X6_takeRuleWord_r2 a0 a1781_ := jfr_tr hf1799_ hf1781_ rfl
          have hf1801_ : jfr jW_X6_takeRuleWord_r2 a0 a1787_ := jfr_tr hf1800_ hf1787_ rfl
          exact cp_X6_takeRuleWord_r2_42 E d hd a0 b0 hv0 hp0 a1787_ hv1787_ hf1801_ (by have q := (hq1787_3 (by omega)).2.1; rw [show a1781_ 3 = a0 3 from funext (fun j => hf1800_ 3 j rfl), show a1781_ 2 1 = a0 2 1 from hf1800_ 2 1 rfl, show a1781_ 2 2 = a0 2 2 from by omega] at q; exact q) (by have q := (hq1787_3 (by omega)).2.2; rw [show a1781_ 3 = a0 3 from funext (fun j => hf1800_ 3 j rfl), show a1781_ 2 1 = a0 2 1 from hf1800_ 2 1 rfl, show a1781_ 2 2 = a0 2 2 from by omega] at q; exact q)
      ·
        have hf1802_ : jfr jW_X6_takeRuleWord_r2 a0 a1770_ := jfr_tr (jfr_rf _ _) hf1770_ rfl
        have hf1803_ : jfr jW_X6_takeRuleWord_r2 a0 a1775_ := jfr_tr hf1802_ hf1775_ rfl
        have hf1804_ : jfr jW_X6_takeRuleWord_r2 a0 a1781_ := jfr_tr hf1803_ hf1781_ rfl
        exact jt_rI ⟨hv1781_, hf1804_, rfl, (by have q := (hq1781_3 (by omega)).2.1; rw [show a1775_ 3 = a0 3 from funext (fun j => hf1803_ 3 j rfl), show a1775_ 2 1 = a0 2 1 from hf1803_ 2 1 rfl, show a1775_ 2 2 = a0 2 2 from by omega] at q; exact (WI_2 q).symm), (fun _ => by have q := (hq1781_3 (by omega)).2.2; rw [show a1775_ 3 = a0 3 from funext (fun j => hf1803_ 3 j rfl), show a1775_ 2 1 = a0 2 1 from hf1803_ 2 1 rfl, show a1775_ 2 2 = a0 2 2 from by omega] at q; exact q), (fun h => absurd h (by decide))⟩
    ·
      have hf1805_ : jfr jW_X6_takeRuleWord_r2 a0 a1770_ := jfr_tr (jfr_rf _ _) hf1770_ rfl
      have hf1806_ : jfr jW_X6_takeRuleWord_r2 a0 a1775_ := jfr_tr hf1805_ hf1775_ rfl
      exact jt_rI ⟨hv1775_, hf1806_, rfl, (by have q := (hq1775_3 (by omega)).2.1; rw [show a1770_ 3 = a0 3 from funext (fun j => hf1805_ 3 j rfl), show a1770_ 2 1 = a0 2 1 from hf1805_ 2 1 rfl, show a1770_ 2 2 = a0 2 2 from by omega] at q; exact (WI_1 q).symm), (fun _ => by have q := (hq1775_3 (by omega)).2.2; rw [show a1770_ 3 = a0 3 from funext (fun j => hf1805_ 3 j rfl), show a1770_ 2 1 = a0 2 1 from hf1805_ 2 1 rfl, show a1770_ 2 2 = a0 2 2 from by omega] at q; exact q), (fun h => absurd h (by decide))⟩
  ·
    have hf1807_ : jfr jW_X6_takeRuleWord_r2 a0 a1770_ := jfr_tr (jfr_rf _ _) hf1770_ rfl
    exact jt_rI ⟨hv1770_, hf1807_, rfl, (by have q := (hq1770_3 (by omega)).2.1; exact (WI_0 q).symm), (fun _ => by have q := (hq1770_3 (by omega)).2.2; exact q), (fun h => absurd h (by decide))⟩
def jW_X6_readWord_r2 : List (Nat × Nat) := [(2, 2), (2, 3), (55, 2), (57, 9999)]
abbrev jQ_X6_readWord_r2 (a0 b0 : Nat → Nat → Int) : List jxV → (Nat → Nat → Int) → (Nat → Nat → Int) → Prop := rV (fun a b => (iv a) ∧ (jfr jW_X6_readWord_r2 a0 a) ∧ (b0 = b) ∧ (a 2 3 = RWF (a0 3) (a0 2 1).toNat (a0 2 2).toNat (a0 55 2)) ∧ (RWF (a0 3) (a0 2 1).toNat (a0 2 2).toNat (a0 55 2) = 0 → a 2 2 = (RE (a0 3) (a0 2 1).toNat (a0 2 2).toNat : Int) ∧ a 55 2 = jxor (a0 55 2) (jxshl 1 (WI (a0 3) (a0 2 1).toNat (a0 2 2).toNat)) ∧ UP (a0 57) (a 57) (WI (a0 3) (a0 2 1).toNat (a0 2 2).toNat).toNat (NV (a0 3) (a0 2 1).toNat (RQ (a0 3) (a0 2 1).toNat (a0 2 2).toNat))))
theorem cp_X6_readWord_r2_36 (E : jxE) (d : Nat) (hd : Nat.ble 7 (d + 1) = true) (a0 b0 : Nat → Nat → Int) (hv0 : iv a0) (hp0 : a0 2 3 = 0) : ∀ (y2 : Int) (a : Nat → Nat → Int), iv a → jfr jW_X6_readWord_r2 a0 a → 0 ≤ y2 → y2 ≤ 200 → (RWF (a0 3) (a0 2 1).toNat (a0 2 2).toNat (a0 55 2) = 3 + 8 * ((a0 2 2).toNat : Int)) → (y2 = a0 2 2) → a 2 3 = 0 → jt (jxX E d 105 36 [none, some (.inr (.inr (.inl 2))), some (.inl y2), none] [] (jxSH, a, b0)) (jQ_X6_readWord_r2 a0 b0) := by
  intro y2 a hv hf hi0 hi1 hrw hy2 hi4
  refine jt_eq (bq_X6_readWord_r2_36 E d y2 a b0) ?_
  have h3 : a 3 = a0 3 := funext fun j => hf 3 j rfl
  have h21 := hf 2 1 rfl
  refine jt_bV (sp_X8_noteFault E d (jd_le hd rfl) y2 2 a b0 hv) (fun a1808_ b1808_ h1808_ => ?_)
  obtain ⟨hv1808_, hf1808_, rfl, hq1808_0, hq1808_1⟩ := h1808_
  have hf1809_ : jfr jW_X6_readWord_r2 a0 a1808_ := jfr_tr hf hf1808_ rfl
  exact jt_rV ⟨hv1808_, hf1809_, rfl, (by rw [hrw]; omega), (fun h => absurd h (by rw [hrw]; omega))⟩
theorem cp_X6_readWord_r2_75 (E : jxE) (d : Nat) (hd : Nat.ble 7 (d + 1) = true) (a0 b0 : Nat → Nat → Int) (hv0 : iv a0) (hp0 : a0 2 3 = 0) : ∀ (a : Nat → Nat → Int), iv a → jfr jW_X6_readWord_r2 a0 a → (a 2 3 = RWF (a0 3) (a0 2 1).toNat (a0 2 2).toNat (a0 55 2)) → (a 2 2 = (RE (a0 3) (a0 2 1).toNat (a0 2 2).toNat : Int)) → (a 55 2 = jxor (a0 55 2) (jxshl 1 (WI (a0 3) (a0 2 1).toNat (a0 2 2).toNat))) → (UP (a0 57) (a 57) (WI (a0 3) (a0 2 1).toNat (a0 2 2).toNat).toNat (NV (a0 3) (a0 2 1).toNat (RQ (a0 3) (a0 2 1).toNat (a0 2 2).toNat))) → jt (jxX E d 105 75 [none, none, none, none] [] (jxSH, a, b0)) (jQ_X6_readWord_r2 a0 b0) := by
  intro a hv hf hcf hat hmk hu
  refine jt_eq (bq_X6_readWord_r2_75 E d a b0) ?_
  have h3 : a 3 = a0 3 := funext fun j => hf 3 j rfl
  have h21 := hf 2 1 rfl
  exact jt_rV ⟨hv, hf, rfl, hcf, (fun _ => ⟨hat, hmk, hu⟩)⟩
theorem cp_X6_readWord_r2_43 (E : jxE) (d : Nat) (hd : Nat.ble 7 (d + 1) = true) (a0 b0 : Nat → Nat → Int) (hv0 : iv a0) (hp0 : a0 2 3 = 0) : ∀ (y3 : Int) (a : Nat → Nat → Int), iv a → jfr jW_X6_readWord_r2 a0 a → 0 ≤ y3 → y3 ≤ 4 → (y3 = WI (a0 3) (a0 2 1).toNat (a0 2 2).toNat) → 0 ≤ y3 → y3 ≤ 4 → (a 2 2 = (RQ (a0 3) (a0 2 1).toNat (a0 2 2).toNat : Int)) → (¬ jxand (jxshr (a0 55 2) y3) 1 = 1) → a 2 3 = 0 → a 55 2 = a0 55 2 → (∀ j, a 57 j = a0 57 j) → jt (jxX E d 105 43 [some (.inr (.inr (.inl 55))), some (.inr (.inr (.inl 2))), none, some (.inl y3)] [] (jxSH, a, b0)) (jQ_X6_readWord_r2 a0 b0) := by
  intro y3 a hv hf hi0 hi1 hy3 hi3 hi4 hat hnb hi7 hi8 hs57
  refine jt_eq (bq_X6_readWord_r2_43 E d y3 a b0) ?_
  have h3 : a 3 = a0 3 := funext fun j => hf 3 j rfl
  have h21 := hf 2 1 rfl
  have hP : (a 2 2).toNat = RQ (a0 3) (a0 2 1).toNat (a0 2 2).toNat := by rw [hat]; exact Int.toNat_natCast _
  have hlo := RLO_g (w := y3) (by omega) (by omega)
  have hhi := RHI_g (w := y3) (by omega) (by omega)
  refine jt_grd (by omega) ?_
  refine jt_grd (by omega) ?_
  have hv1810_ : iv (jxu a 55 2 (jxor (a 55 2) (jxshl 1 y3))) := iv_putf hv rfl
  refine jt_bI (sp_X8_takeNumber E d (jd_le hd rfl) (([1, 0, 0, 1, 0] : List Int).getD (y3.toNat) 0) (([20, 99, 20, 400, 2] : List Int).getD (y3.toNat) 0) (jxu a 55 2 (jxor (a 55 2) (jxshl 1 y3))) b0 hv1810_) (fun r1811_ a1811_ b1811_ h1811_ => ?_)
  obtain ⟨hv1811_, hf1811_, rfl, hq1811_0, hq1811_1, hq1811_2, hq1811_3⟩ := h1811_
  have h1812_ : (0 ≤ r1811_ ∧ r1811_ ≤ 999) := hq1811_3
  refine jt_grd (by omega) ?_
  have hv1813_ : iv (jxu a1811_ 57 (y3.toNat) r1811_) := iv_putf hv1811_ rfl
  have hf1814_ : jfr jW_X6_readWord_r2 a0 (jxu a 55 2 (jxor (a 55 2) (jxshl 1 y3))) := jfr_put hf rfl
  have hf1815_ : jfr jW_X6_readWord_r2 a0 a1811_ := jfr_tr hf1814_ hf1811_ rfl
  have hf1816_ : jfr jW_X6_readWord_r2 a0 (jxu a1811_ 57 (y3.toNat) r1811_) := jfr_put hf1815_ rfl
  exact cp_X6_readWord_r2_75 E d hd a0 b0 hv0 hp0 (jxu a1811_ 57 (y3.toNat) r1811_) hv1813_ hf1816_ (by have e0 := hq1811_0; have e1 := hq1811_1; have e2 := hq1811_2; have hj : jxu a 55 2 (jxor (a 55 2) (jxshl 1 y3)) 3 = a 3 := rfl; have hj1 : jxu a 55 2 (jxor (a 55 2) (jxshl 1 y3)) 2 1 = a 2 1 := rfl; have hj2 : jxu a 55 2 (jxor (a 55 2) (jxshl 1 y3)) 2 2 = a 2 2 := rfl; have hj3 : jxu a 55 2 (jxor (a 55 2) (jxshl 1 y3)) 2 3 = a 2 3 := rfl; rw [hj, hj1, hj2, h3, h21, hP] at e0 e1 e2; rw [hj3] at e2; rw [if_pos (by omega), hlo, hhi] at e2; rw [RWF_go (by omega) (by rw [← hy3]; exact hnb), ← hy3]; exact e2) (by have e0 := hq1811_0; have e1 := hq1811_1; have e2 := hq1811_2; have hj : jxu a 55 2 (jxor (a 55 2) (jxshl 1 y3)) 3 = a 3 := rfl; have hj1 : jxu a 55 2 (jxor (a 55 2) (jxshl 1 y3)) 2 1 = a 2 1 := rfl; have hj2 : jxu a 55 2 (jxor (a 55 2) (jxshl 1 y3)) 2 2 = a 2 2 := rfl; have hj3 : jxu a 55 2 (jxor (a 55 2) (jxshl 1 y3)) 2 3 = a 2 3 := rfl; rw [hj, hj1, hj2, h3, h21, hP] at e0 e1 e2; rw [hj3] at e2; exact e1) (by show a1811_ 55 2 = _; rw [hf1811_ 55 2 rfl, ← hy3, ← (by omega : a 55 2 = a0 55 2)]; simp [jxu]) (by have e0 := hq1811_0; have e1 := hq1811_1; have e2 := hq1811_2; have hj : jxu a 55 2 (jxor (a 55 2) (jxshl 1 y3)) 3 = a 3 := rfl; have hj1 : jxu a 55 2 (jxor (a 55 2) (jxshl 1 y3)) 2 1 = a 2 1 := rfl; have hj2 : jxu a 55 2 (jxor (a 55 2) (jxshl 1 y3)) 2 2 = a 2 2 := rfl; have hj3 : jxu a 55 2 (jxor (a 55 2) (jxshl 1 y3)) 2 3 = a 2 3 := rfl; rw [hj, hj1, hj2, h3, h21, hP] at e0 e1 e2; rw [hj3] at e2; rw [← hy3, ← e0]; exact UP_put (fun j => (hf1811_ 57 j rfl).trans (hs57 j)))
theorem sp_X6_readWord_r2 (E : jxE) (d : Nat) (hd : Nat.ble 7 d = true) (a0 b0 : Nat → Nat → Int) (hv0 : iv a0) (hp0 : a0 2 3 = 0) : jt (jxC E d 105 [.inr (.inr (.inl 55)), .inr (.inr (.inl 2))] (jxSH, a0, b0)) (jQ_X6_readWord_r2 a0 b0) := by
  obtain ⟨d, rfl⟩ := jd_succ hd
  refine jt_eq (bq_X6_readWord_r2 E d a0 b0) ?_
  refine jt_eI (eq_X8_place E d (jd_le hd rfl) a0 b0) ?_
  refine jt_bI (sp_X6_takeRuleWord_r2 E d (jd_le hd rfl) a0 b0 hv0 (show a0 2 3 = 0 from by omega)) (fun r1817_ a1817_ b1817_ h1817_ => ?_)
  obtain ⟨hv1817_, hf1817_, rfl, hq1817_0, hq1817_1, hq1817_2⟩ := h1817_
  have hws1817 := WI_sp (a0 3) (a0 2 1).toNat (a0 2 2).toNat
  have hwi1817 : r1817_ = WI (a0 3) (a0 2 1).toNat (a0 2 2).toNat := hq1817_0
  have hz1817 := hf1817_ 2 3 rfl
  have h5521817 := hf1817_ 55 2 rfl
  refine jt_ite (fun c1818_ => ?_) (fun c1818_ => ?_)
  ·
    refine jt_bV (sp_X8_noteCannotStand E d (jd_le hd rfl) a1817_ b0 hv1817_) (fun a1819_ b1819_ h1819_ => ?_)
    obtain ⟨hv1819_, hf1819_, rfl, hq1819_0, hq1819_1⟩ := h1819_
    have h1820_ : a1817_ 2 3 = a0 2 3 := hf1817_ 2 3 rfl
    have h1821_ := iv_get hv1817_ (k := 2) (j := 2) (l := 0) (u := 200) rfl
    have hf1822_ : jfr jW_X6_readWord_r2 a0 a1817_ := jfr_tr (jfr_rf _ _) hf1817_ rfl
    have hf1823_ : jfr jW_X6_readWord_r2 a0 a1819_ := jfr_tr hf1822_ hf1819_ rfl
    exact jt_rV ⟨hv1819_, hf1823_, rfl, (by first | (rw [RWF_no (by omega)]; omega) | exact absurd (by omega : False) id), (fun h => absurd h (by first | (rw [RWF_no (by omega)]; omega) | exact absurd (by omega : False) id))⟩
  ·
    refine jt_ite (fun c1824_ => ?_) (fun c1824_ => ?_)
    ·
      have h1825_ : a1817_ 55 2 = a0 55 2 := hf1817_ 55 2 rfl
      have h1826_ := jxshr_b (a1817_ 55 2) r1817_
      have h1827_ := jxand_r (jxshr (a1817_ 55 2) r1817_) 1 (by decide) (by decide)
      refine jt_ite (fun c1828_ => ?_) (fun c1828_ => ?_)
      ·
        have hf1829_ : jfr jW_X6_readWord_r2 a0 a1817_ := jfr_tr (jfr_rf _ _) hf1817_ rfl
        have h1830_ := f_X8_place_eq a0 b0
        have h1831_ := iv_get hv0 (k := 2) (j := 2) (l := 0) (u := 200) rfl
        have h1832_ : a1817_ 2 3 = a0 2 3 := hf1817_ 2 3 rfl
        exact cp_X6_readWord_r2_36 E d hd a0 b0 hv0 hp0 (f_X8_place a0 b0) a1817_ hv1817_ hf1829_ (show 0 ≤ f_X8_place a0 b0 from by omega) (show f_X8_place a0 b0 ≤ 200 from by omega) (RWF_two (by omega) (by rw [← hwi1817, ← h5521817]; assumption)) rfl (show a1817_ 2 3 = 0 from by omega)
      ·
        have hf1833_ : jfr jW_X6_readWord_r2 a0 a1817_ := jfr_tr (jfr_rf _ _) hf1817_ rfl
        have h1834_ : a1817_ 2 3 = a0 2 3 := hf1817_ 2 3 rfl
        exact cp_X6_readWord_r2_43 E d hd a0 b0 hv0 hp0 r1817_ a1817_ hv1817_ hf1833_ (show 0 ≤ r1817_ from by omega) (show r1817_ ≤ 4 from by omega) hwi1817 (show 0 ≤ r1817_ from by omega) (show r1817_ ≤ 4 from by omega) (by have q := hq1817_1 (by omega); rw [hwi1817] at q; exact q) (by rw [← h5521817]; assumption) (show a1817_ 2 3 = 0 from by omega) (show a1817_ 55 2 = a0 55 2 from by omega) (fun j => (hf1817_ 57 j rfl))
    ·
      refine jt_bV (sp_X8_noteCannotStand E d (jd_le hd rfl) a1817_ b0 hv1817_) (fun a1835_ b1835_ h1835_ => ?_)
      obtain ⟨hv1835_, hf1835_, rfl, hq1835_0, hq1835_1⟩ := h1835_
      have h1836_ : a1817_ 2 3 = a0 2 3 := hf1817_ 2 3 rfl
      have h1837_ := iv_get hv1817_ (k := 2) (j := 2) (l := 0) (u := 200) rfl
      have hf1838_ : jfr jW_X6_readWord_r2 a0 a1817_ := jfr_tr (jfr_rf _ _) hf1817_ rfl
      have hf1839_ : jfr jW_X6_readWord_r2 a0 a1835_ := jfr_tr hf1838_ hf1835_ rfl
      exact jt_rV ⟨hv1835_, hf1839_, rfl, (by first | (rw [RWF_no (by omega)]; omega) | exact absurd (by omega : False) id), (fun h => absurd h (by first | (rw [RWF_no (by omega)]; omega) | exact absurd (by omega : False) id))⟩
def jW_X6_readWords_r2 : List (Nat × Nat) := [(2, 2), (2, 3), (55, 2), (57, 9999)]
abbrev jQ_X6_readWords_r2 (a0 b0 : Nat → Nat → Int) : List jxV → (Nat → Nat → Int) → (Nat → Nat → Int) → Prop := rI (fun r a b => (iv a) ∧ (jfr jW_X6_readWords_r2 a0 a) ∧ (b0 = b) ∧ (RUR a0 a r))
theorem cp_X6_readWords_r2_32 (E : jxE) (d : Nat) (hd : Nat.ble 8 (d + 1) = true) (a0 b0 : Nat → Nat → Int) (hv0 : iv a0) (hp0 : a0 2 3 = 0) (hp1 : a0 2 2 < a0 2 1) (hp2 : RUL a0 a0 0) : ∀ (y2 : Int) (a : Nat → Nat → Int), iv a → jfr jW_X6_readWords_r2 a0 a → 0 ≤ y2 → y2 ≤ 100 → (RUE a0 a y2) → jt (jxX E d 104 32 [none, some (.inr (.inr (.inl 2))), some (.inl y2), none] [] (jxSH, a, b0)) (jQ_X6_readWords_r2 a0 b0) := by
  intro y2 a hv hf hi0 hi1 hre
  refine jt_eq (bq_X6_readWords_r2_32 E d y2 a b0) ?_
  have h3 : a 3 = a0 3 := funext fun j => hf 3 j rfl
  have h21 := hf 2 1 rfl
  refine jt_eI (eq_X8_isAtEnd E d (jd_le hd rfl) a b0) ?_
  have h1840_ := f_X8_isAtEnd_eq a b0
  have h1841_ := iv_get hv (k := 2) (j := 2) (l := 0) (u := 200) rfl
  have h1842_ := iv_get hv (k := 2) (j := 1) (l := 0) (u := 200) rfl
  have h1843_ : a 2 1 = a0 2 1 := hf 2 1 rfl
  have h1844_ := iv_get hv0 (k := 2) (j := 1) (l := 0) (u := 200) rfl
  refine jt_ite (fun c1845_ => ?_) (fun c1845_ => ?_)
  ·
    refine jt_bV (sp_X8_noteCannotStand E d (jd_le hd rfl) a b0 hv) (fun a1846_ b1846_ h1846_ => ?_)
    obtain ⟨hv1846_, hf1846_, rfl, hq1846_0, hq1846_1⟩ := h1846_
    have hf1847_ : jfr jW_X6_readWords_r2 a0 a1846_ := jfr_tr hf hf1846_ rfl
    exact jt_rI ⟨hv1846_, hf1847_, rfl, (RU_end2 hre (by have q := hp2.2.1; have q2 : SK (a0 3) (a0 2 1).toNat 0 = RP (a0 3) (a0 2 1).toNat 0 := rfl; omega) (hf 2 1 rfl) (by omega) (by omega) hq1846_0 hq1846_1)⟩
  ·
    exact jt_rI ⟨hv, hf, rfl, (RU_end1 hre (by have q := hp2.2.1; have q2 : SK (a0 3) (a0 2 1).toNat 0 = RP (a0 3) (a0 2 1).toNat 0 := rfl; omega) (hf 2 1 rfl) (by omega))⟩
theorem cp_X6_readWords_r2_4 (E : jxE) (d : Nat) (hd : Nat.ble 8 (d + 1) = true) (a0 b0 : Nat → Nat → Int) (hv0 : iv a0) (hp0 : a0 2 3 = 0) (hp1 : a0 2 2 < a0 2 1) (hp2 : RUL a0 a0 0) : ∀ n : Nat, (∀ (y2 y3 : Int) (a : Nat → Nat → Int), (((100 - y2) * 1) + 0).toNat ≤ n → iv a → jfr jW_X6_readWords_r2 a0 a → 0 ≤ y2 → y2 ≤ 100 → 0 ≤ y3 → y3 ≤ 1 → (¬ y3 = 0 → RUL a0 a y2.toNat) → (y3 = 0 → RUE a0 a y2) → jt (jxX E d 104 4 [some (.inr (.inr (.inl 55))), some (.inr (.inr (.inl 2))), some (.inl y2), some (.inl y3)] [] (jxSH, a, b0)) (jQ_X6_readWords_r2 a0 b0)) := by
  refine jx_ind fun n ih => ?_
  have ih4 : ∀ (y2 y3 : Int) (a : Nat → Nat → Int), (((100 - y2) * 1) + 0).toNat < n → iv a → jfr jW_X6_readWords_r2 a0 a → 0 ≤ y2 → y2 ≤ 100 → 0 ≤ y3 → y3 ≤ 1 → (¬ y3 = 0 → RUL a0 a y2.toNat) → (y3 = 0 → RUE a0 a y2) → jt (jxX E d 104 4 [some (.inr (.inr (.inl 55))), some (.inr (.inr (.inl 2))), some (.inl y2), some (.inl y3)] [] (jxSH, a, b0)) (jQ_X6_readWords_r2 a0 b0) := fun y2 y3 a hlt i0 i1 i2 i3 i4 i5 i6 i7 => (ih _ hlt) y2 y3 a (Nat.le_refl _) i0 i1 i2 i3 i4 i5 i6 i7
  have hc4 : ∀ (y2 y3 : Int) (a : Nat → Nat → Int), (((100 - y2) * 1) + 0).toNat ≤ n → iv a → jfr jW_X6_readWords_r2 a0 a → 0 ≤ y2 → y2 ≤ 100 → 0 ≤ y3 → y3 ≤ 1 → (¬ y3 = 0 → RUL a0 a y2.toNat) → (y3 = 0 → RUE a0 a y2) → jt (jxX E d 104 4 [some (.inr (.inr (.inl 55))), some (.inr (.inr (.inl 2))), some (.inl y2), some (.inl y3)] [] (jxSH, a, b0)) (jQ_X6_readWords_r2 a0 b0) := by
    intro y2 y3 a hm hv hf hi0 hi1 hi2 hi3 hrl hre
    refine jt_eq (bq_X6_readWords_r2_4 E d y2 y3 a b0) ?_
    have h3 : a 3 = a0 3 := funext fun j => hf 3 j rfl
    have h21 := hf 2 1 rfl
    have hf0 : ¬ y3 = 0 → a 2 3 = 0 := fun h => (hrl h).1
    have hbig : ¬ y3 = 0 → y2.toNat ≤ 5 := fun h => RUL_big (hrl h)
    refine jt_ite (fun c1848_ => ?_) (fun c1848_ => ?_)
    ·
      exact cp_X6_readWords_r2_32 E d hd a0 b0 hv0 hp0 hp1 hp2 y2 a hv hf (show 0 ≤ y2 from by omega) (show y2 ≤ 100 from by omega) (by first | exact hre (by omega) | exact absurd (by omega : False) id)
    ·
      refine jt_ite (fun c1849_ => ?_) (fun c1849_ => ?_)
      ·
        refine jt_bV (sp_X6_readWord_r2 E d (jd_le hd rfl) a b0 hv (show a 2 3 = 0 from by omega)) (fun a1850_ b1850_ h1850_ => ?_)
        obtain ⟨hv1850_, hf1850_, rfl, hq1850_0, hq1850_1⟩ := h1850_
        refine jt_bI (sp_X8_takesSign E d (jd_le hd rfl) 59 a1850_ b0 hv1850_) (fun r1851_ a1851_ b1851_ h1851_ => ?_)
        obtain ⟨hv1851_, hf1851_, rfl, hq1851_0, hq1851_1, hq1851_2, hq1851_3, hq1851_4⟩ := h1851_
        have h1852_ := iv_get hv1850_ (k := 2) (j := 1) (l := 0) (u := 200) rfl
        have h1853_ : a1850_ 2 1 = a 2 1 := hf1850_ 2 1 rfl
        have h1854_ := iv_get hv (k := 2) (j := 1) (l := 0) (u := 200) rfl
        have h1855_ : a 2 1 = a0 2 1 := hf 2 1 rfl
        have h1856_ := iv_get hv0 (k := 2) (j := 1) (l := 0) (u := 200) rfl
        have h1857_ := iv_get hv1850_ (k := 2) (j := 2) (l := 0) (u := 200) rfl
        have h1858_ := iv_get hv1851_ (k := 2) (j := 2) (l := 0) (u := 200) rfl
        have hstep := RU_step (i := y2) (r := r1851_) (by omega) (hrl (by omega)) h3 (hf 2 1 rfl) hq1850_0 hq1850_1 (funext fun j => hf1850_ 3 j rfl) (hf1850_ 2 1 rfl) hq1851_2 hq1851_3 hq1851_4 (hf1851_ 2 3 rfl) (hf1851_ 55 2 rfl) (fun j => hf1851_ 57 j rfl) (by omega)
        have hf1859_ : jfr jW_X6_readWords_r2 a0 a1850_ := jfr_tr hf hf1850_ rfl
        have hf1860_ : jfr jW_X6_readWords_r2 a0 a1851_ := jfr_tr hf1859_ hf1851_ rfl
        have h1861_ : jxw (y2 + 1) = y2 + 1 := jxw_id (by omega) (by omega)
        exact ih4 (jxw (y2 + 1)) r1851_ a1851_ (show (((100 - (jxw (y2 + 1))) * 1) + 0).toNat < n from by omega) hv1851_ hf1860_ (show 0 ≤ jxw (y2 + 1) from by omega) (show jxw (y2 + 1) ≤ 100 from by omega) (show 0 ≤ r1851_ from by omega) (show r1851_ ≤ 1 from by omega) (by first | exact (fun _ => hp2) | (rw [show (jxw (y2 + 1)).toNat = y2.toNat + 1 from by omega]; exact hstep.1)) (by first | exact (fun h => absurd h (by decide)) | (rw [show jxw (y2 + 1) = y2 + 1 from by omega]; exact hstep.2))
      ·
        exact cp_X6_readWords_r2_32 E d hd a0 b0 hv0 hp0 hp1 hp2 y2 a hv hf (show 0 ≤ y2 from by omega) (show y2 ≤ 100 from by omega) (by first | exact hre (by omega) | exact absurd (by omega : False) id)
  exact hc4
theorem sp_X6_readWords_r2 (E : jxE) (d : Nat) (hd : Nat.ble 8 d = true) (a0 b0 : Nat → Nat → Int) (hv0 : iv a0) (hp0 : a0 2 3 = 0) (hp1 : a0 2 2 < a0 2 1) (hp2 : RUL a0 a0 0) : jt (jxC E d 104 [.inr (.inr (.inl 55)), .inr (.inr (.inl 2))] (jxSH, a0, b0)) (jQ_X6_readWords_r2 a0 b0) := by
  obtain ⟨d, rfl⟩ := jd_succ hd
  refine jt_eq (bq_X6_readWords_r2 E d a0 b0) ?_
  have h1862_ := iv_get hv0 (k := 2) (j := 2) (l := 0) (u := 200) rfl
  have h1863_ := iv_get hv0 (k := 2) (j := 1) (l := 0) (u := 200) rfl
  exact (cp_X6_readWords_r2_4 E d hd a0 b0 hv0 hp0 hp1 hp2 _) 0 1 a0 (Nat.le_refl _) hv0 (jfr_rf _ _) (show 0 ≤ 0 from by omega) (show 0 ≤ 100 from by omega) (show 0 ≤ 1 from by omega) (show 1 ≤ 1 from by omega) (by first | exact (fun _ => hp2) | (rw [show (jxw (y2 + 1)).toNat = y2.toNat + 1 from by omega]; exact hstep.1)) (by first | exact (fun h => absurd h (by decide)) | (rw [show jxw (y2 + 1) = y2 + 1 from by omega]; exact hstep.2))
def jW_X6_read_r2 : List (Nat × Nat) := [(2, 2), (2, 3), (55, 2), (56, 9999), (57, 9999)]
abbrev jQ_X6_read_r2 (a0 b0 : Nat → Nat → Int) : List jxV → (Nat → Nat → Int) → (Nat → Nat → Int) → Prop := rI (fun r a b => (iv a) ∧ (jfr jW_X6_read_r2 a0 a) ∧ (b0 = b) ∧ ((a0 2 1 = 0 → r = 0)) ∧ (RRS (a0 3) (a0 2 1).toNat r) ∧ (0 ≤ r → ∀ w : Nat, w < 5 → a 56 w = DRF (a0 3) (a0 2 1).toNat r.toNat w) ∧ (r < 0 → ∀ j, a 56 j = a0 56 j))
theorem cp_X6_read_r2_64 (E : jxE) (d : Nat) (hd : Nat.ble 9 (d + 1) = true) (a0 b0 : Nat → Nat → Int) (hv0 : iv a0) : ∀ n : Nat, (∀ (y2 y3 : Int) (a : Nat → Nat → Int), (((5 - y3) * 1) + 0).toNat ≤ n → iv a → jfr jW_X6_read_r2 a0 a → 0 ≤ y3 → y3 ≤ 5 → (a0 2 1 = 0 → y2 = 0) → (RRS (a0 3) (a0 2 1).toNat y2 ∧ 0 ≤ y2 ∧ ∀ w : Nat, w < 5 → a 57 w = DRF (a0 3) (a0 2 1).toNat y2.toNat w) → (∀ w : Nat, (w : Int) < y3 → a 56 w = DRF (a0 3) (a0 2 1).toNat y2.toNat w) → jt (jxX E d 103 64 [some (.inr (.inr (.inl 55))), none, some (.inl y2), some (.inl y3)] [] (jxSH, a, b0)) (jQ_X6_read_r2 a0 b0)) := by
  refine jx_ind fun n ih => ?_
  have ih64 : ∀ (y2 y3 : Int) (a : Nat → Nat → Int), (((5 - y3) * 1) + 0).toNat < n → iv a → jfr jW_X6_read_r2 a0 a → 0 ≤ y3 → y3 ≤ 5 → (a0 2 1 = 0 → y2 = 0) → (RRS (a0 3) (a0 2 1).toNat y2 ∧ 0 ≤ y2 ∧ ∀ w : Nat, w < 5 → a 57 w = DRF (a0 3) (a0 2 1).toNat y2.toNat w) → (∀ w : Nat, (w : Int) < y3 → a 56 w = DRF (a0 3) (a0 2 1).toNat y2.toNat w) → jt (jxX E d 103 64 [some (.inr (.inr (.inl 55))), none, some (.inl y2), some (.inl y3)] [] (jxSH, a, b0)) (jQ_X6_read_r2 a0 b0) := fun y2 y3 a hlt i0 i1 i2 i3 i4 i5 i6 => (ih _ hlt) y2 y3 a (Nat.le_refl _) i0 i1 i2 i3 i4 i5 i6
  have hc64 : ∀ (y2 y3 : Int) (a : Nat → Nat → Int), (((5 - y3) * 1) + 0).toNat ≤ n → iv a → jfr jW_X6_read_r2 a0 a → 0 ≤ y3 → y3 ≤ 5 → (a0 2 1 = 0 → y2 = 0) → (RRS (a0 3) (a0 2 1).toNat y2 ∧ 0 ≤ y2 ∧ ∀ w : Nat, w < 5 → a 57 w = DRF (a0 3) (a0 2 1).toNat y2.toNat w) → (∀ w : Nat, (w : Int) < y3 → a 56 w = DRF (a0 3) (a0 2 1).toNat y2.toNat w) → jt (jxX E d 103 64 [some (.inr (.inr (.inl 55))), none, some (.inl y2), some (.inl y3)] [] (jxSH, a, b0)) (jQ_X6_read_r2 a0 b0) := by
    intro y2 y3 a hm hv hf hi0 hi1 hi2 hrs hh
    refine jt_eq (bq_X6_read_r2_64 E d y2 y3 a b0) ?_
    have h1864_ := iv_get hv0 (k := 2) (j := 1) (l := 0) (u := 200) rfl
    have h3 : a 3 = a0 3 := funext fun j => hf 3 j rfl
    have h21 := hf 2 1 rfl
    refine jt_ite (fun c1865_ => ?_) (fun c1865_ => ?_)
    ·
      refine jt_grd (by omega) ?_
      refine jt_grd (by omega) ?_
      have hv1866_ : iv (jxu a 56 (y3.toNat) (a 57 (y3.toNat))) := iv_putf hv rfl
      have hf1867_ : jfr jW_X6_read_r2 a0 (jxu a 56 (y3.toNat) (a 57 (y3.toNat))) := jfr_put hf rfl
      have h1868_ : jxw (y3 + 1) = y3 + 1 := jxw_id (by omega) (by omega)
      exact ih64 y2 (jxw (y3 + 1)) (jxu a 56 (y3.toNat) (a 57 (y3.toNat))) (show (((5 - (jxw (y3 + 1))) * 1) + 0).toNat < n from by omega) hv1866_ hf1867_ (show 0 ≤ jxw (y3 + 1) from by omega) (show jxw (y3 + 1) ≤ 5 from by omega) (show (a0 2 1 = 0 → y2 = 0) from by omega) (by first | exact hrs | exact hru.1 (by omega)) (by first | exact (fun w h => absurd h (by omega)) | (intro w hw; show (if w = y3.toNat then a 57 (y3.toNat) else a 56 w) = _; by_cases e : w = y3.toNat <;> first | (rw [if_pos e, ← e]; exact hrs.2.2 w (by omega)) | (rw [if_neg e]; exact hh w (by omega))))
    ·
      exact jt_rI ⟨hv, hf, rfl, (show (a0 2 1 = 0 → y2 = 0) from by omega), hrs.1, (fun _ w hw => hh w (by omega)), (fun h => absurd h (by have q := hrs.2.1; omega))⟩
  exact hc64
theorem cp_X6_read_r2_49 (E : jxE) (d : Nat) (hd : Nat.ble 9 (d + 1) = true) (a0 b0 : Nat → Nat → Int) (hv0 : iv a0) : ∀ (s0 : Int) (a : Nat → Nat → Int), iv a → jfr jW_X6_read_r2 a0 a → (a0 2 1 = 0 → (s0 = 0 ∧ a 2 3 = 0)) → (RUR a0 a s0) → (∀ j, a 56 j = a0 56 j) → jt (jxX E d 103 49 [some (.inr (.inr (.inl 55))), some (.inr (.inr (.inl 2))), none, none] [.inl s0] (jxSH, a, b0)) (jQ_X6_read_r2 a0 b0) := by
  intro s0 a hv hf hi0 hru hs56
  refine jt_eq (bq_X6_read_r2_49 E d s0 a b0) ?_
  have h1869_ := iv_get hv0 (k := 2) (j := 1) (l := 0) (u := 200) rfl
  have h3 : a 3 = a0 3 := funext fun j => hf 3 j rfl
  have h21 := hf 2 1 rfl
  refine jt_eI (eq_X8_isFaulty E d (jd_le hd rfl) a b0) ?_
  have h1870_ := f_X8_isFaulty_eq a b0
  refine jt_ite (fun c1871_ => ?_) (fun c1871_ => ?_)
  ·
    exact (cp_X6_read_r2_64 E d hd a0 b0 hv0 _) s0 0 a (Nat.le_refl _) hv hf (show 0 ≤ 0 from by omega) (show 0 ≤ 5 from by omega) (show (a0 2 1 = 0 → s0 = 0) from by omega) (by first | exact hrs | exact hru.1 (by omega)) (by first | exact (fun w h => absurd h (by omega)) | (intro w hw; show (if w = y3.toNat then a 57 (y3.toNat) else a 56 w) = _; by_cases e : w = y3.toNat <;> first | (rw [if_pos e, ← e]; exact hrs.2.2 w (by omega)) | (rw [if_neg e]; exact hh w (by omega))))
  ·
    refine jt_eI (eq_X8_answerOfFault E d (jd_le hd rfl) a b0) ?_
    have h1872_ := f_X8_answerOfFault_eq a b0
    have h1873_ := jxw_im ((-2) - (a 2 3))
    have h1874_ := jxw_rg ((-2) - (a 2 3))
    exact jt_rI ⟨hv, hf, rfl, (show (a0 2 1 = 0 → f_X8_answerOfFault a b0 = 0) from by omega), (by have q := hru.2 (by omega); have q2 := RRS_bd q.1 (tn200 hv0); rw [show f_X8_answerOfFault a b0 = -2 - a 2 3 from by omega]; exact q.1), (fun h => absurd h (by have q := hru.2 (by omega); have q2 := RRS_bd q.1 (tn200 hv0); omega)), (fun _ => hs56)⟩
theorem cp_X6_read_r2_2 (E : jxE) (d : Nat) (hd : Nat.ble 9 (d + 1) = true) (a0 b0 : Nat → Nat → Int) (hv0 : iv a0) : ∀ n : Nat, (∀ (y2 : Int) (a : Nat → Nat → Int), (((5 - y2) * 1) + 0).toNat ≤ n → iv a → jfr jW_X6_read_r2 a0 a → 0 ≤ y2 → y2 ≤ 5 → (∀ w : Nat, (w : Int) < y2 → a 57 w = RDF w) → (∀ j, a 56 j = a0 56 j) → jt (jxX E d 103 2 [some (.inr (.inr (.inl 55))), some (.inr (.inr (.inl 2))), some (.inl y2), none] [] (jxSH, a, b0)) (jQ_X6_read_r2 a0 b0)) := by
  refine jx_ind fun n ih => ?_
  have ih2 : ∀ (y2 : Int) (a : Nat → Nat → Int), (((5 - y2) * 1) + 0).toNat < n → iv a → jfr jW_X6_read_r2 a0 a → 0 ≤ y2 → y2 ≤ 5 → (∀ w : Nat, (w : Int) < y2 → a 57 w = RDF w) → (∀ j, a 56 j = a0 56 j) → jt (jxX E d 103 2 [some (.inr (.inr (.inl 55))), some (.inr (.inr (.inl 2))), some (.inl y2), none] [] (jxSH, a, b0)) (jQ_X6_read_r2 a0 b0) := fun y2 a hlt i0 i1 i2 i3 i4 i5 => (ih _ hlt) y2 a (Nat.le_refl _) i0 i1 i2 i3 i4 i5
  have hc2 : ∀ (y2 : Int) (a : Nat → Nat → Int), (((5 - y2) * 1) + 0).toNat ≤ n → iv a → jfr jW_X6_read_r2 a0 a → 0 ≤ y2 → y2 ≤ 5 → (∀ w : Nat, (w : Int) < y2 → a 57 w = RDF w) → (∀ j, a 56 j = a0 56 j) → jt (jxX E d 103 2 [some (.inr (.inr (.inl 55))), some (.inr (.inr (.inl 2))), some (.inl y2), none] [] (jxSH, a, b0)) (jQ_X6_read_r2 a0 b0) := by
    intro y2 a hm hv hf hi0 hi1 hdr hs56
    refine jt_eq (bq_X6_read_r2_2 E d y2 a b0) ?_
    have h3 : a 3 = a0 3 := funext fun j => hf 3 j rfl
    have h21 := hf 2 1 rfl
    refine jt_ite (fun c1875_ => ?_) (fun c1875_ => ?_)
    ·
      refine jt_grd (by omega) ?_
      refine jt_grd (by omega) ?_
      have hv1876_ : iv (jxu a 57 (y2.toNat) (([5, 10, 3, 60, 2] : List Int).getD (y2.toNat) 0)) := iv_putf hv rfl
      have hf1877_ : jfr jW_X6_read_r2 a0 (jxu a 57 (y2.toNat) (([5, 10, 3, 60, 2] : List Int).getD (y2.toNat) 0)) := jfr_put hf rfl
      have h1878_ : jxw (y2 + 1) = y2 + 1 := jxw_id (by omega) (by omega)
      exact ih2 (jxw (y2 + 1)) (jxu a 57 (y2.toNat) (([5, 10, 3, 60, 2] : List Int).getD (y2.toNat) 0)) (show (((5 - (jxw (y2 + 1))) * 1) + 0).toNat < n from by omega) hv1876_ hf1877_ (show 0 ≤ jxw (y2 + 1) from by omega) (show jxw (y2 + 1) ≤ 5 from by omega) (by first | exact (fun w h => absurd h (by omega)) | (intro w hw; show (if w = y2.toNat then _ else a 57 w) = RDF w; by_cases e : w = y2.toNat <;> first | (rw [if_pos e, RDF_g (by omega) (by omega), e, Int.toNat_of_nonneg (by omega)]) | (rw [if_neg e]; exact hdr (w) (by omega)))) (fun j => (rfl).trans (hs56 j))
    ·
      have hv1879_ : iv (jxu a 55 2 0) := iv_putf hv rfl
      refine jt_bV (sp_X8_startReading E d (jd_le hd rfl) (jxu a 55 2 0) b0 hv1879_) (fun a1880_ b1880_ h1880_ => ?_)
      obtain ⟨hv1880_, hf1880_, rfl, hq1880_0, hq1880_1, hq1880_2⟩ := h1880_
      have h1881_ : a1880_ 2 3 = 0 := hq1880_0
      have h1882_ := iv_get hv (k := 2) (j := 1) (l := 0) (u := 200) rfl
      have h1883_ : a 2 1 = a0 2 1 := hf 2 1 rfl
      have h1884_ := iv_get hv0 (k := 2) (j := 1) (l := 0) (u := 200) rfl
      have h1885_ := iv_get hv1880_ (k := 2) (j := 2) (l := 0) (u := 200) rfl
      have h1886_ : (a 2 1 = 0 → a1880_ 2 2 = 0) := hq1880_1
      have h57_1880 : ∀ j, a1880_ 57 j = a 57 j := fun j => hf1880_ 57 j rfl
      have e3_1880 : a1880_ 3 = a0 3 := funext fun j => (hf1880_ 3 j rfl).trans (hf 3 j rfl)
      have e21_1880 : a1880_ 2 1 = a0 2 1 := (hf1880_ 2 1 rfl).trans (hf 2 1 rfl)
      have hat1880 : a1880_ 2 2 = (SK (a0 3) (a0 2 1).toNat 0 : Int) := by have q := hq1880_2; rw [show jxu a 55 2 0 3 = a 3 from rfl, show jxu a 55 2 0 2 1 = a 2 1 from rfl, h3, h21] at q; exact q
      have hrul1880 : RUL a1880_ a1880_ 0 := ⟨by omega, by rw [e3_1880, e21_1880]; exact hat1880, (hf1880_ 55 2 rfl).trans (by simp [jxu]; rfl), fun k hk => absurd hk (Nat.not_lt_zero _), fun w hw => by rw [h57_1880, hdr w (by omega)]; rfl⟩
      refine jt_eI (eq_X8_isAtEnd E d (jd_le hd rfl) a1880_ b0) ?_
      have h1887_ := f_X8_isAtEnd_eq a1880_ b0
      have h1888_ := iv_get hv1880_ (k := 2) (j := 1) (l := 0) (u := 200) rfl
      have h1889_ : a1880_ 2 1 = a 2 1 := hf1880_ 2 1 rfl
      refine jt_ite (fun c1890_ => ?_) (fun c1890_ => ?_)
      ·
        refine jt_bI (sp_X6_readWords_r2 E d (jd_le hd rfl) a1880_ b0 hv1880_ (show a1880_ 2 3 = 0 from by omega) (show a1880_ 2 2 < a1880_ 2 1 from by omega) (by assumption)) (fun r1891_ a1891_ b1891_ h1891_ => ?_)
        obtain ⟨hv1891_, hf1891_, rfl, hq1891_0⟩ := h1891_
        have hf1892_ : jfr jW_X6_read_r2 a0 (jxu a 55 2 0) := jfr_put hf rfl
        have hf1893_ : jfr jW_X6_read_r2 a0 a1880_ := jfr_tr hf1892_ hf1880_ rfl
        have hf1894_ : jfr jW_X6_read_r2 a0 a1891_ := jfr_tr hf1893_ hf1891_ rfl
        exact cp_X6_read_r2_49 E d hd a0 b0 hv0 r1891_ a1891_ hv1891_ hf1894_ (show (a0 2 1 = 0 → (r1891_ = 0 ∧ a1891_ 2 3 = 0)) from by omega) (by have q := hq1891_0; unfold RUR at q; rw [e3_1880, e21_1880] at q; exact q) (fun j => (((hf1891_ 56 j rfl).trans (hf1880_ 56 j rfl))).trans (hs56 j))
      ·
        have hf1895_ : jfr jW_X6_read_r2 a0 (jxu a 55 2 0) := jfr_put hf rfl
        have hf1896_ : jfr jW_X6_read_r2 a0 a1880_ := jfr_tr hf1895_ hf1880_ rfl
        exact cp_X6_read_r2_49 E d hd a0 b0 hv0 0 a1880_ hv1880_ hf1896_ (show (a0 2 1 = 0 → (0 = 0 ∧ a1880_ 2 3 = 0)) from by omega) ⟨fun _ => ⟨Or.inl ⟨by omega, rfl⟩, by decide, fun w hw => by rw [h57_1880, hdr w (by omega)]; rfl⟩, fun h => absurd (by omega) h⟩ (fun j => ((hf1880_ 56 j rfl)).trans (hs56 j))
  exact hc2
theorem sp_X6_read_r2 (E : jxE) (d : Nat) (hd : Nat.ble 9 d = true) (a0 b0 : Nat → Nat → Int) (hv0 : iv a0) : jt (jxC E d 103 [.inr (.inr (.inl 55)), .inr (.inr (.inl 2))] (jxSH, a0, b0)) (jQ_X6_read_r2 a0 b0) := by
  obtain ⟨d, rfl⟩ := jd_succ hd
  refine jt_eq (bq_X6_read_r2 E d a0 b0) ?_
  exact (cp_X6_read_r2_2 E d hd a0 b0 hv0 _) 0 a0 (Nat.le_refl _) hv0 (jfr_rf _ _) (show 0 ≤ 0 from by omega) (show 0 ≤ 5 from by omega) (by first | exact (fun w h => absurd h (by omega)) | (intro w hw; show (if w = y2.toNat then _ else a 57 w) = RDF w; by_cases e : w = y2.toNat <;> first | (rw [if_pos e, RDF_g (by omega) (by omega), e, Int.toNat_of_nonneg (by omega)]) | (rw [if_neg e]; exact hdr (w) (by omega)))) (fun j => rfl)
def jW_X11_rules : List (Nat × Nat) := [(2, 1), (2, 2), (2, 3), (55, 2), (56, 9999), (57, 9999)]
abbrev jQ_X11_rules (a0 b0 : Nat → Nat → Int) : List jxV → (Nat → Nat → Int) → (Nat → Nat → Int) → Prop := rI (fun r a b => (iv a) ∧ (jfr jW_X11_rules a0 a) ∧ (b0 = b) ∧ ((a0 2 1 = 0 → r = 0)) ∧ ((a0 2 1 ≤ 100 → a 2 1 = 0)) ∧ ((100 < a0 2 1 → a 2 1 = a0 2 1)) ∧ (a0 2 1 ≤ 100 → RRS (a0 3) (a0 2 1).toNat r) ∧ (0 ≤ r → ∀ w : Nat, w < 5 → a 56 w = DRF (a0 3) (a0 2 1).toNat r.toNat w) ∧ (r < 0 → ∀ j, a 56 j = a0 56 j) ∧ ((100 < a0 2 1 → r = 0 - 1)))
theorem cp_X11_rules_34 (E : jxE) (d : Nat) (hd : Nat.ble 10 (d + 1) = true) (a0 b0 : Nat → Nat → Int) (hv0 : iv a0) : ∀ (y1 : Int) (a : Nat → Nat → Int), iv a → jfr jW_X11_rules a0 a → (a0 2 1 = 0 → y1 = 0) → a 2 1 = 0 → a0 2 1 ≤ 100 → (RRS (a0 3) (a0 2 1).toNat y1 ∧ (0 ≤ y1 → ∀ w : Nat, w < 5 → a 56 w = DRF (a0 3) (a0 2 1).toNat y1.toNat w) ∧ (y1 < 0 → ∀ j, a 56 j = a0 56 j)) → jt (jxX E d 164 34 [none, some (.inl y1)] [] (jxSH, a, b0)) (jQ_X11_rules a0 b0) := by
  intro y1 a hv hf hi0 hi1 hi2 hru
  refine jt_eq (bq_X11_rules_34 E d y1 a b0) ?_
  have h1897_ := iv_get hv0 (k := 2) (j := 1) (l := 0) (u := 200) rfl
  have h1898_ := iv_get hv (k := 2) (j := 1) (l := 0) (u := 200) rfl
  exact jt_rI ⟨hv, hf, rfl, (show (a0 2 1 = 0 → y1 = 0) from by omega), (show (a0 2 1 ≤ 100 → a 2 1 = 0) from by omega), (show (100 < a0 2 1 → a 2 1 = a0 2 1) from by omega), (fun _ => hru.1), hru.2.1, hru.2.2, (show (100 < a0 2 1 → y1 = 0 - 1) from by omega)⟩
theorem sp_X11_rules (E : jxE) (d : Nat) (hd : Nat.ble 10 d = true) (a0 b0 : Nat → Nat → Int) (hv0 : iv a0) : jt (jxC E d 164 [.inr (.inr (.inl 0))] (jxSH, a0, b0)) (jQ_X11_rules a0 b0) := by
  obtain ⟨d, rfl⟩ := jd_succ hd
  refine jt_eq (bq_X11_rules E d a0 b0) ?_
  refine jt_eI (eq_X8_length E d (jd_le hd rfl) a0 b0) ?_
  have h1899_ := f_X8_length_eq a0 b0
  have h1900_ := iv_get hv0 (k := 2) (j := 1) (l := 0) (u := 200) rfl
  refine jt_ite (fun c1901_ => ?_) (fun c1901_ => ?_)
  ·
    exact jt_rI ⟨hv0, (jfr_rf _ _), rfl, (show (a0 2 1 = 0 → (-1) = 0) from by omega), (show (a0 2 1 ≤ 100 → a0 2 1 = 0) from by omega), (show (100 < a0 2 1 → a0 2 1 = a0 2 1) from by omega), (fun h => absurd h (by omega)), (fun h => absurd h (by decide)), (fun _ _ => rfl), (show (100 < a0 2 1 → (-1) = 0 - 1) from by omega)⟩
  ·
    refine jt_bI (sp_X6_read_r2 E d (jd_le hd rfl) a0 b0 hv0) (fun r1902_ a1902_ b1902_ h1902_ => ?_)
    obtain ⟨hv1902_, hf1902_, rfl, hq1902_0, hq1902_1, hq1902_2, hq1902_3⟩ := h1902_
    refine jt_bV (sp_X8_cut E d (jd_le hd rfl) 0 a1902_ b0 hv1902_) (fun a1903_ b1903_ h1903_ => ?_)
    obtain ⟨hv1903_, hf1903_, rfl, hq1903_0⟩ := h1903_
    have h1904_ := iv_get hv1902_ (k := 2) (j := 1) (l := 0) (u := 200) rfl
    have h1905_ : a1902_ 2 1 = a0 2 1 := hf1902_ 2 1 rfl
    have h1906_ := iv_get hv1903_ (k := 2) (j := 1) (l := 0) (u := 200) rfl
    have hf1907_ : jfr jW_X11_rules a0 a1902_ := jfr_tr (jfr_rf _ _) hf1902_ rfl
    have hf1908_ : jfr jW_X11_rules a0 a1903_ := jfr_tr hf1907_ hf1903_ rfl
    exact cp_X11_rules_34 E d hd a0 b0 hv0 r1902_ a1903_ hv1903_ hf1908_ (show (a0 2 1 = 0 → r1902_ = 0) from by omega) (show a1903_ 2 1 = 0 from by omega) (show a0 2 1 ≤ 100 from by omega) ⟨hq1902_1, fun q w hw => (hf1903_ 56 w rfl).trans (hq1902_2 q w hw), fun q j => (hf1903_ 56 j rfl).trans (hq1902_3 q j)⟩
def jW_X11_span : List (Nat × Nat) := [(58, 13), (58, 14), (58, 15)]
abbrev jQ_X11_span (x1 x2 x3 : Int) (a0 b0 : Nat → Nat → Int) : List jxV → (Nat → Nat → Int) → (Nat → Nat → Int) → Prop := rI (fun r a b => (iv a) ∧ (jfr jW_X11_span a0 a) ∧ (b0 = b) ∧ ((a0 58 12 = 0 → ((((((0 ≤ x1 ∧ x1 ≤ 15) ∧ 0 ≤ x2) ∧ x2 ≤ 15) ∧ x3 = 2) ∧ r = 0) ∨ (((((x1 < 0 ∨ 15 < x1) ∨ x2 < 0) ∨ 15 < x2) ∨ ¬ x3 = 2) ∧ r = 0 - 1)))))
theorem cp_X11_span_34 (E : jxE) (d : Nat) (hd : Nat.ble 4 (d + 1) = true) (x1 x2 x3 : Int) (a0 b0 : Nat → Nat → Int) (hv0 : iv a0) : ∀ (y3 : Int) (a : Nat → Nat → Int), iv a → jfr jW_X11_span a0 a → 0 ≤ y3 → y3 ≤ 2 → (((0 ≤ x1 ∧ x1 ≤ 15) ∧ 0 ≤ x2) ∧ x2 ≤ 15) → y3 = x3 → (a0 58 12 = 0 → ((a 58 13 = 0 ∧ a 58 14 = 0 - 1) ∧ a 58 15 = 0 - 1)) → jt (jxX E d 183 34 [some (.inr (.inr (.inl 0))), none, none, some (.inl y3)] [] (jxSH, a, b0)) (jQ_X11_span x1 x2 x3 a0 b0) := by
  intro y3 a hv hf hi0 hi1 hi2 hi3 hi4
  refine jt_eq (bq_X11_span_34 E d y3 a b0) ?_
  have h1909_ := iv_get hv0 (k := 58) (j := 12) (l := 0) (u := 600) rfl
  have h1910_ := iv_get hv (k := 58) (j := 13) (l := 0) (u := 10) rfl
  refine jt_ite (fun c1911_ => ?_) (fun c1911_ => ?_)
  ·
    refine jt_eI (eq_X0_measuredArrivals E d (jd_le hd rfl) a b0) ?_
    have h1912_ := f_X0_measuredArrivals_eq a b0
    exact jt_rI ⟨hv, hf, rfl, (show (a0 58 12 = 0 → ((((((0 ≤ x1 ∧ x1 ≤ 15) ∧ 0 ≤ x2) ∧ x2 ≤ 15) ∧ x3 = 2) ∧ f_X0_measuredArrivals a b0 = 0) ∨ (((((x1 < 0 ∨ 15 < x1) ∨ x2 < 0) ∨ 15 < x2) ∨ ¬ x3 = 2) ∧ f_X0_measuredArrivals a b0 = 0 - 1))) from by omega)⟩
  ·
    refine jt_ite (fun c1913_ => ?_) (fun c1913_ => ?_)
    ·
      refine jt_eI (eq_X0_measuredLeast E d (jd_le hd rfl) a b0) ?_
      have h1914_ := f_X0_measuredLeast_eq a b0
      exact jt_rI ⟨hv, hf, rfl, (show (a0 58 12 = 0 → ((((((0 ≤ x1 ∧ x1 ≤ 15) ∧ 0 ≤ x2) ∧ x2 ≤ 15) ∧ x3 = 2) ∧ f_X0_measuredLeast a b0 = 0) ∨ (((((x1 < 0 ∨ 15 < x1) ∨ x2 < 0) ∨ 15 < x2) ∨ ¬ x3 = 2) ∧ f_X0_measuredLeast a b0 = 0 - 1))) from by omega)⟩
    ·
      refine jt_eI (eq_X0_measuredGreatest E d (jd_le hd rfl) a b0) ?_
      have h1915_ := f_X0_measuredGreatest_eq a b0
      exact jt_rI ⟨hv, hf, rfl, (show (a0 58 12 = 0 → ((((((0 ≤ x1 ∧ x1 ≤ 15) ∧ 0 ≤ x2) ∧ x2 ≤ 15) ∧ x3 = 2) ∧ f_X0_measuredGreatest a b0 = 0) ∨ (((((x1 < 0 ∨ 15 < x1) ∨ x2 < 0) ∨ 15 < x2) ∨ ¬ x3 = 2) ∧ f_X0_measuredGreatest a b0 = 0 - 1))) from by omega)⟩
theorem sp_X11_span (E : jxE) (d : Nat) (hd : Nat.ble 4 d = true) (x1 x2 x3 : Int) (a0 b0 : Nat → Nat → Int) (hv0 : iv a0) : jt (jxC E d 183 [.inr (.inr (.inl 0)), .inl x1, .inl x2, .inl x3] (jxSH, a0, b0)) (jQ_X11_span x1 x2 x3 a0 b0) := by
  obtain ⟨d, rfl⟩ := jd_succ hd
  refine jt_eq (bq_X11_span E d x1 x2 x3 a0 b0) ?_
  refine jt_eI (eq_X11_isLand E d (jd_le hd rfl) x1 a0 b0) ?_
  have h1916_ := f_X11_isLand_eq a0 b0 x1
  have h1917_ := f_X11_within_eq a0 b0 x1 0 15
  refine jt_ite (fun c1918_ => ?_) (fun c1918_ => ?_)
  ·
    have h1919_ := iv_get hv0 (k := 58) (j := 12) (l := 0) (u := 600) rfl
    exact jt_rI ⟨hv0, (jfr_rf _ _), rfl, (show (a0 58 12 = 0 → ((((((0 ≤ x1 ∧ x1 ≤ 15) ∧ 0 ≤ x2) ∧ x2 ≤ 15) ∧ x3 = 2) ∧ (-1) = 0) ∨ (((((x1 < 0 ∨ 15 < x1) ∨ x2 < 0) ∨ 15 < x2) ∨ ¬ x3 = 2) ∧ (-1) = 0 - 1))) from by omega)⟩
  ·
    refine jt_eI (eq_X11_isLand E d (jd_le hd rfl) x2 a0 b0) ?_
    have h1920_ := f_X11_isLand_eq a0 b0 x2
    have h1921_ := f_X11_within_eq a0 b0 x2 0 15
    refine jt_ite (fun c1922_ => ?_) (fun c1922_ => ?_)
    ·
      have h1923_ := iv_get hv0 (k := 58) (j := 12) (l := 0) (u := 600) rfl
      exact jt_rI ⟨hv0, (jfr_rf _ _), rfl, (show (a0 58 12 = 0 → ((((((0 ≤ x1 ∧ x1 ≤ 15) ∧ 0 ≤ x2) ∧ x2 ≤ 15) ∧ x3 = 2) ∧ (-1) = 0) ∨ (((((x1 < 0 ∨ 15 < x1) ∨ x2 < 0) ∨ 15 < x2) ∨ ¬ x3 = 2) ∧ (-1) = 0 - 1))) from by omega)⟩
    ·
      refine jt_eI (eq_X11_within E d (jd_le hd rfl) x3 0 2 a0 b0) ?_
      have h1924_ := f_X11_within_eq a0 b0 x3 0 2
      refine jt_ite (fun c1925_ => ?_) (fun c1925_ => ?_)
      ·
        have h1926_ := iv_get hv0 (k := 58) (j := 12) (l := 0) (u := 600) rfl
        exact jt_rI ⟨hv0, (jfr_rf _ _), rfl, (show (a0 58 12 = 0 → ((((((0 ≤ x1 ∧ x1 ≤ 15) ∧ 0 ≤ x2) ∧ x2 ≤ 15) ∧ x3 = 2) ∧ (-1) = 0) ∨ (((((x1 < 0 ∨ 15 < x1) ∨ x2 < 0) ∨ 15 < x2) ∨ ¬ x3 = 2) ∧ (-1) = 0 - 1))) from by omega)⟩
      ·
        refine jt_bV (sp_X0_measure E d (jd_le hd rfl) x1 x2 a0 b0 hv0) (fun a1927_ b1927_ h1927_ => ?_)
        obtain ⟨hv1927_, hf1927_, rfl, hq1927_0⟩ := h1927_
        have h1928_ := iv_get hv0 (k := 58) (j := 12) (l := 0) (u := 600) rfl
        have h1929_ := iv_get hv1927_ (k := 58) (j := 13) (l := 0) (u := 10) rfl
        have hf1930_ : jfr jW_X11_span a0 a1927_ := jfr_tr (jfr_rf _ _) hf1927_ rfl
        exact cp_X11_span_34 E d hd x1 x2 x3 a0 b0 hv0 x3 a1927_ hv1927_ hf1930_ (show 0 ≤ x3 from by omega) (show x3 ≤ 2 from by omega) (show (((0 ≤ x1 ∧ x1 ≤ 15) ∧ 0 ≤ x2) ∧ x2 ≤ 15) from by omega) (show x3 = x3 from by omega) (show (a0 58 12 = 0 → ((a1927_ 58 13 = 0 ∧ a1927_ 58 14 = 0 - 1) ∧ a1927_ 58 15 = 0 - 1)) from by omega)
def jW_X1_put : List (Nat × Nat) := [(142, 9999), (143, 9999)]
abbrev jQ_X1_put (x1 x2 x3 : Int) (a0 b0 : Nat → Nat → Int) : List jxV → (Nat → Nat → Int) → (Nat → Nat → Int) → Prop := rI (fun r a b => (iv a) ∧ (jfr jW_X1_put a0 a) ∧ (b0 = b) ∧ ((0 ≤ r ∧ r ≤ 1)) ∧ ((((((((r = 1 ∧ 0 ≤ x1) ∧ x1 ≤ 7) ∧ 1 ≤ x2) ∧ x2 ≤ 500) ∧ 0 ≤ x3) ∧ x3 ≤ 50) ∨ (r = 0 ∧ (((((x1 < 0 ∨ 7 < x1) ∨ x2 < 1) ∨ 500 < x2) ∨ x3 < 0) ∨ 50 < x3)))))
theorem cp_X1_put_36 (E : jxE) (d : Nat) (hd : Nat.ble 2 (d + 1) = true) (x1 x2 x3 : Int) (a0 b0 : Nat → Nat → Int) (hv0 : iv a0) : ∀ (y1 y2 y3 s0 : Int) (a : Nat → Nat → Int), iv a → jfr jW_X1_put a0 a → 0 ≤ s0 → s0 ≤ 1 → y1 = x1 → y2 = x2 → y3 = x3 → (((((((s0 = 1 ∧ 0 ≤ x1) ∧ x1 ≤ 7) ∧ 1 ≤ x2) ∧ x2 ≤ 500) ∧ 0 ≤ x3) ∧ x3 ≤ 50) ∨ (s0 = 0 ∧ (((((x1 < 0 ∨ 7 < x1) ∨ x2 < 1) ∨ 500 < x2) ∨ x3 < 0) ∨ 50 < x3))) → (s0 = 1 → (((((0 ≤ y1 ∧ y1 ≤ 7) ∧ 1 ≤ y2) ∧ y2 ≤ 500) ∧ 0 ≤ y3) ∧ y3 ≤ 50)) → jt (jxX E d 29 36 [some (.inr (.inr (.inl 141))), some (.inl y1), some (.inl y2), some (.inl y3), none] [.inl s0] (jxSH, a, b0)) (jQ_X1_put x1 x2 x3 a0 b0) := by
  intro y1 y2 y3 s0 a hv hf hi0 hi1 hi2 hi3 hi4 hi5 hi6
  refine jt_eq (bq_X1_put_36 E d y1 y2 y3 s0 a b0) ?_
  refine jt_ite (fun c1931_ => ?_) (fun c1931_ => ?_)
  ·
    refine jt_grd (by omega) ?_
    exact jt_rI ⟨hv, hf, rfl, (show (0 ≤ s0 ∧ s0 ≤ 1) from by omega), (show (((((((s0 = 1 ∧ 0 ≤ x1) ∧ x1 ≤ 7) ∧ 1 ≤ x2) ∧ x2 ≤ 500) ∧ 0 ≤ x3) ∧ x3 ≤ 50) ∨ (s0 = 0 ∧ (((((x1 < 0 ∨ 7 < x1) ∨ x2 < 1) ∨ 500 < x2) ∨ x3 < 0) ∨ 50 < x3))) from by omega)⟩
  ·
    refine jt_grd (by omega) ?_
    refine jt_grd (by omega) ?_
    refine jt_grd (by omega) ?_
    have hv1932_ : iv (jxu a 142 (y1.toNat) y2) := iv_putf hv rfl
    have hv1933_ : iv (jxu (jxu a 142 (y1.toNat) y2) 143 (y1.toNat) y3) := iv_putf hv1932_ rfl
    have hf1934_ : jfr jW_X1_put a0 (jxu a 142 (y1.toNat) y2) := jfr_put hf rfl
    have hf1935_ : jfr jW_X1_put a0 (jxu (jxu a 142 (y1.toNat) y2) 143 (y1.toNat) y3) := jfr_put hf1934_ rfl
    exact jt_rI ⟨hv1933_, hf1935_, rfl, (show (0 ≤ s0 ∧ s0 ≤ 1) from by omega), (show (((((((s0 = 1 ∧ 0 ≤ x1) ∧ x1 ≤ 7) ∧ 1 ≤ x2) ∧ x2 ≤ 500) ∧ 0 ≤ x3) ∧ x3 ≤ 50) ∨ (s0 = 0 ∧ (((((x1 < 0 ∨ 7 < x1) ∨ x2 < 1) ∨ 500 < x2) ∨ x3 < 0) ∨ 50 < x3))) from by omega)⟩
theorem cp_X1_put_31 (E : jxE) (d : Nat) (hd : Nat.ble 2 (d + 1) = true) (x1 x2 x3 : Int) (a0 b0 : Nat → Nat → Int) (hv0 : iv a0) : ∀ (y1 y2 y3 : Int) (a : Nat → Nat → Int), iv a → jfr jW_X1_put a0 a → 0 ≤ y1 → y1 ≤ 7 → 1 ≤ y2 → y2 ≤ 500 → 0 ≤ y3 → y3 ≤ 50 → y1 = x1 → y2 = x2 → y3 = x3 → (((((0 ≤ x1 ∧ x1 ≤ 7) ∧ 1 ≤ x2) ∧ x2 ≤ 500) ∧ 0 ≤ x3) ∧ x3 ≤ 50) → jt (jxX E d 29 31 [some (.inr (.inr (.inl 141))), some (.inl y1), some (.inl y2), some (.inl y3), none] [] (jxSH, a, b0)) (jQ_X1_put x1 x2 x3 a0 b0) := by
  intro y1 y2 y3 a hv hf hi0 hi1 hi2 hi3 hi4 hi5 hi6 hi7 hi8 hi9
  refine jt_eq (bq_X1_put_31 E d y1 y2 y3 a b0) ?_
  exact cp_X1_put_36 E d hd x1 x2 x3 a0 b0 hv0 y1 y2 y3 1 a hv hf (show 0 ≤ 1 from by omega) (show 1 ≤ 1 from by omega) (show y1 = x1 from by omega) (show y2 = x2 from by omega) (show y3 = x3 from by omega) (show (((((((1 = 1 ∧ 0 ≤ x1) ∧ x1 ≤ 7) ∧ 1 ≤ x2) ∧ x2 ≤ 500) ∧ 0 ≤ x3) ∧ x3 ≤ 50) ∨ (1 = 0 ∧ (((((x1 < 0 ∨ 7 < x1) ∨ x2 < 1) ∨ 500 < x2) ∨ x3 < 0) ∨ 50 < x3))) from by omega) (show (1 = 1 → (((((0 ≤ y1 ∧ y1 ≤ 7) ∧ 1 ≤ y2) ∧ y2 ≤ 500) ∧ 0 ≤ y3) ∧ y3 ≤ 50)) from by omega)
theorem cp_X1_put_35 (E : jxE) (d : Nat) (hd : Nat.ble 2 (d + 1) = true) (x1 x2 x3 : Int) (a0 b0 : Nat → Nat → Int) (hv0 : iv a0) : ∀ (y1 y2 y3 : Int) (a : Nat → Nat → Int), iv a → jfr jW_X1_put a0 a → y1 = x1 → y2 = x2 → y3 = x3 → (((((x1 < 0 ∨ 7 < x1) ∨ x2 < 1) ∨ 500 < x2) ∨ x3 < 0) ∨ 50 < x3) → jt (jxX E d 29 35 [some (.inr (.inr (.inl 141))), some (.inl y1), some (.inl y2), some (.inl y3), none] [] (jxSH, a, b0)) (jQ_X1_put x1 x2 x3 a0 b0) := by
  intro y1 y2 y3 a hv hf hi0 hi1 hi2 hi3
  refine jt_eq (bq_X1_put_35 E d y1 y2 y3 a b0) ?_
  exact cp_X1_put_36 E d hd x1 x2 x3 a0 b0 hv0 y1 y2 y3 0 a hv hf (show 0 ≤ 0 from by omega) (show 0 ≤ 1 from by omega) (show y1 = x1 from by omega) (show y2 = x2 from by omega) (show y3 = x3 from by omega) (show (((((((0 = 1 ∧ 0 ≤ x1) ∧ x1 ≤ 7) ∧ 1 ≤ x2) ∧ x2 ≤ 500) ∧ 0 ≤ x3) ∧ x3 ≤ 50) ∨ (0 = 0 ∧ (((((x1 < 0 ∨ 7 < x1) ∨ x2 < 1) ∨ 500 < x2) ∨ x3 < 0) ∨ 50 < x3))) from by omega) (show (0 = 1 → (((((0 ≤ y1 ∧ y1 ≤ 7) ∧ 1 ≤ y2) ∧ y2 ≤ 500) ∧ 0 ≤ y3) ∧ y3 ≤ 50)) from by omega)
theorem sp_X1_put (E : jxE) (d : Nat) (hd : Nat.ble 2 d = true) (x1 x2 x3 : Int) (a0 b0 : Nat → Nat → Int) (hv0 : iv a0) : jt (jxC E d 29 [.inr (.inr (.inl 141)), .inl x1, .inl x2, .inl x3] (jxSH, a0, b0)) (jQ_X1_put x1 x2 x3 a0 b0) := by
  obtain ⟨d, rfl⟩ := jd_succ hd
  refine jt_eq (bq_X1_put E d x1 x2 x3 a0 b0) ?_
  refine jt_eI (eq_X11_within E d (jd_le hd rfl) x1 0 7 a0 b0) ?_
  have h1936_ := f_X11_within_eq a0 b0 x1 0 7
  refine jt_ite (fun c1937_ => ?_) (fun c1937_ => ?_)
  ·
    exact cp_X1_put_35 E d hd x1 x2 x3 a0 b0 hv0 x1 x2 x3 a0 hv0 (jfr_rf _ _) (show x1 = x1 from by omega) (show x2 = x2 from by omega) (show x3 = x3 from by omega) (show (((((x1 < 0 ∨ 7 < x1) ∨ x2 < 1) ∨ 500 < x2) ∨ x3 < 0) ∨ 50 < x3) from by omega)
  ·
    refine jt_eI (eq_X11_within E d (jd_le hd rfl) x2 1 500 a0 b0) ?_
    have h1938_ := f_X11_within_eq a0 b0 x2 1 500
    refine jt_ite (fun c1939_ => ?_) (fun c1939_ => ?_)
    ·
      exact cp_X1_put_35 E d hd x1 x2 x3 a0 b0 hv0 x1 x2 x3 a0 hv0 (jfr_rf _ _) (show x1 = x1 from by omega) (show x2 = x2 from by omega) (show x3 = x3 from by omega) (show (((((x1 < 0 ∨ 7 < x1) ∨ x2 < 1) ∨ 500 < x2) ∨ x3 < 0) ∨ 50 < x3) from by omega)
    ·
      refine jt_eI (eq_X11_within E d (jd_le hd rfl) x3 0 50 a0 b0) ?_
      have h1940_ := f_X11_within_eq a0 b0 x3 0 50
      refine jt_ite (fun c1941_ => ?_) (fun c1941_ => ?_)
      ·
        exact cp_X1_put_35 E d hd x1 x2 x3 a0 b0 hv0 x1 x2 x3 a0 hv0 (jfr_rf _ _) (show x1 = x1 from by omega) (show x2 = x2 from by omega) (show x3 = x3 from by omega) (show (((((x1 < 0 ∨ 7 < x1) ∨ x2 < 1) ∨ 500 < x2) ∨ x3 < 0) ∨ 50 < x3) from by omega)
      ·
        exact cp_X1_put_31 E d hd x1 x2 x3 a0 b0 hv0 x1 x2 x3 a0 hv0 (jfr_rf _ _) (show 0 ≤ x1 from by omega) (show x1 ≤ 7 from by omega) (show 1 ≤ x2 from by omega) (show x2 ≤ 500 from by omega) (show 0 ≤ x3 from by omega) (show x3 ≤ 50 from by omega) (show x1 = x1 from by omega) (show x2 = x2 from by omega) (show x3 = x3 from by omega) (show (((((0 ≤ x1 ∧ x1 ≤ 7) ∧ 1 ≤ x2) ∧ x2 ≤ 500) ∧ 0 ≤ x3) ∧ x3 ≤ 50) from by omega)
def jW_X11_stamps : List (Nat × Nat) := [(142, 9999), (143, 9999)]
abbrev jQ_X11_stamps (x1 x2 x3 : Int) (a0 b0 : Nat → Nat → Int) : List jxV → (Nat → Nat → Int) → (Nat → Nat → Int) → Prop := rI (fun r a b => (iv a) ∧ (jfr jW_X11_stamps a0 a) ∧ (b0 = b) ∧ ((0 ≤ r ∧ r ≤ 1)) ∧ ((((((((r = 1 ∧ 0 ≤ x1) ∧ x1 ≤ 7) ∧ 1 ≤ x2) ∧ x2 ≤ 500) ∧ 0 ≤ x3) ∧ x3 ≤ 50) ∨ (r = 0 ∧ (((((x1 < 0 ∨ 7 < x1) ∨ x2 < 1) ∨ 500 < x2) ∨ x3 < 0) ∨ 50 < x3)))))
theorem sp_X11_stamps (E : jxE) (d : Nat) (hd : Nat.ble 3 d = true) (x1 x2 x3 : Int) (a0 b0 : Nat → Nat → Int) (hv0 : iv a0) : jt (jxC E d 193 [.inr (.inr (.inl 0)), .inl x1, .inl x2, .inl x3] (jxSH, a0, b0)) (jQ_X11_stamps x1 x2 x3 a0 b0) := by
  obtain ⟨d, rfl⟩ := jd_succ hd
  refine jt_eq (bq_X11_stamps E d x1 x2 x3 a0 b0) ?_
  refine jt_bI (sp_X1_put E d (jd_le hd rfl) x1 x2 x3 a0 b0 hv0) (fun r1942_ a1942_ b1942_ h1942_ => ?_)
  obtain ⟨hv1942_, hf1942_, rfl, hq1942_0, hq1942_1⟩ := h1942_
  refine jt_grd (by omega) ?_
  have hf1943_ : jfr jW_X11_stamps a0 a1942_ := jfr_tr (jfr_rf _ _) hf1942_ rfl
  exact jt_rI ⟨hv1942_, hf1943_, rfl, (show (0 ≤ r1942_ ∧ r1942_ ≤ 1) from by omega), (show (((((((r1942_ = 1 ∧ 0 ≤ x1) ∧ x1 ≤ 7) ∧ 1 ≤ x2) ∧ x2 ≤ 500) ∧ 0 ≤ x3) ∧ x3 ≤ 50) ∨ (r1942_ = 0 ∧ (((((x1 < 0 ∨ 7 < x1) ∨ x2 < 1) ∨ 500 < x2) ∨ x3 < 0) ∨ 50 < x3))) from by omega)⟩
abbrev jQ_X11_state (x1 x2 x3 : Int) (a0 b0 : Nat → Nat → Int) : List jxV → (Nat → Nat → Int) → (Nat → Nat → Int) → Prop := rI (fun r a b => (a0 = a) ∧ (b0 = b) ∧ ((a0 58 8 = 0 → r = 0 - 1)))
theorem sp_X11_state (E : jxE) (d : Nat) (hd : Nat.ble 4 d = true) (x1 x2 x3 : Int) (a0 b0 : Nat → Nat → Int) (hv0 : iv a0) : jt (jxC E d 180 [.inr (.inr (.inl 0)), .inl x1, .inl x2, .inl x3] (jxSH, a0, b0)) (jQ_X11_state x1 x2 x3 a0 b0) := by
  obtain ⟨d, rfl⟩ := jd_succ hd
  refine jt_eq (bq_X11_state E d x1 x2 x3 a0 b0) ?_
  refine jt_eI (eq_X0_has E d (jd_le hd rfl) x1 a0 b0) ?_
  have h1944_ := f_X0_has_eq a0 b0 x1
  have h1945_ := iv_get hv0 (k := 58) (j := 8) (l := 0) (u := 300) rfl
  refine jt_ite (fun c1946_ => ?_) (fun c1946_ => ?_)
  ·
    exact jt_rI ⟨rfl, rfl, (show (a0 58 8 = 0 → (-1) = 0 - 1) from by omega)⟩
  ·
    refine jt_eI (eq_X11_isDay E d (jd_le hd rfl) x2 a0 b0) ?_
    have h1947_ := f_X11_isDay_eq a0 b0 x2
    have h1948_ := f_X11_within_eq a0 b0 x2 0 1999
    refine jt_ite (fun c1949_ => ?_) (fun c1949_ => ?_)
    ·
      exact jt_rI ⟨rfl, rfl, (show (a0 58 8 = 0 → (-1) = 0 - 1) from by omega)⟩
    ·
      refine jt_eI (eq_X11_isDay E d (jd_le hd rfl) x3 a0 b0) ?_
      have h1950_ := f_X11_isDay_eq a0 b0 x3
      have h1951_ := f_X11_within_eq a0 b0 x3 0 1999
      refine jt_ite (fun c1952_ => ?_) (fun c1952_ => ?_)
      ·
        exact jt_rI ⟨rfl, rfl, (show (a0 58 8 = 0 → (-1) = 0 - 1) from by omega)⟩
      ·
        refine jt_bI (sp_X0_stateAsKnown E d (jd_le hd rfl) x1 x2 x3 a0 b0 hv0) (fun r1953_ a1953_ b1953_ h1953_ => ?_)
        obtain ⟨rfl, rfl⟩ := h1953_
        exact jt_rI ⟨rfl, rfl, (show (a0 58 8 = 0 → r1953_ = 0 - 1) from by omega)⟩
