def jW_X0_add : List (Nat × Nat) := [(58, 8), (59, 9999), (60, 9999), (61, 9999), (62, 9999), (63, 9999), (64, 9999), (65, 9999)]
abbrev jQ_X0_add (x1 x2 x3 x4 x5 : Int) (a0 b0 : Nat → Nat → Int) : List jxV → (Nat → Nat → Int) → (Nat → Nat → Int) → Prop := rI (fun r a b => (iv a) ∧ (jfr jW_X0_add a0 a) ∧ (b0 = b))
theorem cp_X0_add_64 (E : jxE) (d : Nat) (hd : Nat.ble 1 (d + 1) = true) (x1 x2 x3 x4 x5 : Int) (a0 b0 : Nat → Nat → Int) (hv0 : iv a0) : ∀ (a : Nat → Nat → Int), iv a → jfr jW_X0_add a0 a → a 58 8 ≤ 299 → jt (jxX E d 5 64 [some (.inr (.inr (.inl 58))), none, none, none, none, none] [] (jxSH, a, b0)) (jQ_X0_add x1 x2 x3 x4 x5 a0 b0) := by
  intro a hv hf hi0
  refine jt_eq (bq_X0_add_64 E d a b0) ?_
  have h1_ := iv_get hv (k := 58) (j := 8) (l := 0) (u := 300) rfl
  refine jt_grd (by omega) ?_
  refine jt_grd (by omega) ?_
  have hv2_ : iv (jxu a 64 ((a 58 8).toNat) (-1)) := iv_putf hv rfl
  have hv3_ : iv (jxu (jxu a 64 ((a 58 8).toNat) (-1)) 65 ((a 58 8).toNat) (-1)) := iv_putf hv2_ rfl
  have h5_ : jxw ((a 58 8) + 1) = (a 58 8) + 1 := jxw_id (by omega) (by omega)
  have hv4_ : iv (jxu (jxu (jxu a 64 ((a 58 8).toNat) (-1)) 65 ((a 58 8).toNat) (-1)) 58 8 (jxw ((a 58 8) + 1))) := iv_put hv3_ (l := 0) (u := 300) rfl (by omega) (by omega)
  have hf6_ : jfr jW_X0_add a0 (jxu a 64 ((a 58 8).toNat) (-1)) := jfr_put hf rfl
  have hf7_ : jfr jW_X0_add a0 (jxu (jxu a 64 ((a 58 8).toNat) (-1)) 65 ((a 58 8).toNat) (-1)) := jfr_put hf6_ rfl
  have hf8_ : jfr jW_X0_add a0 (jxu (jxu (jxu a 64 ((a 58 8).toNat) (-1)) 65 ((a 58 8).toNat) (-1)) 58 8 (jxw ((a 58 8) + 1))) := jfr_put hf7_ rfl
  exact jt_rI ⟨hv4_, hf8_, rfl⟩
theorem cp_X0_add_32 (E : jxE) (d : Nat) (hd : Nat.ble 1 (d + 1) = true) (x1 x2 x3 x4 x5 : Int) (a0 b0 : Nat → Nat → Int) (hv0 : iv a0) : ∀ (y3 y4 y5 : Int) (a : Nat → Nat → Int), iv a → jfr jW_X0_add a0 a → a 58 8 ≤ 299 → jt (jxX E d 5 32 [some (.inr (.inr (.inl 58))), none, none, some (.inl y3), some (.inl y4), some (.inl y5)] [] (jxSH, a, b0)) (jQ_X0_add x1 x2 x3 x4 x5 a0 b0) := by
  intro y3 y4 y5 a hv hf hi0
  refine jt_eq (bq_X0_add_32 E d y3 y4 y5 a b0) ?_
  have h9_ := iv_get hv (k := 58) (j := 8) (l := 0) (u := 300) rfl
  refine jt_grd (by omega) ?_
  refine jt_grd (by omega) ?_
  refine jt_grd (by omega) ?_
  have hv10_ : iv (jxu a 61 ((a 58 8).toNat) y3) := iv_putf hv rfl
  have hv11_ : iv (jxu (jxu a 61 ((a 58 8).toNat) y3) 62 ((a 58 8).toNat) y4) := iv_putf hv10_ rfl
  have hv12_ : iv (jxu (jxu (jxu a 61 ((a 58 8).toNat) y3) 62 ((a 58 8).toNat) y4) 63 ((a 58 8).toNat) y5) := iv_putf hv11_ rfl
  have hf13_ : jfr jW_X0_add a0 (jxu a 61 ((a 58 8).toNat) y3) := jfr_put hf rfl
  have hf14_ : jfr jW_X0_add a0 (jxu (jxu a 61 ((a 58 8).toNat) y3) 62 ((a 58 8).toNat) y4) := jfr_put hf13_ rfl
  have hf15_ : jfr jW_X0_add a0 (jxu (jxu (jxu a 61 ((a 58 8).toNat) y3) 62 ((a 58 8).toNat) y4) 63 ((a 58 8).toNat) y5) := jfr_put hf14_ rfl
  exact cp_X0_add_64 E d hd x1 x2 x3 x4 x5 a0 b0 hv0 (jxu (jxu (jxu a 61 ((a 58 8).toNat) y3) 62 ((a 58 8).toNat) y4) 63 ((a 58 8).toNat) y5) hv12_ hf15_ (show a 58 8 ≤ 299 from by omega)
theorem sp_X0_add (E : jxE) (d : Nat) (hd : Nat.ble 1 d = true) (x1 x2 x3 x4 x5 : Int) (a0 b0 : Nat → Nat → Int) (hv0 : iv a0) : jt (jxC E d 5 [.inr (.inr (.inl 58)), .inl x1, .inl x2, .inl x3, .inl x4, .inl x5] (jxSH, a0, b0)) (jQ_X0_add x1 x2 x3 x4 x5 a0 b0) := by
  obtain ⟨d, rfl⟩ := jd_succ hd
  refine jt_eq (bq_X0_add E d x1 x2 x3 x4 x5 a0 b0) ?_
  have h16_ := iv_get hv0 (k := 58) (j := 8) (l := 0) (u := 300) rfl
  refine jt_ite (fun c17_ => ?_) (fun c17_ => ?_)
  ·
    refine jt_grd (by omega) ?_
    refine jt_grd (by omega) ?_
    have hv18_ : iv (jxu a0 59 ((a0 58 8).toNat) x1) := iv_putf hv0 rfl
    have hv19_ : iv (jxu (jxu a0 59 ((a0 58 8).toNat) x1) 60 ((a0 58 8).toNat) x2) := iv_putf hv18_ rfl
    have hf20_ : jfr jW_X0_add a0 (jxu a0 59 ((a0 58 8).toNat) x1) := jfr_put (jfr_rf _ _) rfl
    have hf21_ : jfr jW_X0_add a0 (jxu (jxu a0 59 ((a0 58 8).toNat) x1) 60 ((a0 58 8).toNat) x2) := jfr_put hf20_ rfl
    exact cp_X0_add_32 E d hd x1 x2 x3 x4 x5 a0 b0 hv0 x3 x4 x5 (jxu (jxu a0 59 ((a0 58 8).toNat) x1) 60 ((a0 58 8).toNat) x2) hv19_ hf21_ (show a0 58 8 ≤ 299 from by omega)
  ·
    exact jt_rI ⟨hv0, (jfr_rf _ _), rfl⟩
def jW_X0_addMeasured : List (Nat × Nat) := [(58, 13), (58, 14), (58, 15)]
abbrev jQ_X0_addMeasured (x1 : Int) (a0 b0 : Nat → Nat → Int) : List jxV → (Nat → Nat → Int) → (Nat → Nat → Int) → Prop := rV (fun a b => (iv a) ∧ (jfr jW_X0_addMeasured a0 a) ∧ (b0 = b))
theorem cp_X0_addMeasured_20 (E : jxE) (d : Nat) (hd : Nat.ble 2 (d + 1) = true) (x1 : Int) (a0 b0 : Nat → Nat → Int) (hv0 : iv a0) (hp0 : a0 58 13 < 10) : ∀ (y1 s1 : Int) (a : Nat → Nat → Int), iv a → jfr jW_X0_addMeasured a0 a → a 58 13 ≤ 9 → jt (jxX E d 24 20 [some (.inr (.inr (.inl 58))), some (.inl y1)] [.inl s1, .inr (.inr (.inl 58))] (jxSH, a, b0)) (jQ_X0_addMeasured x1 a0 b0) := by
  intro y1 s1 a hv hf hi0
  refine jt_eq (bq_X0_addMeasured_20 E d y1 s1 a b0) ?_
  have h22_ := iv_get hv (k := 58) (j := 13) (l := 0) (u := 10) rfl
  refine jt_eI (eq_J9_max_7cf53 E d (jd_le hd rfl) (a 58 15) y1 (jxu a 58 14 s1) b0) ?_
  have hv23_ : iv (jxu a 58 14 s1) := iv_putf hv rfl
  have hv24_ : iv (jxu (jxu a 58 14 s1) 58 15 (f_J9_max_7cf53 (jxu a 58 14 s1) b0 (a 58 15) y1)) := iv_putf hv23_ rfl
  have h26_ : jxw ((a 58 13) + 1) = (a 58 13) + 1 := jxw_id (by omega) (by omega)
  have hv25_ : iv (jxu (jxu (jxu a 58 14 s1) 58 15 (f_J9_max_7cf53 (jxu a 58 14 s1) b0 (a 58 15) y1)) 58 13 (jxw ((a 58 13) + 1))) := iv_put hv24_ (l := 0) (u := 10) rfl (by omega) (by omega)
  have hf27_ : jfr jW_X0_addMeasured a0 (jxu a 58 14 s1) := jfr_put hf rfl
  have hf28_ : jfr jW_X0_addMeasured a0 (jxu (jxu a 58 14 s1) 58 15 (f_J9_max_7cf53 (jxu a 58 14 s1) b0 (a 58 15) y1)) := jfr_put hf27_ rfl
  have hf29_ : jfr jW_X0_addMeasured a0 (jxu (jxu (jxu a 58 14 s1) 58 15 (f_J9_max_7cf53 (jxu a 58 14 s1) b0 (a 58 15) y1)) 58 13 (jxw ((a 58 13) + 1))) := jfr_put hf28_ rfl
  exact jt_rV ⟨hv25_, hf29_, rfl⟩
theorem sp_X0_addMeasured (E : jxE) (d : Nat) (hd : Nat.ble 2 d = true) (x1 : Int) (a0 b0 : Nat → Nat → Int) (hv0 : iv a0) (hp0 : a0 58 13 < 10) : jt (jxC E d 24 [.inr (.inr (.inl 58)), .inl x1] (jxSH, a0, b0)) (jQ_X0_addMeasured x1 a0 b0) := by
  obtain ⟨d, rfl⟩ := jd_succ hd
  refine jt_eq (bq_X0_addMeasured E d x1 a0 b0) ?_
  have h30_ := iv_get hv0 (k := 58) (j := 13) (l := 0) (u := 10) rfl
  refine jt_ite (fun c31_ => ?_) (fun c31_ => ?_)
  ·
    exact cp_X0_addMeasured_20 E d hd x1 a0 b0 hv0 hp0 x1 x1 a0 hv0 (jfr_rf _ _) (show a0 58 13 ≤ 9 from by omega)
  ·
    refine jt_eI (eq_J9_min_7cf53 E d (jd_le hd rfl) (a0 58 14) x1 a0 b0) ?_
    exact cp_X0_addMeasured_20 E d hd x1 a0 b0 hv0 hp0 x1 (f_J9_min_7cf53 a0 b0 (a0 58 14) x1) a0 hv0 (jfr_rf _ _) (show a0 58 13 ≤ 9 from by omega)
def jW_X0_measure : List (Nat × Nat) := [(58, 13), (58, 14), (58, 15)]
abbrev jQ_X0_measure (x1 x2 : Int) (a0 b0 : Nat → Nat → Int) : List jxV → (Nat → Nat → Int) → (Nat → Nat → Int) → Prop := rV (fun a b => (iv a) ∧ (jfr jW_X0_measure a0 a) ∧ (b0 = b) ∧ ((a0 58 12 = 0 → ((a 58 13 = 0 ∧ a 58 14 = 0 - 1) ∧ a 58 15 = 0 - 1))))
theorem cp_X0_measure_22 (E : jxE) (d : Nat) (hd : Nat.ble 3 (d + 1) = true) (x1 x2 : Int) (a0 b0 : Nat → Nat → Int) (hv0 : iv a0) : ∀ n : Nat, (∀ (y1 y2 y3 : Int) (a : Nat → Nat → Int), (((y3 + 1) * 1) + 0).toNat ≤ n → iv a → jfr jW_X0_measure a0 a → 0 ≤ y3 → y3 ≤ 599 → 1 ≤ a0 58 12 → jt (jxX E d 23 139 [some (.inr (.inr (.inl 58))), some (.inl y1), some (.inl y2), some (.inl y3), none, none] [] (jxSH, a, b0)) (jQ_X0_measure x1 x2 a0 b0)) ∧ (∀ (y1 y2 y3 y4 : Int) (a : Nat → Nat → Int), (((y3 + 1) * 1) + 0).toNat ≤ n → iv a → jfr jW_X0_measure a0 a → 0 ≤ y3 → y3 ≤ 599 → 0 ≤ y4 → y4 ≤ 299 → a 58 13 ≤ 9 → 1 ≤ a0 58 12 → jt (jxX E d 23 121 [some (.inr (.inr (.inl 58))), some (.inl y1), some (.inl y2), some (.inl y3), some (.inl y4), none] [] (jxSH, a, b0)) (jQ_X0_measure x1 x2 a0 b0)) ∧ (∀ (y1 y2 y3 y4 s0 : Int) (a : Nat → Nat → Int), (((y3 + 1) * 1) + 0).toNat ≤ n → iv a → jfr jW_X0_measure a0 a → 0 ≤ y3 → y3 ≤ 599 → 0 ≤ s0 → s0 ≤ 1 → a 58 13 ≤ 9 → 1 ≤ a0 58 12 → (s0 = 1 → (0 ≤ y4 ∧ y4 ≤ 299)) → jt (jxX E d 23 78 [some (.inr (.inr (.inl 58))), some (.inl y1), some (.inl y2), some (.inl y3), some (.inl y4), none] [.inl s0] (jxSH, a, b0)) (jQ_X0_measure x1 x2 a0 b0)) ∧ (∀ (y1 y2 y3 y4 : Int) (a : Nat → Nat → Int), (((y3 + 1) * 1) + 0).toNat ≤ n → iv a → jfr jW_X0_measure a0 a → 0 ≤ y3 → y3 ≤ 599 → a 58 13 ≤ 9 → 1 ≤ a0 58 12 → jt (jxX E d 23 77 [some (.inr (.inr (.inl 58))), some (.inl y1), some (.inl y2), some (.inl y3), some (.inl y4), none] [] (jxSH, a, b0)) (jQ_X0_measure x1 x2 a0 b0)) ∧ (∀ (y1 y2 y3 y4 : Int) (a : Nat → Nat → Int), (((y3 + 1) * 1) + 0).toNat ≤ n → iv a → jfr jW_X0_measure a0 a → 0 ≤ y3 → y3 ≤ 599 → 0 ≤ y4 → y4 ≤ 299 → a 58 13 ≤ 9 → 1 ≤ a0 58 12 → jt (jxX E d 23 52 [some (.inr (.inr (.inl 58))), some (.inl y1), some (.inl y2), some (.inl y3), some (.inl y4), none] [] (jxSH, a, b0)) (jQ_X0_measure x1 x2 a0 b0)) ∧ (∀ (y1 y2 y3 : Int) (a : Nat → Nat → Int), (((y3 + 1) * 1) + 0).toNat ≤ n → iv a → jfr jW_X0_measure a0 a → 0 - 1 ≤ y3 → y3 ≤ 599 → (a0 58 12 = 0 → (((y3 < 0 ∧ a 58 13 = 0) ∧ a 58 14 = 0 - 1) ∧ a 58 15 = 0 - 1)) → jt (jxX E d 23 22 [some (.inr (.inr (.inl 58))), some (.inl y1), some (.inl y2), some (.inl y3), none, none] [] (jxSH, a, b0)) (jQ_X0_measure x1 x2 a0 b0)) := by
  refine jx_ind fun n ih => ?_
  have ih139 : ∀ (y1 y2 y3 : Int) (a : Nat → Nat → Int), (((y3 + 1) * 1) + 0).toNat < n → iv a → jfr jW_X0_measure a0 a → 0 ≤ y3 → y3 ≤ 599 → 1 ≤ a0 58 12 → jt (jxX E d 23 139 [some (.inr (.inr (.inl 58))), some (.inl y1), some (.inl y2), some (.inl y3), none, none] [] (jxSH, a, b0)) (jQ_X0_measure x1 x2 a0 b0) := fun y1 y2 y3 a hlt i0 i1 i2 i3 i4 => (ih _ hlt).1 y1 y2 y3 a (Nat.le_refl _) i0 i1 i2 i3 i4
  have ih121 : ∀ (y1 y2 y3 y4 : Int) (a : Nat → Nat → Int), (((y3 + 1) * 1) + 0).toNat < n → iv a → jfr jW_X0_measure a0 a → 0 ≤ y3 → y3 ≤ 599 → 0 ≤ y4 → y4 ≤ 299 → a 58 13 ≤ 9 → 1 ≤ a0 58 12 → jt (jxX E d 23 121 [some (.inr (.inr (.inl 58))), some (.inl y1), some (.inl y2), some (.inl y3), some (.inl y4), none] [] (jxSH, a, b0)) (jQ_X0_measure x1 x2 a0 b0) := fun y1 y2 y3 y4 a hlt i0 i1 i2 i3 i4 i5 i6 i7 => (ih _ hlt).2.1 y1 y2 y3 y4 a (Nat.le_refl _) i0 i1 i2 i3 i4 i5 i6 i7
  have ih78 : ∀ (y1 y2 y3 y4 s0 : Int) (a : Nat → Nat → Int), (((y3 + 1) * 1) + 0).toNat < n → iv a → jfr jW_X0_measure a0 a → 0 ≤ y3 → y3 ≤ 599 → 0 ≤ s0 → s0 ≤ 1 → a 58 13 ≤ 9 → 1 ≤ a0 58 12 → (s0 = 1 → (0 ≤ y4 ∧ y4 ≤ 299)) → jt (jxX E d 23 78 [some (.inr (.inr (.inl 58))), some (.inl y1), some (.inl y2), some (.inl y3), some (.inl y4), none] [.inl s0] (jxSH, a, b0)) (jQ_X0_measure x1 x2 a0 b0) := fun y1 y2 y3 y4 s0 a hlt i0 i1 i2 i3 i4 i5 i6 i7 i8 => (ih _ hlt).2.2.1 y1 y2 y3 y4 s0 a (Nat.le_refl _) i0 i1 i2 i3 i4 i5 i6 i7 i8
  have ih77 : ∀ (y1 y2 y3 y4 : Int) (a : Nat → Nat → Int), (((y3 + 1) * 1) + 0).toNat < n → iv a → jfr jW_X0_measure a0 a → 0 ≤ y3 → y3 ≤ 599 → a 58 13 ≤ 9 → 1 ≤ a0 58 12 → jt (jxX E d 23 77 [some (.inr (.inr (.inl 58))), some (.inl y1), some (.inl y2), some (.inl y3), some (.inl y4), none] [] (jxSH, a, b0)) (jQ_X0_measure x1 x2 a0 b0) := fun y1 y2 y3 y4 a hlt i0 i1 i2 i3 i4 i5 => (ih _ hlt).2.2.2.1 y1 y2 y3 y4 a (Nat.le_refl _) i0 i1 i2 i3 i4 i5
  have ih52 : ∀ (y1 y2 y3 y4 : Int) (a : Nat → Nat → Int), (((y3 + 1) * 1) + 0).toNat < n → iv a → jfr jW_X0_measure a0 a → 0 ≤ y3 → y3 ≤ 599 → 0 ≤ y4 → y4 ≤ 299 → a 58 13 ≤ 9 → 1 ≤ a0 58 12 → jt (jxX E d 23 52 [some (.inr (.inr (.inl 58))), some (.inl y1), some (.inl y2), some (.inl y3), some (.inl y4), none] [] (jxSH, a, b0)) (jQ_X0_measure x1 x2 a0 b0) := fun y1 y2 y3 y4 a hlt i0 i1 i2 i3 i4 i5 i6 i7 => (ih _ hlt).2.2.2.2.1 y1 y2 y3 y4 a (Nat.le_refl _) i0 i1 i2 i3 i4 i5 i6 i7
  have ih22 : ∀ (y1 y2 y3 : Int) (a : Nat → Nat → Int), (((y3 + 1) * 1) + 0).toNat < n → iv a → jfr jW_X0_measure a0 a → 0 - 1 ≤ y3 → y3 ≤ 599 → (a0 58 12 = 0 → (((y3 < 0 ∧ a 58 13 = 0) ∧ a 58 14 = 0 - 1) ∧ a 58 15 = 0 - 1)) → jt (jxX E d 23 22 [some (.inr (.inr (.inl 58))), some (.inl y1), some (.inl y2), some (.inl y3), none, none] [] (jxSH, a, b0)) (jQ_X0_measure x1 x2 a0 b0) := fun y1 y2 y3 a hlt i0 i1 i2 i3 i4 => (ih _ hlt).2.2.2.2.2 y1 y2 y3 a (Nat.le_refl _) i0 i1 i2 i3 i4
  have hc139 : ∀ (y1 y2 y3 : Int) (a : Nat → Nat → Int), (((y3 + 1) * 1) + 0).toNat ≤ n → iv a → jfr jW_X0_measure a0 a → 0 ≤ y3 → y3 ≤ 599 → 1 ≤ a0 58 12 → jt (jxX E d 23 139 [some (.inr (.inr (.inl 58))), some (.inl y1), some (.inl y2), some (.inl y3), none, none] [] (jxSH, a, b0)) (jQ_X0_measure x1 x2 a0 b0) := by
    intro y1 y2 y3 a hm hv hf hi0 hi1 hi2
    refine jt_eq (bq_X0_measure_139 E d y1 y2 y3 a b0) ?_
    have h32_ := iv_get hv0 (k := 58) (j := 12) (l := 0) (u := 600) rfl
    have h33_ : jxw (y3 + (-1)) = y3 + (-1) := jxw_id (by omega) (by omega)
    have h34_ := iv_get hv (k := 58) (j := 13) (l := 0) (u := 10) rfl
    exact ih22 y1 y2 (jxw (y3 + (-1))) a (show ((((jxw (y3 + (-1))) + 1) * 1) + 0).toNat < n from by omega) hv hf (show 0 - 1 ≤ jxw (y3 + (-1)) from by omega) (show jxw (y3 + (-1)) ≤ 599 from by omega) (show (a0 58 12 = 0 → (((jxw (y3 + (-1)) < 0 ∧ a 58 13 = 0) ∧ a 58 14 = 0 - 1) ∧ a 58 15 = 0 - 1)) from by omega)
  have hc121 : ∀ (y1 y2 y3 y4 : Int) (a : Nat → Nat → Int), (((y3 + 1) * 1) + 0).toNat ≤ n → iv a → jfr jW_X0_measure a0 a → 0 ≤ y3 → y3 ≤ 599 → 0 ≤ y4 → y4 ≤ 299 → a 58 13 ≤ 9 → 1 ≤ a0 58 12 → jt (jxX E d 23 121 [some (.inr (.inr (.inl 58))), some (.inl y1), some (.inl y2), some (.inl y3), some (.inl y4), none] [] (jxSH, a, b0)) (jQ_X0_measure x1 x2 a0 b0) := by
    intro y1 y2 y3 y4 a hm hv hf hi0 hi1 hi2 hi3 hi4 hi5
    refine jt_eq (bq_X0_measure_121 E d y1 y2 y3 y4 a b0) ?_
    have h35_ := iv_get hv (k := 58) (j := 13) (l := 0) (u := 10) rfl
    have h36_ := iv_get hv0 (k := 58) (j := 12) (l := 0) (u := 600) rfl
    refine jt_grd (by omega) ?_
    refine jt_grd (by omega) ?_
    refine jt_bV (sp_X0_addMeasured E d (jd_le hd rfl) (jxw ((a 67 (y3.toNat)) - (a 61 (y4.toNat)))) a b0 hv (show a 58 13 < 10 from by omega)) (fun a37_ b37_ h37_ => ?_)
    obtain ⟨hv37_, hf37_, rfl⟩ := h37_
    have hf38_ : jfr jW_X0_measure a0 a37_ := jfr_tr hf hf37_ rfl
    exact hc139 y1 y2 y3 a37_ (show (((y3 + 1) * 1) + 0).toNat ≤ n from by omega) hv37_ hf38_ (show 0 ≤ y3 from by omega) (show y3 ≤ 599 from by omega) (show 1 ≤ a0 58 12 from by omega)
  have hc78 : ∀ (y1 y2 y3 y4 s0 : Int) (a : Nat → Nat → Int), (((y3 + 1) * 1) + 0).toNat ≤ n → iv a → jfr jW_X0_measure a0 a → 0 ≤ y3 → y3 ≤ 599 → 0 ≤ s0 → s0 ≤ 1 → a 58 13 ≤ 9 → 1 ≤ a0 58 12 → (s0 = 1 → (0 ≤ y4 ∧ y4 ≤ 299)) → jt (jxX E d 23 78 [some (.inr (.inr (.inl 58))), some (.inl y1), some (.inl y2), some (.inl y3), some (.inl y4), none] [.inl s0] (jxSH, a, b0)) (jQ_X0_measure x1 x2 a0 b0) := by
    intro y1 y2 y3 y4 s0 a hm hv hf hi0 hi1 hi2 hi3 hi4 hi5 hi6
    refine jt_eq (bq_X0_measure_78 E d y1 y2 y3 y4 s0 a b0) ?_
    have h39_ := iv_get hv (k := 58) (j := 13) (l := 0) (u := 10) rfl
    have h40_ := iv_get hv0 (k := 58) (j := 12) (l := 0) (u := 600) rfl
    refine jt_ite (fun c41_ => ?_) (fun c41_ => ?_)
    ·
      exact hc139 y1 y2 y3 a (show (((y3 + 1) * 1) + 0).toNat ≤ n from by omega) hv hf (show 0 ≤ y3 from by omega) (show y3 ≤ 599 from by omega) (show 1 ≤ a0 58 12 from by omega)
    ·
      refine jt_grd (by omega) ?_
      refine jt_eI (eq_X3_landOf E d (jd_le hd rfl) (a 59 (y4.toNat)) a b0) ?_
      have h42_ : a 59 (y4.toNat) = a0 59 (y4.toNat) := hf 59 (y4.toNat) rfl
      have h43_ := f_X3_landOf_eq a b0 (a 59 (y4.toNat))
      have h44_ := iv_get hv (k := 4) (j := 6) (l := 0) (u := 40) rfl
      have h45_ : a 4 6 = a0 4 6 := hf 4 6 rfl
      have h46_ := iv_get hv0 (k := 4) (j := 6) (l := 0) (u := 40) rfl
      have h47_ := f_X11_entry_r5_eq a b0 (a 4 6) (a 59 (y4.toNat))
      have h48_ : a 5 ((a 59 (y4.toNat)).toNat) = a0 5 ((a 59 (y4.toNat)).toNat) := hf 5 ((a 59 (y4.toNat)).toNat) rfl
      refine jt_ite (fun c49_ => ?_) (fun c49_ => ?_)
      ·
        refine jt_grd (by omega) ?_
        refine jt_eI (eq_X3_landOf E d (jd_le hd rfl) (a 60 (y4.toNat)) a b0) ?_
        have h50_ : a 60 (y4.toNat) = a0 60 (y4.toNat) := hf 60 (y4.toNat) rfl
        have h51_ := f_X3_landOf_eq a b0 (a 60 (y4.toNat))
        have h52_ := f_X11_entry_r5_eq a b0 (a 4 6) (a 60 (y4.toNat))
        have h53_ : a 5 ((a 60 (y4.toNat)).toNat) = a0 5 ((a 60 (y4.toNat)).toNat) := hf 5 ((a 60 (y4.toNat)).toNat) rfl
        refine jt_ite (fun c54_ => ?_) (fun c54_ => ?_)
        ·
          exact hc121 y1 y2 y3 y4 a (show (((y3 + 1) * 1) + 0).toNat ≤ n from by omega) hv hf (show 0 ≤ y3 from by omega) (show y3 ≤ 599 from by omega) (show 0 ≤ y4 from by omega) (show y4 ≤ 299 from by omega) (show a 58 13 ≤ 9 from by omega) (show 1 ≤ a0 58 12 from by omega)
        ·
          exact hc139 y1 y2 y3 a (show (((y3 + 1) * 1) + 0).toNat ≤ n from by omega) hv hf (show 0 ≤ y3 from by omega) (show y3 ≤ 599 from by omega) (show 1 ≤ a0 58 12 from by omega)
      ·
        exact hc139 y1 y2 y3 a (show (((y3 + 1) * 1) + 0).toNat ≤ n from by omega) hv hf (show 0 ≤ y3 from by omega) (show y3 ≤ 599 from by omega) (show 1 ≤ a0 58 12 from by omega)
  have hc77 : ∀ (y1 y2 y3 y4 : Int) (a : Nat → Nat → Int), (((y3 + 1) * 1) + 0).toNat ≤ n → iv a → jfr jW_X0_measure a0 a → 0 ≤ y3 → y3 ≤ 599 → a 58 13 ≤ 9 → 1 ≤ a0 58 12 → jt (jxX E d 23 77 [some (.inr (.inr (.inl 58))), some (.inl y1), some (.inl y2), some (.inl y3), some (.inl y4), none] [] (jxSH, a, b0)) (jQ_X0_measure x1 x2 a0 b0) := by
    intro y1 y2 y3 y4 a hm hv hf hi0 hi1 hi2 hi3
    refine jt_eq (bq_X0_measure_77 E d y1 y2 y3 y4 a b0) ?_
    have h55_ := iv_get hv (k := 58) (j := 13) (l := 0) (u := 10) rfl
    have h56_ := iv_get hv0 (k := 58) (j := 12) (l := 0) (u := 600) rfl
    exact hc78 y1 y2 y3 y4 0 a (show (((y3 + 1) * 1) + 0).toNat ≤ n from by omega) hv hf (show 0 ≤ y3 from by omega) (show y3 ≤ 599 from by omega) (show 0 ≤ 0 from by omega) (show 0 ≤ 1 from by omega) (show a 58 13 ≤ 9 from by omega) (show 1 ≤ a0 58 12 from by omega) (show (0 = 1 → (0 ≤ y4 ∧ y4 ≤ 299)) from by omega)
  have hc52 : ∀ (y1 y2 y3 y4 : Int) (a : Nat → Nat → Int), (((y3 + 1) * 1) + 0).toNat ≤ n → iv a → jfr jW_X0_measure a0 a → 0 ≤ y3 → y3 ≤ 599 → 0 ≤ y4 → y4 ≤ 299 → a 58 13 ≤ 9 → 1 ≤ a0 58 12 → jt (jxX E d 23 52 [some (.inr (.inr (.inl 58))), some (.inl y1), some (.inl y2), some (.inl y3), some (.inl y4), none] [] (jxSH, a, b0)) (jQ_X0_measure x1 x2 a0 b0) := by
    intro y1 y2 y3 y4 a hm hv hf hi0 hi1 hi2 hi3 hi4 hi5
    refine jt_eq (bq_X0_measure_52 E d y1 y2 y3 y4 a b0) ?_
    have h57_ := iv_get hv (k := 58) (j := 13) (l := 0) (u := 10) rfl
    have h58_ := iv_get hv0 (k := 58) (j := 12) (l := 0) (u := 600) rfl
    refine jt_grd (by omega) ?_
    have h59_ : a 65 (y4.toNat) = a0 65 (y4.toNat) := hf 65 (y4.toNat) rfl
    refine jt_ite (fun c60_ => ?_) (fun c60_ => ?_)
    ·
      refine jt_grd (by omega) ?_
      have h61_ : a 67 (y3.toNat) = a0 67 (y3.toNat) := hf 67 (y3.toNat) rfl
      refine jt_ite (fun c62_ => ?_) (fun c62_ => ?_)
      ·
        exact hc77 y1 y2 y3 y4 a (show (((y3 + 1) * 1) + 0).toNat ≤ n from by omega) hv hf (show 0 ≤ y3 from by omega) (show y3 ≤ 599 from by omega) (show a 58 13 ≤ 9 from by omega) (show 1 ≤ a0 58 12 from by omega)
      ·
        exact hc78 y1 y2 y3 y4 1 a (show (((y3 + 1) * 1) + 0).toNat ≤ n from by omega) hv hf (show 0 ≤ y3 from by omega) (show y3 ≤ 599 from by omega) (show 0 ≤ 1 from by omega) (show 1 ≤ 1 from by omega) (show a 58 13 ≤ 9 from by omega) (show 1 ≤ a0 58 12 from by omega) (show (1 = 1 → (0 ≤ y4 ∧ y4 ≤ 299)) from by omega)
    ·
      exact hc77 y1 y2 y3 y4 a (show (((y3 + 1) * 1) + 0).toNat ≤ n from by omega) hv hf (show 0 ≤ y3 from by omega) (show y3 ≤ 599 from by omega) (show a 58 13 ≤ 9 from by omega) (show 1 ≤ a0 58 12 from by omega)
  have hc22 : ∀ (y1 y2 y3 : Int) (a : Nat → Nat → Int), (((y3 + 1) * 1) + 0).toNat ≤ n → iv a → jfr jW_X0_measure a0 a → 0 - 1 ≤ y3 → y3 ≤ 599 → (a0 58 12 = 0 → (((y3 < 0 ∧ a 58 13 = 0) ∧ a 58 14 = 0 - 1) ∧ a 58 15 = 0 - 1)) → jt (jxX E d 23 22 [some (.inr (.inr (.inl 58))), some (.inl y1), some (.inl y2), some (.inl y3), none, none] [] (jxSH, a, b0)) (jQ_X0_measure x1 x2 a0 b0) := by
    intro y1 y2 y3 a hm hv hf hi0 hi1 hi2
    refine jt_eq (bq_X0_measure_22 E d y1 y2 y3 a b0) ?_
    have h63_ := iv_get hv0 (k := 58) (j := 12) (l := 0) (u := 600) rfl
    have h64_ := iv_get hv (k := 58) (j := 13) (l := 0) (u := 10) rfl
    refine jt_ite (fun c65_ => ?_) (fun c65_ => ?_)
    ·
      exact jt_rV ⟨hv, hf, rfl, (show (a0 58 12 = 0 → ((a 58 13 = 0 ∧ a 58 14 = 0 - 1) ∧ a 58 15 = 0 - 1)) from by omega)⟩
    ·
      refine jt_ite (fun c66_ => ?_) (fun c66_ => ?_)
      ·
        refine jt_grd (by omega) ?_
        refine jt_eI (eq_X0_has E d (jd_le hd rfl) (a 66 (y3.toNat)) a b0) ?_
        have h67_ : a 66 (y3.toNat) = a0 66 (y3.toNat) := hf 66 (y3.toNat) rfl
        have h68_ := f_X0_has_eq a b0 (a 66 (y3.toNat))
        have h69_ := iv_get hv (k := 58) (j := 8) (l := 0) (u := 300) rfl
        have h70_ : a 58 8 = a0 58 8 := hf 58 8 rfl
        have h71_ := iv_get hv0 (k := 58) (j := 8) (l := 0) (u := 300) rfl
        refine jt_ite (fun c72_ => ?_) (fun c72_ => ?_)
        ·
          exact hc77 y1 y2 y3 (a 66 (y3.toNat)) a (show (((y3 + 1) * 1) + 0).toNat ≤ n from by omega) hv hf (show 0 ≤ y3 from by omega) (show y3 ≤ 599 from by omega) (show a 58 13 ≤ 9 from by omega) (show 1 ≤ a0 58 12 from by omega)
        ·
          exact hc52 y1 y2 y3 (a 66 (y3.toNat)) a (show (((y3 + 1) * 1) + 0).toNat ≤ n from by omega) hv hf (show 0 ≤ y3 from by omega) (show y3 ≤ 599 from by omega) (show 0 ≤ a 66 (y3.toNat) from by omega) (show a 66 (y3.toNat) ≤ 299 from by omega) (show a 58 13 ≤ 9 from by omega) (show 1 ≤ a0 58 12 from by omega)
      ·
        exact jt_rV ⟨hv, hf, rfl, (show (a0 58 12 = 0 → ((a 58 13 = 0 ∧ a 58 14 = 0 - 1) ∧ a 58 15 = 0 - 1)) from by omega)⟩
  exact ⟨hc139, hc121, hc78, hc77, hc52, hc22⟩
theorem sp_X0_measure (E : jxE) (d : Nat) (hd : Nat.ble 3 d = true) (x1 x2 : Int) (a0 b0 : Nat → Nat → Int) (hv0 : iv a0) : jt (jxC E d 23 [.inr (.inr (.inl 58)), .inl x1, .inl x2] (jxSH, a0, b0)) (jQ_X0_measure x1 x2 a0 b0) := by
  obtain ⟨d, rfl⟩ := jd_succ hd
  refine jt_eq (bq_X0_measure E d x1 x2 a0 b0) ?_
  have hv73_ : iv (jxu a0 58 13 0) := iv_put hv0 (l := 0) (u := 10) rfl (by omega) (by omega)
  have hv74_ : iv (jxu (jxu a0 58 13 0) 58 14 (-1)) := iv_putf hv73_ rfl
  have hv75_ : iv (jxu (jxu (jxu a0 58 13 0) 58 14 (-1)) 58 15 (-1)) := iv_putf hv74_ rfl
  have hf76_ : jfr jW_X0_measure a0 (jxu a0 58 13 0) := jfr_put (jfr_rf _ _) rfl
  have hf77_ : jfr jW_X0_measure a0 (jxu (jxu a0 58 13 0) 58 14 (-1)) := jfr_put hf76_ rfl
  have hf78_ : jfr jW_X0_measure a0 (jxu (jxu (jxu a0 58 13 0) 58 14 (-1)) 58 15 (-1)) := jfr_put hf77_ rfl
  have h79_ := iv_get hv0 (k := 58) (j := 12) (l := 0) (u := 600) rfl
  have h80_ : jxw ((a0 58 12) - 1) = (a0 58 12) - 1 := jxw_id (by omega) (by omega)
  exact (cp_X0_measure_22 E d hd x1 x2 a0 b0 hv0 _).2.2.2.2.2 x1 x2 (jxw ((a0 58 12) - 1)) (jxu (jxu (jxu a0 58 13 0) 58 14 (-1)) 58 15 (-1)) (Nat.le_refl _) hv75_ hf78_ (show 0 - 1 ≤ jxw ((a0 58 12) - 1) from by omega) (show jxw ((a0 58 12) - 1) ≤ 599 from by omega) (show (a0 58 12 = 0 → (((jxw ((a0 58 12) - 1) < 0 ∧ 0 = 0) ∧ (-1) = 0 - 1) ∧ (-1) = 0 - 1)) from by omega)
def jW_X0_boundBetween : List (Nat × Nat) := [(58, 13), (58, 14), (58, 15)]
abbrev jQ_X0_boundBetween (x1 x2 x3 : Int) (a0 b0 : Nat → Nat → Int) : List jxV → (Nat → Nat → Int) → (Nat → Nat → Int) → Prop := rI (fun r a b => (iv a) ∧ (jfr jW_X0_boundBetween a0 a) ∧ (b0 = b))
theorem sp_X0_boundBetween (E : jxE) (d : Nat) (hd : Nat.ble 4 d = true) (x1 x2 x3 : Int) (a0 b0 : Nat → Nat → Int) (hv0 : iv a0) : jt (jxC E d 22 [.inr (.inr (.inl 58)), .inl x1, .inl x2, .inl x3] (jxSH, a0, b0)) (jQ_X0_boundBetween x1 x2 x3 a0 b0) := by
  obtain ⟨d, rfl⟩ := jd_succ hd
  refine jt_eq (bq_X0_boundBetween E d x1 x2 x3 a0 b0) ?_
  refine jt_bV (sp_X0_measure E d (jd_le hd rfl) x1 x2 a0 b0 hv0) (fun a81_ b81_ h81_ => ?_)
  obtain ⟨hv81_, hf81_, rfl, hq81_0⟩ := h81_
  have h82_ := iv_get hv0 (k := 58) (j := 12) (l := 0) (u := 600) rfl
  have h83_ := iv_get hv81_ (k := 58) (j := 13) (l := 0) (u := 10) rfl
  refine jt_ite (fun c84_ => ?_) (fun c84_ => ?_)
  ·
    have hf85_ : jfr jW_X0_boundBetween a0 a81_ := jfr_tr (jfr_rf _ _) hf81_ rfl
    exact jt_rI ⟨hv81_, hf85_, rfl⟩
  ·
    refine jt_eI (eq_J9_min_7cf53 E d (jd_le hd rfl) x3 (jxw ((jxw (2 * (a81_ 58 15))) + 7)) a81_ b0) ?_
    have hf86_ : jfr jW_X0_boundBetween a0 a81_ := jfr_tr (jfr_rf _ _) hf81_ rfl
    exact jt_rI ⟨hv81_, hf86_, rfl⟩
def jW_X0_cancel : List (Nat × Nat) := [(64, 9999)]
abbrev jQ_X0_cancel (x1 x2 : Int) (a0 b0 : Nat → Nat → Int) : List jxV → (Nat → Nat → Int) → (Nat → Nat → Int) → Prop := rV (fun a b => (iv a) ∧ (jfr jW_X0_cancel a0 a) ∧ (b0 = b))
theorem sp_X0_cancel (E : jxE) (d : Nat) (hd : Nat.ble 2 d = true) (x1 x2 : Int) (a0 b0 : Nat → Nat → Int) (hv0 : iv a0) : jt (jxC E d 13 [.inr (.inr (.inl 58)), .inl x1, .inl x2] (jxSH, a0, b0)) (jQ_X0_cancel x1 x2 a0 b0) := by
  obtain ⟨d, rfl⟩ := jd_succ hd
  refine jt_eq (bq_X0_cancel E d x1 x2 a0 b0) ?_
  refine jt_eI (eq_X0_has E d (jd_le hd rfl) x1 a0 b0) ?_
  have h87_ := f_X0_has_eq a0 b0 x1
  have h88_ := iv_get hv0 (k := 58) (j := 8) (l := 0) (u := 300) rfl
  refine jt_ite (fun c89_ => ?_) (fun c89_ => ?_)
  ·
    exact jt_rV ⟨hv0, (jfr_rf _ _), rfl⟩
  ·
    refine jt_grd (by omega) ?_
    have hv90_ : iv (jxu a0 64 (x1.toNat) x2) := iv_putf hv0 rfl
    have hf91_ : jfr jW_X0_cancel a0 (jxu a0 64 (x1.toNat) x2) := jfr_put (jfr_rf _ _) rfl
    exact jt_rV ⟨hv90_, hf91_, rfl⟩
abbrev jQ_X0_landsArrivedTo (x1 x2 : Int) (a0 b0 : Nat → Nat → Int) : List jxV → (Nat → Nat → Int) → (Nat → Nat → Int) → Prop := rI (fun r a b => (a0 = a) ∧ (b0 = b))
theorem cp_X0_landsArrivedTo_5 (E : jxE) (d : Nat) (hd : Nat.ble 4 (d + 1) = true) (x1 x2 : Int) (a0 b0 : Nat → Nat → Int) (hv0 : iv a0) : ∀ n : Nat, (∀ (y1 y2 y3 y4 : Int), (((300 - y4) * 1) + 0).toNat ≤ n → 0 ≤ y4 → y4 ≤ 299 → jt (jxX E d 21 65 [some (.inr (.inr (.inl 58))), some (.inl y1), some (.inl y2), some (.inl y3), some (.inl y4), none] [] (jxSH, a0, b0)) (jQ_X0_landsArrivedTo x1 x2 a0 b0)) ∧ (∀ (y1 y2 y3 y4 : Int), (((300 - y4) * 1) + 0).toNat ≤ n → 0 ≤ y4 → y4 ≤ 299 → jt (jxX E d 21 46 [some (.inr (.inr (.inl 58))), some (.inl y1), some (.inl y2), some (.inl y3), some (.inl y4), none] [] (jxSH, a0, b0)) (jQ_X0_landsArrivedTo x1 x2 a0 b0)) ∧ (∀ (y1 y2 y3 y4 y5 : Int), (((300 - y4) * 1) + 0).toNat ≤ n → 0 ≤ y4 → y4 ≤ 299 → jt (jxX E d 21 34 [some (.inr (.inr (.inl 58))), some (.inl y1), some (.inl y2), some (.inl y3), some (.inl y4), some (.inl y5)] [] (jxSH, a0, b0)) (jQ_X0_landsArrivedTo x1 x2 a0 b0)) ∧ (∀ (y1 y2 y3 y4 : Int), (((300 - y4) * 1) + 0).toNat ≤ n → 0 ≤ y4 → y4 ≤ 300 → jt (jxX E d 21 5 [some (.inr (.inr (.inl 58))), some (.inl y1), some (.inl y2), some (.inl y3), some (.inl y4), none] [] (jxSH, a0, b0)) (jQ_X0_landsArrivedTo x1 x2 a0 b0)) := by
  refine jx_ind fun n ih => ?_
  have ih65 : ∀ (y1 y2 y3 y4 : Int), (((300 - y4) * 1) + 0).toNat < n → 0 ≤ y4 → y4 ≤ 299 → jt (jxX E d 21 65 [some (.inr (.inr (.inl 58))), some (.inl y1), some (.inl y2), some (.inl y3), some (.inl y4), none] [] (jxSH, a0, b0)) (jQ_X0_landsArrivedTo x1 x2 a0 b0) := fun y1 y2 y3 y4 hlt i0 i1 => (ih _ hlt).1 y1 y2 y3 y4 (Nat.le_refl _) i0 i1
  have ih46 : ∀ (y1 y2 y3 y4 : Int), (((300 - y4) * 1) + 0).toNat < n → 0 ≤ y4 → y4 ≤ 299 → jt (jxX E d 21 46 [some (.inr (.inr (.inl 58))), some (.inl y1), some (.inl y2), some (.inl y3), some (.inl y4), none] [] (jxSH, a0, b0)) (jQ_X0_landsArrivedTo x1 x2 a0 b0) := fun y1 y2 y3 y4 hlt i0 i1 => (ih _ hlt).2.1 y1 y2 y3 y4 (Nat.le_refl _) i0 i1
  have ih34 : ∀ (y1 y2 y3 y4 y5 : Int), (((300 - y4) * 1) + 0).toNat < n → 0 ≤ y4 → y4 ≤ 299 → jt (jxX E d 21 34 [some (.inr (.inr (.inl 58))), some (.inl y1), some (.inl y2), some (.inl y3), some (.inl y4), some (.inl y5)] [] (jxSH, a0, b0)) (jQ_X0_landsArrivedTo x1 x2 a0 b0) := fun y1 y2 y3 y4 y5 hlt i0 i1 => (ih _ hlt).2.2.1 y1 y2 y3 y4 y5 (Nat.le_refl _) i0 i1
  have ih5 : ∀ (y1 y2 y3 y4 : Int), (((300 - y4) * 1) + 0).toNat < n → 0 ≤ y4 → y4 ≤ 300 → jt (jxX E d 21 5 [some (.inr (.inr (.inl 58))), some (.inl y1), some (.inl y2), some (.inl y3), some (.inl y4), none] [] (jxSH, a0, b0)) (jQ_X0_landsArrivedTo x1 x2 a0 b0) := fun y1 y2 y3 y4 hlt i0 i1 => (ih _ hlt).2.2.2 y1 y2 y3 y4 (Nat.le_refl _) i0 i1
  have hc65 : ∀ (y1 y2 y3 y4 : Int), (((300 - y4) * 1) + 0).toNat ≤ n → 0 ≤ y4 → y4 ≤ 299 → jt (jxX E d 21 65 [some (.inr (.inr (.inl 58))), some (.inl y1), some (.inl y2), some (.inl y3), some (.inl y4), none] [] (jxSH, a0, b0)) (jQ_X0_landsArrivedTo x1 x2 a0 b0) := by
    intro y1 y2 y3 y4 hm hi0 hi1
    refine jt_eq (bq_X0_landsArrivedTo_65 E d y1 y2 y3 y4 a0 b0) ?_
    have h92_ : jxw (y4 + 1) = y4 + 1 := jxw_id (by omega) (by omega)
    exact ih5 y1 y2 y3 (jxw (y4 + 1)) (show (((300 - (jxw (y4 + 1))) * 1) + 0).toNat < n from by omega) (show 0 ≤ jxw (y4 + 1) from by omega) (show jxw (y4 + 1) ≤ 300 from by omega)
  have hc46 : ∀ (y1 y2 y3 y4 : Int), (((300 - y4) * 1) + 0).toNat ≤ n → 0 ≤ y4 → y4 ≤ 299 → jt (jxX E d 21 46 [some (.inr (.inr (.inl 58))), some (.inl y1), some (.inl y2), some (.inl y3), some (.inl y4), none] [] (jxSH, a0, b0)) (jQ_X0_landsArrivedTo x1 x2 a0 b0) := by
    intro y1 y2 y3 y4 hm hi0 hi1
    refine jt_eq (bq_X0_landsArrivedTo_46 E d y1 y2 y3 y4 a0 b0) ?_
    refine jt_grd (by omega) ?_
    refine jt_eI (eq_X3_landOf E d (jd_le hd rfl) (a0 59 (y4.toNat)) a0 b0) ?_
    exact hc65 y1 y2 (jxor y3 (jxshl 1 (f_X3_landOf a0 b0 (a0 59 (y4.toNat))))) y4 (show (((300 - y4) * 1) + 0).toNat ≤ n from by omega) (show 0 ≤ y4 from by omega) (show y4 ≤ 299 from by omega)
  have hc34 : ∀ (y1 y2 y3 y4 y5 : Int), (((300 - y4) * 1) + 0).toNat ≤ n → 0 ≤ y4 → y4 ≤ 299 → jt (jxX E d 21 34 [some (.inr (.inr (.inl 58))), some (.inl y1), some (.inl y2), some (.inl y3), some (.inl y4), some (.inl y5)] [] (jxSH, a0, b0)) (jQ_X0_landsArrivedTo x1 x2 a0 b0) := by
    intro y1 y2 y3 y4 y5 hm hi0 hi1
    refine jt_eq (bq_X0_landsArrivedTo_34 E d y1 y2 y3 y4 y5 a0 b0) ?_
    refine jt_ite (fun c93_ => ?_) (fun c93_ => ?_)
    ·
      exact hc46 y1 y2 y3 y4 (show (((300 - y4) * 1) + 0).toNat ≤ n from by omega) (show 0 ≤ y4 from by omega) (show y4 ≤ 299 from by omega)
    ·
      refine jt_ite (fun c94_ => ?_) (fun c94_ => ?_)
      ·
        exact hc46 y1 y2 y3 y4 (show (((300 - y4) * 1) + 0).toNat ≤ n from by omega) (show 0 ≤ y4 from by omega) (show y4 ≤ 299 from by omega)
      ·
        exact hc65 y1 y2 y3 y4 (show (((300 - y4) * 1) + 0).toNat ≤ n from by omega) (show 0 ≤ y4 from by omega) (show y4 ≤ 299 from by omega)
  have hc5 : ∀ (y1 y2 y3 y4 : Int), (((300 - y4) * 1) + 0).toNat ≤ n → 0 ≤ y4 → y4 ≤ 300 → jt (jxX E d 21 5 [some (.inr (.inr (.inl 58))), some (.inl y1), some (.inl y2), some (.inl y3), some (.inl y4), none] [] (jxSH, a0, b0)) (jQ_X0_landsArrivedTo x1 x2 a0 b0) := by
    intro y1 y2 y3 y4 hm hi0 hi1
    refine jt_eq (bq_X0_landsArrivedTo_5 E d y1 y2 y3 y4 a0 b0) ?_
    have h95_ := iv_get hv0 (k := 58) (j := 8) (l := 0) (u := 300) rfl
    refine jt_ite (fun c96_ => ?_) (fun c96_ => ?_)
    ·
      refine jt_eI (eq_X0_stateNow E d (jd_le hd rfl) y4 y2 a0 b0) ?_
      refine jt_grd (by omega) ?_
      refine jt_ite (fun c97_ => ?_) (fun c97_ => ?_)
      ·
        exact hc34 y1 y2 y3 y4 (f_X0_stateNow a0 b0 y4 y2) (show (((300 - y4) * 1) + 0).toNat ≤ n from by omega) (show 0 ≤ y4 from by omega) (show y4 ≤ 299 from by omega)
      ·
        exact hc65 y1 y2 y3 y4 (show (((300 - y4) * 1) + 0).toNat ≤ n from by omega) (show 0 ≤ y4 from by omega) (show y4 ≤ 299 from by omega)
    ·
      exact jt_rI ⟨rfl, rfl⟩
  exact ⟨hc65, hc46, hc34, hc5⟩
theorem sp_X0_landsArrivedTo (E : jxE) (d : Nat) (hd : Nat.ble 4 d = true) (x1 x2 : Int) (a0 b0 : Nat → Nat → Int) (hv0 : iv a0) : jt (jxC E d 21 [.inr (.inr (.inl 58)), .inl x1, .inl x2] (jxSH, a0, b0)) (jQ_X0_landsArrivedTo x1 x2 a0 b0) := by
  obtain ⟨d, rfl⟩ := jd_succ hd
  refine jt_eq (bq_X0_landsArrivedTo E d x1 x2 a0 b0) ?_
  exact (cp_X0_landsArrivedTo_5 E d hd x1 x2 a0 b0 hv0 _).2.2.2 x1 x2 0 0 (Nat.le_refl _) (show 0 ≤ 0 from by omega) (show 0 ≤ 300 from by omega)
abbrev jQ_X0_reachedBy (x1 : Int) (a0 b0 : Nat → Nat → Int) : List jxV → (Nat → Nat → Int) → (Nat → Nat → Int) → Prop := rJ (fun r a b => (a0 = a) ∧ (b0 = b))
theorem cp_X0_reachedBy_5 (E : jxE) (d : Nat) (hd : Nat.ble 3 (d + 1) = true) (x1 : Int) (a0 b0 : Nat → Nat → Int) (hv0 : iv a0) : ∀ n : Nat, (∀ (y1 y2 y4 : Int), (((300 - y4) * 1) + 0).toNat ≤ n → 0 ≤ y4 → y4 ≤ 299 → jt (jxX E d 20 44 [some (.inr (.inr (.inl 58))), some (.inl y1), some (.inr (.inl y2)), none, some (.inl y4)] [] (jxSH, a0, b0)) (jQ_X0_reachedBy x1 a0 b0)) ∧ (∀ (y1 y2 y4 : Int), (((300 - y4) * 1) + 0).toNat ≤ n → 0 ≤ y4 → y4 ≤ 300 → jt (jxX E d 20 5 [some (.inr (.inr (.inl 58))), some (.inl y1), some (.inr (.inl y2)), none, some (.inl y4)] [] (jxSH, a0, b0)) (jQ_X0_reachedBy x1 a0 b0)) := by
  refine jx_ind fun n ih => ?_
  have ih44 : ∀ (y1 y2 y4 : Int), (((300 - y4) * 1) + 0).toNat < n → 0 ≤ y4 → y4 ≤ 299 → jt (jxX E d 20 44 [some (.inr (.inr (.inl 58))), some (.inl y1), some (.inr (.inl y2)), none, some (.inl y4)] [] (jxSH, a0, b0)) (jQ_X0_reachedBy x1 a0 b0) := fun y1 y2 y4 hlt i0 i1 => (ih _ hlt).1 y1 y2 y4 (Nat.le_refl _) i0 i1
  have ih5 : ∀ (y1 y2 y4 : Int), (((300 - y4) * 1) + 0).toNat < n → 0 ≤ y4 → y4 ≤ 300 → jt (jxX E d 20 5 [some (.inr (.inr (.inl 58))), some (.inl y1), some (.inr (.inl y2)), none, some (.inl y4)] [] (jxSH, a0, b0)) (jQ_X0_reachedBy x1 a0 b0) := fun y1 y2 y4 hlt i0 i1 => (ih _ hlt).2 y1 y2 y4 (Nat.le_refl _) i0 i1
  have hc44 : ∀ (y1 y2 y4 : Int), (((300 - y4) * 1) + 0).toNat ≤ n → 0 ≤ y4 → y4 ≤ 299 → jt (jxX E d 20 44 [some (.inr (.inr (.inl 58))), some (.inl y1), some (.inr (.inl y2)), none, some (.inl y4)] [] (jxSH, a0, b0)) (jQ_X0_reachedBy x1 a0 b0) := by
    intro y1 y2 y4 hm hi0 hi1
    refine jt_eq (bq_X0_reachedBy_44 E d y1 y2 y4 a0 b0) ?_
    have h98_ : jxw (y4 + 1) = y4 + 1 := jxw_id (by omega) (by omega)
    exact ih5 y1 y2 (jxw (y4 + 1)) (show (((300 - (jxw (y4 + 1))) * 1) + 0).toNat < n from by omega) (show 0 ≤ jxw (y4 + 1) from by omega) (show jxw (y4 + 1) ≤ 300 from by omega)
  have hc5 : ∀ (y1 y2 y4 : Int), (((300 - y4) * 1) + 0).toNat ≤ n → 0 ≤ y4 → y4 ≤ 300 → jt (jxX E d 20 5 [some (.inr (.inr (.inl 58))), some (.inl y1), some (.inr (.inl y2)), none, some (.inl y4)] [] (jxSH, a0, b0)) (jQ_X0_reachedBy x1 a0 b0) := by
    intro y1 y2 y4 hm hi0 hi1
    refine jt_eq (bq_X0_reachedBy_5 E d y1 y2 y4 a0 b0) ?_
    have h99_ := iv_get hv0 (k := 58) (j := 8) (l := 0) (u := 300) rfl
    refine jt_ite (fun c100_ => ?_) (fun c100_ => ?_)
    ·
      refine jt_grd (by omega) ?_
      refine jt_eI (eq_X3_areKin E d (jd_le hd rfl) y1 (a0 59 (y4.toNat)) a0 b0) ?_
      have h101_ := f_X3_areKin_bool a0 b0 y1 (a0 59 (y4.toNat))
      refine jt_ite (fun c102_ => ?_) (fun c102_ => ?_)
      ·
        exact hc44 y1 y2 y4 (show (((300 - y4) * 1) + 0).toNat ≤ n from by omega) (show 0 ≤ y4 from by omega) (show y4 ≤ 299 from by omega)
      ·
        refine jt_grd (by omega) ?_
        exact hc44 y1 (jxorl y2 (jxshll 1 (a0 60 (y4.toNat)))) y4 (show (((300 - y4) * 1) + 0).toNat ≤ n from by omega) (show 0 ≤ y4 from by omega) (show y4 ≤ 299 from by omega)
    ·
      exact jt_rJ ⟨rfl, rfl⟩
  exact ⟨hc44, hc5⟩
theorem sp_X0_reachedBy (E : jxE) (d : Nat) (hd : Nat.ble 3 d = true) (x1 : Int) (a0 b0 : Nat → Nat → Int) (hv0 : iv a0) : jt (jxC E d 20 [.inr (.inr (.inl 58)), .inl x1] (jxSH, a0, b0)) (jQ_X0_reachedBy x1 a0 b0) := by
  obtain ⟨d, rfl⟩ := jd_succ hd
  refine jt_eq (bq_X0_reachedBy E d x1 a0 b0) ?_
  exact (cp_X0_reachedBy_5 E d hd x1 a0 b0 hv0 _).2 x1 0 0 (Nat.le_refl _) (show 0 ≤ 0 from by omega) (show 0 ≤ 300 from by omega)
abbrev jQ_X0_stateAsKnown (x1 x2 x3 : Int) (a0 b0 : Nat → Nat → Int) : List jxV → (Nat → Nat → Int) → (Nat → Nat → Int) → Prop := rI (fun r a b => (a0 = a) ∧ (b0 = b))
theorem cp_X0_stateAsKnown_6 (E : jxE) (d : Nat) (hd : Nat.ble 3 (d + 1) = true) (x1 x2 x3 : Int) (a0 b0 : Nat → Nat → Int) (hv0 : iv a0) : ∀ n : Nat, (∀ (y1 y2 y3 y4 y5 : Int), (((600 - y5) * 1) + 0).toNat ≤ n → 0 ≤ y5 → y5 ≤ 599 → jt (jxX E d 18 46 [some (.inr (.inr (.inl 58))), some (.inl y1), some (.inl y2), some (.inl y3), some (.inl y4), some (.inl y5)] [] (jxSH, a0, b0)) (jQ_X0_stateAsKnown x1 x2 x3 a0 b0)) ∧ (∀ (y1 y2 y3 y5 : Int), (((600 - y5) * 1) + 0).toNat ≤ n → 0 ≤ y5 → y5 ≤ 599 → jt (jxX E d 18 37 [some (.inr (.inr (.inl 58))), some (.inl y1), some (.inl y2), some (.inl y3), none, some (.inl y5)] [] (jxSH, a0, b0)) (jQ_X0_stateAsKnown x1 x2 x3 a0 b0)) ∧ (∀ (y1 y2 y3 y4 y5 : Int), (((600 - y5) * 1) + 0).toNat ≤ n → 0 ≤ y5 → y5 ≤ 600 → jt (jxX E d 18 6 [some (.inr (.inr (.inl 58))), some (.inl y1), some (.inl y2), some (.inl y3), some (.inl y4), some (.inl y5)] [] (jxSH, a0, b0)) (jQ_X0_stateAsKnown x1 x2 x3 a0 b0)) := by
  refine jx_ind fun n ih => ?_
  have ih46 : ∀ (y1 y2 y3 y4 y5 : Int), (((600 - y5) * 1) + 0).toNat < n → 0 ≤ y5 → y5 ≤ 599 → jt (jxX E d 18 46 [some (.inr (.inr (.inl 58))), some (.inl y1), some (.inl y2), some (.inl y3), some (.inl y4), some (.inl y5)] [] (jxSH, a0, b0)) (jQ_X0_stateAsKnown x1 x2 x3 a0 b0) := fun y1 y2 y3 y4 y5 hlt i0 i1 => (ih _ hlt).1 y1 y2 y3 y4 y5 (Nat.le_refl _) i0 i1
  have ih37 : ∀ (y1 y2 y3 y5 : Int), (((600 - y5) * 1) + 0).toNat < n → 0 ≤ y5 → y5 ≤ 599 → jt (jxX E d 18 37 [some (.inr (.inr (.inl 58))), some (.inl y1), some (.inl y2), some (.inl y3), none, some (.inl y5)] [] (jxSH, a0, b0)) (jQ_X0_stateAsKnown x1 x2 x3 a0 b0) := fun y1 y2 y3 y5 hlt i0 i1 => (ih _ hlt).2.1 y1 y2 y3 y5 (Nat.le_refl _) i0 i1
  have ih6 : ∀ (y1 y2 y3 y4 y5 : Int), (((600 - y5) * 1) + 0).toNat < n → 0 ≤ y5 → y5 ≤ 600 → jt (jxX E d 18 6 [some (.inr (.inr (.inl 58))), some (.inl y1), some (.inl y2), some (.inl y3), some (.inl y4), some (.inl y5)] [] (jxSH, a0, b0)) (jQ_X0_stateAsKnown x1 x2 x3 a0 b0) := fun y1 y2 y3 y4 y5 hlt i0 i1 => (ih _ hlt).2.2 y1 y2 y3 y4 y5 (Nat.le_refl _) i0 i1
  have hc46 : ∀ (y1 y2 y3 y4 y5 : Int), (((600 - y5) * 1) + 0).toNat ≤ n → 0 ≤ y5 → y5 ≤ 599 → jt (jxX E d 18 46 [some (.inr (.inr (.inl 58))), some (.inl y1), some (.inl y2), some (.inl y3), some (.inl y4), some (.inl y5)] [] (jxSH, a0, b0)) (jQ_X0_stateAsKnown x1 x2 x3 a0 b0) := by
    intro y1 y2 y3 y4 y5 hm hi0 hi1
    refine jt_eq (bq_X0_stateAsKnown_46 E d y1 y2 y3 y4 y5 a0 b0) ?_
    have h103_ : jxw (y5 + 1) = y5 + 1 := jxw_id (by omega) (by omega)
    exact ih6 y1 y2 y3 y4 (jxw (y5 + 1)) (show (((600 - (jxw (y5 + 1))) * 1) + 0).toNat < n from by omega) (show 0 ≤ jxw (y5 + 1) from by omega) (show jxw (y5 + 1) ≤ 600 from by omega)
  have hc37 : ∀ (y1 y2 y3 y5 : Int), (((600 - y5) * 1) + 0).toNat ≤ n → 0 ≤ y5 → y5 ≤ 599 → jt (jxX E d 18 37 [some (.inr (.inr (.inl 58))), some (.inl y1), some (.inl y2), some (.inl y3), none, some (.inl y5)] [] (jxSH, a0, b0)) (jQ_X0_stateAsKnown x1 x2 x3 a0 b0) := by
    intro y1 y2 y3 y5 hm hi0 hi1
    refine jt_eq (bq_X0_stateAsKnown_37 E d y1 y2 y3 y5 a0 b0) ?_
    refine jt_grd (by omega) ?_
    exact hc46 y1 y2 y3 (a0 67 (y5.toNat)) y5 (show (((600 - y5) * 1) + 0).toNat ≤ n from by omega) (show 0 ≤ y5 from by omega) (show y5 ≤ 599 from by omega)
  have hc6 : ∀ (y1 y2 y3 y4 y5 : Int), (((600 - y5) * 1) + 0).toNat ≤ n → 0 ≤ y5 → y5 ≤ 600 → jt (jxX E d 18 6 [some (.inr (.inr (.inl 58))), some (.inl y1), some (.inl y2), some (.inl y3), some (.inl y4), some (.inl y5)] [] (jxSH, a0, b0)) (jQ_X0_stateAsKnown x1 x2 x3 a0 b0) := by
    intro y1 y2 y3 y4 y5 hm hi0 hi1
    refine jt_eq (bq_X0_stateAsKnown_6 E d y1 y2 y3 y4 y5 a0 b0) ?_
    have h104_ := iv_get hv0 (k := 58) (j := 12) (l := 0) (u := 600) rfl
    refine jt_ite (fun c105_ => ?_) (fun c105_ => ?_)
    ·
      refine jt_grd (by omega) ?_
      refine jt_ite (fun c106_ => ?_) (fun c106_ => ?_)
      ·
        refine jt_grd (by omega) ?_
        refine jt_ite (fun c107_ => ?_) (fun c107_ => ?_)
        ·
          exact hc46 y1 y2 y3 y4 y5 (show (((600 - y5) * 1) + 0).toNat ≤ n from by omega) (show 0 ≤ y5 from by omega) (show y5 ≤ 599 from by omega)
        ·
          exact hc37 y1 y2 y3 y5 (show (((600 - y5) * 1) + 0).toNat ≤ n from by omega) (show 0 ≤ y5 from by omega) (show y5 ≤ 599 from by omega)
      ·
        exact hc46 y1 y2 y3 y4 y5 (show (((600 - y5) * 1) + 0).toNat ≤ n from by omega) (show 0 ≤ y5 from by omega) (show y5 ≤ 599 from by omega)
    ·
      refine jt_eI (eq_X0_stateOn E d (jd_le hd rfl) y1 y2 y3 y4 a0 b0) ?_
      exact jt_rI ⟨rfl, rfl⟩
  exact ⟨hc46, hc37, hc6⟩
theorem sp_X0_stateAsKnown (E : jxE) (d : Nat) (hd : Nat.ble 3 d = true) (x1 x2 x3 : Int) (a0 b0 : Nat → Nat → Int) (hv0 : iv a0) : jt (jxC E d 18 [.inr (.inr (.inl 58)), .inl x1, .inl x2, .inl x3] (jxSH, a0, b0)) (jQ_X0_stateAsKnown x1 x2 x3 a0 b0) := by
  obtain ⟨d, rfl⟩ := jd_succ hd
  refine jt_eq (bq_X0_stateAsKnown E d x1 x2 x3 a0 b0) ?_
  exact (cp_X0_stateAsKnown_6 E d hd x1 x2 x3 a0 b0 hv0 _).2.2 x1 x2 x3 (-1) 0 (Nat.le_refl _) (show 0 ≤ 0 from by omega) (show 0 ≤ 600 from by omega)
def jW_X0_tell : List (Nat × Nat) := [(58, 12), (65, 9999), (66, 9999), (67, 9999), (68, 9999)]
abbrev jQ_X0_tell (x1 x2 x3 : Int) (a0 b0 : Nat → Nat → Int) : List jxV → (Nat → Nat → Int) → (Nat → Nat → Int) → Prop := rI (fun r a b => (iv a) ∧ (jfr jW_X0_tell a0 a) ∧ (b0 = b) ∧ ((0 ≤ r ∧ r ≤ 1)))
theorem cp_X0_tell_28 (E : jxE) (d : Nat) (hd : Nat.ble 2 (d + 1) = true) (x1 x2 x3 : Int) (a0 b0 : Nat → Nat → Int) (hv0 : iv a0) : ∀ (a : Nat → Nat → Int), iv a → jfr jW_X0_tell a0 a → jt (jxX E d 16 28 [none, none, none, none] [] (jxSH, a, b0)) (jQ_X0_tell x1 x2 x3 a0 b0) := by
  intro a hv hf
  refine jt_eq (bq_X0_tell_28 E d a b0) ?_
  exact jt_rI ⟨hv, hf, rfl, (show (0 ≤ 0 ∧ 0 ≤ 1) from by omega)⟩
theorem cp_X0_tell_60 (E : jxE) (d : Nat) (hd : Nat.ble 2 (d + 1) = true) (x1 x2 x3 : Int) (a0 b0 : Nat → Nat → Int) (hv0 : iv a0) : ∀ (y1 : Int) (a : Nat → Nat → Int), iv a → jfr jW_X0_tell a0 a → 0 ≤ y1 → y1 ≤ 299 → a 58 12 ≤ 599 → jt (jxX E d 16 60 [some (.inr (.inr (.inl 58))), some (.inl y1), none, none] [] (jxSH, a, b0)) (jQ_X0_tell x1 x2 x3 a0 b0) := by
  intro y1 a hv hf hi0 hi1 hi2
  refine jt_eq (bq_X0_tell_60 E d y1 a b0) ?_
  have h108_ := iv_get hv (k := 58) (j := 12) (l := 0) (u := 600) rfl
  refine jt_grd (by omega) ?_
  have hv109_ : iv (jxu a 65 (y1.toNat) (a 58 12)) := iv_putf hv rfl
  have h111_ : jxw ((a 58 12) + 1) = (a 58 12) + 1 := jxw_id (by omega) (by omega)
  have hv110_ : iv (jxu (jxu a 65 (y1.toNat) (a 58 12)) 58 12 (jxw ((a 58 12) + 1))) := iv_put hv109_ (l := 0) (u := 600) rfl (by omega) (by omega)
  have hf112_ : jfr jW_X0_tell a0 (jxu a 65 (y1.toNat) (a 58 12)) := jfr_put hf rfl
  have hf113_ : jfr jW_X0_tell a0 (jxu (jxu a 65 (y1.toNat) (a 58 12)) 58 12 (jxw ((a 58 12) + 1))) := jfr_put hf112_ rfl
  exact jt_rI ⟨hv110_, hf113_, rfl, (show (0 ≤ 1 ∧ 1 ≤ 1) from by omega)⟩
theorem cp_X0_tell_30 (E : jxE) (d : Nat) (hd : Nat.ble 2 (d + 1) = true) (x1 x2 x3 : Int) (a0 b0 : Nat → Nat → Int) (hv0 : iv a0) : ∀ (y1 y2 y3 : Int) (a : Nat → Nat → Int), iv a → jfr jW_X0_tell a0 a → 0 ≤ y1 → y1 ≤ 299 → a 58 12 ≤ 599 → jt (jxX E d 16 30 [some (.inr (.inr (.inl 58))), some (.inl y1), some (.inl y2), some (.inl y3)] [] (jxSH, a, b0)) (jQ_X0_tell x1 x2 x3 a0 b0) := by
  intro y1 y2 y3 a hv hf hi0 hi1 hi2
  refine jt_eq (bq_X0_tell_30 E d y1 y2 y3 a b0) ?_
  have h114_ := iv_get hv (k := 58) (j := 12) (l := 0) (u := 600) rfl
  refine jt_grd (by omega) ?_
  refine jt_grd (by omega) ?_
  refine jt_grd (by omega) ?_
  have hv115_ : iv (jxu a 66 ((a 58 12).toNat) y1) := iv_putf hv rfl
  have hv116_ : iv (jxu (jxu a 66 ((a 58 12).toNat) y1) 67 ((a 58 12).toNat) y2) := iv_putf hv115_ rfl
  have hv117_ : iv (jxu (jxu (jxu a 66 ((a 58 12).toNat) y1) 67 ((a 58 12).toNat) y2) 68 ((a 58 12).toNat) y3) := iv_putf hv116_ rfl
  have hf118_ : jfr jW_X0_tell a0 (jxu a 66 ((a 58 12).toNat) y1) := jfr_put hf rfl
  have hf119_ : jfr jW_X0_tell a0 (jxu (jxu a 66 ((a 58 12).toNat) y1) 67 ((a 58 12).toNat) y2) := jfr_put hf118_ rfl
  have hf120_ : jfr jW_X0_tell a0 (jxu (jxu (jxu a 66 ((a 58 12).toNat) y1) 67 ((a 58 12).toNat) y2) 68 ((a 58 12).toNat) y3) := jfr_put hf119_ rfl
  exact cp_X0_tell_60 E d hd x1 x2 x3 a0 b0 hv0 y1 (jxu (jxu (jxu a 66 ((a 58 12).toNat) y1) 67 ((a 58 12).toNat) y2) 68 ((a 58 12).toNat) y3) hv117_ hf120_ (show 0 ≤ y1 from by omega) (show y1 ≤ 299 from by omega) (show a 58 12 ≤ 599 from by omega)
theorem sp_X0_tell (E : jxE) (d : Nat) (hd : Nat.ble 2 d = true) (x1 x2 x3 : Int) (a0 b0 : Nat → Nat → Int) (hv0 : iv a0) : jt (jxC E d 16 [.inr (.inr (.inl 58)), .inl x1, .inl x2, .inl x3] (jxSH, a0, b0)) (jQ_X0_tell x1 x2 x3 a0 b0) := by
  obtain ⟨d, rfl⟩ := jd_succ hd
  refine jt_eq (bq_X0_tell E d x1 x2 x3 a0 b0) ?_
  refine jt_eI (eq_X0_has E d (jd_le hd rfl) x1 a0 b0) ?_
  have h121_ := f_X0_has_eq a0 b0 x1
  have h122_ := iv_get hv0 (k := 58) (j := 8) (l := 0) (u := 300) rfl
  refine jt_ite (fun c123_ => ?_) (fun c123_ => ?_)
  ·
    exact cp_X0_tell_28 E d hd x1 x2 x3 a0 b0 hv0 a0 hv0 (jfr_rf _ _)
  ·
    refine jt_grd (by omega) ?_
    refine jt_ite (fun c124_ => ?_) (fun c124_ => ?_)
    ·
      have h125_ := iv_get hv0 (k := 58) (j := 12) (l := 0) (u := 600) rfl
      refine jt_ite (fun c126_ => ?_) (fun c126_ => ?_)
      ·
        exact cp_X0_tell_30 E d hd x1 x2 x3 a0 b0 hv0 x1 x2 x3 a0 hv0 (jfr_rf _ _) (show 0 ≤ x1 from by omega) (show x1 ≤ 299 from by omega) (show a0 58 12 ≤ 599 from by omega)
      ·
        exact cp_X0_tell_28 E d hd x1 x2 x3 a0 b0 hv0 a0 hv0 (jfr_rf _ _)
    ·
      exact cp_X0_tell_28 E d hd x1 x2 x3 a0 b0 hv0 a0 hv0 (jfr_rf _ _)
def jW_X0_takeBack : List (Nat × Nat) := [(58, 12), (65, 9999), (66, 9999), (67, 9999), (68, 9999)]
abbrev jQ_X0_takeBack (x1 x2 : Int) (a0 b0 : Nat → Nat → Int) : List jxV → (Nat → Nat → Int) → (Nat → Nat → Int) → Prop := rI (fun r a b => (iv a) ∧ (jfr jW_X0_takeBack a0 a) ∧ (b0 = b) ∧ ((0 ≤ r ∧ r ≤ 1)) ∧ ((a0 58 8 = 0 → r = 0)))
theorem sp_X0_takeBack (E : jxE) (d : Nat) (hd : Nat.ble 3 d = true) (x1 x2 : Int) (a0 b0 : Nat → Nat → Int) (hv0 : iv a0) : jt (jxC E d 15 [.inr (.inr (.inl 58)), .inl x1, .inl x2] (jxSH, a0, b0)) (jQ_X0_takeBack x1 x2 a0 b0) := by
  obtain ⟨d, rfl⟩ := jd_succ hd
  refine jt_eq (bq_X0_takeBack E d x1 x2 a0 b0) ?_
  refine jt_eI (eq_X0_arrivedOnOf E d (jd_le hd rfl) x1 a0 b0) ?_
  have h127_ := f_X0_arrivedOnOf_eq a0 b0 x1
  have h128_ := iv_get hv0 (k := 58) (j := 12) (l := 0) (u := 600) rfl
  have h129_ := iv_get hv0 (k := 58) (j := 8) (l := 0) (u := 300) rfl
  have h130_ := f_X11_entry_r65_eq a0 b0 (a0 58 8) x1
  have h131_ := f_X11_entry_r67_eq a0 b0 (a0 58 12) (f_X11_entry_r65 a0 b0 (a0 58 8) x1)
  refine jt_ite (fun c132_ => ?_) (fun c132_ => ?_)
  ·
    exact jt_rI ⟨hv0, (jfr_rf _ _), rfl, (show (0 ≤ 0 ∧ 0 ≤ 1) from by omega), (show (a0 58 8 = 0 → 0 = 0) from by omega)⟩
  ·
    refine jt_bI (sp_X0_tell E d (jd_le hd rfl) x1 (-1) x2 a0 b0 hv0) (fun r133_ a133_ b133_ h133_ => ?_)
    obtain ⟨hv133_, hf133_, rfl, hq133_0⟩ := h133_
    refine jt_ite (fun c134_ => ?_) (fun c134_ => ?_)
    ·
      have hf135_ : jfr jW_X0_takeBack a0 a133_ := jfr_tr (jfr_rf _ _) hf133_ rfl
      exact jt_rI ⟨hv133_, hf135_, rfl, (show (0 ≤ 0 ∧ 0 ≤ 1) from by omega), (show (a0 58 8 = 0 → 0 = 0) from by omega)⟩
    ·
      have hf136_ : jfr jW_X0_takeBack a0 a133_ := jfr_tr (jfr_rf _ _) hf133_ rfl
      exact jt_rI ⟨hv133_, hf136_, rfl, (show (0 ≤ 1 ∧ 1 ≤ 1) from by omega), (show (a0 58 8 = 0 → 1 = 0) from by omega)⟩
def jW_X0_tellArrival : List (Nat × Nat) := [(58, 12), (65, 9999), (66, 9999), (67, 9999), (68, 9999)]
abbrev jQ_X0_tellArrival (x1 x2 x3 : Int) (a0 b0 : Nat → Nat → Int) : List jxV → (Nat → Nat → Int) → (Nat → Nat → Int) → Prop := rI (fun r a b => (iv a) ∧ (jfr jW_X0_tellArrival a0 a) ∧ (b0 = b) ∧ ((0 ≤ r ∧ r ≤ 1)) ∧ ((a0 58 8 = 0 → r = 0)))
theorem sp_X0_tellArrival (E : jxE) (d : Nat) (hd : Nat.ble 3 d = true) (x1 x2 x3 : Int) (a0 b0 : Nat → Nat → Int) (hv0 : iv a0) : jt (jxC E d 14 [.inr (.inr (.inl 58)), .inl x1, .inl x2, .inl x3] (jxSH, a0, b0)) (jQ_X0_tellArrival x1 x2 x3 a0 b0) := by
  obtain ⟨d, rfl⟩ := jd_succ hd
  refine jt_eq (bq_X0_tellArrival E d x1 x2 x3 a0 b0) ?_
  refine jt_eI (eq_X0_has E d (jd_le hd rfl) x1 a0 b0) ?_
  have h137_ := f_X0_has_eq a0 b0 x1
  have h138_ := iv_get hv0 (k := 58) (j := 8) (l := 0) (u := 300) rfl
  refine jt_ite (fun c139_ => ?_) (fun c139_ => ?_)
  ·
    exact jt_rI ⟨hv0, (jfr_rf _ _), rfl, (show (0 ≤ 0 ∧ 0 ≤ 1) from by omega), (show (a0 58 8 = 0 → 0 = 0) from by omega)⟩
  ·
    refine jt_grd (by omega) ?_
    refine jt_eI (eq_X11_within E d (jd_le hd rfl) x2 (a0 61 (x1.toNat)) x3 a0 b0) ?_
    have h140_ := f_X11_within_eq a0 b0 x2 (a0 61 (x1.toNat)) x3
    refine jt_ite (fun c141_ => ?_) (fun c141_ => ?_)
    ·
      exact jt_rI ⟨hv0, (jfr_rf _ _), rfl, (show (0 ≤ 0 ∧ 0 ≤ 1) from by omega), (show (a0 58 8 = 0 → 0 = 0) from by omega)⟩
    ·
      refine jt_bI (sp_X0_tell E d (jd_le hd rfl) x1 x2 x3 a0 b0 hv0) (fun r142_ a142_ b142_ h142_ => ?_)
      obtain ⟨hv142_, hf142_, rfl, hq142_0⟩ := h142_
      refine jt_grd (by omega) ?_
      have hf143_ : jfr jW_X0_tellArrival a0 a142_ := jfr_tr (jfr_rf _ _) hf142_ rfl
      exact jt_rI ⟨hv142_, hf143_, rfl, (show (0 ≤ r142_ ∧ r142_ ≤ 1) from by omega), (show (a0 58 8 = 0 → r142_ = 0) from by omega)⟩
def jW_X10_addStep : List (Nat × Nat) := [(11, 6), (54, 9999)]
abbrev jQ_X10_addStep (x1 x2 : Int) (a0 b0 : Nat → Nat → Int) : List jxV → (Nat → Nat → Int) → (Nat → Nat → Int) → Prop := rV (fun a b => (iv a) ∧ (jfr jW_X10_addStep a0 a) ∧ (b0 = b) ∧ (a0 11 6 ≤ a 11 6) ∧ ((a0 11 6 < 40 → a 11 6 = (a0 11 6) + 1)) ∧ (a0 11 6 < 40 → UP (a0 54) (a 54) (a0 11 6).toNat (jxw ((jxw (x1 * 1000)) + x2))))
theorem cp_X10_addStep_35 (E : jxE) (d : Nat) (hd : Nat.ble 1 (d + 1) = true) (x1 x2 : Int) (a0 b0 : Nat → Nat → Int) (hv0 : iv a0) : ∀ (a : Nat → Nat → Int), iv a → jfr jW_X10_addStep a0 a → 1 ≤ a 11 6 → a0 11 6 ≤ a 11 6 → (a0 11 6 < 40 → a 11 6 = (a0 11 6) + 1) → (a0 11 6 < 40 → UP (a0 54) (a 54) (a0 11 6).toNat (jxw ((jxw (x1 * 1000)) + x2))) → jt (jxX E d 149 35 [none, none, none] [] (jxSH, a, b0)) (jQ_X10_addStep x1 x2 a0 b0) := by
  intro a hv hf hi0 hi1 hi2 hu
  refine jt_eq (bq_X10_addStep_35 E d a b0) ?_
  have h144_ := iv_get hv (k := 11) (j := 6) (l := 0) (u := 40) rfl
  have h145_ := iv_get hv0 (k := 11) (j := 6) (l := 0) (u := 40) rfl
  exact jt_rV ⟨hv, hf, rfl, (show a0 11 6 ≤ a 11 6 from by omega), (show (a0 11 6 < 40 → a 11 6 = (a0 11 6) + 1) from by omega), hu⟩
theorem sp_X10_addStep (E : jxE) (d : Nat) (hd : Nat.ble 1 d = true) (x1 x2 : Int) (a0 b0 : Nat → Nat → Int) (hv0 : iv a0) : jt (jxC E d 149 [.inr (.inr (.inl 11)), .inl x1, .inl x2] (jxSH, a0, b0)) (jQ_X10_addStep x1 x2 a0 b0) := by
  obtain ⟨d, rfl⟩ := jd_succ hd
  refine jt_eq (bq_X10_addStep E d x1 x2 a0 b0) ?_
  have h146_ := iv_get hv0 (k := 11) (j := 6) (l := 0) (u := 40) rfl
  refine jt_ite (fun c147_ => ?_) (fun c147_ => ?_)
  ·
    refine jt_grd (by omega) ?_
    have h149_ : jxw ((a0 11 6) + 1) = (a0 11 6) + 1 := jxw_id (by omega) (by omega)
    have hv148_ : iv (jxu a0 11 6 (jxw ((a0 11 6) + 1))) := iv_put hv0 (l := 0) (u := 40) rfl (by omega) (by omega)
    have hv150_ : iv (jxu (jxu a0 11 6 (jxw ((a0 11 6) + 1))) 54 ((a0 11 6).toNat) (jxw ((jxw (x1 * 1000)) + x2))) := iv_putf hv148_ rfl
    have hf151_ : jfr jW_X10_addStep a0 (jxu a0 11 6 (jxw ((a0 11 6) + 1))) := jfr_put (jfr_rf _ _) rfl
    have hf152_ : jfr jW_X10_addStep a0 (jxu (jxu a0 11 6 (jxw ((a0 11 6) + 1))) 54 ((a0 11 6).toNat) (jxw ((jxw (x1 * 1000)) + x2))) := jfr_put hf151_ rfl
    exact cp_X10_addStep_35 E d hd x1 x2 a0 b0 hv0 (jxu (jxu a0 11 6 (jxw ((a0 11 6) + 1))) 54 ((a0 11 6).toNat) (jxw ((jxw (x1 * 1000)) + x2))) hv150_ hf152_ (show 1 ≤ jxw ((a0 11 6) + 1) from by omega) (show a0 11 6 ≤ jxw ((a0 11 6) + 1) from by omega) (show (a0 11 6 < 40 → jxw ((a0 11 6) + 1) = (a0 11 6) + 1) from by omega) (by first | exact (fun _ => UP_put (fun _ => rfl)) | exact (fun h => absurd h (by omega)))
  ·
    exact cp_X10_addStep_35 E d hd x1 x2 a0 b0 hv0 a0 hv0 (jfr_rf _ _) (show 1 ≤ a0 11 6 from by omega) (show a0 11 6 ≤ a0 11 6 from by omega) (show (a0 11 6 < 40 → a0 11 6 = (a0 11 6) + 1) from by omega) (by first | exact (fun _ => UP_put (fun _ => rfl)) | exact (fun h => absurd h (by omega)))
abbrev jQ_X10_isMet (x1 x2 x3 : Int) (a0 b0 : Nat → Nat → Int) : List jxV → (Nat → Nat → Int) → (Nat → Nat → Int) → Prop := rI (fun r a b => (a0 = a) ∧ (b0 = b) ∧ ((0 ≤ r ∧ r ≤ 1)))
theorem cp_X10_isMet_31 (E : jxE) (d : Nat) (hd : Nat.ble 5 (d + 1) = true) (x1 x2 x3 : Int) (a0 b0 : Nat → Nat → Int) (hv0 : iv a0) : jt (jxX E d 150 31 [none, none, none, none, none, none, none, none, none] [] (jxSH, a0, b0)) (jQ_X10_isMet x1 x2 x3 a0 b0) := by
  refine jt_eq (bq_X10_isMet_31 E d a0 b0) ?_
  exact jt_rI ⟨rfl, rfl, (show (0 ≤ 1 ∧ 1 ≤ 1) from by omega)⟩
theorem cp_X10_isMet_182 (E : jxE) (d : Nat) (hd : Nat.ble 5 (d + 1) = true) (x1 x2 x3 : Int) (a0 b0 : Nat → Nat → Int) (hv0 : iv a0) : ∀ (y4 : Int), jt (jxX E d 150 182 [none, none, none, none, some (.inl y4), none, none, none, none] [] (jxSH, a0, b0)) (jQ_X10_isMet x1 x2 x3 a0 b0) := by
  intro y4
  refine jt_eq (bq_X10_isMet_182 E d y4 a0 b0) ?_
  have h153_ := jxand_r y4 1 (by decide) (by decide)
  refine jt_ite (fun c154_ => ?_) (fun c154_ => ?_)
  ·
    exact jt_rI ⟨rfl, rfl, (show (0 ≤ 1 ∧ 1 ≤ 1) from by omega)⟩
  ·
    exact jt_rI ⟨rfl, rfl, (show (0 ≤ 0 ∧ 0 ≤ 1) from by omega)⟩
theorem cp_X10_isMet_39 (E : jxE) (d : Nat) (hd : Nat.ble 5 (d + 1) = true) (x1 x2 x3 : Int) (a0 b0 : Nat → Nat → Int) (hv0 : iv a0) : ∀ n : Nat, (∀ (y1 y2 y3 y4 y5 : Int), (((40 - y5) * 1) + 0).toNat ≤ n → 0 ≤ y1 → y1 ≤ 39 → 0 ≤ y2 → y2 ≤ 39 → 0 ≤ y5 → y5 ≤ 39 → jt (jxX E d 150 113 [some (.inr (.inr (.inl 11))), some (.inl y1), some (.inl y2), some (.inl y3), some (.inl y4), some (.inl y5), none, none, none] [] (jxSH, a0, b0)) (jQ_X10_isMet x1 x2 x3 a0 b0)) ∧ (∀ (y1 y2 y3 y4 y5 : Int), (((40 - y5) * 1) + 0).toNat ≤ n → 0 ≤ y1 → y1 ≤ 39 → 0 ≤ y2 → y2 ≤ 39 → 0 ≤ y5 → y5 ≤ 39 → jt (jxX E d 150 132 [some (.inr (.inr (.inl 11))), some (.inl y1), some (.inl y2), some (.inl y3), some (.inl y4), some (.inl y5), none, none, none] [] (jxSH, a0, b0)) (jQ_X10_isMet x1 x2 x3 a0 b0)) ∧ (∀ (y1 y2 y3 y4 y5 y8 : Int), (((40 - y5) * 1) + 0).toNat ≤ n → 0 ≤ y1 → y1 ≤ 39 → 0 ≤ y2 → y2 ≤ 39 → 0 ≤ y5 → y5 ≤ 39 → 0 ≤ y8 → y8 ≤ 1 → jt (jxX E d 150 159 [some (.inr (.inr (.inl 11))), some (.inl y1), some (.inl y2), some (.inl y3), some (.inl y4), some (.inl y5), none, none, some (.inl y8)] [] (jxSH, a0, b0)) (jQ_X10_isMet x1 x2 x3 a0 b0)) ∧ (∀ (y1 y2 y3 y4 y5 y6 : Int), (((40 - y5) * 1) + 0).toNat ≤ n → 0 ≤ y1 → y1 ≤ 39 → 0 ≤ y2 → y2 ≤ 39 → 0 ≤ y5 → y5 ≤ 39 → jt (jxX E d 150 72 [some (.inr (.inr (.inl 11))), some (.inl y1), some (.inl y2), some (.inl y3), some (.inl y4), some (.inl y5), some (.inl y6), none, none] [] (jxSH, a0, b0)) (jQ_X10_isMet x1 x2 x3 a0 b0)) ∧ (∀ (y1 y2 y3 y4 y5 : Int), (((40 - y5) * 1) + 0).toNat ≤ n → 0 ≤ y1 → y1 ≤ 39 → 0 ≤ y2 → y2 ≤ 39 → 0 ≤ y5 → y5 ≤ 40 → jt (jxX E d 150 39 [some (.inr (.inr (.inl 11))), some (.inl y1), some (.inl y2), some (.inl y3), some (.inl y4), some (.inl y5), none, none, none] [] (jxSH, a0, b0)) (jQ_X10_isMet x1 x2 x3 a0 b0)) := by
  refine jx_ind fun n ih => ?_
  have ih113 : ∀ (y1 y2 y3 y4 y5 : Int), (((40 - y5) * 1) + 0).toNat < n → 0 ≤ y1 → y1 ≤ 39 → 0 ≤ y2 → y2 ≤ 39 → 0 ≤ y5 → y5 ≤ 39 → jt (jxX E d 150 113 [some (.inr (.inr (.inl 11))), some (.inl y1), some (.inl y2), some (.inl y3), some (.inl y4), some (.inl y5), none, none, none] [] (jxSH, a0, b0)) (jQ_X10_isMet x1 x2 x3 a0 b0) := fun y1 y2 y3 y4 y5 hlt i0 i1 i2 i3 i4 i5 => (ih _ hlt).1 y1 y2 y3 y4 y5 (Nat.le_refl _) i0 i1 i2 i3 i4 i5
  have ih132 : ∀ (y1 y2 y3 y4 y5 : Int), (((40 - y5) * 1) + 0).toNat < n → 0 ≤ y1 → y1 ≤ 39 → 0 ≤ y2 → y2 ≤ 39 → 0 ≤ y5 → y5 ≤ 39 → jt (jxX E d 150 132 [some (.inr (.inr (.inl 11))), some (.inl y1), some (.inl y2), some (.inl y3), some (.inl y4), some (.inl y5), none, none, none] [] (jxSH, a0, b0)) (jQ_X10_isMet x1 x2 x3 a0 b0) := fun y1 y2 y3 y4 y5 hlt i0 i1 i2 i3 i4 i5 => (ih _ hlt).2.1 y1 y2 y3 y4 y5 (Nat.le_refl _) i0 i1 i2 i3 i4 i5
  have ih159 : ∀ (y1 y2 y3 y4 y5 y8 : Int), (((40 - y5) * 1) + 0).toNat < n → 0 ≤ y1 → y1 ≤ 39 → 0 ≤ y2 → y2 ≤ 39 → 0 ≤ y5 → y5 ≤ 39 → 0 ≤ y8 → y8 ≤ 1 → jt (jxX E d 150 159 [some (.inr (.inr (.inl 11))), some (.inl y1), some (.inl y2), some (.inl y3), some (.inl y4), some (.inl y5), none, none, some (.inl y8)] [] (jxSH, a0, b0)) (jQ_X10_isMet x1 x2 x3 a0 b0) := fun y1 y2 y3 y4 y5 y8 hlt i0 i1 i2 i3 i4 i5 i6 i7 => (ih _ hlt).2.2.1 y1 y2 y3 y4 y5 y8 (Nat.le_refl _) i0 i1 i2 i3 i4 i5 i6 i7
  have ih72 : ∀ (y1 y2 y3 y4 y5 y6 : Int), (((40 - y5) * 1) + 0).toNat < n → 0 ≤ y1 → y1 ≤ 39 → 0 ≤ y2 → y2 ≤ 39 → 0 ≤ y5 → y5 ≤ 39 → jt (jxX E d 150 72 [some (.inr (.inr (.inl 11))), some (.inl y1), some (.inl y2), some (.inl y3), some (.inl y4), some (.inl y5), some (.inl y6), none, none] [] (jxSH, a0, b0)) (jQ_X10_isMet x1 x2 x3 a0 b0) := fun y1 y2 y3 y4 y5 y6 hlt i0 i1 i2 i3 i4 i5 => (ih _ hlt).2.2.2.1 y1 y2 y3 y4 y5 y6 (Nat.le_refl _) i0 i1 i2 i3 i4 i5
  have ih39 : ∀ (y1 y2 y3 y4 y5 : Int), (((40 - y5) * 1) + 0).toNat < n → 0 ≤ y1 → y1 ≤ 39 → 0 ≤ y2 → y2 ≤ 39 → 0 ≤ y5 → y5 ≤ 40 → jt (jxX E d 150 39 [some (.inr (.inr (.inl 11))), some (.inl y1), some (.inl y2), some (.inl y3), some (.inl y4), some (.inl y5), none, none, none] [] (jxSH, a0, b0)) (jQ_X10_isMet x1 x2 x3 a0 b0) := fun y1 y2 y3 y4 y5 hlt i0 i1 i2 i3 i4 i5 => (ih _ hlt).2.2.2.2 y1 y2 y3 y4 y5 (Nat.le_refl _) i0 i1 i2 i3 i4 i5
  have hc113 : ∀ (y1 y2 y3 y4 y5 : Int), (((40 - y5) * 1) + 0).toNat ≤ n → 0 ≤ y1 → y1 ≤ 39 → 0 ≤ y2 → y2 ≤ 39 → 0 ≤ y5 → y5 ≤ 39 → jt (jxX E d 150 113 [some (.inr (.inr (.inl 11))), some (.inl y1), some (.inl y2), some (.inl y3), some (.inl y4), some (.inl y5), none, none, none] [] (jxSH, a0, b0)) (jQ_X10_isMet x1 x2 x3 a0 b0) := by
    intro y1 y2 y3 y4 y5 hm hi0 hi1 hi2 hi3 hi4 hi5
    refine jt_eq (bq_X10_isMet_113 E d y1 y2 y3 y4 y5 a0 b0) ?_
    have h155_ : jxw (y5 + 1) = y5 + 1 := jxw_id (by omega) (by omega)
    exact ih39 y1 y2 y3 y4 (jxw (y5 + 1)) (show (((40 - (jxw (y5 + 1))) * 1) + 0).toNat < n from by omega) (show 0 ≤ y1 from by omega) (show y1 ≤ 39 from by omega) (show 0 ≤ y2 from by omega) (show y2 ≤ 39 from by omega) (show 0 ≤ jxw (y5 + 1) from by omega) (show jxw (y5 + 1) ≤ 40 from by omega)
  have hc132 : ∀ (y1 y2 y3 y4 y5 : Int), (((40 - y5) * 1) + 0).toNat ≤ n → 0 ≤ y1 → y1 ≤ 39 → 0 ≤ y2 → y2 ≤ 39 → 0 ≤ y5 → y5 ≤ 39 → jt (jxX E d 150 132 [some (.inr (.inr (.inl 11))), some (.inl y1), some (.inl y2), some (.inl y3), some (.inl y4), some (.inl y5), none, none, none] [] (jxSH, a0, b0)) (jQ_X10_isMet x1 x2 x3 a0 b0) := by
    intro y1 y2 y3 y4 y5 hm hi0 hi1 hi2 hi3 hi4 hi5
    refine jt_eq (bq_X10_isMet_132 E d y1 y2 y3 y4 y5 a0 b0) ?_
    have h156_ : jxw (y5 + 1) = y5 + 1 := jxw_id (by omega) (by omega)
    exact ih39 y1 y2 y3 y4 (jxw (y5 + 1)) (show (((40 - (jxw (y5 + 1))) * 1) + 0).toNat < n from by omega) (show 0 ≤ y1 from by omega) (show y1 ≤ 39 from by omega) (show 0 ≤ y2 from by omega) (show y2 ≤ 39 from by omega) (show 0 ≤ jxw (y5 + 1) from by omega) (show jxw (y5 + 1) ≤ 40 from by omega)
  have hc159 : ∀ (y1 y2 y3 y4 y5 y8 : Int), (((40 - y5) * 1) + 0).toNat ≤ n → 0 ≤ y1 → y1 ≤ 39 → 0 ≤ y2 → y2 ≤ 39 → 0 ≤ y5 → y5 ≤ 39 → 0 ≤ y8 → y8 ≤ 1 → jt (jxX E d 150 159 [some (.inr (.inr (.inl 11))), some (.inl y1), some (.inl y2), some (.inl y3), some (.inl y4), some (.inl y5), none, none, some (.inl y8)] [] (jxSH, a0, b0)) (jQ_X10_isMet x1 x2 x3 a0 b0) := by
    intro y1 y2 y3 y4 y5 y8 hm hi0 hi1 hi2 hi3 hi4 hi5 hi6 hi7
    refine jt_eq (bq_X10_isMet_159 E d y1 y2 y3 y4 y5 y8 a0 b0) ?_
    refine jt_ite (fun c157_ => ?_) (fun c157_ => ?_)
    ·
      have h158_ : jxw (y5 + 1) = y5 + 1 := jxw_id (by omega) (by omega)
      exact ih39 y1 y2 y3 (jxor (jxshl y4 1) 0) (jxw (y5 + 1)) (show (((40 - (jxw (y5 + 1))) * 1) + 0).toNat < n from by omega) (show 0 ≤ y1 from by omega) (show y1 ≤ 39 from by omega) (show 0 ≤ y2 from by omega) (show y2 ≤ 39 from by omega) (show 0 ≤ jxw (y5 + 1) from by omega) (show jxw (y5 + 1) ≤ 40 from by omega)
    ·
      have h159_ : jxw (y5 + 1) = y5 + 1 := jxw_id (by omega) (by omega)
      exact ih39 y1 y2 y3 (jxor (jxshl y4 1) 1) (jxw (y5 + 1)) (show (((40 - (jxw (y5 + 1))) * 1) + 0).toNat < n from by omega) (show 0 ≤ y1 from by omega) (show y1 ≤ 39 from by omega) (show 0 ≤ y2 from by omega) (show y2 ≤ 39 from by omega) (show 0 ≤ jxw (y5 + 1) from by omega) (show jxw (y5 + 1) ≤ 40 from by omega)
  have hc72 : ∀ (y1 y2 y3 y4 y5 y6 : Int), (((40 - y5) * 1) + 0).toNat ≤ n → 0 ≤ y1 → y1 ≤ 39 → 0 ≤ y2 → y2 ≤ 39 → 0 ≤ y5 → y5 ≤ 39 → jt (jxX E d 150 72 [some (.inr (.inr (.inl 11))), some (.inl y1), some (.inl y2), some (.inl y3), some (.inl y4), some (.inl y5), some (.inl y6), none, none] [] (jxSH, a0, b0)) (jQ_X10_isMet x1 x2 x3 a0 b0) := by
    intro y1 y2 y3 y4 y5 y6 hm hi0 hi1 hi2 hi3 hi4 hi5
    refine jt_eq (bq_X10_isMet_72 E d y1 y2 y3 y4 y5 y6 a0 b0) ?_
    refine jt_ite (fun c160_ => ?_) (fun c160_ => ?_)
    ·
      have h161_ : jxw (y5 + 1) = y5 + 1 := jxw_id (by omega) (by omega)
      exact ih39 y1 y2 y3 (jxxor y4 1) (jxw (y5 + 1)) (show (((40 - (jxw (y5 + 1))) * 1) + 0).toNat < n from by omega) (show 0 ≤ y1 from by omega) (show y1 ≤ 39 from by omega) (show 0 ≤ y2 from by omega) (show y2 ≤ 39 from by omega) (show 0 ≤ jxw (y5 + 1) from by omega) (show jxw (y5 + 1) ≤ 40 from by omega)
    ·
      refine jt_ite (fun c162_ => ?_) (fun c162_ => ?_)
      ·
        exact hc113 y1 y2 y3 (jxand (jxshr y4 1) (jxor (jxand y4 1) (-2))) y5 (show (((40 - y5) * 1) + 0).toNat ≤ n from by omega) (show 0 ≤ y1 from by omega) (show y1 ≤ 39 from by omega) (show 0 ≤ y2 from by omega) (show y2 ≤ 39 from by omega) (show 0 ≤ y5 from by omega) (show y5 ≤ 39 from by omega)
      ·
        refine jt_ite (fun c163_ => ?_) (fun c163_ => ?_)
        ·
          exact hc132 y1 y2 y3 (jxor (jxshr y4 1) (jxand y4 1)) y5 (show (((40 - y5) * 1) + 0).toNat ≤ n from by omega) (show 0 ≤ y1 from by omega) (show y1 ≤ 39 from by omega) (show 0 ≤ y2 from by omega) (show y2 ≤ 39 from by omega) (show 0 ≤ y5 from by omega) (show y5 ≤ 39 from by omega)
        ·
          refine jt_grd (by omega) ?_
          refine jt_grd (by omega) ?_
          refine jt_grd (by omega) ?_
          refine jt_eI (eq_X10_holdsAtom E d (jd_le hd rfl) y6 (jxw (Int.tmod (a0 12 ((y1.toNat) * 40 + (y5.toNat))) 1000)) y1 y2 y3 a0 b0) ?_
          have h164_ := jx_tm (a0 12 ((y1.toNat) * 40 + (y5.toNat))) 1000
          have h165_ := jx_tmr (a0 12 ((y1.toNat) * 40 + (y5.toNat))) 1000 (by decide)
          have h166_ : jxw (Int.tmod (a0 12 ((y1.toNat) * 40 + (y5.toNat))) 1000) = Int.tmod (a0 12 ((y1.toNat) * 40 + (y5.toNat))) 1000 := jxw_id (by omega) (by omega)
          have h167_ := f_X10_holdsAtom_bool a0 b0 y6 (jxw (Int.tmod (a0 12 ((y1.toNat) * 40 + (y5.toNat))) 1000)) y1 y2 y3
          exact hc159 y1 y2 y3 y4 y5 (f_X10_holdsAtom a0 b0 y6 (jxw (Int.tmod (a0 12 ((y1.toNat) * 40 + (y5.toNat))) 1000)) y1 y2 y3) (show (((40 - y5) * 1) + 0).toNat ≤ n from by omega) (show 0 ≤ y1 from by omega) (show y1 ≤ 39 from by omega) (show 0 ≤ y2 from by omega) (show y2 ≤ 39 from by omega) (show 0 ≤ y5 from by omega) (show y5 ≤ 39 from by omega) (show 0 ≤ f_X10_holdsAtom a0 b0 y6 (jxw (Int.tmod (a0 12 ((y1.toNat) * 40 + (y5.toNat))) 1000)) y1 y2 y3 from by omega) (show f_X10_holdsAtom a0 b0 y6 (jxw (Int.tmod (a0 12 ((y1.toNat) * 40 + (y5.toNat))) 1000)) y1 y2 y3 ≤ 1 from by omega)
  have hc39 : ∀ (y1 y2 y3 y4 y5 : Int), (((40 - y5) * 1) + 0).toNat ≤ n → 0 ≤ y1 → y1 ≤ 39 → 0 ≤ y2 → y2 ≤ 39 → 0 ≤ y5 → y5 ≤ 40 → jt (jxX E d 150 39 [some (.inr (.inr (.inl 11))), some (.inl y1), some (.inl y2), some (.inl y3), some (.inl y4), some (.inl y5), none, none, none] [] (jxSH, a0, b0)) (jQ_X10_isMet x1 x2 x3 a0 b0) := by
    intro y1 y2 y3 y4 y5 hm hi0 hi1 hi2 hi3 hi4 hi5
    refine jt_eq (bq_X10_isMet_39 E d y1 y2 y3 y4 y5 a0 b0) ?_
    refine jt_grd (by omega) ?_
    have h168_ := iv_get hv0 (k := 53) (j := y1.toNat) (l := 0) (u := 40) rfl
    refine jt_ite (fun c169_ => ?_) (fun c169_ => ?_)
    ·
      refine jt_ite (fun c170_ => ?_) (fun c170_ => ?_)
      ·
        refine jt_grd (by omega) ?_
        refine jt_grd (by omega) ?_
        refine jt_grd (by omega) ?_
        exact hc72 y1 y2 y3 y4 y5 (jxw (Int.tdiv (a0 12 ((y1.toNat) * 40 + (y5.toNat))) 1000)) (show (((40 - y5) * 1) + 0).toNat ≤ n from by omega) (show 0 ≤ y1 from by omega) (show y1 ≤ 39 from by omega) (show 0 ≤ y2 from by omega) (show y2 ≤ 39 from by omega) (show 0 ≤ y5 from by omega) (show y5 ≤ 39 from by omega)
      ·
        exact cp_X10_isMet_182 E d hd x1 x2 x3 a0 b0 hv0 y4
    ·
      exact cp_X10_isMet_182 E d hd x1 x2 x3 a0 b0 hv0 y4
  exact ⟨hc113, hc132, hc159, hc72, hc39⟩
theorem cp_X10_isMet_33 (E : jxE) (d : Nat) (hd : Nat.ble 5 (d + 1) = true) (x1 x2 x3 : Int) (a0 b0 : Nat → Nat → Int) (hv0 : iv a0) : ∀ (y1 y2 y3 : Int), 0 ≤ y1 → y1 ≤ 39 → 0 ≤ y2 → y2 ≤ 39 → jt (jxX E d 150 33 [some (.inr (.inr (.inl 11))), some (.inl y1), some (.inl y2), some (.inl y3), none, none, none, none, none] [] (jxSH, a0, b0)) (jQ_X10_isMet x1 x2 x3 a0 b0) := by
  intro y1 y2 y3 hi0 hi1 hi2 hi3
  refine jt_eq (bq_X10_isMet_33 E d y1 y2 y3 a0 b0) ?_
  exact (cp_X10_isMet_39 E d hd x1 x2 x3 a0 b0 hv0 _).2.2.2.2 y1 y2 y3 0 0 (Nat.le_refl _) (show 0 ≤ y1 from by omega) (show y1 ≤ 39 from by omega) (show 0 ≤ y2 from by omega) (show y2 ≤ 39 from by omega) (show 0 ≤ 0 from by omega) (show 0 ≤ 40 from by omega)
theorem sp_X10_isMet (E : jxE) (d : Nat) (hd : Nat.ble 5 d = true) (x1 x2 x3 : Int) (a0 b0 : Nat → Nat → Int) (hv0 : iv a0) : jt (jxC E d 150 [.inr (.inr (.inl 11)), .inl x1, .inl x2, .inl x3] (jxSH, a0, b0)) (jQ_X10_isMet x1 x2 x3 a0 b0) := by
  obtain ⟨d, rfl⟩ := jd_succ hd
  refine jt_eq (bq_X10_isMet E d x1 x2 x3 a0 b0) ?_
  refine jt_eI (eq_X3_has E d (jd_le hd rfl) x1 a0 b0) ?_
  have h171_ := f_X3_has_eq a0 b0 x1
  have h172_ := iv_get hv0 (k := 4) (j := 6) (l := 0) (u := 40) rfl
  refine jt_ite (fun c173_ => ?_) (fun c173_ => ?_)
  ·
    exact cp_X10_isMet_31 E d hd x1 x2 x3 a0 b0 hv0
  ·
    refine jt_eI (eq_X3_has E d (jd_le hd rfl) x2 a0 b0) ?_
    have h174_ := f_X3_has_eq a0 b0 x2
    refine jt_ite (fun c175_ => ?_) (fun c175_ => ?_)
    ·
      exact cp_X10_isMet_31 E d hd x1 x2 x3 a0 b0 hv0
    ·
      refine jt_grd (by omega) ?_
      have h176_ := iv_get hv0 (k := 53) (j := x1.toNat) (l := 0) (u := 40) rfl
      refine jt_ite (fun c177_ => ?_) (fun c177_ => ?_)
      ·
        exact cp_X10_isMet_31 E d hd x1 x2 x3 a0 b0 hv0
      ·
        exact cp_X10_isMet_33 E d hd x1 x2 x3 a0 b0 hv0 x1 x2 x3 (show 0 ≤ x1 from by omega) (show x1 ≤ 39 from by omega) (show 0 ≤ x2 from by omega) (show x2 ≤ 39 from by omega)
def jW_X10_keepDraft : List (Nat × Nat) := [(12, 9999), (53, 9999)]
abbrev jQ_X10_keepDraft (x1 : Int) (a0 b0 : Nat → Nat → Int) : List jxV → (Nat → Nat → Int) → (Nat → Nat → Int) → Prop := rV (fun a b => (iv a) ∧ (jfr jW_X10_keepDraft a0 a) ∧ (b0 = b))
theorem cp_X10_keepDraft_14 (E : jxE) (d : Nat) (hd : Nat.ble 2 (d + 1) = true) (x1 : Int) (a0 b0 : Nat → Nat → Int) (hv0 : iv a0) : ∀ n : Nat, (∀ (y1 y2 : Int) (a : Nat → Nat → Int), (((40 - y2) * 1) + 0).toNat ≤ n → iv a → jfr jW_X10_keepDraft a0 a → 0 ≤ y1 → y1 ≤ 39 → 0 ≤ y2 → y2 ≤ 39 → 1 ≤ a 11 6 → jt (jxX E d 142 36 [some (.inr (.inr (.inl 11))), some (.inl y1), some (.inl y2)] [] (jxSH, a, b0)) (jQ_X10_keepDraft x1 a0 b0)) ∧ (∀ (y1 y2 : Int) (a : Nat → Nat → Int), (((40 - y2) * 1) + 0).toNat ≤ n → iv a → jfr jW_X10_keepDraft a0 a → 0 ≤ y1 → y1 ≤ 39 → 0 ≤ y2 → y2 ≤ 40 → jt (jxX E d 142 14 [some (.inr (.inr (.inl 11))), some (.inl y1), some (.inl y2)] [] (jxSH, a, b0)) (jQ_X10_keepDraft x1 a0 b0)) := by
  refine jx_ind fun n ih => ?_
  have ih36 : ∀ (y1 y2 : Int) (a : Nat → Nat → Int), (((40 - y2) * 1) + 0).toNat < n → iv a → jfr jW_X10_keepDraft a0 a → 0 ≤ y1 → y1 ≤ 39 → 0 ≤ y2 → y2 ≤ 39 → 1 ≤ a 11 6 → jt (jxX E d 142 36 [some (.inr (.inr (.inl 11))), some (.inl y1), some (.inl y2)] [] (jxSH, a, b0)) (jQ_X10_keepDraft x1 a0 b0) := fun y1 y2 a hlt i0 i1 i2 i3 i4 i5 i6 => (ih _ hlt).1 y1 y2 a (Nat.le_refl _) i0 i1 i2 i3 i4 i5 i6
  have ih14 : ∀ (y1 y2 : Int) (a : Nat → Nat → Int), (((40 - y2) * 1) + 0).toNat < n → iv a → jfr jW_X10_keepDraft a0 a → 0 ≤ y1 → y1 ≤ 39 → 0 ≤ y2 → y2 ≤ 40 → jt (jxX E d 142 14 [some (.inr (.inr (.inl 11))), some (.inl y1), some (.inl y2)] [] (jxSH, a, b0)) (jQ_X10_keepDraft x1 a0 b0) := fun y1 y2 a hlt i0 i1 i2 i3 i4 i5 => (ih _ hlt).2 y1 y2 a (Nat.le_refl _) i0 i1 i2 i3 i4 i5
  have hc36 : ∀ (y1 y2 : Int) (a : Nat → Nat → Int), (((40 - y2) * 1) + 0).toNat ≤ n → iv a → jfr jW_X10_keepDraft a0 a → 0 ≤ y1 → y1 ≤ 39 → 0 ≤ y2 → y2 ≤ 39 → 1 ≤ a 11 6 → jt (jxX E d 142 36 [some (.inr (.inr (.inl 11))), some (.inl y1), some (.inl y2)] [] (jxSH, a, b0)) (jQ_X10_keepDraft x1 a0 b0) := by
    intro y1 y2 a hm hv hf hi0 hi1 hi2 hi3 hi4
    refine jt_eq (bq_X10_keepDraft_36 E d y1 y2 a b0) ?_
    have h178_ := iv_get hv (k := 11) (j := 6) (l := 0) (u := 40) rfl
    have h179_ : a 11 6 = a0 11 6 := hf 11 6 rfl
    have h180_ := iv_get hv0 (k := 11) (j := 6) (l := 0) (u := 40) rfl
    have h181_ : jxw (y2 + 1) = y2 + 1 := jxw_id (by omega) (by omega)
    exact ih14 y1 (jxw (y2 + 1)) a (show (((40 - (jxw (y2 + 1))) * 1) + 0).toNat < n from by omega) hv hf (show 0 ≤ y1 from by omega) (show y1 ≤ 39 from by omega) (show 0 ≤ jxw (y2 + 1) from by omega) (show jxw (y2 + 1) ≤ 40 from by omega)
  have hc14 : ∀ (y1 y2 : Int) (a : Nat → Nat → Int), (((40 - y2) * 1) + 0).toNat ≤ n → iv a → jfr jW_X10_keepDraft a0 a → 0 ≤ y1 → y1 ≤ 39 → 0 ≤ y2 → y2 ≤ 40 → jt (jxX E d 142 14 [some (.inr (.inr (.inl 11))), some (.inl y1), some (.inl y2)] [] (jxSH, a, b0)) (jQ_X10_keepDraft x1 a0 b0) := by
    intro y1 y2 a hm hv hf hi0 hi1 hi2 hi3
    refine jt_eq (bq_X10_keepDraft_14 E d y1 y2 a b0) ?_
    have h182_ := iv_get hv (k := 11) (j := 6) (l := 0) (u := 40) rfl
    have h183_ : a 11 6 = a0 11 6 := hf 11 6 rfl
    have h184_ := iv_get hv0 (k := 11) (j := 6) (l := 0) (u := 40) rfl
    refine jt_ite (fun c185_ => ?_) (fun c185_ => ?_)
    ·
      refine jt_grd (by omega) ?_
      refine jt_grd (by omega) ?_
      refine jt_grd (by omega) ?_
      refine jt_grd (by omega) ?_
      have hv186_ : iv (jxu a 12 ((y1.toNat) * 40 + (y2.toNat)) (a 54 (y2.toNat))) := iv_putf hv rfl
      have hf187_ : jfr jW_X10_keepDraft a0 (jxu a 12 ((y1.toNat) * 40 + (y2.toNat)) (a 54 (y2.toNat))) := jfr_put hf rfl
      exact hc36 y1 y2 (jxu a 12 ((y1.toNat) * 40 + (y2.toNat)) (a 54 (y2.toNat))) (show (((40 - y2) * 1) + 0).toNat ≤ n from by omega) hv186_ hf187_ (show 0 ≤ y1 from by omega) (show y1 ≤ 39 from by omega) (show 0 ≤ y2 from by omega) (show y2 ≤ 39 from by omega) (show 1 ≤ a 11 6 from by omega)
    ·
      refine jt_grd (by omega) ?_
      have hv188_ : iv (jxu a 53 (y1.toNat) (a 11 6)) := iv_put hv (l := 0) (u := 40) rfl (by omega) (by omega)
      have hf189_ : jfr jW_X10_keepDraft a0 (jxu a 53 (y1.toNat) (a 11 6)) := jfr_put hf rfl
      exact jt_rV ⟨hv188_, hf189_, rfl⟩
  exact ⟨hc36, hc14⟩
theorem sp_X10_keepDraft (E : jxE) (d : Nat) (hd : Nat.ble 2 d = true) (x1 : Int) (a0 b0 : Nat → Nat → Int) (hv0 : iv a0) : jt (jxC E d 142 [.inr (.inr (.inl 11)), .inl x1] (jxSH, a0, b0)) (jQ_X10_keepDraft x1 a0 b0) := by
  obtain ⟨d, rfl⟩ := jd_succ hd
  refine jt_eq (bq_X10_keepDraft E d x1 a0 b0) ?_
  refine jt_eI (eq_X3_has E d (jd_le hd rfl) x1 a0 b0) ?_
  have h190_ := f_X3_has_eq a0 b0 x1
  have h191_ := iv_get hv0 (k := 4) (j := 6) (l := 0) (u := 40) rfl
  refine jt_ite (fun c192_ => ?_) (fun c192_ => ?_)
  ·
    exact jt_rV ⟨hv0, (jfr_rf _ _), rfl⟩
  ·
    exact (cp_X10_keepDraft_14 E d hd x1 a0 b0 hv0 _).2 x1 0 a0 (Nat.le_refl _) hv0 (jfr_rf _ _) (show 0 ≤ x1 from by omega) (show x1 ≤ 39 from by omega) (show 0 ≤ 0 from by omega) (show 0 ≤ 40 from by omega)
def jW_X10_takeAtomWord : List (Nat × Nat) := [(2, 2)]
abbrev jQ_X10_takeAtomWord (a0 b0 : Nat → Nat → Int) : List jxV → (Nat → Nat → Int) → (Nat → Nat → Int) → Prop := rI (fun r a b => (iv a) ∧ (jfr jW_X10_takeAtomWord a0 a) ∧ (b0 = b) ∧ (a0 2 3 = 0 → r = AK (a0 3) (a0 2 1).toNat (a0 2 2).toNat) ∧ (a0 2 3 = 0 → 0 ≤ r → a 2 2 = (AQ (a0 3) (a0 2 1).toNat (a0 2 2).toNat : Int)) ∧ (a0 2 3 = 0 → r < 0 → a 2 2 = a0 2 2) ∧ (¬ a0 2 3 = 0 → r = -1))
theorem cp_X10_takeAtomWord_40 (E : jxE) (d : Nat) (hd : Nat.ble 6 (d + 1) = true) (a0 b0 : Nat → Nat → Int) (hv0 : iv a0) : ∀ (a : Nat → Nat → Int), iv a → jfr jW_X10_takeAtomWord a0 a → a0 2 3 = 0 → (TW (a0 3) (a0 2 1).toNat (a0 2 2).toNat 5) → (a 2 2 = (SK (a0 3) (a0 2 1).toNat ((a0 2 2).toNat + wdn 5) : Int)) → jt (jxX E d 147 40 [none] [] (jxSH, a, b0)) (jQ_X10_takeAtomWord a0 b0) := by
  intro a hv hf hi0 htw hat
  refine jt_eq (bq_X10_takeAtomWord_40 E d a b0) ?_
  have h3 : a 3 = a0 3 := funext fun j => hf 3 j rfl
  have h21 := hf 2 1 rfl
  exact jt_rI ⟨hv, hf, rfl, (fun _ => (AK_w (w := 2) (by decide) htw).symm), (fun _ _ => by rw [AQ_w (w := 2) (by decide) htw]; exact hat), (fun _ h => absurd h (by decide)), (fun h => absurd (by omega) h)⟩
theorem cp_X10_takeAtomWord_82 (E : jxE) (d : Nat) (hd : Nat.ble 6 (d + 1) = true) (a0 b0 : Nat → Nat → Int) (hv0 : iv a0) : ∀ (a : Nat → Nat → Int), iv a → jfr jW_X10_takeAtomWord a0 a → a0 2 3 = 0 → (TW (a0 3) (a0 2 1).toNat (a0 2 2).toNat 8) → (a 2 2 = (SK (a0 3) (a0 2 1).toNat ((a0 2 2).toNat + wdn 8) : Int)) → jt (jxX E d 147 82 [none] [] (jxSH, a, b0)) (jQ_X10_takeAtomWord a0 b0) := by
  intro a hv hf hi0 htw hat
  refine jt_eq (bq_X10_takeAtomWord_82 E d a b0) ?_
  have h3 : a 3 = a0 3 := funext fun j => hf 3 j rfl
  have h21 := hf 2 1 rfl
  exact jt_rI ⟨hv, hf, rfl, (fun _ => (AK_w (w := 5) (by decide) htw).symm), (fun _ _ => by rw [AQ_w (w := 5) (by decide) htw]; exact hat), (fun _ h => absurd h (by decide)), (fun h => absurd (by omega) h)⟩
theorem cp_X10_takeAtomWord_84 (E : jxE) (d : Nat) (hd : Nat.ble 6 (d + 1) = true) (a0 b0 : Nat → Nat → Int) (hv0 : iv a0) : ∀ (a : Nat → Nat → Int), iv a → jfr jW_X10_takeAtomWord a0 a → (a0 2 3 = 0 → (¬ TW (a0 3) (a0 2 1).toNat (a0 2 2).toNat 3 ∧ ¬ TW (a0 3) (a0 2 1).toNat (a0 2 2).toNat 4 ∧ ¬ TW (a0 3) (a0 2 1).toNat (a0 2 2).toNat 5) ∧ ¬ TW (a0 3) (a0 2 1).toNat (a0 2 2).toNat 6 ∧ ¬ TW (a0 3) (a0 2 1).toNat (a0 2 2).toNat 7 ∧ ¬ TW (a0 3) (a0 2 1).toNat (a0 2 2).toNat 8) → a 2 2 = a0 2 2 → a 2 3 = a0 2 3 → jt (jxX E d 147 84 [some (.inr (.inr (.inl 11)))] [] (jxSH, a, b0)) (jQ_X10_takeAtomWord a0 b0) := by
  intro a hv hf hn hi1 hi2
  refine jt_eq (bq_X10_takeAtomWord_84 E d a b0) ?_
  have h193_ := iv_get hv (k := 2) (j := 2) (l := 0) (u := 200) rfl
  have h194_ := iv_get hv0 (k := 2) (j := 2) (l := 0) (u := 200) rfl
  have h195_ : a 2 3 = a0 2 3 := hf 2 3 rfl
  have h3 : a 3 = a0 3 := funext fun j => hf 3 j rfl
  have h21 := hf 2 1 rfl
  refine jt_bI (sp_X8_takesWord_r1007 E d (jd_le hd rfl) a b0 hv) (fun r196_ a196_ b196_ h196_ => ?_)
  obtain ⟨hv196_, hf196_, rfl, hq196_0, hq196_1, hq196_2, hq196_3, hq196_4⟩ := h196_
  have h197_ := iv_get hv (k := 2) (j := 1) (l := 0) (u := 200) rfl
  have h198_ : a 2 1 = a0 2 1 := hf 2 1 rfl
  have h199_ := iv_get hv0 (k := 2) (j := 1) (l := 0) (u := 200) rfl
  have h200_ := iv_get hv196_ (k := 2) (j := 2) (l := 0) (u := 200) rfl
  have hz196 := hf196_ 2 3 rfl
  refine jt_ite (fun c201_ => ?_) (fun c201_ => ?_)
  ·
    have hf202_ : jfr jW_X10_takeAtomWord a0 a196_ := jfr_tr hf hf196_ rfl
    exact jt_rI ⟨hv196_, hf202_, rfl, (fun hz0 => by have n9 := (by have q := (hq196_4 (by omega)).resolve_left (fun h => h (by omega)); rw [show a 3 = a0 3 from funext (fun j => hf 3 j rfl), show a 2 1 = a0 2 1 from hf 2 1 rfl, show a 2 2 = a0 2 2 from by omega] at q; exact q); obtain ⟨⟨n3, n4, n5⟩, n6, n7, n8⟩ := hn hz0; refine (AK_no (fun w hw => ?_)).symm; have hc : w = 0 ∨ w = 1 ∨ w = 2 ∨ w = 3 ∨ w = 4 ∨ w = 5 ∨ w = 6 := (by omega); rcases hc with rfl | rfl | rfl | rfl | rfl | rfl | rfl <;> assumption), (fun _ h => absurd h (by decide)), (fun _ _ => by omega), (fun _ => rfl)⟩
  ·
    have hf203_ : jfr jW_X10_takeAtomWord a0 a196_ := jfr_tr hf hf196_ rfl
    exact jt_rI ⟨hv196_, hf203_, rfl, (fun _ => by have q := (hq196_3 (by omega)).2.1; rw [show a 3 = a0 3 from funext (fun j => hf 3 j rfl), show a 2 1 = a0 2 1 from hf 2 1 rfl, show a 2 2 = a0 2 2 from by omega] at q; exact (AK_w (w := 6) (by decide) q).symm), (fun _ _ => by have q := (hq196_3 (by omega)).2.1; have q2 := (hq196_3 (by omega)).2.2; rw [show a 3 = a0 3 from funext (fun j => hf 3 j rfl), show a 2 1 = a0 2 1 from hf 2 1 rfl, show a 2 2 = a0 2 2 from by omega] at q; rw [show a 3 = a0 3 from funext (fun j => hf 3 j rfl), show a 2 1 = a0 2 1 from hf 2 1 rfl, show a 2 2 = a0 2 2 from by omega] at q2; rw [AQ_w (w := 6) (by decide) q]; exact q2), (fun _ h => absurd h (by decide)), (fun h => absurd (by omega) h)⟩
theorem cp_X10_takeAtomWord_42 (E : jxE) (d : Nat) (hd : Nat.ble 6 (d + 1) = true) (a0 b0 : Nat → Nat → Int) (hv0 : iv a0) : ∀ (a : Nat → Nat → Int), iv a → jfr jW_X10_takeAtomWord a0 a → (a0 2 3 = 0 → ¬ TW (a0 3) (a0 2 1).toNat (a0 2 2).toNat 3 ∧ ¬ TW (a0 3) (a0 2 1).toNat (a0 2 2).toNat 4 ∧ ¬ TW (a0 3) (a0 2 1).toNat (a0 2 2).toNat 5) → a 2 2 = a0 2 2 → a 2 3 = a0 2 3 → jt (jxX E d 147 42 [some (.inr (.inr (.inl 11)))] [] (jxSH, a, b0)) (jQ_X10_takeAtomWord a0 b0) := by
  intro a hv hf hn hi1 hi2
  refine jt_eq (bq_X10_takeAtomWord_42 E d a b0) ?_
  have h204_ := iv_get hv (k := 2) (j := 2) (l := 0) (u := 200) rfl
  have h205_ := iv_get hv0 (k := 2) (j := 2) (l := 0) (u := 200) rfl
  have h206_ : a 2 3 = a0 2 3 := hf 2 3 rfl
  have h3 : a 3 = a0 3 := funext fun j => hf 3 j rfl
  have h21 := hf 2 1 rfl
  refine jt_bI (sp_X8_takesWord_r1004 E d (jd_le hd rfl) a b0 hv) (fun r207_ a207_ b207_ h207_ => ?_)
  obtain ⟨hv207_, hf207_, rfl, hq207_0, hq207_1, hq207_2, hq207_3, hq207_4⟩ := h207_
  have h208_ := iv_get hv (k := 2) (j := 1) (l := 0) (u := 200) rfl
  have h209_ : a 2 1 = a0 2 1 := hf 2 1 rfl
  have h210_ := iv_get hv0 (k := 2) (j := 1) (l := 0) (u := 200) rfl
  have h211_ := iv_get hv207_ (k := 2) (j := 2) (l := 0) (u := 200) rfl
  have hz207 := hf207_ 2 3 rfl
  refine jt_ite (fun c212_ => ?_) (fun c212_ => ?_)
  ·
    refine jt_bI (sp_X8_takesWord_r1005 E d (jd_le hd rfl) a207_ b0 hv207_) (fun r213_ a213_ b213_ h213_ => ?_)
    obtain ⟨hv213_, hf213_, rfl, hq213_0, hq213_1, hq213_2, hq213_3, hq213_4⟩ := h213_
    have h214_ : a207_ 2 3 = a 2 3 := hf207_ 2 3 rfl
    have h215_ := iv_get hv207_ (k := 2) (j := 1) (l := 0) (u := 200) rfl
    have h216_ : a207_ 2 1 = a 2 1 := hf207_ 2 1 rfl
    have h217_ := iv_get hv213_ (k := 2) (j := 2) (l := 0) (u := 200) rfl
    have hz213 := hf213_ 2 3 rfl
    refine jt_ite (fun c218_ => ?_) (fun c218_ => ?_)
    ·
      refine jt_bI (sp_X8_takesWord_r1006 E d (jd_le hd rfl) a213_ b0 hv213_) (fun r219_ a219_ b219_ h219_ => ?_)
      obtain ⟨hv219_, hf219_, rfl, hq219_0, hq219_1, hq219_2, hq219_3, hq219_4⟩ := h219_
      have h220_ : a213_ 2 3 = a207_ 2 3 := hf213_ 2 3 rfl
      have h221_ := iv_get hv213_ (k := 2) (j := 1) (l := 0) (u := 200) rfl
      have h222_ : a213_ 2 1 = a207_ 2 1 := hf213_ 2 1 rfl
      have h223_ := iv_get hv219_ (k := 2) (j := 2) (l := 0) (u := 200) rfl
      have hz219 := hf219_ 2 3 rfl
      refine jt_ite (fun c224_ => ?_) (fun c224_ => ?_)
      ·
        have hf225_ : jfr jW_X10_takeAtomWord a0 a207_ := jfr_tr hf hf207_ rfl
        have hf226_ : jfr jW_X10_takeAtomWord a0 a213_ := jfr_tr hf225_ hf213_ rfl
        have hf227_ : jfr jW_X10_takeAtomWord a0 a219_ := jfr_tr hf226_ hf219_ rfl
        have h228_ : a219_ 2 3 = a213_ 2 3 := hf219_ 2 3 rfl
        exact cp_X10_takeAtomWord_84 E d hd a0 b0 hv0 a219_ hv219_ hf227_ (fun hz0 => ⟨hn hz0, (by have q := (hq207_4 (by omega)).resolve_left (fun h => h (by omega)); rw [show a 3 = a0 3 from funext (fun j => hf 3 j rfl), show a 2 1 = a0 2 1 from hf 2 1 rfl, show a 2 2 = a0 2 2 from by omega] at q; exact q), (by have q := (hq213_4 (by omega)).resolve_left (fun h => h (by omega)); rw [show a207_ 3 = a0 3 from funext (fun j => hf225_ 3 j rfl), show a207_ 2 1 = a0 2 1 from hf225_ 2 1 rfl, show a207_ 2 2 = a0 2 2 from by omega] at q; exact q), (by have q := (hq219_4 (by omega)).resolve_left (fun h => h (by omega)); rw [show a213_ 3 = a0 3 from funext (fun j => hf226_ 3 j rfl), show a213_ 2 1 = a0 2 1 from hf226_ 2 1 rfl, show a213_ 2 2 = a0 2 2 from by omega] at q; exact q)⟩) (show a219_ 2 2 = a0 2 2 from by omega) (show a219_ 2 3 = a0 2 3 from by omega)
      ·
        have hf229_ : jfr jW_X10_takeAtomWord a0 a207_ := jfr_tr hf hf207_ rfl
        have hf230_ : jfr jW_X10_takeAtomWord a0 a213_ := jfr_tr hf229_ hf213_ rfl
        have hf231_ : jfr jW_X10_takeAtomWord a0 a219_ := jfr_tr hf230_ hf219_ rfl
        exact cp_X10_takeAtomWord_82 E d hd a0 b0 hv0 a219_ hv219_ hf231_ (show a0 2 3 = 0 from by omega) (by have q := (hq219_3 (by omega)).2.1; rw [show a213_ 3 = a0 3 from funext (fun j => hf230_ 3 j rfl), show a213_ 2 1 = a0 2 1 from hf230_ 2 1 rfl, show a213_ 2 2 = a0 2 2 from by omega] at q; exact q) (by have q := (hq219_3 (by omega)).2.2; rw [show a213_ 3 = a0 3 from funext (fun j => hf230_ 3 j rfl), show a213_ 2 1 = a0 2 1 from hf230_ 2 1 rfl, show a213_ 2 2 = a0 2 2 from by omega] at q; exact q)
    ·
      have hf232_ : jfr jW_X10_takeAtomWord a0 a207_ := jfr_tr hf hf207_ rfl
      have hf233_ : jfr jW_X10_takeAtomWord a0 a213_ := jfr_tr hf232_ hf213_ rfl
      exact jt_rI ⟨hv213_, hf233_, rfl, (fun _ => by have q := (hq213_3 (by omega)).2.1; rw [show a207_ 3 = a0 3 from funext (fun j => hf232_ 3 j rfl), show a207_ 2 1 = a0 2 1 from hf232_ 2 1 rfl, show a207_ 2 2 = a0 2 2 from by omega] at q; exact (AK_w (w := 4) (by decide) q).symm), (fun _ _ => by have q := (hq213_3 (by omega)).2.1; have q2 := (hq213_3 (by omega)).2.2; rw [show a207_ 3 = a0 3 from funext (fun j => hf232_ 3 j rfl), show a207_ 2 1 = a0 2 1 from hf232_ 2 1 rfl, show a207_ 2 2 = a0 2 2 from by omega] at q; rw [show a207_ 3 = a0 3 from funext (fun j => hf232_ 3 j rfl), show a207_ 2 1 = a0 2 1 from hf232_ 2 1 rfl, show a207_ 2 2 = a0 2 2 from by omega] at q2; rw [AQ_w (w := 4) (by decide) q]; exact q2), (fun _ h => absurd h (by decide)), (fun h => absurd (by omega) h)⟩
  ·
    have hf234_ : jfr jW_X10_takeAtomWord a0 a207_ := jfr_tr hf hf207_ rfl
    exact jt_rI ⟨hv207_, hf234_, rfl, (fun _ => by have q := (hq207_3 (by omega)).2.1; rw [show a 3 = a0 3 from funext (fun j => hf 3 j rfl), show a 2 1 = a0 2 1 from hf 2 1 rfl, show a 2 2 = a0 2 2 from by omega] at q; exact (AK_w (w := 3) (by decide) q).symm), (fun _ _ => by have q := (hq207_3 (by omega)).2.1; have q2 := (hq207_3 (by omega)).2.2; rw [show a 3 = a0 3 from funext (fun j => hf 3 j rfl), show a 2 1 = a0 2 1 from hf 2 1 rfl, show a 2 2 = a0 2 2 from by omega] at q; rw [show a 3 = a0 3 from funext (fun j => hf 3 j rfl), show a 2 1 = a0 2 1 from hf 2 1 rfl, show a 2 2 = a0 2 2 from by omega] at q2; rw [AQ_w (w := 3) (by decide) q]; exact q2), (fun _ h => absurd h (by decide)), (fun h => absurd (by omega) h)⟩
theorem sp_X10_takeAtomWord (E : jxE) (d : Nat) (hd : Nat.ble 6 d = true) (a0 b0 : Nat → Nat → Int) (hv0 : iv a0) : jt (jxC E d 147 [.inr (.inr (.inl 11))] (jxSH, a0, b0)) (jQ_X10_takeAtomWord a0 b0) := by
  obtain ⟨d, rfl⟩ := jd_succ hd
  refine jt_eq (bq_X10_takeAtomWord E d a0 b0) ?_
  refine jt_bI (sp_X8_takesWord_r1001 E d (jd_le hd rfl) a0 b0 hv0) (fun r235_ a235_ b235_ h235_ => ?_)
  obtain ⟨hv235_, hf235_, rfl, hq235_0, hq235_1, hq235_2, hq235_3, hq235_4⟩ := h235_
  have h236_ := iv_get hv0 (k := 2) (j := 1) (l := 0) (u := 200) rfl
  have h237_ := iv_get hv0 (k := 2) (j := 2) (l := 0) (u := 200) rfl
  have h238_ := iv_get hv235_ (k := 2) (j := 2) (l := 0) (u := 200) rfl
  have hz235 := hf235_ 2 3 rfl
  refine jt_ite (fun c239_ => ?_) (fun c239_ => ?_)
  ·
    refine jt_bI (sp_X8_takesWord_r1002 E d (jd_le hd rfl) a235_ b0 hv235_) (fun r240_ a240_ b240_ h240_ => ?_)
    obtain ⟨hv240_, hf240_, rfl, hq240_0, hq240_1, hq240_2, hq240_3, hq240_4⟩ := h240_
    have h241_ : a235_ 2 3 = a0 2 3 := hf235_ 2 3 rfl
    have h242_ := iv_get hv235_ (k := 2) (j := 1) (l := 0) (u := 200) rfl
    have h243_ : a235_ 2 1 = a0 2 1 := hf235_ 2 1 rfl
    have h244_ := iv_get hv240_ (k := 2) (j := 2) (l := 0) (u := 200) rfl
    have hz240 := hf240_ 2 3 rfl
    refine jt_ite (fun c245_ => ?_) (fun c245_ => ?_)
    ·
      refine jt_bI (sp_X8_takesWord_r1003 E d (jd_le hd rfl) a240_ b0 hv240_) (fun r246_ a246_ b246_ h246_ => ?_)
      obtain ⟨hv246_, hf246_, rfl, hq246_0, hq246_1, hq246_2, hq246_3, hq246_4⟩ := h246_
      have h247_ : a240_ 2 3 = a235_ 2 3 := hf240_ 2 3 rfl
      have h248_ := iv_get hv240_ (k := 2) (j := 1) (l := 0) (u := 200) rfl
      have h249_ : a240_ 2 1 = a235_ 2 1 := hf240_ 2 1 rfl
      have h250_ := iv_get hv246_ (k := 2) (j := 2) (l := 0) (u := 200) rfl
      have hz246 := hf246_ 2 3 rfl
      refine jt_ite (fun c251_ => ?_) (fun c251_ => ?_)
      ·
        have hf252_ : jfr jW_X10_takeAtomWord a0 a235_ := jfr_tr (jfr_rf _ _) hf235_ rfl
        have hf253_ : jfr jW_X10_takeAtomWord a0 a240_ := jfr_tr hf252_ hf240_ rfl
        have hf254_ : jfr jW_X10_takeAtomWord a0 a246_ := jfr_tr hf253_ hf246_ rfl
        have h255_ : a246_ 2 3 = a240_ 2 3 := hf246_ 2 3 rfl
        exact cp_X10_takeAtomWord_42 E d hd a0 b0 hv0 a246_ hv246_ hf254_ (fun hz0 => ⟨(by have q := (hq235_4 (by omega)).resolve_left (fun h => h (by omega)); exact q), (by have q := (hq240_4 (by omega)).resolve_left (fun h => h (by omega)); rw [show a235_ 3 = a0 3 from funext (fun j => hf252_ 3 j rfl), show a235_ 2 1 = a0 2 1 from hf252_ 2 1 rfl, show a235_ 2 2 = a0 2 2 from by omega] at q; exact q), (by have q := (hq246_4 (by omega)).resolve_left (fun h => h (by omega)); rw [show a240_ 3 = a0 3 from funext (fun j => hf253_ 3 j rfl), show a240_ 2 1 = a0 2 1 from hf253_ 2 1 rfl, show a240_ 2 2 = a0 2 2 from by omega] at q; exact q)⟩) (show a246_ 2 2 = a0 2 2 from by omega) (show a246_ 2 3 = a0 2 3 from by omega)
      ·
        have hf256_ : jfr jW_X10_takeAtomWord a0 a235_ := jfr_tr (jfr_rf _ _) hf235_ rfl
        have hf257_ : jfr jW_X10_takeAtomWord a0 a240_ := jfr_tr hf256_ hf240_ rfl
        have hf258_ : jfr jW_X10_takeAtomWord a0 a246_ := jfr_tr hf257_ hf246_ rfl
        exact cp_X10_takeAtomWord_40 E d hd a0 b0 hv0 a246_ hv246_ hf258_ (show a0 2 3 = 0 from by omega) (by have q := (hq246_3 (by omega)).2.1; rw [show a240_ 3 = a0 3 from funext (fun j => hf257_ 3 j rfl), show a240_ 2 1 = a0 2 1 from hf257_ 2 1 rfl, show a240_ 2 2 = a0 2 2 from by omega] at q; exact q) (by have q := (hq246_3 (by omega)).2.2; rw [show a240_ 3 = a0 3 from funext (fun j => hf257_ 3 j rfl), show a240_ 2 1 = a0 2 1 from hf257_ 2 1 rfl, show a240_ 2 2 = a0 2 2 from by omega] at q; exact q)
    ·
      have hf259_ : jfr jW_X10_takeAtomWord a0 a235_ := jfr_tr (jfr_rf _ _) hf235_ rfl
      have hf260_ : jfr jW_X10_takeAtomWord a0 a240_ := jfr_tr hf259_ hf240_ rfl
      exact jt_rI ⟨hv240_, hf260_, rfl, (fun _ => by have q := (hq240_3 (by omega)).2.1; rw [show a235_ 3 = a0 3 from funext (fun j => hf259_ 3 j rfl), show a235_ 2 1 = a0 2 1 from hf259_ 2 1 rfl, show a235_ 2 2 = a0 2 2 from by omega] at q; exact (AK_w (w := 1) (by decide) q).symm), (fun _ _ => by have q := (hq240_3 (by omega)).2.1; have q2 := (hq240_3 (by omega)).2.2; rw [show a235_ 3 = a0 3 from funext (fun j => hf259_ 3 j rfl), show a235_ 2 1 = a0 2 1 from hf259_ 2 1 rfl, show a235_ 2 2 = a0 2 2 from by omega] at q; rw [show a235_ 3 = a0 3 from funext (fun j => hf259_ 3 j rfl), show a235_ 2 1 = a0 2 1 from hf259_ 2 1 rfl, show a235_ 2 2 = a0 2 2 from by omega] at q2; rw [AQ_w (w := 1) (by decide) q]; exact q2), (fun _ h => absurd h (by decide)), (fun h => absurd (by omega) h)⟩
  ·
    have hf261_ : jfr jW_X10_takeAtomWord a0 a235_ := jfr_tr (jfr_rf _ _) hf235_ rfl
    exact jt_rI ⟨hv235_, hf261_, rfl, (fun _ => by have q := (hq235_3 (by omega)).2.1; exact (AK_w (w := 0) (by decide) q).symm), (fun _ _ => by have q := (hq235_3 (by omega)).2.1; have q2 := (hq235_3 (by omega)).2.2; rw [AQ_w (w := 0) (by decide) q]; exact q2), (fun _ h => absurd h (by decide)), (fun h => absurd (by omega) h)⟩
def jW_X10_readAtom : List (Nat × Nat) := [(2, 2), (2, 3), (11, 6), (11, 7), (54, 9999)]
abbrev jQ_X10_readAtom (x1 : Int) (a0 b0 : Nat → Nat → Int) : List jxV → (Nat → Nat → Int) → (Nat → Nat → Int) → Prop := rV (fun a b => (iv a) ∧ (jfr jW_X10_readAtom a0 a) ∧ (b0 = b) ∧ (PAtom a0 a x1) ∧ (¬ a0 2 3 = 0 → a 2 3 = a0 2 3) ∧ (a0 11 6 ≤ a 11 6))
theorem cp_X10_readAtom_36 (E : jxE) (d : Nat) (hd : Nat.ble 7 (d + 1) = true) (x1 : Int) (a0 b0 : Nat → Nat → Int) (hv0 : iv a0) : ∀ (a : Nat → Nat → Int), iv a → jfr jW_X10_readAtom a0 a → 12 ≤ a 11 7 → (PAtom a0 a x1) → (¬ a0 2 3 = 0 → a 2 3 = a0 2 3) → a0 11 6 ≤ a 11 6 → jt (jxX E d 146 36 [none, none, none, none] [] (jxSH, a, b0)) (jQ_X10_readAtom x1 a0 b0) := by
  intro a hv hf hi0 hpa hfk hi3
  refine jt_eq (bq_X10_readAtom_36 E d a b0) ?_
  have h262_ := iv_get hv (k := 11) (j := 7) (l := 0) (u := 12) rfl
  have h263_ := iv_get hv0 (k := 11) (j := 6) (l := 0) (u := 40) rfl
  have h264_ := iv_get hv (k := 11) (j := 6) (l := 0) (u := 40) rfl
  have h3 : a 3 = a0 3 := funext fun j => hf 3 j rfl
  have h21 := hf 2 1 rfl
  exact jt_rV ⟨hv, hf, rfl, hpa, hfk, (show a0 11 6 ≤ a 11 6 from by omega)⟩
theorem cp_X10_readAtom_75 (E : jxE) (d : Nat) (hd : Nat.ble 7 (d + 1) = true) (x1 : Int) (a0 b0 : Nat → Nat → Int) (hv0 : iv a0) : ∀ (a : Nat → Nat → Int), iv a → jfr jW_X10_readAtom a0 a → 1 ≤ a 11 7 → (PAtom a0 a x1) → (¬ a0 2 3 = 0 → a 2 3 = a0 2 3) → a0 11 6 ≤ a 11 6 → jt (jxX E d 146 75 [none, none, none, none] [] (jxSH, a, b0)) (jQ_X10_readAtom x1 a0 b0) := by
  intro a hv hf hi0 hpa hfk hi3
  refine jt_eq (bq_X10_readAtom_75 E d a b0) ?_
  have h265_ := iv_get hv (k := 11) (j := 7) (l := 0) (u := 12) rfl
  have h266_ := iv_get hv0 (k := 11) (j := 6) (l := 0) (u := 40) rfl
  have h267_ := iv_get hv (k := 11) (j := 6) (l := 0) (u := 40) rfl
  have h3 : a 3 = a0 3 := funext fun j => hf 3 j rfl
  have h21 := hf 2 1 rfl
  exact jt_rV ⟨hv, hf, rfl, hpa, hfk, (show a0 11 6 ≤ a 11 6 from by omega)⟩
theorem cp_X10_readAtom_47 (E : jxE) (d : Nat) (hd : Nat.ble 7 (d + 1) = true) (x1 : Int) (a0 b0 : Nat → Nat → Int) (hv0 : iv a0) : ∀ (y2 : Int) (a : Nat → Nat → Int), iv a → jfr jW_X10_readAtom a0 a → 1 ≤ a 11 7 → a0 2 3 = 0 → a 2 3 = 0 → (y2 = AK (a0 3) (a0 2 1).toNat (a0 2 2).toNat) → 0 ≤ y2 → y2 ≤ 6 → (a 2 2 = (AQ (a0 3) (a0 2 1).toNat (a0 2 2).toNat : Int)) → a 11 6 = a0 11 6 → a 11 7 = (a0 11 7) + 1 → a0 11 7 ≤ 11 → (∀ j, a 54 j = a0 54 j) → jt (jxX E d 146 47 [some (.inr (.inr (.inl 11))), none, some (.inl y2), none] [] (jxSH, a, b0)) (jQ_X10_readAtom x1 a0 b0) := by
  intro y2 a hv hf hi0 hi1 hi2 hy2 hi4 hi5 hat hi7 hi8 hi9 hs54
  refine jt_eq (bq_X10_readAtom_47 E d y2 a b0) ?_
  have h268_ := iv_get hv (k := 11) (j := 7) (l := 0) (u := 12) rfl
  have h269_ := iv_get hv (k := 11) (j := 6) (l := 0) (u := 40) rfl
  have h270_ := iv_get hv0 (k := 11) (j := 6) (l := 0) (u := 40) rfl
  have h271_ := iv_get hv0 (k := 11) (j := 7) (l := 0) (u := 12) rfl
  have h3 : a 3 = a0 3 := funext fun j => hf 3 j rfl
  have h21 := hf 2 1 rfl
  have hgn := gn10 a b0 y2 (by omega) (by omega)
  have hP : (a 2 2).toNat = AQ (a0 3) (a0 2 1).toNat (a0 2 2).toNat := by rw [hat]; exact Int.toNat_natCast _
  have hnb := NV_bd (a0 3) (a0 2 1).toNat (AQ (a0 3) (a0 2 1).toNat (a0 2 2).toNat)
  refine jt_eI (eq_X10_greatestNumber E d (jd_le hd rfl) y2 a b0) ?_
  refine jt_ite (fun c272_ => ?_) (fun c272_ => ?_)
  ·
    refine jt_bV (sp_X10_addStep E d (jd_le hd rfl) y2 0 a b0 hv) (fun a273_ b273_ h273_ => ?_)
    obtain ⟨hv273_, hf273_, rfl, hq273_0, hq273_1, hq273_2⟩ := h273_
    have h274_ := iv_get hv273_ (k := 11) (j := 6) (l := 0) (u := 40) rfl
    have hf275_ : jfr jW_X10_readAtom a0 a273_ := jfr_tr hf hf273_ rfl
    have h276_ := iv_get hv273_ (k := 11) (j := 7) (l := 0) (u := 12) rfl
    have h277_ : a273_ 11 7 = a 11 7 := hf273_ 11 7 rfl
    exact cp_X10_readAtom_75 E d hd x1 a0 b0 hv0 a273_ hv273_ hf275_ (show 1 ≤ a273_ 11 7 from by omega) (PAtom_p (by omega) (by omega) (by rw [← hy2, ← hgn]; assumption) (by omega) (by rw [hf273_ 2 3 rfl]; omega) (fun h => ⟨by omega, by have q := hq273_2 (by omega); rw [show jxw ((jxw (y2 * 1000)) + 0) = y2 * 1000 from by rw [jxw_id (x := y2 * 1000) (by omega) (by omega), jxw_id (by omega) (by omega)]; omega, hy2, show (a 11 6).toNat = (a0 11 6).toNat from by omega] at q; exact UP_cl q hs54⟩) (by rw [hf273_ 2 2 rfl]; exact hat) (by rw [hf273_ 11 7 rfl]; omega)) (fun h => by omega) (show a0 11 6 ≤ a273_ 11 6 from by omega)
  ·
    refine jt_bI (sp_X8_takeNumber E d (jd_le hd rfl) 0 (f_X10_greatestNumber a b0 y2) a b0 hv) (fun r278_ a278_ b278_ h278_ => ?_)
    obtain ⟨hv278_, hf278_, rfl, hq278_0, hq278_1, hq278_2, hq278_3⟩ := h278_
    refine jt_bV (sp_X10_addStep E d (jd_le hd rfl) y2 r278_ a278_ b0 hv278_) (fun a279_ b279_ h279_ => ?_)
    obtain ⟨hv279_, hf279_, rfl, hq279_0, hq279_1, hq279_2⟩ := h279_
    have h280_ := iv_get hv278_ (k := 11) (j := 6) (l := 0) (u := 40) rfl
    have h281_ : a278_ 11 6 = a 11 6 := hf278_ 11 6 rfl
    have h282_ := iv_get hv279_ (k := 11) (j := 6) (l := 0) (u := 40) rfl
    have hf283_ : jfr jW_X10_readAtom a0 a278_ := jfr_tr hf hf278_ rfl
    have hf284_ : jfr jW_X10_readAtom a0 a279_ := jfr_tr hf283_ hf279_ rfl
    have h285_ := iv_get hv279_ (k := 11) (j := 7) (l := 0) (u := 12) rfl
    have h286_ : a279_ 11 7 = a278_ 11 7 := hf279_ 11 7 rfl
    have h287_ := iv_get hv278_ (k := 11) (j := 7) (l := 0) (u := 12) rfl
    have h288_ : a278_ 11 7 = a 11 7 := hf278_ 11 7 rfl
    exact cp_X10_readAtom_75 E d hd x1 a0 b0 hv0 a279_ hv279_ hf284_ (show 1 ≤ a279_ 11 7 from by omega) (PAtom_n (by omega) (by omega) (by rw [← hy2, ← hgn]; assumption) (by omega) (by have e0 := hq278_0; have e1 := hq278_1; have e2 := hq278_2; rw [h3, h21, hP] at e0 e1 e2; rw [if_pos (show a 2 3 = 0 from by omega), hgn, hy2] at e2; rw [hf279_ 2 3 rfl]; exact e2) (fun h => by have e0 := hq278_0; have e1 := hq278_1; have e2 := hq278_2; rw [h3, h21, hP] at e0 e1 e2; rw [if_pos (show a 2 3 = 0 from by omega), hgn, hy2] at e2; have h6 := hf278_ 11 6 rfl; refine ⟨by omega, ?_⟩; have q := hq279_2 (by omega); rw [show jxw ((jxw (y2 * 1000)) + r278_) = y2 * 1000 + r278_ from by rw [jxw_id (x := y2 * 1000) (by omega) (by omega), jxw_id (by omega) (by omega)], hy2, e0, show (a278_ 11 6).toNat = (a0 11 6).toNat from by omega] at q; exact UP_cl q (fun j => (hf278_ 54 j rfl).trans (hs54 j))) (by have e0 := hq278_0; have e1 := hq278_1; have e2 := hq278_2; rw [h3, h21, hP] at e0 e1 e2; rw [if_pos (show a 2 3 = 0 from by omega), hgn, hy2] at e2; rw [hf279_ 2 2 rfl]; exact e1) (by rw [hf279_ 11 7 rfl, hf278_ 11 7 rfl]; omega)) (fun h => by omega) (show a0 11 6 ≤ a279_ 11 6 from by omega)
theorem sp_X10_readAtom (E : jxE) (d : Nat) (hd : Nat.ble 7 d = true) (x1 : Int) (a0 b0 : Nat → Nat → Int) (hv0 : iv a0) : jt (jxC E d 146 [.inr (.inr (.inl 11)), .inl x1] (jxSH, a0, b0)) (jQ_X10_readAtom x1 a0 b0) := by
  obtain ⟨d, rfl⟩ := jd_succ hd
  refine jt_eq (bq_X10_readAtom E d x1 a0 b0) ?_
  refine jt_bI (sp_X10_takeAtomWord E d (jd_le hd rfl) a0 b0 hv0) (fun r289_ a289_ b289_ h289_ => ?_)
  obtain ⟨hv289_, hf289_, rfl, hq289_0, hq289_1, hq289_2, hq289_3⟩ := h289_
  have hta0_289 := hq289_0
  have hta1_289 := hq289_1
  have hta2_289 := hq289_2
  have hta3_289 := hq289_3
  have hz289 := hf289_ 2 3 rfl
  have h117_289 := hf289_ 11 7 rfl
  have h116_289 := hf289_ 11 6 rfl
  have hak289 := AK_sp (a0 3) (a0 2 1).toNat (a0 2 2).toNat
  have i117_289 := iv_get hv0 (k := 11) (j := 7) (l := 0) (u := 12) rfl
  have i22_289 := iv_get hv0 (k := 2) (j := 2) (l := 0) (u := 200) rfl
  refine jt_ite (fun c290_ => ?_) (fun c290_ => ?_)
  ·
    refine jt_bV (sp_X8_noteCannotStand E d (jd_le hd rfl) a289_ b0 hv289_) (fun a291_ b291_ h291_ => ?_)
    obtain ⟨hv291_, hf291_, rfl, hq291_0, hq291_1⟩ := h291_
    have h292_ : a289_ 2 3 = a0 2 3 := hf289_ 2 3 rfl
    have h293_ := iv_get hv289_ (k := 2) (j := 2) (l := 0) (u := 200) rfl
    have hf294_ : jfr jW_X10_readAtom a0 a289_ := jfr_tr (jfr_rf _ _) hf289_ rfl
    have hf295_ : jfr jW_X10_readAtom a0 a291_ := jfr_tr hf294_ hf291_ rfl
    have h296_ := iv_get hv0 (k := 11) (j := 6) (l := 0) (u := 40) rfl
    have h297_ := iv_get hv291_ (k := 11) (j := 6) (l := 0) (u := 40) rfl
    have h298_ : a291_ 11 6 = a289_ 11 6 := hf291_ 11 6 rfl
    have h299_ := iv_get hv289_ (k := 11) (j := 6) (l := 0) (u := 40) rfl
    have h300_ : a289_ 11 6 = a0 11 6 := hf289_ 11 6 rfl
    exact jt_rV ⟨hv291_, hf295_, rfl, (fun hz0 => PAtom_0 (by have e := hta0_289 hz0; omega) (by omega) (fun hz => by have e := hta2_289 hz (by omega); omega) hz0), (fun h => by omega), (show a0 11 6 ≤ a291_ 11 6 from by omega)⟩
  ·
    have h301_ := iv_get hv289_ (k := 11) (j := 7) (l := 0) (u := 12) rfl
    have h302_ : a289_ 11 7 = a0 11 7 := hf289_ 11 7 rfl
    have h303_ := iv_get hv0 (k := 11) (j := 7) (l := 0) (u := 12) rfl
    refine jt_ite (fun c304_ => ?_) (fun c304_ => ?_)
    ·
      have h306_ : jxw ((a289_ 11 7) + 1) = (a289_ 11 7) + 1 := jxw_id (by omega) (by omega)
      have hv305_ : iv (jxu a289_ 11 7 (jxw ((a289_ 11 7) + 1))) := iv_put hv289_ (l := 0) (u := 12) rfl (by omega) (by omega)
      have hf307_ : jfr jW_X10_readAtom a0 a289_ := jfr_tr (jfr_rf _ _) hf289_ rfl
      have hf308_ : jfr jW_X10_readAtom a0 (jxu a289_ 11 7 (jxw ((a289_ 11 7) + 1))) := jfr_put hf307_ rfl
      have h309_ : a289_ 2 3 = a0 2 3 := hf289_ 2 3 rfl
      have h310_ := iv_get hv289_ (k := 11) (j := 6) (l := 0) (u := 40) rfl
      have h311_ : a289_ 11 6 = a0 11 6 := hf289_ 11 6 rfl
      have h312_ := iv_get hv0 (k := 11) (j := 6) (l := 0) (u := 40) rfl
      exact cp_X10_readAtom_47 E d hd x1 a0 b0 hv0 r289_ (jxu a289_ 11 7 (jxw ((a289_ 11 7) + 1))) hv305_ hf308_ (show 1 ≤ jxw ((a289_ 11 7) + 1) from by omega) (show a0 2 3 = 0 from by omega) (show a289_ 2 3 = 0 from by omega) (hta0_289 (by have z := hta3_289; omega)) (show 0 ≤ r289_ from by omega) (show r289_ ≤ 6 from by omega) (hta1_289 (by have z := hta3_289; omega) (by have z := hta3_289; have z2 := hta0_289; omega)) (show a289_ 11 6 = a0 11 6 from by omega) (show jxw ((a289_ 11 7) + 1) = (a0 11 7) + 1 from by omega) (show a0 11 7 ≤ 11 from by omega) (fun j => (hf289_ 54 j rfl))
    ·
      refine jt_bV (sp_X8_noteFault E d (jd_le hd rfl) x1 2 a289_ b0 hv289_) (fun a313_ b313_ h313_ => ?_)
      obtain ⟨hv313_, hf313_, rfl, hq313_0, hq313_1⟩ := h313_
      have h314_ : a289_ 2 3 = a0 2 3 := hf289_ 2 3 rfl
      have hf315_ : jfr jW_X10_readAtom a0 a289_ := jfr_tr (jfr_rf _ _) hf289_ rfl
      have hf316_ : jfr jW_X10_readAtom a0 a313_ := jfr_tr hf315_ hf313_ rfl
      have h317_ := iv_get hv313_ (k := 11) (j := 7) (l := 0) (u := 12) rfl
      have h318_ : a313_ 11 7 = a289_ 11 7 := hf313_ 11 7 rfl
      have h319_ := iv_get hv0 (k := 11) (j := 6) (l := 0) (u := 40) rfl
      have h320_ := iv_get hv313_ (k := 11) (j := 6) (l := 0) (u := 40) rfl
      have h321_ : a313_ 11 6 = a289_ 11 6 := hf313_ 11 6 rfl
      have h322_ := iv_get hv289_ (k := 11) (j := 6) (l := 0) (u := 40) rfl
      have h323_ : a289_ 11 6 = a0 11 6 := hf289_ 11 6 rfl
      exact cp_X10_readAtom_36 E d hd x1 a0 b0 hv0 a313_ hv313_ hf316_ (show 12 ≤ a313_ 11 7 from by omega) (PAtom_13 (by have z := hta3_289; have z2 := hta0_289; omega) (by omega) (by omega) (fun hz hx => by omega)) (fun h => by omega) (show a0 11 6 ≤ a313_ 11 6 from by omega)
def jW_X8_takesSign : List (Nat × Nat) := [(2, 2)]
abbrev jQ_X8_takesSign (x1 : Int) (a0 b0 : Nat → Nat → Int) : List jxV → (Nat → Nat → Int) → (Nat → Nat → Int) → Prop := rI (fun r a b => (iv a) ∧ (jfr jW_X8_takesSign a0 a) ∧ (b0 = b) ∧ ((0 ≤ r ∧ r ≤ 1)) ∧ (((¬ a0 2 3 = 0 ∨ a0 2 1 ≤ a0 2 2) → (r = 0 ∧ a 2 2 = a0 2 2))) ∧ (r = 1 → a0 2 3 = 0 ∧ (a0 2 2).toNat < (a0 2 1).toNat ∧ (a0 3) (a0 2 2).toNat = x1 ∧ a 2 2 = ((SK (a0 3) (a0 2 1).toNat ((a0 2 2).toNat + 1) : Nat) : Int)) ∧ (r = 0 → ¬ a0 2 3 = 0 ∨ (a0 2 1).toNat ≤ (a0 2 2).toNat ∨ ¬ (a0 3) (a0 2 2).toNat = x1) ∧ ((r = 0 → a 2 2 = a0 2 2)))
theorem cp_X8_takesSign_31 (E : jxE) (d : Nat) (hd : Nat.ble 2 (d + 1) = true) (x1 : Int) (a0 b0 : Nat → Nat → Int) (hv0 : iv a0) : ∀ (a : Nat → Nat → Int), iv a → jfr jW_X8_takesSign a0 a → a 2 2 = a0 2 2 → (¬ a0 2 3 = 0 ∨ (a0 2 1).toNat ≤ (a0 2 2).toNat ∨ ¬ (a0 3) (a0 2 2).toNat = x1) → jt (jxX E d 129 31 [none, none] [] (jxSH, a, b0)) (jQ_X8_takesSign x1 a0 b0) := by
  intro a hv hf hi0 hno
  refine jt_eq (bq_X8_takesSign_31 E d a b0) ?_
  have h324_ := iv_get hv (k := 2) (j := 2) (l := 0) (u := 200) rfl
  have h325_ := iv_get hv0 (k := 2) (j := 2) (l := 0) (u := 200) rfl
  have h326_ := iv_get hv0 (k := 2) (j := 1) (l := 0) (u := 200) rfl
  exact jt_rI ⟨hv, hf, rfl, (show (0 ≤ 0 ∧ 0 ≤ 1) from by omega), (show ((¬ a0 2 3 = 0 ∨ a0 2 1 ≤ a0 2 2) → (0 = 0 ∧ a 2 2 = a0 2 2)) from by omega), (by first | exact (fun h => absurd h (by decide)) | exact (fun _ => ⟨by omega, by omega, hyes, by have h := hq0_1; rw [show (a0 2 2).toNat + 1 = (jxw ((a 2 2) + 1)).toNat from by omega, ← h3, ← h21]; exact h⟩)), (by first | exact (fun _ => hno) | exact (fun h => absurd h (by decide))), (show (0 = 0 → a 2 2 = a0 2 2) from by omega)⟩
theorem cp_X8_takesSign_33 (E : jxE) (d : Nat) (hd : Nat.ble 2 (d + 1) = true) (x1 : Int) (a0 b0 : Nat → Nat → Int) (hv0 : iv a0) : ∀ (a : Nat → Nat → Int), iv a → jfr jW_X8_takesSign a0 a → 1 ≤ a 2 1 → a 2 2 ≤ 199 → a0 2 3 = 0 → a0 2 2 < a0 2 1 → a 2 2 = a0 2 2 → ((a0 3) (a0 2 2).toNat = x1) → jt (jxX E d 129 33 [some (.inr (.inr (.inl 2))), none] [] (jxSH, a, b0)) (jQ_X8_takesSign x1 a0 b0) := by
  intro a hv hf hi0 hi1 hi2 hi3 hi4 hyes
  refine jt_eq (bq_X8_takesSign_33 E d a b0) ?_
  have h327_ := iv_get hv (k := 2) (j := 1) (l := 0) (u := 200) rfl
  have h328_ : a 2 1 = a0 2 1 := hf 2 1 rfl
  have h329_ := iv_get hv0 (k := 2) (j := 1) (l := 0) (u := 200) rfl
  have h330_ := iv_get hv (k := 2) (j := 2) (l := 0) (u := 200) rfl
  have h331_ := iv_get hv0 (k := 2) (j := 2) (l := 0) (u := 200) rfl
  have h3 : a 3 = a0 3 := funext fun j => hf 3 j rfl
  have h21 := hf 2 1 rfl
  have h333_ : jxw ((a 2 2) + 1) = (a 2 2) + 1 := jxw_id (by omega) (by omega)
  have hv332_ : iv (jxu a 2 2 (jxw ((a 2 2) + 1))) := iv_put hv (l := 0) (u := 200) rfl (by omega) (by omega)
  refine jt_bV (sp_X8_skipBlanks E d (jd_le hd rfl) (jxu a 2 2 (jxw ((a 2 2) + 1))) b0 hv332_) (fun a334_ b334_ h334_ => ?_)
  obtain ⟨hv334_, hf334_, rfl, hq334_0, hq334_1⟩ := h334_
  have h335_ := iv_get hv334_ (k := 2) (j := 2) (l := 0) (u := 200) rfl
  have h336_ : (a 2 1 ≤ jxw ((a 2 2) + 1) → a334_ 2 2 = jxw ((a 2 2) + 1)) := hq334_0
  have hf337_ : jfr jW_X8_takesSign a0 (jxu a 2 2 (jxw ((a 2 2) + 1))) := jfr_put hf rfl
  have hf338_ : jfr jW_X8_takesSign a0 a334_ := jfr_tr hf337_ hf334_ rfl
  exact jt_rI ⟨hv334_, hf338_, rfl, (show (0 ≤ 1 ∧ 1 ≤ 1) from by omega), (show ((¬ a0 2 3 = 0 ∨ a0 2 1 ≤ a0 2 2) → (1 = 0 ∧ a334_ 2 2 = a0 2 2)) from by omega), (by first | exact (fun h => absurd h (by decide)) | exact (fun _ => ⟨by omega, by omega, hyes, by have h := hq334_1; rw [show (a0 2 2).toNat + 1 = (jxw ((a 2 2) + 1)).toNat from by omega, ← h3, ← h21]; exact h⟩)), (by first | exact (fun _ => hno) | exact (fun h => absurd h (by decide))), (show (1 = 0 → a334_ 2 2 = a0 2 2) from by omega)⟩
theorem sp_X8_takesSign (E : jxE) (d : Nat) (hd : Nat.ble 2 d = true) (x1 : Int) (a0 b0 : Nat → Nat → Int) (hv0 : iv a0) : jt (jxC E d 129 [.inr (.inr (.inl 2)), .inl x1] (jxSH, a0, b0)) (jQ_X8_takesSign x1 a0 b0) := by
  obtain ⟨d, rfl⟩ := jd_succ hd
  refine jt_eq (bq_X8_takesSign E d x1 a0 b0) ?_
  refine jt_eI (eq_X8_isFaulty E d (jd_le hd rfl) a0 b0) ?_
  have h339_ := f_X8_isFaulty_eq a0 b0
  refine jt_ite (fun c340_ => ?_) (fun c340_ => ?_)
  ·
    have h341_ := iv_get hv0 (k := 2) (j := 2) (l := 0) (u := 200) rfl
    have h342_ := iv_get hv0 (k := 2) (j := 1) (l := 0) (u := 200) rfl
    refine jt_ite (fun c343_ => ?_) (fun c343_ => ?_)
    ·
      refine jt_grd (by omega) ?_
      have h344_ := iv_get hv0 (k := 3) (j := (a0 2 2).toNat) (l := 0) (u := 255) rfl
      refine jt_ite (fun c345_ => ?_) (fun c345_ => ?_)
      ·
        exact cp_X8_takesSign_33 E d hd x1 a0 b0 hv0 a0 hv0 (jfr_rf _ _) (show 1 ≤ a0 2 1 from by omega) (show a0 2 2 ≤ 199 from by omega) (show a0 2 3 = 0 from by omega) (show a0 2 2 < a0 2 1 from by omega) (show a0 2 2 = a0 2 2 from by omega) (by assumption)
      ·
        exact cp_X8_takesSign_31 E d hd x1 a0 b0 hv0 a0 hv0 (jfr_rf _ _) (show a0 2 2 = a0 2 2 from by omega) (by first | exact Or.inl (by omega) | exact Or.inr (Or.inl (by omega)) | exact Or.inr (Or.inr (by assumption)))
    ·
      exact cp_X8_takesSign_31 E d hd x1 a0 b0 hv0 a0 hv0 (jfr_rf _ _) (show a0 2 2 = a0 2 2 from by omega) (by first | exact Or.inl (by omega) | exact Or.inr (Or.inl (by omega)) | exact Or.inr (Or.inr (by assumption)))
  ·
    have h346_ := iv_get hv0 (k := 2) (j := 2) (l := 0) (u := 200) rfl
    exact cp_X8_takesSign_31 E d hd x1 a0 b0 hv0 a0 hv0 (jfr_rf _ _) (show a0 2 2 = a0 2 2 from by omega) (by first | exact Or.inl (by omega) | exact Or.inr (Or.inl (by omega)) | exact Or.inr (Or.inr (by assumption)))
def jW_X8_startReading : List (Nat × Nat) := [(2, 2), (2, 3)]
abbrev jQ_X8_startReading (a0 b0 : Nat → Nat → Int) : List jxV → (Nat → Nat → Int) → (Nat → Nat → Int) → Prop := rV (fun a b => (iv a) ∧ (jfr jW_X8_startReading a0 a) ∧ (b0 = b) ∧ (a 2 3 = 0) ∧ ((a0 2 1 = 0 → a 2 2 = 0)) ∧ (a 2 2 = ((SK (a0 3) (a0 2 1).toNat 0 : Nat) : Int)))
theorem sp_X8_startReading (E : jxE) (d : Nat) (hd : Nat.ble 2 d = true) (a0 b0 : Nat → Nat → Int) (hv0 : iv a0) : jt (jxC E d 121 [.inr (.inr (.inl 2))] (jxSH, a0, b0)) (jQ_X8_startReading a0 b0) := by
  obtain ⟨d, rfl⟩ := jd_succ hd
  refine jt_eq (bq_X8_startReading E d a0 b0) ?_
  have hv347_ : iv (jxu a0 2 2 0) := iv_put hv0 (l := 0) (u := 200) rfl (by omega) (by omega)
  have hv348_ : iv (jxu (jxu a0 2 2 0) 2 3 0) := iv_putf hv347_ rfl
  refine jt_bV (sp_X8_skipBlanks E d (jd_le hd rfl) (jxu (jxu a0 2 2 0) 2 3 0) b0 hv348_) (fun a349_ b349_ h349_ => ?_)
  obtain ⟨hv349_, hf349_, rfl, hq349_0, hq349_1⟩ := h349_
  have h350_ := iv_get hv0 (k := 2) (j := 1) (l := 0) (u := 200) rfl
  have h351_ := iv_get hv349_ (k := 2) (j := 2) (l := 0) (u := 200) rfl
  have h352_ : (a0 2 1 ≤ 0 → a349_ 2 2 = 0) := hq349_0
  have hf353_ : jfr jW_X8_startReading a0 (jxu a0 2 2 0) := jfr_put (jfr_rf _ _) rfl
  have hf354_ : jfr jW_X8_startReading a0 (jxu (jxu a0 2 2 0) 2 3 0) := jfr_put hf353_ rfl
  have hf355_ : jfr jW_X8_startReading a0 a349_ := jfr_tr hf354_ hf349_ rfl
  have h356_ : a349_ 2 3 = 0 := hf349_ 2 3 rfl
  exact jt_rV ⟨hv349_, hf355_, rfl, (show a349_ 2 3 = 0 from by omega), (show (a0 2 1 = 0 → a349_ 2 2 = 0) from by omega), hq349_1⟩
def jW_X7_add : List (Nat × Nat) := [(70, 9999), (71, 9999), (72, 9999), (73, 9999), (74, 9999), (75, 9999)]
abbrev jQ_X7_add (x1 x2 x3 x4 : Int) (a0 b0 : Nat → Nat → Int) : List jxV → (Nat → Nat → Int) → (Nat → Nat → Int) → Prop := rV (fun a b => (iv a) ∧ (jfr jW_X7_add a0 a) ∧ (b0 = b))
theorem cp_X7_add_104 (E : jxE) (d : Nat) (hd : Nat.ble 2 (d + 1) = true) (x1 x2 x3 x4 : Int) (a0 b0 : Nat → Nat → Int) (hv0 : iv a0) : ∀ (a : Nat → Nat → Int), iv a → jfr jW_X7_add a0 a → jt (jxX E d 109 104 [none, none, none, none, none] [] (jxSH, a, b0)) (jQ_X7_add x1 x2 x3 x4 a0 b0) := by
  intro a hv hf
  refine jt_eq (bq_X7_add_104 E d a b0) ?_
  exact jt_rV ⟨hv, hf, rfl⟩
theorem cp_X7_add_76 (E : jxE) (d : Nat) (hd : Nat.ble 2 (d + 1) = true) (x1 x2 x3 x4 : Int) (a0 b0 : Nat → Nat → Int) (hv0 : iv a0) : ∀ (y2 : Int) (a : Nat → Nat → Int), iv a → jfr jW_X7_add a0 a → 0 ≤ y2 → y2 ≤ 39 → jt (jxX E d 109 76 [some (.inr (.inr (.inl 69))), none, some (.inl y2), none, none] [] (jxSH, a, b0)) (jQ_X7_add x1 x2 x3 x4 a0 b0) := by
  intro y2 a hv hf hi0 hi1
  refine jt_eq (bq_X7_add_76 E d y2 a b0) ?_
  refine jt_grd (by omega) ?_
  refine jt_grd (by omega) ?_
  have hv357_ : iv (jxu a 72 (y2.toNat) (jxw ((a 72 (y2.toNat)) + 1))) := iv_putf hv rfl
  have hf358_ : jfr jW_X7_add a0 (jxu a 72 (y2.toNat) (jxw ((a 72 (y2.toNat)) + 1))) := jfr_put hf rfl
  exact cp_X7_add_104 E d hd x1 x2 x3 x4 a0 b0 hv0 (jxu a 72 (y2.toNat) (jxw ((a 72 (y2.toNat)) + 1))) hv357_ hf358_
theorem cp_X7_add_59 (E : jxE) (d : Nat) (hd : Nat.ble 2 (d + 1) = true) (x1 x2 x3 x4 : Int) (a0 b0 : Nat → Nat → Int) (hv0 : iv a0) : ∀ (a : Nat → Nat → Int), iv a → jfr jW_X7_add a0 a → jt (jxX E d 109 59 [none, none, none, none, none] [] (jxSH, a, b0)) (jQ_X7_add x1 x2 x3 x4 a0 b0) := by
  intro a hv hf
  refine jt_eq (bq_X7_add_59 E d a b0) ?_
  exact cp_X7_add_104 E d hd x1 x2 x3 x4 a0 b0 hv0 a hv hf
theorem cp_X7_add_39 (E : jxE) (d : Nat) (hd : Nat.ble 2 (d + 1) = true) (x1 x2 x3 x4 : Int) (a0 b0 : Nat → Nat → Int) (hv0 : iv a0) : ∀ (y1 y2 : Int) (a : Nat → Nat → Int), iv a → jfr jW_X7_add a0 a → 0 ≤ y1 → y1 ≤ 39 → 0 ≤ y2 → y2 ≤ 39 → jt (jxX E d 109 39 [some (.inr (.inr (.inl 69))), some (.inl y1), some (.inl y2), none, none] [] (jxSH, a, b0)) (jQ_X7_add x1 x2 x3 x4 a0 b0) := by
  intro y1 y2 a hv hf hi0 hi1 hi2 hi3
  refine jt_eq (bq_X7_add_39 E d y1 y2 a b0) ?_
  refine jt_grd (by omega) ?_
  refine jt_grd (by omega) ?_
  refine jt_grd (by omega) ?_
  refine jt_grd (by omega) ?_
  have hv359_ : iv (jxu a 70 (y1.toNat) (jxw ((a 70 (y1.toNat)) + 1))) := iv_putf hv rfl
  have hv360_ : iv (jxu (jxu a 70 (y1.toNat) (jxw ((a 70 (y1.toNat)) + 1))) 71 (y2.toNat) (jxw ((a 71 (y2.toNat)) + 1))) := iv_putf hv359_ rfl
  have hf361_ : jfr jW_X7_add a0 (jxu a 70 (y1.toNat) (jxw ((a 70 (y1.toNat)) + 1))) := jfr_put hf rfl
  have hf362_ : jfr jW_X7_add a0 (jxu (jxu a 70 (y1.toNat) (jxw ((a 70 (y1.toNat)) + 1))) 71 (y2.toNat) (jxw ((a 71 (y2.toNat)) + 1))) := jfr_put hf361_ rfl
  exact cp_X7_add_59 E d hd x1 x2 x3 x4 a0 b0 hv0 (jxu (jxu a 70 (y1.toNat) (jxw ((a 70 (y1.toNat)) + 1))) 71 (y2.toNat) (jxw ((a 71 (y2.toNat)) + 1))) hv360_ hf362_
theorem cp_X7_add_29 (E : jxE) (d : Nat) (hd : Nat.ble 2 (d + 1) = true) (x1 x2 x3 x4 : Int) (a0 b0 : Nat → Nat → Int) (hv0 : iv a0) : ∀ (y1 y2 y3 : Int) (a : Nat → Nat → Int), iv a → jfr jW_X7_add a0 a → 0 ≤ y1 → y1 ≤ 39 → 0 ≤ y2 → y2 ≤ 39 → jt (jxX E d 109 29 [some (.inr (.inr (.inl 69))), some (.inl y1), some (.inl y2), some (.inl y3), none] [] (jxSH, a, b0)) (jQ_X7_add x1 x2 x3 x4 a0 b0) := by
  intro y1 y2 y3 a hv hf hi0 hi1 hi2 hi3
  refine jt_eq (bq_X7_add_29 E d y1 y2 y3 a b0) ?_
  refine jt_ite (fun c363_ => ?_) (fun c363_ => ?_)
  ·
    exact cp_X7_add_39 E d hd x1 x2 x3 x4 a0 b0 hv0 y1 y2 a hv hf (show 0 ≤ y1 from by omega) (show y1 ≤ 39 from by omega) (show 0 ≤ y2 from by omega) (show y2 ≤ 39 from by omega)
  ·
    refine jt_ite (fun c364_ => ?_) (fun c364_ => ?_)
    ·
      exact cp_X7_add_39 E d hd x1 x2 x3 x4 a0 b0 hv0 y1 y2 a hv hf (show 0 ≤ y1 from by omega) (show y1 ≤ 39 from by omega) (show 0 ≤ y2 from by omega) (show y2 ≤ 39 from by omega)
    ·
      refine jt_ite (fun c365_ => ?_) (fun c365_ => ?_)
      ·
        refine jt_grd (by omega) ?_
        refine jt_grd (by omega) ?_
        have hv366_ : iv (jxu a 73 (y1.toNat) (jxw ((a 73 (y1.toNat)) + 1))) := iv_putf hv rfl
        have hf367_ : jfr jW_X7_add a0 (jxu a 73 (y1.toNat) (jxw ((a 73 (y1.toNat)) + 1))) := jfr_put hf rfl
        exact cp_X7_add_76 E d hd x1 x2 x3 x4 a0 b0 hv0 y2 (jxu a 73 (y1.toNat) (jxw ((a 73 (y1.toNat)) + 1))) hv366_ hf367_ (show 0 ≤ y2 from by omega) (show y2 ≤ 39 from by omega)
      ·
        refine jt_ite (fun c368_ => ?_) (fun c368_ => ?_)
        ·
          refine jt_grd (by omega) ?_
          refine jt_grd (by omega) ?_
          have hv369_ : iv (jxu a 74 (y1.toNat) (jxw ((a 74 (y1.toNat)) + 1))) := iv_putf hv rfl
          have hf370_ : jfr jW_X7_add a0 (jxu a 74 (y1.toNat) (jxw ((a 74 (y1.toNat)) + 1))) := jfr_put hf rfl
          exact cp_X7_add_104 E d hd x1 x2 x3 x4 a0 b0 hv0 (jxu a 74 (y1.toNat) (jxw ((a 74 (y1.toNat)) + 1))) hv369_ hf370_
        ·
          exact cp_X7_add_104 E d hd x1 x2 x3 x4 a0 b0 hv0 a hv hf
theorem sp_X7_add (E : jxE) (d : Nat) (hd : Nat.ble 2 d = true) (x1 x2 x3 x4 : Int) (a0 b0 : Nat → Nat → Int) (hv0 : iv a0) : jt (jxC E d 109 [.inr (.inr (.inl 69)), .inl x1, .inl x2, .inl x3, .inl x4] (jxSH, a0, b0)) (jQ_X7_add x1 x2 x3 x4 a0 b0) := by
  obtain ⟨d, rfl⟩ := jd_succ hd
  refine jt_eq (bq_X7_add E d x1 x2 x3 x4 a0 b0) ?_
  refine jt_eI (eq_X11_within E d (jd_le hd rfl) x1 0 39 a0 b0) ?_
  have h371_ := f_X11_within_eq a0 b0 x1 0 39
  refine jt_ite (fun c372_ => ?_) (fun c372_ => ?_)
  ·
    exact jt_rV ⟨hv0, (jfr_rf _ _), rfl⟩
  ·
    refine jt_eI (eq_X11_within E d (jd_le hd rfl) x2 0 39 a0 b0) ?_
    have h373_ := f_X11_within_eq a0 b0 x2 0 39
    refine jt_ite (fun c374_ => ?_) (fun c374_ => ?_)
    ·
      exact jt_rV ⟨hv0, (jfr_rf _ _), rfl⟩
    ·
      refine jt_grd (by omega) ?_
      have hv375_ : iv (jxu a0 75 (x2.toNat) x4) := iv_putf hv0 rfl
      have hf376_ : jfr jW_X7_add a0 (jxu a0 75 (x2.toNat) x4) := jfr_put (jfr_rf _ _) rfl
      exact cp_X7_add_29 E d hd x1 x2 x3 x4 a0 b0 hv0 x1 x2 x3 (jxu a0 75 (x2.toNat) x4) hv375_ hf376_ (show 0 ≤ x1 from by omega) (show x1 ≤ 39 from by omega) (show 0 ≤ x2 from by omega) (show x2 ≤ 39 from by omega)
def jW_X7_take_r58 : List (Nat × Nat) := [(70, 9999), (71, 9999), (72, 9999), (73, 9999), (74, 9999), (75, 9999)]
abbrev jQ_X7_take_r58 (x2 : Int) (a0 b0 : Nat → Nat → Int) : List jxV → (Nat → Nat → Int) → (Nat → Nat → Int) → Prop := rV (fun a b => (iv a) ∧ (jfr jW_X7_take_r58 a0 a) ∧ (b0 = b))
theorem cp_X7_take_r58_58 (E : jxE) (d : Nat) (hd : Nat.ble 4 (d + 1) = true) (x2 : Int) (a0 b0 : Nat → Nat → Int) (hv0 : iv a0) : ∀ n : Nat, (∀ (y2 y3 : Int) (a : Nat → Nat → Int), (((300 - y3) * 1) + 0).toNat ≤ n → iv a → jfr jW_X7_take_r58 a0 a → 0 ≤ y3 → y3 ≤ 299 → jt (jxX E d 108 91 [some (.inr (.inr (.inl 69))), some (.inr (.inr (.inl 58))), some (.inl y2), some (.inl y3)] [] (jxSH, a, b0)) (jQ_X7_take_r58 x2 a0 b0)) ∧ (∀ (y2 y3 : Int) (a : Nat → Nat → Int), (((300 - y3) * 1) + 0).toNat ≤ n → iv a → jfr jW_X7_take_r58 a0 a → 0 ≤ y3 → y3 ≤ 300 → jt (jxX E d 108 58 [some (.inr (.inr (.inl 69))), some (.inr (.inr (.inl 58))), some (.inl y2), some (.inl y3)] [] (jxSH, a, b0)) (jQ_X7_take_r58 x2 a0 b0)) := by
  refine jx_ind fun n ih => ?_
  have ih91 : ∀ (y2 y3 : Int) (a : Nat → Nat → Int), (((300 - y3) * 1) + 0).toNat < n → iv a → jfr jW_X7_take_r58 a0 a → 0 ≤ y3 → y3 ≤ 299 → jt (jxX E d 108 91 [some (.inr (.inr (.inl 69))), some (.inr (.inr (.inl 58))), some (.inl y2), some (.inl y3)] [] (jxSH, a, b0)) (jQ_X7_take_r58 x2 a0 b0) := fun y2 y3 a hlt i0 i1 i2 i3 => (ih _ hlt).1 y2 y3 a (Nat.le_refl _) i0 i1 i2 i3
  have ih58 : ∀ (y2 y3 : Int) (a : Nat → Nat → Int), (((300 - y3) * 1) + 0).toNat < n → iv a → jfr jW_X7_take_r58 a0 a → 0 ≤ y3 → y3 ≤ 300 → jt (jxX E d 108 58 [some (.inr (.inr (.inl 69))), some (.inr (.inr (.inl 58))), some (.inl y2), some (.inl y3)] [] (jxSH, a, b0)) (jQ_X7_take_r58 x2 a0 b0) := fun y2 y3 a hlt i0 i1 i2 i3 => (ih _ hlt).2 y2 y3 a (Nat.le_refl _) i0 i1 i2 i3
  have hc91 : ∀ (y2 y3 : Int) (a : Nat → Nat → Int), (((300 - y3) * 1) + 0).toNat ≤ n → iv a → jfr jW_X7_take_r58 a0 a → 0 ≤ y3 → y3 ≤ 299 → jt (jxX E d 108 91 [some (.inr (.inr (.inl 69))), some (.inr (.inr (.inl 58))), some (.inl y2), some (.inl y3)] [] (jxSH, a, b0)) (jQ_X7_take_r58 x2 a0 b0) := by
    intro y2 y3 a hm hv hf hi0 hi1
    refine jt_eq (bq_X7_take_r58_91 E d y2 y3 a b0) ?_
    have h377_ : jxw (y3 + 1) = y3 + 1 := jxw_id (by omega) (by omega)
    exact ih58 y2 (jxw (y3 + 1)) a (show (((300 - (jxw (y3 + 1))) * 1) + 0).toNat < n from by omega) hv hf (show 0 ≤ jxw (y3 + 1) from by omega) (show jxw (y3 + 1) ≤ 300 from by omega)
  have hc58 : ∀ (y2 y3 : Int) (a : Nat → Nat → Int), (((300 - y3) * 1) + 0).toNat ≤ n → iv a → jfr jW_X7_take_r58 a0 a → 0 ≤ y3 → y3 ≤ 300 → jt (jxX E d 108 58 [some (.inr (.inr (.inl 69))), some (.inr (.inr (.inl 58))), some (.inl y2), some (.inl y3)] [] (jxSH, a, b0)) (jQ_X7_take_r58 x2 a0 b0) := by
    intro y2 y3 a hm hv hf hi0 hi1
    refine jt_eq (bq_X7_take_r58_58 E d y2 y3 a b0) ?_
    refine jt_eI (eq_X0_size E d (jd_le hd rfl) a b0) ?_
    have h378_ := f_X0_size_eq a b0
    have h379_ := iv_get hv (k := 58) (j := 8) (l := 0) (u := 300) rfl
    have h380_ : a 58 8 = a0 58 8 := hf 58 8 rfl
    have h381_ := iv_get hv0 (k := 58) (j := 8) (l := 0) (u := 300) rfl
    refine jt_ite (fun c382_ => ?_) (fun c382_ => ?_)
    ·
      refine jt_eI (eq_X0_fromOf E d (jd_le hd rfl) y3 a b0) ?_
      refine jt_eI (eq_X0_toOf E d (jd_le hd rfl) y3 a b0) ?_
      refine jt_eI (eq_X0_stateNow E d (jd_le hd rfl) y3 y2 a b0) ?_
      refine jt_eI (eq_X0_sentOnOf E d (jd_le hd rfl) y3 a b0) ?_
      refine jt_bV (sp_X7_add E d (jd_le hd rfl) (f_X0_fromOf a b0 y3) (f_X0_toOf a b0 y3) (f_X0_stateNow a b0 y3 y2) (f_X0_sentOnOf a b0 y3) a b0 hv) (fun a383_ b383_ h383_ => ?_)
      obtain ⟨hv383_, hf383_, rfl⟩ := h383_
      have hf384_ : jfr jW_X7_take_r58 a0 a383_ := jfr_tr hf hf383_ rfl
      exact hc91 y2 y3 a383_ (show (((300 - y3) * 1) + 0).toNat ≤ n from by omega) hv383_ hf384_ (show 0 ≤ y3 from by omega) (show y3 ≤ 299 from by omega)
    ·
      exact jt_rV ⟨hv, hf, rfl⟩
  exact ⟨hc91, hc58⟩
theorem cp_X7_take_r58_2 (E : jxE) (d : Nat) (hd : Nat.ble 4 (d + 1) = true) (x2 : Int) (a0 b0 : Nat → Nat → Int) (hv0 : iv a0) : ∀ n : Nat, (∀ (y2 y3 : Int) (a : Nat → Nat → Int), (((40 - y3) * 1) + 0).toNat ≤ n → iv a → jfr jW_X7_take_r58 a0 a → 0 ≤ y3 → y3 ≤ 39 → jt (jxX E d 108 50 [some (.inr (.inr (.inl 69))), some (.inr (.inr (.inl 58))), some (.inl y2), some (.inl y3)] [] (jxSH, a, b0)) (jQ_X7_take_r58 x2 a0 b0)) ∧ (∀ (y2 y3 : Int) (a : Nat → Nat → Int), (((40 - y3) * 1) + 0).toNat ≤ n → iv a → jfr jW_X7_take_r58 a0 a → 0 ≤ y3 → y3 ≤ 39 → jt (jxX E d 108 29 [some (.inr (.inr (.inl 69))), some (.inr (.inr (.inl 58))), some (.inl y2), some (.inl y3)] [] (jxSH, a, b0)) (jQ_X7_take_r58 x2 a0 b0)) ∧ (∀ (y2 y3 : Int) (a : Nat → Nat → Int), (((40 - y3) * 1) + 0).toNat ≤ n → iv a → jfr jW_X7_take_r58 a0 a → 0 ≤ y3 → y3 ≤ 40 → jt (jxX E d 108 2 [some (.inr (.inr (.inl 69))), some (.inr (.inr (.inl 58))), some (.inl y2), some (.inl y3)] [] (jxSH, a, b0)) (jQ_X7_take_r58 x2 a0 b0)) := by
  refine jx_ind fun n ih => ?_
  have ih50 : ∀ (y2 y3 : Int) (a : Nat → Nat → Int), (((40 - y3) * 1) + 0).toNat < n → iv a → jfr jW_X7_take_r58 a0 a → 0 ≤ y3 → y3 ≤ 39 → jt (jxX E d 108 50 [some (.inr (.inr (.inl 69))), some (.inr (.inr (.inl 58))), some (.inl y2), some (.inl y3)] [] (jxSH, a, b0)) (jQ_X7_take_r58 x2 a0 b0) := fun y2 y3 a hlt i0 i1 i2 i3 => (ih _ hlt).1 y2 y3 a (Nat.le_refl _) i0 i1 i2 i3
  have ih29 : ∀ (y2 y3 : Int) (a : Nat → Nat → Int), (((40 - y3) * 1) + 0).toNat < n → iv a → jfr jW_X7_take_r58 a0 a → 0 ≤ y3 → y3 ≤ 39 → jt (jxX E d 108 29 [some (.inr (.inr (.inl 69))), some (.inr (.inr (.inl 58))), some (.inl y2), some (.inl y3)] [] (jxSH, a, b0)) (jQ_X7_take_r58 x2 a0 b0) := fun y2 y3 a hlt i0 i1 i2 i3 => (ih _ hlt).2.1 y2 y3 a (Nat.le_refl _) i0 i1 i2 i3
  have ih2 : ∀ (y2 y3 : Int) (a : Nat → Nat → Int), (((40 - y3) * 1) + 0).toNat < n → iv a → jfr jW_X7_take_r58 a0 a → 0 ≤ y3 → y3 ≤ 40 → jt (jxX E d 108 2 [some (.inr (.inr (.inl 69))), some (.inr (.inr (.inl 58))), some (.inl y2), some (.inl y3)] [] (jxSH, a, b0)) (jQ_X7_take_r58 x2 a0 b0) := fun y2 y3 a hlt i0 i1 i2 i3 => (ih _ hlt).2.2 y2 y3 a (Nat.le_refl _) i0 i1 i2 i3
  have hc50 : ∀ (y2 y3 : Int) (a : Nat → Nat → Int), (((40 - y3) * 1) + 0).toNat ≤ n → iv a → jfr jW_X7_take_r58 a0 a → 0 ≤ y3 → y3 ≤ 39 → jt (jxX E d 108 50 [some (.inr (.inr (.inl 69))), some (.inr (.inr (.inl 58))), some (.inl y2), some (.inl y3)] [] (jxSH, a, b0)) (jQ_X7_take_r58 x2 a0 b0) := by
    intro y2 y3 a hm hv hf hi0 hi1
    refine jt_eq (bq_X7_take_r58_50 E d y2 y3 a b0) ?_
    have h385_ : jxw (y3 + 1) = y3 + 1 := jxw_id (by omega) (by omega)
    exact ih2 y2 (jxw (y3 + 1)) a (show (((40 - (jxw (y3 + 1))) * 1) + 0).toNat < n from by omega) hv hf (show 0 ≤ jxw (y3 + 1) from by omega) (show jxw (y3 + 1) ≤ 40 from by omega)
  have hc29 : ∀ (y2 y3 : Int) (a : Nat → Nat → Int), (((40 - y3) * 1) + 0).toNat ≤ n → iv a → jfr jW_X7_take_r58 a0 a → 0 ≤ y3 → y3 ≤ 39 → jt (jxX E d 108 29 [some (.inr (.inr (.inl 69))), some (.inr (.inr (.inl 58))), some (.inl y2), some (.inl y3)] [] (jxSH, a, b0)) (jQ_X7_take_r58 x2 a0 b0) := by
    intro y2 y3 a hm hv hf hi0 hi1
    refine jt_eq (bq_X7_take_r58_29 E d y2 y3 a b0) ?_
    refine jt_grd (by omega) ?_
    refine jt_grd (by omega) ?_
    refine jt_grd (by omega) ?_
    have hv386_ : iv (jxu a 73 (y3.toNat) 0) := iv_putf hv rfl
    have hv387_ : iv (jxu (jxu a 73 (y3.toNat) 0) 74 (y3.toNat) 0) := iv_putf hv386_ rfl
    have hv388_ : iv (jxu (jxu (jxu a 73 (y3.toNat) 0) 74 (y3.toNat) 0) 75 (y3.toNat) (-1)) := iv_putf hv387_ rfl
    have hf389_ : jfr jW_X7_take_r58 a0 (jxu a 73 (y3.toNat) 0) := jfr_put hf rfl
    have hf390_ : jfr jW_X7_take_r58 a0 (jxu (jxu a 73 (y3.toNat) 0) 74 (y3.toNat) 0) := jfr_put hf389_ rfl
    have hf391_ : jfr jW_X7_take_r58 a0 (jxu (jxu (jxu a 73 (y3.toNat) 0) 74 (y3.toNat) 0) 75 (y3.toNat) (-1)) := jfr_put hf390_ rfl
    exact hc50 y2 y3 (jxu (jxu (jxu a 73 (y3.toNat) 0) 74 (y3.toNat) 0) 75 (y3.toNat) (-1)) (show (((40 - y3) * 1) + 0).toNat ≤ n from by omega) hv388_ hf391_ (show 0 ≤ y3 from by omega) (show y3 ≤ 39 from by omega)
  have hc2 : ∀ (y2 y3 : Int) (a : Nat → Nat → Int), (((40 - y3) * 1) + 0).toNat ≤ n → iv a → jfr jW_X7_take_r58 a0 a → 0 ≤ y3 → y3 ≤ 40 → jt (jxX E d 108 2 [some (.inr (.inr (.inl 69))), some (.inr (.inr (.inl 58))), some (.inl y2), some (.inl y3)] [] (jxSH, a, b0)) (jQ_X7_take_r58 x2 a0 b0) := by
    intro y2 y3 a hm hv hf hi0 hi1
    refine jt_eq (bq_X7_take_r58_2 E d y2 y3 a b0) ?_
    refine jt_ite (fun c392_ => ?_) (fun c392_ => ?_)
    ·
      refine jt_grd (by omega) ?_
      refine jt_grd (by omega) ?_
      refine jt_grd (by omega) ?_
      have hv393_ : iv (jxu a 70 (y3.toNat) 0) := iv_putf hv rfl
      have hv394_ : iv (jxu (jxu a 70 (y3.toNat) 0) 71 (y3.toNat) 0) := iv_putf hv393_ rfl
      have hv395_ : iv (jxu (jxu (jxu a 70 (y3.toNat) 0) 71 (y3.toNat) 0) 72 (y3.toNat) 0) := iv_putf hv394_ rfl
      have hf396_ : jfr jW_X7_take_r58 a0 (jxu a 70 (y3.toNat) 0) := jfr_put hf rfl
      have hf397_ : jfr jW_X7_take_r58 a0 (jxu (jxu a 70 (y3.toNat) 0) 71 (y3.toNat) 0) := jfr_put hf396_ rfl
      have hf398_ : jfr jW_X7_take_r58 a0 (jxu (jxu (jxu a 70 (y3.toNat) 0) 71 (y3.toNat) 0) 72 (y3.toNat) 0) := jfr_put hf397_ rfl
      exact hc29 y2 y3 (jxu (jxu (jxu a 70 (y3.toNat) 0) 71 (y3.toNat) 0) 72 (y3.toNat) 0) (show (((40 - y3) * 1) + 0).toNat ≤ n from by omega) hv395_ hf398_ (show 0 ≤ y3 from by omega) (show y3 ≤ 39 from by omega)
    ·
      exact (cp_X7_take_r58_58 E d hd x2 a0 b0 hv0 _).2 y2 0 a (Nat.le_refl _) hv hf (show 0 ≤ 0 from by omega) (show 0 ≤ 300 from by omega)
  exact ⟨hc50, hc29, hc2⟩
theorem sp_X7_take_r58 (E : jxE) (d : Nat) (hd : Nat.ble 4 d = true) (x2 : Int) (a0 b0 : Nat → Nat → Int) (hv0 : iv a0) : jt (jxC E d 108 [.inr (.inr (.inl 69)), .inr (.inr (.inl 58)), .inl x2] (jxSH, a0, b0)) (jQ_X7_take_r58 x2 a0 b0) := by
  obtain ⟨d, rfl⟩ := jd_succ hd
  refine jt_eq (bq_X7_take_r58 E d x2 a0 b0) ?_
  exact (cp_X7_take_r58_2 E d hd x2 a0 b0 hv0 _).2.2 x2 0 a0 (Nat.le_refl _) hv0 (jfr_rf _ _) (show 0 ≤ 0 from by omega) (show 0 ≤ 40 from by omega)
def jW_X11_about : List (Nat × Nat) := [(70, 9999), (71, 9999), (72, 9999), (73, 9999), (74, 9999), (75, 9999)]
abbrev jQ_X11_about (x1 x2 : Int) (a0 b0 : Nat → Nat → Int) : List jxV → (Nat → Nat → Int) → (Nat → Nat → Int) → Prop := rI (fun r a b => (iv a) ∧ (jfr jW_X11_about a0 a) ∧ (b0 = b) ∧ ((a0 4 6 = 0 → ((x2 = 5 ∧ r = 0 - 1000) ∨ (¬ x2 = 5 ∧ r = 0 - 1)))))
theorem cp_X11_about_100 (E : jxE) (d : Nat) (hd : Nat.ble 5 (d + 1) = true) (x1 x2 : Int) (a0 b0 : Nat → Nat → Int) (hv0 : iv a0) : ∀ (y1 : Int) (a : Nat → Nat → Int), iv a → jfr jW_X11_about a0 a → 0 ≤ y1 → y1 ≤ 39 → 1 ≤ a0 4 6 → jt (jxX E d 181 100 [some (.inr (.inr (.inl 0))), some (.inl y1), none] [] (jxSH, a, b0)) (jQ_X11_about x1 x2 a0 b0) := by
  intro y1 a hv hf hi0 hi1 hi2
  refine jt_eq (bq_X11_about_100 E d y1 a b0) ?_
  have h399_ := iv_get hv0 (k := 4) (j := 6) (l := 0) (u := 40) rfl
  refine jt_eI (eq_X7_givenBy E d (jd_le hd rfl) y1 a b0) ?_
  have h400_ := f_X7_givenBy_eq a b0 y1
  have h401_ := f_X11_entry_r70_eq a b0 40 y1
  exact jt_rI ⟨hv, hf, rfl, (show (a0 4 6 = 0 → ((x2 = 5 ∧ f_X7_givenBy a b0 y1 = 0 - 1000) ∨ (¬ x2 = 5 ∧ f_X7_givenBy a b0 y1 = 0 - 1))) from by omega)⟩
theorem cp_X11_about_109 (E : jxE) (d : Nat) (hd : Nat.ble 5 (d + 1) = true) (x1 x2 : Int) (a0 b0 : Nat → Nat → Int) (hv0 : iv a0) : ∀ (y1 : Int) (a : Nat → Nat → Int), iv a → jfr jW_X11_about a0 a → 0 ≤ y1 → y1 ≤ 39 → 1 ≤ a0 4 6 → jt (jxX E d 181 109 [some (.inr (.inr (.inl 0))), some (.inl y1), none] [] (jxSH, a, b0)) (jQ_X11_about x1 x2 a0 b0) := by
  intro y1 a hv hf hi0 hi1 hi2
  refine jt_eq (bq_X11_about_109 E d y1 a b0) ?_
  have h402_ := iv_get hv0 (k := 4) (j := 6) (l := 0) (u := 40) rfl
  refine jt_eI (eq_X7_gotBy E d (jd_le hd rfl) y1 a b0) ?_
  have h403_ := f_X7_gotBy_eq a b0 y1
  have h404_ := f_X11_entry_r71_eq a b0 40 y1
  exact jt_rI ⟨hv, hf, rfl, (show (a0 4 6 = 0 → ((x2 = 5 ∧ f_X7_gotBy a b0 y1 = 0 - 1000) ∨ (¬ x2 = 5 ∧ f_X7_gotBy a b0 y1 = 0 - 1))) from by omega)⟩
theorem cp_X11_about_118 (E : jxE) (d : Nat) (hd : Nat.ble 5 (d + 1) = true) (x1 x2 : Int) (a0 b0 : Nat → Nat → Int) (hv0 : iv a0) : ∀ (y1 : Int) (a : Nat → Nat → Int), iv a → jfr jW_X11_about a0 a → 0 ≤ y1 → y1 ≤ 39 → 1 ≤ a0 4 6 → jt (jxX E d 181 118 [some (.inr (.inr (.inl 0))), some (.inl y1), none] [] (jxSH, a, b0)) (jQ_X11_about x1 x2 a0 b0) := by
  intro y1 a hv hf hi0 hi1 hi2
  refine jt_eq (bq_X11_about_118 E d y1 a b0) ?_
  have h405_ := iv_get hv0 (k := 4) (j := 6) (l := 0) (u := 40) rfl
  refine jt_eI (eq_X7_comingTo E d (jd_le hd rfl) y1 a b0) ?_
  have h406_ := f_X7_comingTo_eq a b0 y1
  have h407_ := f_X11_entry_r72_eq a b0 40 y1
  exact jt_rI ⟨hv, hf, rfl, (show (a0 4 6 = 0 → ((x2 = 5 ∧ f_X7_comingTo a b0 y1 = 0 - 1000) ∨ (¬ x2 = 5 ∧ f_X7_comingTo a b0 y1 = 0 - 1))) from by omega)⟩
theorem cp_X11_about_127 (E : jxE) (d : Nat) (hd : Nat.ble 5 (d + 1) = true) (x1 x2 : Int) (a0 b0 : Nat → Nat → Int) (hv0 : iv a0) : ∀ (y1 : Int) (a : Nat → Nat → Int), iv a → jfr jW_X11_about a0 a → 0 ≤ y1 → y1 ≤ 39 → 1 ≤ a0 4 6 → jt (jxX E d 181 127 [some (.inr (.inr (.inl 0))), some (.inl y1), none] [] (jxSH, a, b0)) (jQ_X11_about x1 x2 a0 b0) := by
  intro y1 a hv hf hi0 hi1 hi2
  refine jt_eq (bq_X11_about_127 E d y1 a b0) ?_
  have h408_ := iv_get hv0 (k := 4) (j := 6) (l := 0) (u := 40) rfl
  refine jt_eI (eq_X7_outOf E d (jd_le hd rfl) y1 a b0) ?_
  have h409_ := f_X7_outOf_eq a b0 y1
  have h410_ := f_X11_entry_r73_eq a b0 40 y1
  exact jt_rI ⟨hv, hf, rfl, (show (a0 4 6 = 0 → ((x2 = 5 ∧ f_X7_outOf a b0 y1 = 0 - 1000) ∨ (¬ x2 = 5 ∧ f_X7_outOf a b0 y1 = 0 - 1))) from by omega)⟩
theorem cp_X11_about_136 (E : jxE) (d : Nat) (hd : Nat.ble 5 (d + 1) = true) (x1 x2 : Int) (a0 b0 : Nat → Nat → Int) (hv0 : iv a0) : ∀ (y1 : Int) (a : Nat → Nat → Int), iv a → jfr jW_X11_about a0 a → 0 ≤ y1 → y1 ≤ 39 → 1 ≤ a0 4 6 → jt (jxX E d 181 136 [some (.inr (.inr (.inl 0))), some (.inl y1), none] [] (jxSH, a, b0)) (jQ_X11_about x1 x2 a0 b0) := by
  intro y1 a hv hf hi0 hi1 hi2
  refine jt_eq (bq_X11_about_136 E d y1 a b0) ?_
  have h411_ := iv_get hv0 (k := 4) (j := 6) (l := 0) (u := 40) rfl
  refine jt_eI (eq_X3_creditOf E d (jd_le hd rfl) y1 a b0) ?_
  have h412_ := f_X3_creditOf_eq a b0 y1
  have h413_ := f_X3_has_eq a b0 y1
  have h414_ := iv_get hv (k := 4) (j := 6) (l := 0) (u := 40) rfl
  have h415_ : a 4 6 = a0 4 6 := hf 4 6 rfl
  have h416_ : a 9 (y1.toNat) = a0 9 (y1.toNat) := hf 9 (y1.toNat) rfl
  exact jt_rI ⟨hv, hf, rfl, (show (a0 4 6 = 0 → ((x2 = 5 ∧ f_X3_creditOf a b0 y1 = 0 - 1000) ∨ (¬ x2 = 5 ∧ f_X3_creditOf a b0 y1 = 0 - 1))) from by omega)⟩
theorem cp_X11_about_145 (E : jxE) (d : Nat) (hd : Nat.ble 5 (d + 1) = true) (x1 x2 : Int) (a0 b0 : Nat → Nat → Int) (hv0 : iv a0) : ∀ (y1 : Int) (a : Nat → Nat → Int), iv a → jfr jW_X11_about a0 a → 0 ≤ y1 → y1 ≤ 39 → 1 ≤ a0 4 6 → jt (jxX E d 181 145 [some (.inr (.inr (.inl 0))), some (.inl y1), none] [] (jxSH, a, b0)) (jQ_X11_about x1 x2 a0 b0) := by
  intro y1 a hv hf hi0 hi1 hi2
  refine jt_eq (bq_X11_about_145 E d y1 a b0) ?_
  have h417_ := iv_get hv0 (k := 4) (j := 6) (l := 0) (u := 40) rfl
  refine jt_eI (eq_X11_owed E d (jd_le hd rfl) y1 a b0) ?_
  have h418_ := f_X11_owed_eq a b0 y1
  have h419_ := f_X7_givenBy_eq a b0 y1
  have h420_ := f_X11_entry_r70_eq a b0 40 y1
  have h421_ := f_X3_creditOf_eq a b0 y1
  have h422_ := f_X3_has_eq a b0 y1
  have h423_ := iv_get hv (k := 4) (j := 6) (l := 0) (u := 40) rfl
  have h424_ : a 4 6 = a0 4 6 := hf 4 6 rfl
  have h425_ : a 9 (y1.toNat) = a0 9 (y1.toNat) := hf 9 (y1.toNat) rfl
  have h426_ := jxw_im ((f_X7_givenBy a b0 y1) + (f_X3_creditOf a b0 y1))
  have h427_ := jxw_rg ((f_X7_givenBy a b0 y1) + (f_X3_creditOf a b0 y1))
  have h428_ := f_X7_gotBy_eq a b0 y1
  have h429_ := f_X11_entry_r71_eq a b0 40 y1
  have h430_ := jxw_im ((jxw ((f_X7_givenBy a b0 y1) + (f_X3_creditOf a b0 y1))) - (f_X7_gotBy a b0 y1))
  have h431_ := jxw_rg ((jxw ((f_X7_givenBy a b0 y1) + (f_X3_creditOf a b0 y1))) - (f_X7_gotBy a b0 y1))
  have h432_ := f_X7_comingTo_eq a b0 y1
  have h433_ := f_X11_entry_r72_eq a b0 40 y1
  have h434_ := jxw_im ((jxw ((jxw ((f_X7_givenBy a b0 y1) + (f_X3_creditOf a b0 y1))) - (f_X7_gotBy a b0 y1))) - (f_X7_comingTo a b0 y1))
  have h435_ := jxw_rg ((jxw ((jxw ((f_X7_givenBy a b0 y1) + (f_X3_creditOf a b0 y1))) - (f_X7_gotBy a b0 y1))) - (f_X7_comingTo a b0 y1))
  exact jt_rI ⟨hv, hf, rfl, (show (a0 4 6 = 0 → ((x2 = 5 ∧ f_X11_owed a b0 y1 = 0 - 1000) ∨ (¬ x2 = 5 ∧ f_X11_owed a b0 y1 = 0 - 1))) from by omega)⟩
theorem cp_X11_about_151 (E : jxE) (d : Nat) (hd : Nat.ble 5 (d + 1) = true) (x1 x2 : Int) (a0 b0 : Nat → Nat → Int) (hv0 : iv a0) : ∀ (y1 : Int) (a : Nat → Nat → Int), iv a → jfr jW_X11_about a0 a → 0 ≤ y1 → y1 ≤ 39 → 1 ≤ a0 4 6 → jt (jxX E d 181 151 [some (.inr (.inr (.inl 0))), some (.inl y1), none] [] (jxSH, a, b0)) (jQ_X11_about x1 x2 a0 b0) := by
  intro y1 a hv hf hi0 hi1 hi2
  refine jt_eq (bq_X11_about_151 E d y1 a b0) ?_
  have h436_ := iv_get hv0 (k := 4) (j := 6) (l := 0) (u := 40) rfl
  refine jt_eI (eq_X11_mayAsk E d (jd_le hd rfl) y1 a b0) ?_
  have h437_ := f_X11_mayAsk_bool a b0 y1
  refine jt_ite (fun c438_ => ?_) (fun c438_ => ?_)
  ·
    exact jt_rI ⟨hv, hf, rfl, (show (a0 4 6 = 0 → ((x2 = 5 ∧ 0 = 0 - 1000) ∨ (¬ x2 = 5 ∧ 0 = 0 - 1))) from by omega)⟩
  ·
    exact jt_rI ⟨hv, hf, rfl, (show (a0 4 6 = 0 → ((x2 = 5 ∧ 1 = 0 - 1000) ∨ (¬ x2 = 5 ∧ 1 = 0 - 1))) from by omega)⟩
theorem cp_X11_about_165 (E : jxE) (d : Nat) (hd : Nat.ble 5 (d + 1) = true) (x1 x2 : Int) (a0 b0 : Nat → Nat → Int) (hv0 : iv a0) : ∀ (y1 : Int) (a : Nat → Nat → Int), iv a → jfr jW_X11_about a0 a → 0 ≤ y1 → y1 ≤ 39 → 1 ≤ a0 4 6 → jt (jxX E d 181 165 [some (.inr (.inr (.inl 0))), some (.inl y1), none] [] (jxSH, a, b0)) (jQ_X11_about x1 x2 a0 b0) := by
  intro y1 a hv hf hi0 hi1 hi2
  refine jt_eq (bq_X11_about_165 E d y1 a b0) ?_
  have h439_ := iv_get hv0 (k := 4) (j := 6) (l := 0) (u := 40) rfl
  refine jt_eI (eq_X3_landOf E d (jd_le hd rfl) y1 a b0) ?_
  have h440_ := f_X3_landOf_eq a b0 y1
  have h441_ := iv_get hv (k := 4) (j := 6) (l := 0) (u := 40) rfl
  have h442_ : a 4 6 = a0 4 6 := hf 4 6 rfl
  have h443_ := f_X11_entry_r5_eq a b0 (a 4 6) y1
  have h444_ : a 5 (y1.toNat) = a0 5 (y1.toNat) := hf 5 (y1.toNat) rfl
  exact jt_rI ⟨hv, hf, rfl, (show (a0 4 6 = 0 → ((x2 = 5 ∧ f_X3_landOf a b0 y1 = 0 - 1000) ∨ (¬ x2 = 5 ∧ f_X3_landOf a b0 y1 = 0 - 1))) from by omega)⟩
theorem cp_X11_about_174 (E : jxE) (d : Nat) (hd : Nat.ble 5 (d + 1) = true) (x1 x2 : Int) (a0 b0 : Nat → Nat → Int) (hv0 : iv a0) : ∀ (y1 : Int) (a : Nat → Nat → Int), iv a → jfr jW_X11_about a0 a → 0 ≤ y1 → y1 ≤ 39 → 1 ≤ a0 4 6 → jt (jxX E d 181 174 [some (.inr (.inr (.inl 0))), some (.inl y1), none] [] (jxSH, a, b0)) (jQ_X11_about x1 x2 a0 b0) := by
  intro y1 a hv hf hi0 hi1 hi2
  refine jt_eq (bq_X11_about_174 E d y1 a b0) ?_
  have h445_ := iv_get hv0 (k := 4) (j := 6) (l := 0) (u := 40) rfl
  refine jt_eI (eq_X3_isThere E d (jd_le hd rfl) y1 a b0) ?_
  have h446_ := f_X3_isThere_eq a b0 y1
  have h447_ := f_X3_has_eq a b0 y1
  have h448_ := iv_get hv (k := 4) (j := 6) (l := 0) (u := 40) rfl
  have h449_ : a 4 6 = a0 4 6 := hf 4 6 rfl
  have h450_ : a 10 (y1.toNat) = a0 10 (y1.toNat) := hf 10 (y1.toNat) rfl
  refine jt_ite (fun c451_ => ?_) (fun c451_ => ?_)
  ·
    exact jt_rI ⟨hv, hf, rfl, (show (a0 4 6 = 0 → ((x2 = 5 ∧ 0 = 0 - 1000) ∨ (¬ x2 = 5 ∧ 0 = 0 - 1))) from by omega)⟩
  ·
    exact jt_rI ⟨hv, hf, rfl, (show (a0 4 6 = 0 → ((x2 = 5 ∧ 1 = 0 - 1000) ∨ (¬ x2 = 5 ∧ 1 = 0 - 1))) from by omega)⟩
theorem cp_X11_about_191 (E : jxE) (d : Nat) (hd : Nat.ble 5 (d + 1) = true) (x1 x2 : Int) (a0 b0 : Nat → Nat → Int) (hv0 : iv a0) : ∀ (y1 : Int) (a : Nat → Nat → Int), iv a → jfr jW_X11_about a0 a → 0 ≤ y1 → y1 ≤ 39 → 1 ≤ a0 4 6 → jt (jxX E d 181 191 [some (.inr (.inr (.inl 0))), some (.inl y1), none] [] (jxSH, a, b0)) (jQ_X11_about x1 x2 a0 b0) := by
  intro y1 a hv hf hi0 hi1 hi2
  refine jt_eq (bq_X11_about_191 E d y1 a b0) ?_
  have h452_ := iv_get hv0 (k := 4) (j := 6) (l := 0) (u := 40) rfl
  refine jt_eI (eq_X3_cameOnOf E d (jd_le hd rfl) y1 a b0) ?_
  have h453_ := f_X3_cameOnOf_eq a b0 y1
  have h454_ := iv_get hv (k := 4) (j := 6) (l := 0) (u := 40) rfl
  have h455_ : a 4 6 = a0 4 6 := hf 4 6 rfl
  have h456_ := f_X11_entry_r8_eq a b0 (a 4 6) y1
  have h457_ : a 8 (y1.toNat) = a0 8 (y1.toNat) := hf 8 (y1.toNat) rfl
  exact jt_rI ⟨hv, hf, rfl, (show (a0 4 6 = 0 → ((x2 = 5 ∧ f_X3_cameOnOf a b0 y1 = 0 - 1000) ∨ (¬ x2 = 5 ∧ f_X3_cameOnOf a b0 y1 = 0 - 1))) from by omega)⟩
theorem cp_X11_about_200 (E : jxE) (d : Nat) (hd : Nat.ble 5 (d + 1) = true) (x1 x2 : Int) (a0 b0 : Nat → Nat → Int) (hv0 : iv a0) : ∀ (y1 : Int) (a : Nat → Nat → Int), iv a → jfr jW_X11_about a0 a → 0 ≤ y1 → y1 ≤ 39 → 1 ≤ a0 4 6 → jt (jxX E d 181 200 [some (.inr (.inr (.inl 0))), some (.inl y1), none] [] (jxSH, a, b0)) (jQ_X11_about x1 x2 a0 b0) := by
  intro y1 a hv hf hi0 hi1 hi2
  refine jt_eq (bq_X11_about_200 E d y1 a b0) ?_
  have h458_ := iv_get hv0 (k := 4) (j := 6) (l := 0) (u := 40) rfl
  refine jt_eI (eq_X7_lostOf E d (jd_le hd rfl) y1 a b0) ?_
  have h459_ := f_X7_lostOf_eq a b0 y1
  have h460_ := f_X11_entry_r74_eq a b0 40 y1
  exact jt_rI ⟨hv, hf, rfl, (show (a0 4 6 = 0 → ((x2 = 5 ∧ f_X7_lostOf a b0 y1 = 0 - 1000) ∨ (¬ x2 = 5 ∧ f_X7_lostOf a b0 y1 = 0 - 1))) from by omega)⟩
theorem cp_X11_about_209 (E : jxE) (d : Nat) (hd : Nat.ble 5 (d + 1) = true) (x1 x2 : Int) (a0 b0 : Nat → Nat → Int) (hv0 : iv a0) : ∀ (a : Nat → Nat → Int), iv a → jfr jW_X11_about a0 a → 1 ≤ a0 4 6 → jt (jxX E d 181 209 [none, none, none] [] (jxSH, a, b0)) (jQ_X11_about x1 x2 a0 b0) := by
  intro a hv hf hi0
  refine jt_eq (bq_X11_about_209 E d a b0) ?_
  have h461_ := iv_get hv0 (k := 4) (j := 6) (l := 0) (u := 40) rfl
  exact jt_rI ⟨hv, hf, rfl, (show (a0 4 6 = 0 → ((x2 = 5 ∧ (-1) = 0 - 1000) ∨ (¬ x2 = 5 ∧ (-1) = 0 - 1))) from by omega)⟩
theorem sp_X11_about (E : jxE) (d : Nat) (hd : Nat.ble 5 d = true) (x1 x2 : Int) (a0 b0 : Nat → Nat → Int) (hv0 : iv a0) : jt (jxC E d 181 [.inr (.inr (.inl 0)), .inl x1, .inl x2] (jxSH, a0, b0)) (jQ_X11_about x1 x2 a0 b0) := by
  obtain ⟨d, rfl⟩ := jd_succ hd
  refine jt_eq (bq_X11_about E d x1 x2 a0 b0) ?_
  refine jt_eI (eq_X3_has E d (jd_le hd rfl) x1 a0 b0) ?_
  have h462_ := f_X3_has_eq a0 b0 x1
  have h463_ := iv_get hv0 (k := 4) (j := 6) (l := 0) (u := 40) rfl
  refine jt_ite (fun c464_ => ?_) (fun c464_ => ?_)
  ·
    refine jt_ite (fun c465_ => ?_) (fun c465_ => ?_)
    ·
      exact jt_rI ⟨hv0, (jfr_rf _ _), rfl, (show (a0 4 6 = 0 → ((x2 = 5 ∧ (-1000) = 0 - 1000) ∨ (¬ x2 = 5 ∧ (-1000) = 0 - 1))) from by omega)⟩
    ·
      exact jt_rI ⟨hv0, (jfr_rf _ _), rfl, (show (a0 4 6 = 0 → ((x2 = 5 ∧ (-1) = 0 - 1000) ∨ (¬ x2 = 5 ∧ (-1) = 0 - 1))) from by omega)⟩
  ·
    refine jt_bV (sp_X7_take_r58 E d (jd_le hd rfl) (a0 0 0) a0 b0 hv0) (fun a466_ b466_ h466_ => ?_)
    obtain ⟨hv466_, hf466_, rfl⟩ := h466_
    refine jt_ite (fun c467_ => ?_) (fun c467_ => ?_)
    ·
      have hf468_ : jfr jW_X11_about a0 a466_ := jfr_tr (jfr_rf _ _) hf466_ rfl
      exact cp_X11_about_209 E d hd x1 x2 a0 b0 hv0 a466_ hv466_ hf468_ (show 1 ≤ a0 4 6 from by omega)
    ·
      refine jt_ite (fun c469_ => ?_) (fun c469_ => ?_)
      ·
        have hf470_ : jfr jW_X11_about a0 a466_ := jfr_tr (jfr_rf _ _) hf466_ rfl
        exact cp_X11_about_100 E d hd x1 x2 a0 b0 hv0 x1 a466_ hv466_ hf470_ (show 0 ≤ x1 from by omega) (show x1 ≤ 39 from by omega) (show 1 ≤ a0 4 6 from by omega)
      ·
        refine jt_ite (fun c471_ => ?_) (fun c471_ => ?_)
        ·
          have hf472_ : jfr jW_X11_about a0 a466_ := jfr_tr (jfr_rf _ _) hf466_ rfl
          exact cp_X11_about_109 E d hd x1 x2 a0 b0 hv0 x1 a466_ hv466_ hf472_ (show 0 ≤ x1 from by omega) (show x1 ≤ 39 from by omega) (show 1 ≤ a0 4 6 from by omega)
        ·
          refine jt_ite (fun c473_ => ?_) (fun c473_ => ?_)
          ·
            have hf474_ : jfr jW_X11_about a0 a466_ := jfr_tr (jfr_rf _ _) hf466_ rfl
            exact cp_X11_about_118 E d hd x1 x2 a0 b0 hv0 x1 a466_ hv466_ hf474_ (show 0 ≤ x1 from by omega) (show x1 ≤ 39 from by omega) (show 1 ≤ a0 4 6 from by omega)
          ·
            refine jt_ite (fun c475_ => ?_) (fun c475_ => ?_)
            ·
              have hf476_ : jfr jW_X11_about a0 a466_ := jfr_tr (jfr_rf _ _) hf466_ rfl
              exact cp_X11_about_127 E d hd x1 x2 a0 b0 hv0 x1 a466_ hv466_ hf476_ (show 0 ≤ x1 from by omega) (show x1 ≤ 39 from by omega) (show 1 ≤ a0 4 6 from by omega)
            ·
              refine jt_ite (fun c477_ => ?_) (fun c477_ => ?_)
              ·
                have hf478_ : jfr jW_X11_about a0 a466_ := jfr_tr (jfr_rf _ _) hf466_ rfl
                exact cp_X11_about_136 E d hd x1 x2 a0 b0 hv0 x1 a466_ hv466_ hf478_ (show 0 ≤ x1 from by omega) (show x1 ≤ 39 from by omega) (show 1 ≤ a0 4 6 from by omega)
              ·
                refine jt_ite (fun c479_ => ?_) (fun c479_ => ?_)
                ·
                  have hf480_ : jfr jW_X11_about a0 a466_ := jfr_tr (jfr_rf _ _) hf466_ rfl
                  exact cp_X11_about_145 E d hd x1 x2 a0 b0 hv0 x1 a466_ hv466_ hf480_ (show 0 ≤ x1 from by omega) (show x1 ≤ 39 from by omega) (show 1 ≤ a0 4 6 from by omega)
                ·
                  refine jt_ite (fun c481_ => ?_) (fun c481_ => ?_)
                  ·
                    have hf482_ : jfr jW_X11_about a0 a466_ := jfr_tr (jfr_rf _ _) hf466_ rfl
                    exact cp_X11_about_151 E d hd x1 x2 a0 b0 hv0 x1 a466_ hv466_ hf482_ (show 0 ≤ x1 from by omega) (show x1 ≤ 39 from by omega) (show 1 ≤ a0 4 6 from by omega)
                  ·
                    refine jt_ite (fun c483_ => ?_) (fun c483_ => ?_)
                    ·
                      have hf484_ : jfr jW_X11_about a0 a466_ := jfr_tr (jfr_rf _ _) hf466_ rfl
                      exact cp_X11_about_165 E d hd x1 x2 a0 b0 hv0 x1 a466_ hv466_ hf484_ (show 0 ≤ x1 from by omega) (show x1 ≤ 39 from by omega) (show 1 ≤ a0 4 6 from by omega)
                    ·
                      refine jt_ite (fun c485_ => ?_) (fun c485_ => ?_)
                      ·
                        have hf486_ : jfr jW_X11_about a0 a466_ := jfr_tr (jfr_rf _ _) hf466_ rfl
                        exact cp_X11_about_174 E d hd x1 x2 a0 b0 hv0 x1 a466_ hv466_ hf486_ (show 0 ≤ x1 from by omega) (show x1 ≤ 39 from by omega) (show 1 ≤ a0 4 6 from by omega)
                      ·
                        refine jt_ite (fun c487_ => ?_) (fun c487_ => ?_)
                        ·
                          have hf488_ : jfr jW_X11_about a0 a466_ := jfr_tr (jfr_rf _ _) hf466_ rfl
                          exact cp_X11_about_191 E d hd x1 x2 a0 b0 hv0 x1 a466_ hv466_ hf488_ (show 0 ≤ x1 from by omega) (show x1 ≤ 39 from by omega) (show 1 ≤ a0 4 6 from by omega)
                        ·
                          refine jt_ite (fun c489_ => ?_) (fun c489_ => ?_)
                          ·
                            have hf490_ : jfr jW_X11_about a0 a466_ := jfr_tr (jfr_rf _ _) hf466_ rfl
                            exact cp_X11_about_200 E d hd x1 x2 a0 b0 hv0 x1 a466_ hv466_ hf490_ (show 0 ≤ x1 from by omega) (show x1 ≤ 39 from by omega) (show 1 ≤ a0 4 6 from by omega)
                          ·
                            exact absurd (by omega : False) id
abbrev jQ_X11_album (x1 : Int) (a0 b0 : Nat → Nat → Int) : List jxV → (Nat → Nat → Int) → (Nat → Nat → Int) → Prop := rI (fun r a b => (a0 = a) ∧ (b0 = b) ∧ ((a0 4 6 = 0 → r = 0 - 1)))
theorem sp_X11_album (E : jxE) (d : Nat) (hd : Nat.ble 5 d = true) (x1 : Int) (a0 b0 : Nat → Nat → Int) (hv0 : iv a0) : jt (jxC E d 182 [.inr (.inr (.inl 0)), .inl x1] (jxSH, a0, b0)) (jQ_X11_album x1 a0 b0) := by
  obtain ⟨d, rfl⟩ := jd_succ hd
  refine jt_eq (bq_X11_album E d x1 a0 b0) ?_
  refine jt_eI (eq_X3_has E d (jd_le hd rfl) x1 a0 b0) ?_
  have h491_ := f_X3_has_eq a0 b0 x1
  have h492_ := iv_get hv0 (k := 4) (j := 6) (l := 0) (u := 40) rfl
  refine jt_ite (fun c493_ => ?_) (fun c493_ => ?_)
  ·
    exact jt_rI ⟨rfl, rfl, (show (a0 4 6 = 0 → (-1) = 0 - 1) from by omega)⟩
  ·
    refine jt_bI (sp_X0_landsArrivedTo E d (jd_le hd rfl) x1 (a0 0 0) a0 b0 hv0) (fun r494_ a494_ b494_ h494_ => ?_)
    obtain ⟨rfl, rfl⟩ := h494_
    exact jt_rI ⟨rfl, rfl, (show (a0 4 6 = 0 → r494_ = 0 - 1) from by omega)⟩
def jW_X11_arrive : List (Nat × Nat) := [(58, 12), (65, 9999), (66, 9999), (67, 9999), (68, 9999)]
abbrev jQ_X11_arrive (x1 x2 : Int) (a0 b0 : Nat → Nat → Int) : List jxV → (Nat → Nat → Int) → (Nat → Nat → Int) → Prop := rI (fun r a b => (iv a) ∧ (jfr jW_X11_arrive a0 a) ∧ (b0 = b) ∧ ((0 ≤ r ∧ r ≤ 1)) ∧ ((a0 58 8 = 0 → r = 0)))
theorem sp_X11_arrive (E : jxE) (d : Nat) (hd : Nat.ble 4 d = true) (x1 x2 : Int) (a0 b0 : Nat → Nat → Int) (hv0 : iv a0) : jt (jxC E d 177 [.inr (.inr (.inl 0)), .inl x1, .inl x2] (jxSH, a0, b0)) (jQ_X11_arrive x1 x2 a0 b0) := by
  obtain ⟨d, rfl⟩ := jd_succ hd
  refine jt_eq (bq_X11_arrive E d x1 x2 a0 b0) ?_
  refine jt_bI (sp_X0_tellArrival E d (jd_le hd rfl) x1 x2 (a0 0 0) a0 b0 hv0) (fun r495_ a495_ b495_ h495_ => ?_)
  obtain ⟨hv495_, hf495_, rfl, hq495_0, hq495_1⟩ := h495_
  have h496_ := iv_get hv0 (k := 58) (j := 8) (l := 0) (u := 300) rfl
  refine jt_grd (by omega) ?_
  have hf497_ : jfr jW_X11_arrive a0 a495_ := jfr_tr (jfr_rf _ _) hf495_ rfl
  exact jt_rI ⟨hv495_, hf497_, rfl, (show (0 ≤ r495_ ∧ r495_ ≤ 1) from by omega), (show (a0 58 8 = 0 → r495_ = 0) from by omega)⟩
abbrev jQ_X11_unhappy (x1 x2 : Int) (a0 b0 : Nat → Nat → Int) : List jxV → (Nat → Nat → Int) → (Nat → Nat → Int) → Prop := rI (fun r a b => (a0 = a) ∧ (b0 = b))
theorem cp_X11_unhappy_21 (E : jxE) (d : Nat) (hd : Nat.ble 6 (d + 1) = true) (x1 x2 : Int) (a0 b0 : Nat → Nat → Int) (hv0 : iv a0) : ∀ (y1 y2 s0 : Int), 0 ≤ s0 → s0 ≤ 1 → jt (jxX E d 173 21 [some (.inr (.inr (.inl 0))), some (.inl y1), some (.inl y2)] [.inl s0] (jxSH, a0, b0)) (jQ_X11_unhappy x1 x2 a0 b0) := by
  intro y1 y2 s0 hi0 hi1
  refine jt_eq (bq_X11_unhappy_21 E d y1 y2 s0 a0 b0) ?_
  refine jt_bI (sp_X10_isMet E d (jd_le hd rfl) y2 y1 (a0 0 0) a0 b0 hv0) (fun r498_ a498_ b498_ h498_ => ?_)
  obtain ⟨rfl, rfl, hq498_0⟩ := h498_
  refine jt_ite (fun c499_ => ?_) (fun c499_ => ?_)
  ·
    exact jt_rI ⟨rfl, rfl⟩
  ·
    exact jt_rI ⟨rfl, rfl⟩
theorem sp_X11_unhappy (E : jxE) (d : Nat) (hd : Nat.ble 6 d = true) (x1 x2 : Int) (a0 b0 : Nat → Nat → Int) (hv0 : iv a0) : jt (jxC E d 173 [.inr (.inr (.inl 0)), .inl x1, .inl x2] (jxSH, a0, b0)) (jQ_X11_unhappy x1 x2 a0 b0) := by
  obtain ⟨d, rfl⟩ := jd_succ hd
  refine jt_eq (bq_X11_unhappy E d x1 x2 a0 b0) ?_
  refine jt_bI (sp_X10_isMet E d (jd_le hd rfl) x1 x2 (a0 0 0) a0 b0 hv0) (fun r500_ a500_ b500_ h500_ => ?_)
  obtain ⟨rfl, rfl, hq500_0⟩ := h500_
  refine jt_ite (fun c501_ => ?_) (fun c501_ => ?_)
  ·
    exact cp_X11_unhappy_21 E d hd x1 x2 a0 b0 hv0 x1 x2 1 (show 0 ≤ 1 from by omega) (show 1 ≤ 1 from by omega)
  ·
    exact cp_X11_unhappy_21 E d hd x1 x2 a0 b0 hv0 x1 x2 0 (show 0 ≤ 0 from by omega) (show 0 ≤ 1 from by omega)
abbrev jQ_X11_isAhead (x1 x2 x3 : Int) (a0 b0 : Nat → Nat → Int) : List jxV → (Nat → Nat → Int) → (Nat → Nat → Int) → Prop := rI (fun r a b => (a0 = a) ∧ (b0 = b) ∧ ((0 ≤ r ∧ r ≤ 1)))
theorem cp_X11_isAhead_26 (E : jxE) (d : Nat) (hd : Nat.ble 7 (d + 1) = true) (x1 x2 x3 : Int) (a0 b0 : Nat → Nat → Int) (hv0 : iv a0) : jt (jxX E d 175 26 [none, none, none, none, none, none] [] (jxSH, a0, b0)) (jQ_X11_isAhead x1 x2 x3 a0 b0) := by
  refine jt_eq (bq_X11_isAhead_26 E d a0 b0) ?_
  exact jt_rI ⟨rfl, rfl, (show (0 ≤ 1 ∧ 1 ≤ 1) from by omega)⟩
theorem cp_X11_isAhead_30 (E : jxE) (d : Nat) (hd : Nat.ble 7 (d + 1) = true) (x1 x2 x3 : Int) (a0 b0 : Nat → Nat → Int) (hv0 : iv a0) : jt (jxX E d 175 30 [none, none, none, none, none, none] [] (jxSH, a0, b0)) (jQ_X11_isAhead x1 x2 x3 a0 b0) := by
  refine jt_eq (bq_X11_isAhead_30 E d a0 b0) ?_
  exact jt_rI ⟨rfl, rfl, (show (0 ≤ 0 ∧ 0 ≤ 1) from by omega)⟩
theorem cp_X11_isAhead_48 (E : jxE) (d : Nat) (hd : Nat.ble 7 (d + 1) = true) (x1 x2 x3 : Int) (a0 b0 : Nat → Nat → Int) (hv0 : iv a0) : ∀ (y2 y3 y4 y5 : Int), jt (jxX E d 175 48 [some (.inr (.inr (.inl 0))), none, some (.inl y2), some (.inl y3), some (.inl y4), some (.inl y5)] [] (jxSH, a0, b0)) (jQ_X11_isAhead x1 x2 x3 a0 b0) := by
  intro y2 y3 y4 y5
  refine jt_eq (bq_X11_isAhead_48 E d y2 y3 y4 y5 a0 b0) ?_
  refine jt_ite (fun c502_ => ?_) (fun c502_ => ?_)
  ·
    refine jt_eI (eq_X7_lastSentTo E d (jd_le hd rfl) y2 a0 b0) ?_
    refine jt_eI (eq_X7_lastSentTo E d (jd_le hd rfl) y3 a0 b0) ?_
    have h503_ := f_X7_lastSentTo_eq a0 b0 y2
    have h504_ := f_X11_entry_r75_eq a0 b0 40 y2
    have h505_ := f_X7_lastSentTo_eq a0 b0 y3
    have h506_ := f_X11_entry_r75_eq a0 b0 40 y3
    refine jt_ite (fun c507_ => ?_) (fun c507_ => ?_)
    ·
      exact jt_rI ⟨rfl, rfl, (show (0 ≤ 1 ∧ 1 ≤ 1) from by omega)⟩
    ·
      exact jt_rI ⟨rfl, rfl, (show (0 ≤ 0 ∧ 0 ≤ 1) from by omega)⟩
  ·
    refine jt_ite (fun c508_ => ?_) (fun c508_ => ?_)
    ·
      exact jt_rI ⟨rfl, rfl, (show (0 ≤ 1 ∧ 1 ≤ 1) from by omega)⟩
    ·
      exact jt_rI ⟨rfl, rfl, (show (0 ≤ 0 ∧ 0 ≤ 1) from by omega)⟩
theorem sp_X11_isAhead (E : jxE) (d : Nat) (hd : Nat.ble 7 d = true) (x1 x2 x3 : Int) (a0 b0 : Nat → Nat → Int) (hv0 : iv a0) : jt (jxC E d 175 [.inr (.inr (.inl 0)), .inl x1, .inl x2, .inl x3] (jxSH, a0, b0)) (jQ_X11_isAhead x1 x2 x3 a0 b0) := by
  obtain ⟨d, rfl⟩ := jd_succ hd
  refine jt_eq (bq_X11_isAhead E d x1 x2 x3 a0 b0) ?_
  refine jt_eI (eq_X11_owed E d (jd_le hd rfl) x2 a0 b0) ?_
  refine jt_eI (eq_X11_owed E d (jd_le hd rfl) x3 a0 b0) ?_
  have h509_ := f_X11_owed_eq a0 b0 x2
  have h510_ := f_X7_givenBy_eq a0 b0 x2
  have h511_ := f_X11_entry_r70_eq a0 b0 40 x2
  have h512_ := f_X3_creditOf_eq a0 b0 x2
  have h513_ := f_X3_has_eq a0 b0 x2
  have h514_ := iv_get hv0 (k := 4) (j := 6) (l := 0) (u := 40) rfl
  have h515_ := jxw_im ((f_X7_givenBy a0 b0 x2) + (f_X3_creditOf a0 b0 x2))
  have h516_ := jxw_rg ((f_X7_givenBy a0 b0 x2) + (f_X3_creditOf a0 b0 x2))
  have h517_ := f_X7_gotBy_eq a0 b0 x2
  have h518_ := f_X11_entry_r71_eq a0 b0 40 x2
  have h519_ := jxw_im ((jxw ((f_X7_givenBy a0 b0 x2) + (f_X3_creditOf a0 b0 x2))) - (f_X7_gotBy a0 b0 x2))
  have h520_ := jxw_rg ((jxw ((f_X7_givenBy a0 b0 x2) + (f_X3_creditOf a0 b0 x2))) - (f_X7_gotBy a0 b0 x2))
  have h521_ := f_X7_comingTo_eq a0 b0 x2
  have h522_ := f_X11_entry_r72_eq a0 b0 40 x2
  have h523_ := jxw_im ((jxw ((jxw ((f_X7_givenBy a0 b0 x2) + (f_X3_creditOf a0 b0 x2))) - (f_X7_gotBy a0 b0 x2))) - (f_X7_comingTo a0 b0 x2))
  have h524_ := jxw_rg ((jxw ((jxw ((f_X7_givenBy a0 b0 x2) + (f_X3_creditOf a0 b0 x2))) - (f_X7_gotBy a0 b0 x2))) - (f_X7_comingTo a0 b0 x2))
  have h525_ := f_X11_owed_eq a0 b0 x3
  have h526_ := f_X7_givenBy_eq a0 b0 x3
  have h527_ := f_X11_entry_r70_eq a0 b0 40 x3
  have h528_ := f_X3_creditOf_eq a0 b0 x3
  have h529_ := f_X3_has_eq a0 b0 x3
  have h530_ := jxw_im ((f_X7_givenBy a0 b0 x3) + (f_X3_creditOf a0 b0 x3))
  have h531_ := jxw_rg ((f_X7_givenBy a0 b0 x3) + (f_X3_creditOf a0 b0 x3))
  have h532_ := f_X7_gotBy_eq a0 b0 x3
  have h533_ := f_X11_entry_r71_eq a0 b0 40 x3
  have h534_ := jxw_im ((jxw ((f_X7_givenBy a0 b0 x3) + (f_X3_creditOf a0 b0 x3))) - (f_X7_gotBy a0 b0 x3))
  have h535_ := jxw_rg ((jxw ((f_X7_givenBy a0 b0 x3) + (f_X3_creditOf a0 b0 x3))) - (f_X7_gotBy a0 b0 x3))
  have h536_ := f_X7_comingTo_eq a0 b0 x3
  have h537_ := f_X11_entry_r72_eq a0 b0 40 x3
  have h538_ := jxw_im ((jxw ((jxw ((f_X7_givenBy a0 b0 x3) + (f_X3_creditOf a0 b0 x3))) - (f_X7_gotBy a0 b0 x3))) - (f_X7_comingTo a0 b0 x3))
  have h539_ := jxw_rg ((jxw ((jxw ((f_X7_givenBy a0 b0 x3) + (f_X3_creditOf a0 b0 x3))) - (f_X7_gotBy a0 b0 x3))) - (f_X7_comingTo a0 b0 x3))
  refine jt_ite (fun c540_ => ?_) (fun c540_ => ?_)
  ·
    refine jt_bI (sp_X11_unhappy E d (jd_le hd rfl) x1 x2 a0 b0 hv0) (fun r541_ a541_ b541_ h541_ => ?_)
    obtain ⟨rfl, rfl⟩ := h541_
    refine jt_bI (sp_X11_unhappy E d (jd_le hd rfl) x1 x3 a0 b0 hv0) (fun r542_ a542_ b542_ h542_ => ?_)
    obtain ⟨rfl, rfl⟩ := h542_
    exact cp_X11_isAhead_48 E d hd x1 x2 x3 a0 b0 hv0 x2 x3 r541_ r542_
  ·
    refine jt_eI (eq_X11_owed E d (jd_le hd rfl) x2 a0 b0) ?_
    refine jt_eI (eq_X11_owed E d (jd_le hd rfl) x3 a0 b0) ?_
    refine jt_ite (fun c543_ => ?_) (fun c543_ => ?_)
    ·
      exact cp_X11_isAhead_26 E d hd x1 x2 x3 a0 b0 hv0
    ·
      exact cp_X11_isAhead_30 E d hd x1 x2 x3 a0 b0 hv0
abbrev jQ_X11_mayGet (x1 x2 x3 : Int) (a0 b0 : Nat → Nat → Int) : List jxV → (Nat → Nat → Int) → (Nat → Nat → Int) → Prop := rI (fun r a b => (a0 = a) ∧ (b0 = b) ∧ ((0 ≤ r ∧ r ≤ 1)))
theorem cp_X11_mayGet_65 (E : jxE) (d : Nat) (hd : Nat.ble 7 (d + 1) = true) (x1 x2 x3 : Int) (a0 b0 : Nat → Nat → Int) (hv0 : iv a0) : jt (jxX E d 172 65 [none, none, none, none, none] [] (jxSH, a0, b0)) (jQ_X11_mayGet x1 x2 x3 a0 b0) := by
  refine jt_eq (bq_X11_mayGet_65 E d a0 b0) ?_
  exact jt_rI ⟨rfl, rfl, (show (0 ≤ 1 ∧ 1 ≤ 1) from by omega)⟩
theorem cp_X11_mayGet_69 (E : jxE) (d : Nat) (hd : Nat.ble 7 (d + 1) = true) (x1 x2 x3 : Int) (a0 b0 : Nat → Nat → Int) (hv0 : iv a0) : jt (jxX E d 172 69 [none, none, none, none, none] [] (jxSH, a0, b0)) (jQ_X11_mayGet x1 x2 x3 a0 b0) := by
  refine jt_eq (bq_X11_mayGet_69 E d a0 b0) ?_
  exact jt_rI ⟨rfl, rfl, (show (0 ≤ 0 ∧ 0 ≤ 1) from by omega)⟩
theorem cp_X11_mayGet_33 (E : jxE) (d : Nat) (hd : Nat.ble 7 (d + 1) = true) (x1 x2 x3 : Int) (a0 b0 : Nat → Nat → Int) (hv0 : iv a0) : ∀ (y1 y2 : Int), 0 ≤ y2 → y2 ≤ 39 → jt (jxX E d 172 33 [some (.inr (.inr (.inl 0))), some (.inl y1), some (.inl y2), none, none] [] (jxSH, a0, b0)) (jQ_X11_mayGet x1 x2 x3 a0 b0) := by
  intro y1 y2 hi0 hi1
  refine jt_eq (bq_X11_mayGet_33 E d y1 y2 a0 b0) ?_
  refine jt_eI (eq_X11_owed E d (jd_le hd rfl) y2 a0 b0) ?_
  refine jt_eI (eq_X6_slack E d (jd_le hd rfl) a0 b0) ?_
  have h544_ := f_X11_owed_eq a0 b0 y2
  have h545_ := f_X7_givenBy_eq a0 b0 y2
  have h546_ := f_X11_entry_r70_eq a0 b0 40 y2
  have h547_ := f_X3_creditOf_eq a0 b0 y2
  have h548_ := f_X3_has_eq a0 b0 y2
  have h549_ := iv_get hv0 (k := 4) (j := 6) (l := 0) (u := 40) rfl
  have h550_ := jxw_im ((f_X7_givenBy a0 b0 y2) + (f_X3_creditOf a0 b0 y2))
  have h551_ := jxw_rg ((f_X7_givenBy a0 b0 y2) + (f_X3_creditOf a0 b0 y2))
  have h552_ := f_X7_gotBy_eq a0 b0 y2
  have h553_ := f_X11_entry_r71_eq a0 b0 40 y2
  have h554_ := jxw_im ((jxw ((f_X7_givenBy a0 b0 y2) + (f_X3_creditOf a0 b0 y2))) - (f_X7_gotBy a0 b0 y2))
  have h555_ := jxw_rg ((jxw ((f_X7_givenBy a0 b0 y2) + (f_X3_creditOf a0 b0 y2))) - (f_X7_gotBy a0 b0 y2))
  have h556_ := f_X7_comingTo_eq a0 b0 y2
  have h557_ := f_X11_entry_r72_eq a0 b0 40 y2
  have h558_ := jxw_im ((jxw ((jxw ((f_X7_givenBy a0 b0 y2) + (f_X3_creditOf a0 b0 y2))) - (f_X7_gotBy a0 b0 y2))) - (f_X7_comingTo a0 b0 y2))
  have h559_ := jxw_rg ((jxw ((jxw ((f_X7_givenBy a0 b0 y2) + (f_X3_creditOf a0 b0 y2))) - (f_X7_gotBy a0 b0 y2))) - (f_X7_comingTo a0 b0 y2))
  have h560_ := f_X6_slack_eq a0 b0
  have h561_ := jxw_im ((f_X11_owed a0 b0 y2) + (f_X6_slack a0 b0))
  have h562_ := jxw_rg ((f_X11_owed a0 b0 y2) + (f_X6_slack a0 b0))
  refine jt_ite (fun c563_ => ?_) (fun c563_ => ?_)
  ·
    refine jt_bI (sp_X11_unhappy E d (jd_le hd rfl) y1 y2 a0 b0 hv0) (fun r564_ a564_ b564_ h564_ => ?_)
    obtain ⟨rfl, rfl⟩ := h564_
    refine jt_eI (eq_X6_strict E d (jd_le hd rfl) a0 b0) ?_
    have h565_ := f_X6_strict_eq a0 b0
    refine jt_ite (fun c566_ => ?_) (fun c566_ => ?_)
    ·
      exact cp_X11_mayGet_69 E d hd x1 x2 x3 a0 b0 hv0
    ·
      exact cp_X11_mayGet_65 E d hd x1 x2 x3 a0 b0 hv0
  ·
    exact cp_X11_mayGet_69 E d hd x1 x2 x3 a0 b0 hv0
theorem sp_X11_mayGet (E : jxE) (d : Nat) (hd : Nat.ble 7 d = true) (x1 x2 x3 : Int) (a0 b0 : Nat → Nat → Int) (hv0 : iv a0) : jt (jxC E d 172 [.inr (.inr (.inl 0)), .inl x1, .inl x2, .inr (.inl x3)] (jxSH, a0, b0)) (jQ_X11_mayGet x1 x2 x3 a0 b0) := by
  obtain ⟨d, rfl⟩ := jd_succ hd
  refine jt_eq (bq_X11_mayGet E d x1 x2 x3 a0 b0) ?_
  refine jt_eI (eq_X3_isThere E d (jd_le hd rfl) x2 a0 b0) ?_
  have h567_ := f_X3_isThere_eq a0 b0 x2
  have h568_ := f_X3_has_eq a0 b0 x2
  have h569_ := iv_get hv0 (k := 4) (j := 6) (l := 0) (u := 40) rfl
  refine jt_ite (fun c570_ => ?_) (fun c570_ => ?_)
  ·
    exact cp_X11_mayGet_69 E d hd x1 x2 x3 a0 b0 hv0
  ·
    refine jt_eI (eq_X3_areKin E d (jd_le hd rfl) x1 x2 a0 b0) ?_
    have h571_ := f_X3_areKin_bool a0 b0 x1 x2
    refine jt_ite (fun c572_ => ?_) (fun c572_ => ?_)
    ·
      have h573_ := jxlcmp_b (jxandl (jxshrl x3 x2) 1) 0
      refine jt_ite (fun c574_ => ?_) (fun c574_ => ?_)
      ·
        exact cp_X11_mayGet_33 E d hd x1 x2 x3 a0 b0 hv0 x1 x2 (show 0 ≤ x2 from by omega) (show x2 ≤ 39 from by omega)
      ·
        exact cp_X11_mayGet_69 E d hd x1 x2 x3 a0 b0 hv0
    ·
      exact cp_X11_mayGet_69 E d hd x1 x2 x3 a0 b0 hv0
abbrev jQ_X11_firstReceiver (x1 : Int) (a0 b0 : Nat → Nat → Int) : List jxV → (Nat → Nat → Int) → (Nat → Nat → Int) → Prop := rI (fun r a b => (a0 = a) ∧ (b0 = b))
theorem cp_X11_firstReceiver_15 (E : jxE) (d : Nat) (hd : Nat.ble 8 (d + 1) = true) (x1 : Int) (a0 b0 : Nat → Nat → Int) (hv0 : iv a0) : ∀ n : Nat, (∀ (y1 y2 y5 : Int), (((40 - y5) * 1) + 0).toNat ≤ n → 0 ≤ y5 → y5 ≤ 39 → jt (jxX E d 174 56 [some (.inr (.inr (.inl 0))), some (.inl y1), some (.inr (.inl y2)), none, none, some (.inl y5)] [] (jxSH, a0, b0)) (jQ_X11_firstReceiver x1 a0 b0)) ∧ (∀ (y1 y2 y4 y5 : Int), (((40 - y5) * 1) + 0).toNat ≤ n → 0 ≤ y4 → y4 ≤ 39 → 0 ≤ y5 → y5 ≤ 39 → jt (jxX E d 174 44 [some (.inr (.inr (.inl 0))), some (.inl y1), some (.inr (.inl y2)), none, some (.inl y4), some (.inl y5)] [] (jxSH, a0, b0)) (jQ_X11_firstReceiver x1 a0 b0)) ∧ (∀ (y1 y2 y4 y5 : Int), (((40 - y5) * 1) + 0).toNat ≤ n → 0 - 1 ≤ y4 → y4 ≤ 39 → 0 ≤ y5 → y5 ≤ 40 → jt (jxX E d 174 15 [some (.inr (.inr (.inl 0))), some (.inl y1), some (.inr (.inl y2)), none, some (.inl y4), some (.inl y5)] [] (jxSH, a0, b0)) (jQ_X11_firstReceiver x1 a0 b0)) := by
  refine jx_ind fun n ih => ?_
  have ih56 : ∀ (y1 y2 y5 : Int), (((40 - y5) * 1) + 0).toNat < n → 0 ≤ y5 → y5 ≤ 39 → jt (jxX E d 174 56 [some (.inr (.inr (.inl 0))), some (.inl y1), some (.inr (.inl y2)), none, none, some (.inl y5)] [] (jxSH, a0, b0)) (jQ_X11_firstReceiver x1 a0 b0) := fun y1 y2 y5 hlt i0 i1 => (ih _ hlt).1 y1 y2 y5 (Nat.le_refl _) i0 i1
  have ih44 : ∀ (y1 y2 y4 y5 : Int), (((40 - y5) * 1) + 0).toNat < n → 0 ≤ y4 → y4 ≤ 39 → 0 ≤ y5 → y5 ≤ 39 → jt (jxX E d 174 44 [some (.inr (.inr (.inl 0))), some (.inl y1), some (.inr (.inl y2)), none, some (.inl y4), some (.inl y5)] [] (jxSH, a0, b0)) (jQ_X11_firstReceiver x1 a0 b0) := fun y1 y2 y4 y5 hlt i0 i1 i2 i3 => (ih _ hlt).2.1 y1 y2 y4 y5 (Nat.le_refl _) i0 i1 i2 i3
  have ih15 : ∀ (y1 y2 y4 y5 : Int), (((40 - y5) * 1) + 0).toNat < n → 0 - 1 ≤ y4 → y4 ≤ 39 → 0 ≤ y5 → y5 ≤ 40 → jt (jxX E d 174 15 [some (.inr (.inr (.inl 0))), some (.inl y1), some (.inr (.inl y2)), none, some (.inl y4), some (.inl y5)] [] (jxSH, a0, b0)) (jQ_X11_firstReceiver x1 a0 b0) := fun y1 y2 y4 y5 hlt i0 i1 i2 i3 => (ih _ hlt).2.2 y1 y2 y4 y5 (Nat.le_refl _) i0 i1 i2 i3
  have hc56 : ∀ (y1 y2 y5 : Int), (((40 - y5) * 1) + 0).toNat ≤ n → 0 ≤ y5 → y5 ≤ 39 → jt (jxX E d 174 56 [some (.inr (.inr (.inl 0))), some (.inl y1), some (.inr (.inl y2)), none, none, some (.inl y5)] [] (jxSH, a0, b0)) (jQ_X11_firstReceiver x1 a0 b0) := by
    intro y1 y2 y5 hm hi0 hi1
    refine jt_eq (bq_X11_firstReceiver_56 E d y1 y2 y5 a0 b0) ?_
    have h575_ : jxw (y5 + 1) = y5 + 1 := jxw_id (by omega) (by omega)
    exact ih15 y1 y2 y5 (jxw (y5 + 1)) (show (((40 - (jxw (y5 + 1))) * 1) + 0).toNat < n from by omega) (show 0 - 1 ≤ y5 from by omega) (show y5 ≤ 39 from by omega) (show 0 ≤ jxw (y5 + 1) from by omega) (show jxw (y5 + 1) ≤ 40 from by omega)
  have hc44 : ∀ (y1 y2 y4 y5 : Int), (((40 - y5) * 1) + 0).toNat ≤ n → 0 ≤ y4 → y4 ≤ 39 → 0 ≤ y5 → y5 ≤ 39 → jt (jxX E d 174 44 [some (.inr (.inr (.inl 0))), some (.inl y1), some (.inr (.inl y2)), none, some (.inl y4), some (.inl y5)] [] (jxSH, a0, b0)) (jQ_X11_firstReceiver x1 a0 b0) := by
    intro y1 y2 y4 y5 hm hi0 hi1 hi2 hi3
    refine jt_eq (bq_X11_firstReceiver_44 E d y1 y2 y4 y5 a0 b0) ?_
    refine jt_bI (sp_X11_isAhead E d (jd_le hd rfl) y1 y5 y4 a0 b0 hv0) (fun r576_ a576_ b576_ h576_ => ?_)
    obtain ⟨rfl, rfl, hq576_0⟩ := h576_
    refine jt_ite (fun c577_ => ?_) (fun c577_ => ?_)
    ·
      have h578_ : jxw (y5 + 1) = y5 + 1 := jxw_id (by omega) (by omega)
      exact ih15 y1 y2 y4 (jxw (y5 + 1)) (show (((40 - (jxw (y5 + 1))) * 1) + 0).toNat < n from by omega) (show 0 - 1 ≤ y4 from by omega) (show y4 ≤ 39 from by omega) (show 0 ≤ jxw (y5 + 1) from by omega) (show jxw (y5 + 1) ≤ 40 from by omega)
    ·
      exact hc56 y1 y2 y5 (show (((40 - y5) * 1) + 0).toNat ≤ n from by omega) (show 0 ≤ y5 from by omega) (show y5 ≤ 39 from by omega)
  have hc15 : ∀ (y1 y2 y4 y5 : Int), (((40 - y5) * 1) + 0).toNat ≤ n → 0 - 1 ≤ y4 → y4 ≤ 39 → 0 ≤ y5 → y5 ≤ 40 → jt (jxX E d 174 15 [some (.inr (.inr (.inl 0))), some (.inl y1), some (.inr (.inl y2)), none, some (.inl y4), some (.inl y5)] [] (jxSH, a0, b0)) (jQ_X11_firstReceiver x1 a0 b0) := by
    intro y1 y2 y4 y5 hm hi0 hi1 hi2 hi3
    refine jt_eq (bq_X11_firstReceiver_15 E d y1 y2 y4 y5 a0 b0) ?_
    refine jt_eI (eq_X3_size E d (jd_le hd rfl) a0 b0) ?_
    have h579_ := f_X3_size_eq a0 b0
    have h580_ := iv_get hv0 (k := 4) (j := 6) (l := 0) (u := 40) rfl
    refine jt_ite (fun c581_ => ?_) (fun c581_ => ?_)
    ·
      refine jt_bI (sp_X11_mayGet E d (jd_le hd rfl) y1 y5 y2 a0 b0 hv0) (fun r582_ a582_ b582_ h582_ => ?_)
      obtain ⟨rfl, rfl, hq582_0⟩ := h582_
      refine jt_ite (fun c583_ => ?_) (fun c583_ => ?_)
      ·
        have h584_ : jxw (y5 + 1) = y5 + 1 := jxw_id (by omega) (by omega)
        exact ih15 y1 y2 y4 (jxw (y5 + 1)) (show (((40 - (jxw (y5 + 1))) * 1) + 0).toNat < n from by omega) (show 0 - 1 ≤ y4 from by omega) (show y4 ≤ 39 from by omega) (show 0 ≤ jxw (y5 + 1) from by omega) (show jxw (y5 + 1) ≤ 40 from by omega)
      ·
        refine jt_ite (fun c585_ => ?_) (fun c585_ => ?_)
        ·
          exact hc56 y1 y2 y5 (show (((40 - y5) * 1) + 0).toNat ≤ n from by omega) (show 0 ≤ y5 from by omega) (show y5 ≤ 39 from by omega)
        ·
          exact hc44 y1 y2 y4 y5 (show (((40 - y5) * 1) + 0).toNat ≤ n from by omega) (show 0 ≤ y4 from by omega) (show y4 ≤ 39 from by omega) (show 0 ≤ y5 from by omega) (show y5 ≤ 39 from by omega)
    ·
      exact jt_rI ⟨rfl, rfl⟩
  exact ⟨hc56, hc44, hc15⟩
theorem sp_X11_firstReceiver (E : jxE) (d : Nat) (hd : Nat.ble 8 d = true) (x1 : Int) (a0 b0 : Nat → Nat → Int) (hv0 : iv a0) : jt (jxC E d 174 [.inr (.inr (.inl 0)), .inl x1] (jxSH, a0, b0)) (jQ_X11_firstReceiver x1 a0 b0) := by
  obtain ⟨d, rfl⟩ := jd_succ hd
  refine jt_eq (bq_X11_firstReceiver E d x1 a0 b0) ?_
  refine jt_bJ (sp_X0_reachedBy E d (jd_le hd rfl) x1 a0 b0 hv0) (fun r586_ a586_ b586_ h586_ => ?_)
  obtain ⟨rfl, rfl⟩ := h586_
  exact (cp_X11_firstReceiver_15 E d hd x1 a0 b0 hv0 _).2.2 x1 r586_ (-1) 0 (Nat.le_refl _) (show 0 - 1 ≤ (-1) from by omega) (show (-1) ≤ 39 from by omega) (show 0 ≤ 0 from by omega) (show 0 ≤ 40 from by omega)
def jW_X11_send : List (Nat × Nat) := [(58, 8), (58, 13), (58, 14), (58, 15), (59, 9999), (60, 9999), (61, 9999), (62, 9999), (63, 9999), (64, 9999), (65, 9999)]
abbrev jQ_X11_send (x1 x2 x3 : Int) (a0 b0 : Nat → Nat → Int) : List jxV → (Nat → Nat → Int) → (Nat → Nat → Int) → Prop := rI (fun r a b => (iv a) ∧ (jfr jW_X11_send a0 a) ∧ (b0 = b))
theorem cp_X11_send_32 (E : jxE) (d : Nat) (hd : Nat.ble 5 (d + 1) = true) (x1 x2 x3 : Int) (a0 b0 : Nat → Nat → Int) (hv0 : iv a0) : ∀ (y1 y2 y3 y4 : Int) (a : Nat → Nat → Int), iv a → jfr jW_X11_send a0 a → jt (jxX E d 176 32 [some (.inr (.inr (.inl 0))), some (.inl y1), some (.inl y2), some (.inl y3), some (.inl y4)] [] (jxSH, a, b0)) (jQ_X11_send x1 x2 x3 a0 b0) := by
  intro y1 y2 y3 y4 a hv hf
  refine jt_eq (bq_X11_send_32 E d y1 y2 y3 y4 a b0) ?_
  refine jt_bI (sp_X0_add E d (jd_le hd rfl) y1 y2 (a 0 0) y4 y3 a b0 hv) (fun r587_ a587_ b587_ h587_ => ?_)
  obtain ⟨hv587_, hf587_, rfl⟩ := h587_
  have hf588_ : jfr jW_X11_send a0 a587_ := jfr_tr hf hf587_ rfl
  exact jt_rI ⟨hv587_, hf588_, rfl⟩
theorem sp_X11_send (E : jxE) (d : Nat) (hd : Nat.ble 5 d = true) (x1 x2 x3 : Int) (a0 b0 : Nat → Nat → Int) (hv0 : iv a0) : jt (jxC E d 176 [.inr (.inr (.inl 0)), .inl x1, .inl x2, .inl x3] (jxSH, a0, b0)) (jQ_X11_send x1 x2 x3 a0 b0) := by
  obtain ⟨d, rfl⟩ := jd_succ hd
  refine jt_eq (bq_X11_send E d x1 x2 x3 a0 b0) ?_
  refine jt_eI (eq_X3_landOf E d (jd_le hd rfl) x1 a0 b0) ?_
  refine jt_eI (eq_X3_landOf E d (jd_le hd rfl) x2 a0 b0) ?_
  refine jt_eI (eq_X6_lost E d (jd_le hd rfl) a0 b0) ?_
  refine jt_bI (sp_X0_boundBetween E d (jd_le hd rfl) (f_X3_landOf a0 b0 x1) (f_X3_landOf a0 b0 x2) (f_X6_lost a0 b0) a0 b0 hv0) (fun r589_ a589_ b589_ h589_ => ?_)
  obtain ⟨hv589_, hf589_, rfl⟩ := h589_
  have hf590_ : jfr jW_X11_send a0 a589_ := jfr_tr (jfr_rf _ _) hf589_ rfl
  exact cp_X11_send_32 E d hd x1 x2 x3 a0 b0 hv0 x1 x2 x3 r589_ a589_ hv589_ hf590_
def jW_X11_ask : List (Nat × Nat) := [(58, 8), (58, 13), (58, 14), (58, 15), (59, 9999), (60, 9999), (61, 9999), (62, 9999), (63, 9999), (64, 9999), (65, 9999), (70, 9999), (71, 9999), (72, 9999), (73, 9999), (74, 9999), (75, 9999)]
abbrev jQ_X11_ask (x1 : Int) (a0 b0 : Nat → Nat → Int) : List jxV → (Nat → Nat → Int) → (Nat → Nat → Int) → Prop := rI (fun r a b => (iv a) ∧ (jfr jW_X11_ask a0 a) ∧ (b0 = b) ∧ ((a0 4 6 = 0 → r = 0 - 1)))
theorem cp_X11_ask_39 (E : jxE) (d : Nat) (hd : Nat.ble 9 (d + 1) = true) (x1 : Int) (a0 b0 : Nat → Nat → Int) (hv0 : iv a0) : ∀ (y1 : Int) (a : Nat → Nat → Int), iv a → jfr jW_X11_ask a0 a → 0 ≤ y1 → y1 ≤ 39 → 1 ≤ a0 4 6 → jt (jxX E d 165 39 [some (.inr (.inr (.inl 0))), some (.inl y1), none] [] (jxSH, a, b0)) (jQ_X11_ask x1 a0 b0) := by
  intro y1 a hv hf hi0 hi1 hi2
  refine jt_eq (bq_X11_ask_39 E d y1 a b0) ?_
  have h591_ := iv_get hv0 (k := 4) (j := 6) (l := 0) (u := 40) rfl
  refine jt_eI (eq_X11_mayAsk E d (jd_le hd rfl) y1 a b0) ?_
  have h592_ := f_X11_mayAsk_bool a b0 y1
  refine jt_ite (fun c593_ => ?_) (fun c593_ => ?_)
  ·
    exact jt_rI ⟨hv, hf, rfl, (show (a0 4 6 = 0 → (-2) = 0 - 1) from by omega)⟩
  ·
    refine jt_bI (sp_X11_firstReceiver E d (jd_le hd rfl) y1 a b0 hv) (fun r594_ a594_ b594_ h594_ => ?_)
    obtain ⟨rfl, rfl⟩ := h594_
    refine jt_ite (fun c595_ => ?_) (fun c595_ => ?_)
    ·
      exact jt_rI ⟨hv, hf, rfl, (show (a0 4 6 = 0 → (-3) = 0 - 1) from by omega)⟩
    ·
      refine jt_bI (sp_X11_send E d (jd_le hd rfl) y1 r594_ (-1) a b0 hv) (fun r596_ a596_ b596_ h596_ => ?_)
      obtain ⟨hv596_, hf596_, rfl⟩ := h596_
      have hf597_ : jfr jW_X11_ask a0 a596_ := jfr_tr hf hf596_ rfl
      exact jt_rI ⟨hv596_, hf597_, rfl, (show (a0 4 6 = 0 → r596_ = 0 - 1) from by omega)⟩
theorem sp_X11_ask (E : jxE) (d : Nat) (hd : Nat.ble 9 d = true) (x1 : Int) (a0 b0 : Nat → Nat → Int) (hv0 : iv a0) : jt (jxC E d 165 [.inr (.inr (.inl 0)), .inl x1] (jxSH, a0, b0)) (jQ_X11_ask x1 a0 b0) := by
  obtain ⟨d, rfl⟩ := jd_succ hd
  refine jt_eq (bq_X11_ask E d x1 a0 b0) ?_
  refine jt_eI (eq_X3_has E d (jd_le hd rfl) x1 a0 b0) ?_
  have h598_ := f_X3_has_eq a0 b0 x1
  have h599_ := iv_get hv0 (k := 4) (j := 6) (l := 0) (u := 40) rfl
  refine jt_ite (fun c600_ => ?_) (fun c600_ => ?_)
  ·
    exact jt_rI ⟨hv0, (jfr_rf _ _), rfl, (show (a0 4 6 = 0 → (-1) = 0 - 1) from by omega)⟩
  ·
    refine jt_eI (eq_X0_hasRoom E d (jd_le hd rfl) 1 a0 b0) ?_
    have h601_ := f_X0_hasRoom_eq a0 b0 1
    have h602_ := iv_get hv0 (k := 58) (j := 8) (l := 0) (u := 300) rfl
    have h603_ : jxw (300 - (a0 58 8)) = 300 - (a0 58 8) := jxw_id (by omega) (by omega)
    refine jt_ite (fun c604_ => ?_) (fun c604_ => ?_)
    ·
      exact jt_rI ⟨hv0, (jfr_rf _ _), rfl, (show (a0 4 6 = 0 → (-1) = 0 - 1) from by omega)⟩
    ·
      refine jt_bV (sp_X7_take_r58 E d (jd_le hd rfl) (a0 0 0) a0 b0 hv0) (fun a605_ b605_ h605_ => ?_)
      obtain ⟨hv605_, hf605_, rfl⟩ := h605_
      have hf606_ : jfr jW_X11_ask a0 a605_ := jfr_tr (jfr_rf _ _) hf605_ rfl
      exact cp_X11_ask_39 E d hd x1 a0 b0 hv0 x1 a605_ hv605_ hf606_ (show 0 ≤ x1 from by omega) (show x1 ≤ 39 from by omega) (show 1 ≤ a0 4 6 from by omega)
def jW_X4_takeAway : List (Nat × Nat) := [(87, 9999), (88, 9999), (89, 9999)]
abbrev jQ_X4_takeAway (x1 : Int) (a0 b0 : Nat → Nat → Int) : List jxV → (Nat → Nat → Int) → (Nat → Nat → Int) → Prop := rV (fun a b => (iv a) ∧ (jfr jW_X4_takeAway a0 a) ∧ (b0 = b))
theorem cp_X4_takeAway_22 (E : jxE) (d : Nat) (hd : Nat.ble 2 (d + 1) = true) (x1 : Int) (a0 b0 : Nat → Nat → Int) (hv0 : iv a0) : ∀ (y1 : Int) (a : Nat → Nat → Int), iv a → jfr jW_X4_takeAway a0 a → 0 ≤ y1 → y1 ≤ 19 → jt (jxX E d 69 22 [some (.inr (.inr (.inl 83))), some (.inl y1)] [] (jxSH, a, b0)) (jQ_X4_takeAway x1 a0 b0) := by
  intro y1 a hv hf hi0 hi1
  refine jt_eq (bq_X4_takeAway_22 E d y1 a b0) ?_
  refine jt_grd (by omega) ?_
  have hv607_ : iv (jxu a 89 (y1.toNat) (-1)) := iv_putf hv rfl
  have hf608_ : jfr jW_X4_takeAway a0 (jxu a 89 (y1.toNat) (-1)) := jfr_put hf rfl
  exact jt_rV ⟨hv607_, hf608_, rfl⟩
theorem sp_X4_takeAway (E : jxE) (d : Nat) (hd : Nat.ble 2 d = true) (x1 : Int) (a0 b0 : Nat → Nat → Int) (hv0 : iv a0) : jt (jxC E d 69 [.inr (.inr (.inl 83)), .inl x1] (jxSH, a0, b0)) (jQ_X4_takeAway x1 a0 b0) := by
  obtain ⟨d, rfl⟩ := jd_succ hd
  refine jt_eq (bq_X4_takeAway E d x1 a0 b0) ?_
  refine jt_eI (eq_X4_has E d (jd_le hd rfl) x1 a0 b0) ?_
  have h609_ := f_X4_has_eq a0 b0 x1
  have h610_ := iv_get hv0 (k := 83) (j := 6) (l := 0) (u := 20) rfl
  refine jt_ite (fun c611_ => ?_) (fun c611_ => ?_)
  ·
    exact jt_rV ⟨hv0, (jfr_rf _ _), rfl⟩
  ·
    refine jt_grd (by omega) ?_
    refine jt_grd (by omega) ?_
    have hv612_ : iv (jxu a0 87 (x1.toNat) 2) := iv_putf hv0 rfl
    have hv613_ : iv (jxu (jxu a0 87 (x1.toNat) 2) 88 (x1.toNat) (-1)) := iv_putf hv612_ rfl
    have hf614_ : jfr jW_X4_takeAway a0 (jxu a0 87 (x1.toNat) 2) := jfr_put (jfr_rf _ _) rfl
    have hf615_ : jfr jW_X4_takeAway a0 (jxu (jxu a0 87 (x1.toNat) 2) 88 (x1.toNat) (-1)) := jfr_put hf614_ rfl
    exact cp_X4_takeAway_22 E d hd x1 a0 b0 hv0 x1 (jxu (jxu a0 87 (x1.toNat) 2) 88 (x1.toNat) (-1)) hv613_ hf615_ (show 0 ≤ x1 from by omega) (show x1 ≤ 19 from by omega)
def jW_X11_away : List (Nat × Nat) := [(87, 9999), (88, 9999), (89, 9999)]
abbrev jQ_X11_away (x1 : Int) (a0 b0 : Nat → Nat → Int) : List jxV → (Nat → Nat → Int) → (Nat → Nat → Int) → Prop := rI (fun r a b => (iv a) ∧ (jfr jW_X11_away a0 a) ∧ (b0 = b) ∧ ((0 ≤ r ∧ r ≤ 1)) ∧ ((a0 83 6 = 0 → r = 0)))
theorem sp_X11_away (E : jxE) (d : Nat) (hd : Nat.ble 3 d = true) (x1 : Int) (a0 b0 : Nat → Nat → Int) (hv0 : iv a0) : jt (jxC E d 185 [.inr (.inr (.inl 0)), .inl x1] (jxSH, a0, b0)) (jQ_X11_away x1 a0 b0) := by
  obtain ⟨d, rfl⟩ := jd_succ hd
  refine jt_eq (bq_X11_away E d x1 a0 b0) ?_
  refine jt_eI (eq_X4_isOpen E d (jd_le hd rfl) x1 a0 b0) ?_
  have h616_ := f_X4_isOpen_eq a0 b0 x1
  have h617_ := f_X4_has_eq a0 b0 x1
  have h618_ := iv_get hv0 (k := 83) (j := 6) (l := 0) (u := 20) rfl
  refine jt_ite (fun c619_ => ?_) (fun c619_ => ?_)
  ·
    exact jt_rI ⟨hv0, (jfr_rf _ _), rfl, (show (0 ≤ 0 ∧ 0 ≤ 1) from by omega), (show (a0 83 6 = 0 → 0 = 0) from by omega)⟩
  ·
    refine jt_bV (sp_X4_takeAway E d (jd_le hd rfl) x1 a0 b0 hv0) (fun a620_ b620_ h620_ => ?_)
    obtain ⟨hv620_, hf620_, rfl⟩ := h620_
    have hf621_ : jfr jW_X11_away a0 a620_ := jfr_tr (jfr_rf _ _) hf620_ rfl
    exact jt_rI ⟨hv620_, hf621_, rfl, (show (0 ≤ 1 ∧ 1 ≤ 1) from by omega), (show (a0 83 6 = 0 → 1 = 0) from by omega)⟩
def jW_X11_back : List (Nat × Nat) := [(58, 12), (65, 9999), (66, 9999), (67, 9999), (68, 9999)]
abbrev jQ_X11_back (x1 : Int) (a0 b0 : Nat → Nat → Int) : List jxV → (Nat → Nat → Int) → (Nat → Nat → Int) → Prop := rI (fun r a b => (iv a) ∧ (jfr jW_X11_back a0 a) ∧ (b0 = b) ∧ ((0 ≤ r ∧ r ≤ 1)) ∧ ((a0 58 8 = 0 → r = 0)))
theorem sp_X11_back (E : jxE) (d : Nat) (hd : Nat.ble 4 d = true) (x1 : Int) (a0 b0 : Nat → Nat → Int) (hv0 : iv a0) : jt (jxC E d 178 [.inr (.inr (.inl 0)), .inl x1] (jxSH, a0, b0)) (jQ_X11_back x1 a0 b0) := by
  obtain ⟨d, rfl⟩ := jd_succ hd
  refine jt_eq (bq_X11_back E d x1 a0 b0) ?_
  refine jt_bI (sp_X0_takeBack E d (jd_le hd rfl) x1 (a0 0 0) a0 b0 hv0) (fun r622_ a622_ b622_ h622_ => ?_)
  obtain ⟨hv622_, hf622_, rfl, hq622_0, hq622_1⟩ := h622_
  have h623_ := iv_get hv0 (k := 58) (j := 8) (l := 0) (u := 300) rfl
  refine jt_grd (by omega) ?_
  have hf624_ : jfr jW_X11_back a0 a622_ := jfr_tr (jfr_rf _ _) hf622_ rfl
  exact jt_rI ⟨hv622_, hf624_, rfl, (show (0 ≤ r622_ ∧ r622_ ≤ 1) from by omega), (show (a0 58 8 = 0 → r622_ = 0) from by omega)⟩
def jW_X3_addCredit : List (Nat × Nat) := [(9, 9999)]
abbrev jQ_X3_addCredit (x1 : Int) (a0 b0 : Nat → Nat → Int) : List jxV → (Nat → Nat → Int) → (Nat → Nat → Int) → Prop := rV (fun a b => (iv a) ∧ (jfr jW_X3_addCredit a0 a) ∧ (b0 = b))
theorem sp_X3_addCredit (E : jxE) (d : Nat) (hd : Nat.ble 2 d = true) (x1 : Int) (a0 b0 : Nat → Nat → Int) (hv0 : iv a0) : jt (jxC E d 56 [.inr (.inr (.inl 4)), .inl x1] (jxSH, a0, b0)) (jQ_X3_addCredit x1 a0 b0) := by
  obtain ⟨d, rfl⟩ := jd_succ hd
  refine jt_eq (bq_X3_addCredit E d x1 a0 b0) ?_
  refine jt_eI (eq_X3_has E d (jd_le hd rfl) x1 a0 b0) ?_
  have h625_ := f_X3_has_eq a0 b0 x1
  have h626_ := iv_get hv0 (k := 4) (j := 6) (l := 0) (u := 40) rfl
  refine jt_ite (fun c627_ => ?_) (fun c627_ => ?_)
  ·
    exact jt_rV ⟨hv0, (jfr_rf _ _), rfl⟩
  ·
    refine jt_grd (by omega) ?_
    refine jt_grd (by omega) ?_
    have hv628_ : iv (jxu a0 9 (x1.toNat) (jxw ((a0 9 (x1.toNat)) + 1))) := iv_putf hv0 rfl
    have hf629_ : jfr jW_X3_addCredit a0 (jxu a0 9 (x1.toNat) (jxw ((a0 9 (x1.toNat)) + 1))) := jfr_put (jfr_rf _ _) rfl
    exact jt_rV ⟨hv628_, hf629_, rfl⟩
def jW_X11_cancelCardsTo : List (Nat × Nat) := [(9, 9999), (64, 9999)]
abbrev jQ_X11_cancelCardsTo (x1 : Int) (a0 b0 : Nat → Nat → Int) : List jxV → (Nat → Nat → Int) → (Nat → Nat → Int) → Prop := rI (fun r a b => (iv a) ∧ (jfr jW_X11_cancelCardsTo a0 a) ∧ (b0 = b))
theorem cp_X11_cancelCardsTo_4 (E : jxE) (d : Nat) (hd : Nat.ble 4 (d + 1) = true) (x1 : Int) (a0 b0 : Nat → Nat → Int) (hv0 : iv a0) : ∀ n : Nat, (∀ (y1 y2 y3 : Int) (a : Nat → Nat → Int), (((300 - y3) * 1) + 0).toNat ≤ n → iv a → jfr jW_X11_cancelCardsTo a0 a → 0 ≤ y3 → y3 ≤ 299 → jt (jxX E d 158 72 [some (.inr (.inr (.inl 0))), some (.inl y1), some (.inl y2), some (.inl y3)] [] (jxSH, a, b0)) (jQ_X11_cancelCardsTo x1 a0 b0)) ∧ (∀ (y1 y2 y3 : Int) (a : Nat → Nat → Int), (((300 - y3) * 1) + 0).toNat ≤ n → iv a → jfr jW_X11_cancelCardsTo a0 a → 0 ≤ y3 → y3 ≤ 299 → jt (jxX E d 158 42 [some (.inr (.inr (.inl 0))), some (.inl y1), some (.inl y2), some (.inl y3)] [] (jxSH, a, b0)) (jQ_X11_cancelCardsTo x1 a0 b0)) ∧ (∀ (y1 y2 y3 : Int) (a : Nat → Nat → Int), (((300 - y3) * 1) + 0).toNat ≤ n → iv a → jfr jW_X11_cancelCardsTo a0 a → 0 ≤ y3 → y3 ≤ 300 → jt (jxX E d 158 4 [some (.inr (.inr (.inl 0))), some (.inl y1), some (.inl y2), some (.inl y3)] [] (jxSH, a, b0)) (jQ_X11_cancelCardsTo x1 a0 b0)) := by
  refine jx_ind fun n ih => ?_
  have ih72 : ∀ (y1 y2 y3 : Int) (a : Nat → Nat → Int), (((300 - y3) * 1) + 0).toNat < n → iv a → jfr jW_X11_cancelCardsTo a0 a → 0 ≤ y3 → y3 ≤ 299 → jt (jxX E d 158 72 [some (.inr (.inr (.inl 0))), some (.inl y1), some (.inl y2), some (.inl y3)] [] (jxSH, a, b0)) (jQ_X11_cancelCardsTo x1 a0 b0) := fun y1 y2 y3 a hlt i0 i1 i2 i3 => (ih _ hlt).1 y1 y2 y3 a (Nat.le_refl _) i0 i1 i2 i3
  have ih42 : ∀ (y1 y2 y3 : Int) (a : Nat → Nat → Int), (((300 - y3) * 1) + 0).toNat < n → iv a → jfr jW_X11_cancelCardsTo a0 a → 0 ≤ y3 → y3 ≤ 299 → jt (jxX E d 158 42 [some (.inr (.inr (.inl 0))), some (.inl y1), some (.inl y2), some (.inl y3)] [] (jxSH, a, b0)) (jQ_X11_cancelCardsTo x1 a0 b0) := fun y1 y2 y3 a hlt i0 i1 i2 i3 => (ih _ hlt).2.1 y1 y2 y3 a (Nat.le_refl _) i0 i1 i2 i3
  have ih4 : ∀ (y1 y2 y3 : Int) (a : Nat → Nat → Int), (((300 - y3) * 1) + 0).toNat < n → iv a → jfr jW_X11_cancelCardsTo a0 a → 0 ≤ y3 → y3 ≤ 300 → jt (jxX E d 158 4 [some (.inr (.inr (.inl 0))), some (.inl y1), some (.inl y2), some (.inl y3)] [] (jxSH, a, b0)) (jQ_X11_cancelCardsTo x1 a0 b0) := fun y1 y2 y3 a hlt i0 i1 i2 i3 => (ih _ hlt).2.2 y1 y2 y3 a (Nat.le_refl _) i0 i1 i2 i3
  have hc72 : ∀ (y1 y2 y3 : Int) (a : Nat → Nat → Int), (((300 - y3) * 1) + 0).toNat ≤ n → iv a → jfr jW_X11_cancelCardsTo a0 a → 0 ≤ y3 → y3 ≤ 299 → jt (jxX E d 158 72 [some (.inr (.inr (.inl 0))), some (.inl y1), some (.inl y2), some (.inl y3)] [] (jxSH, a, b0)) (jQ_X11_cancelCardsTo x1 a0 b0) := by
    intro y1 y2 y3 a hm hv hf hi0 hi1
    refine jt_eq (bq_X11_cancelCardsTo_72 E d y1 y2 y3 a b0) ?_
    have h630_ : jxw (y3 + 1) = y3 + 1 := jxw_id (by omega) (by omega)
    exact ih4 y1 y2 (jxw (y3 + 1)) a (show (((300 - (jxw (y3 + 1))) * 1) + 0).toNat < n from by omega) hv hf (show 0 ≤ jxw (y3 + 1) from by omega) (show jxw (y3 + 1) ≤ 300 from by omega)
  have hc42 : ∀ (y1 y2 y3 : Int) (a : Nat → Nat → Int), (((300 - y3) * 1) + 0).toNat ≤ n → iv a → jfr jW_X11_cancelCardsTo a0 a → 0 ≤ y3 → y3 ≤ 299 → jt (jxX E d 158 42 [some (.inr (.inr (.inl 0))), some (.inl y1), some (.inl y2), some (.inl y3)] [] (jxSH, a, b0)) (jQ_X11_cancelCardsTo x1 a0 b0) := by
    intro y1 y2 y3 a hm hv hf hi0 hi1
    refine jt_eq (bq_X11_cancelCardsTo_42 E d y1 y2 y3 a b0) ?_
    refine jt_bV (sp_X0_cancel E d (jd_le hd rfl) y3 (a 0 0) a b0 hv) (fun a631_ b631_ h631_ => ?_)
    obtain ⟨hv631_, hf631_, rfl⟩ := h631_
    refine jt_eI (eq_X0_fromOf E d (jd_le hd rfl) y3 a631_ b0) ?_
    refine jt_bV (sp_X3_addCredit E d (jd_le hd rfl) (f_X0_fromOf a631_ b0 y3) a631_ b0 hv631_) (fun a632_ b632_ h632_ => ?_)
    obtain ⟨hv632_, hf632_, rfl⟩ := h632_
    have hf633_ : jfr jW_X11_cancelCardsTo a0 a631_ := jfr_tr hf hf631_ rfl
    have hf634_ : jfr jW_X11_cancelCardsTo a0 a632_ := jfr_tr hf633_ hf632_ rfl
    exact hc72 y1 (jxw (y2 + 1)) y3 a632_ (show (((300 - y3) * 1) + 0).toNat ≤ n from by omega) hv632_ hf634_ (show 0 ≤ y3 from by omega) (show y3 ≤ 299 from by omega)
  have hc4 : ∀ (y1 y2 y3 : Int) (a : Nat → Nat → Int), (((300 - y3) * 1) + 0).toNat ≤ n → iv a → jfr jW_X11_cancelCardsTo a0 a → 0 ≤ y3 → y3 ≤ 300 → jt (jxX E d 158 4 [some (.inr (.inr (.inl 0))), some (.inl y1), some (.inl y2), some (.inl y3)] [] (jxSH, a, b0)) (jQ_X11_cancelCardsTo x1 a0 b0) := by
    intro y1 y2 y3 a hm hv hf hi0 hi1
    refine jt_eq (bq_X11_cancelCardsTo_4 E d y1 y2 y3 a b0) ?_
    refine jt_eI (eq_X0_size E d (jd_le hd rfl) a b0) ?_
    have h635_ := f_X0_size_eq a b0
    have h636_ := iv_get hv (k := 58) (j := 8) (l := 0) (u := 300) rfl
    have h637_ : a 58 8 = a0 58 8 := hf 58 8 rfl
    have h638_ := iv_get hv0 (k := 58) (j := 8) (l := 0) (u := 300) rfl
    refine jt_ite (fun c639_ => ?_) (fun c639_ => ?_)
    ·
      refine jt_eI (eq_X0_toOf E d (jd_le hd rfl) y3 a b0) ?_
      have h640_ := f_X0_toOf_eq a b0 y3
      have h641_ := f_X11_entry_r60_eq a b0 (a 58 8) y3
      have h642_ : a 60 (y3.toNat) = a0 60 (y3.toNat) := hf 60 (y3.toNat) rfl
      refine jt_ite (fun c643_ => ?_) (fun c643_ => ?_)
      ·
        refine jt_eI (eq_X0_stateNow E d (jd_le hd rfl) y3 (a 0 0) a b0) ?_
        have h644_ := iv_get hv (k := 0) (j := 0) (l := 0) (u := 1999) rfl
        have h645_ : a 0 0 = a0 0 0 := hf 0 0 rfl
        have h646_ := iv_get hv0 (k := 0) (j := 0) (l := 0) (u := 1999) rfl
        have h647_ := f_X0_stateNow_eq a b0 y3 (a 0 0)
        have h648_ := f_X0_arrivedOnOf_eq a b0 y3
        have h649_ := iv_get hv (k := 58) (j := 12) (l := 0) (u := 600) rfl
        have h650_ : a 58 12 = a0 58 12 := hf 58 12 rfl
        have h651_ := iv_get hv0 (k := 58) (j := 12) (l := 0) (u := 600) rfl
        have h652_ := f_X11_entry_r65_eq a b0 (a 58 8) y3
        have h653_ : a 65 (y3.toNat) = a0 65 (y3.toNat) := hf 65 (y3.toNat) rfl
        have h654_ := f_X11_entry_r67_eq a b0 (a 58 12) (f_X11_entry_r65 a b0 (a 58 8) y3)
        have h655_ : a 67 ((f_X11_entry_r65 a b0 (a 58 8) y3).toNat) = a0 67 ((f_X11_entry_r65 a b0 (a 58 8) y3).toNat) := hf 67 ((f_X11_entry_r65 a b0 (a 58 8) y3).toNat) rfl
        refine jt_ite (fun c656_ => ?_) (fun c656_ => ?_)
        ·
          exact hc42 y1 y2 y3 a (show (((300 - y3) * 1) + 0).toNat ≤ n from by omega) hv hf (show 0 ≤ y3 from by omega) (show y3 ≤ 299 from by omega)
        ·
          exact hc72 y1 y2 y3 a (show (((300 - y3) * 1) + 0).toNat ≤ n from by omega) hv hf (show 0 ≤ y3 from by omega) (show y3 ≤ 299 from by omega)
      ·
        exact hc72 y1 y2 y3 a (show (((300 - y3) * 1) + 0).toNat ≤ n from by omega) hv hf (show 0 ≤ y3 from by omega) (show y3 ≤ 299 from by omega)
    ·
      exact jt_rI ⟨hv, hf, rfl⟩
  exact ⟨hc72, hc42, hc4⟩
theorem sp_X11_cancelCardsTo (E : jxE) (d : Nat) (hd : Nat.ble 4 d = true) (x1 : Int) (a0 b0 : Nat → Nat → Int) (hv0 : iv a0) : jt (jxC E d 158 [.inr (.inr (.inl 0)), .inl x1] (jxSH, a0, b0)) (jQ_X11_cancelCardsTo x1 a0 b0) := by
  obtain ⟨d, rfl⟩ := jd_succ hd
  refine jt_eq (bq_X11_cancelCardsTo E d x1 a0 b0) ?_
  exact (cp_X11_cancelCardsTo_4 E d hd x1 a0 b0 hv0 _).2.2 x1 0 0 a0 (Nat.le_refl _) hv0 (jfr_rf _ _) (show 0 ≤ 0 from by omega) (show 0 ≤ 300 from by omega)
def jW_X11_clock : List (Nat × Nat) := [(0, 0)]
abbrev jQ_X11_clock (x1 : Int) (a0 b0 : Nat → Nat → Int) : List jxV → (Nat → Nat → Int) → (Nat → Nat → Int) → Prop := rI (fun r a b => (iv a) ∧ (jfr jW_X11_clock a0 a) ∧ (b0 = b) ∧ ((0 ≤ r ∧ r ≤ 1)) ∧ (((((r = 1 ∧ a0 0 0 ≤ x1) ∧ x1 ≤ 1999) ∧ a 0 0 = x1) ∨ ((r = 0 ∧ (x1 < a0 0 0 ∨ 1999 < x1)) ∧ a 0 0 = a0 0 0))))
theorem sp_X11_clock (E : jxE) (d : Nat) (hd : Nat.ble 3 d = true) (x1 : Int) (a0 b0 : Nat → Nat → Int) (hv0 : iv a0) : jt (jxC E d 154 [.inr (.inr (.inl 0)), .inl x1] (jxSH, a0, b0)) (jQ_X11_clock x1 a0 b0) := by
  obtain ⟨d, rfl⟩ := jd_succ hd
  refine jt_eq (bq_X11_clock E d x1 a0 b0) ?_
  refine jt_eI (eq_X11_isDay E d (jd_le hd rfl) x1 a0 b0) ?_
  have h657_ := f_X11_isDay_eq a0 b0 x1
  have h658_ := f_X11_within_eq a0 b0 x1 0 1999
  refine jt_ite (fun c659_ => ?_) (fun c659_ => ?_)
  ·
    have h660_ := iv_get hv0 (k := 0) (j := 0) (l := 0) (u := 1999) rfl
    exact jt_rI ⟨hv0, (jfr_rf _ _), rfl, (show (0 ≤ 0 ∧ 0 ≤ 1) from by omega), (show ((((0 = 1 ∧ a0 0 0 ≤ x1) ∧ x1 ≤ 1999) ∧ a0 0 0 = x1) ∨ ((0 = 0 ∧ (x1 < a0 0 0 ∨ 1999 < x1)) ∧ a0 0 0 = a0 0 0)) from by omega)⟩
  ·
    have h661_ := iv_get hv0 (k := 0) (j := 0) (l := 0) (u := 1999) rfl
    refine jt_ite (fun c662_ => ?_) (fun c662_ => ?_)
    ·
      exact jt_rI ⟨hv0, (jfr_rf _ _), rfl, (show (0 ≤ 0 ∧ 0 ≤ 1) from by omega), (show ((((0 = 1 ∧ a0 0 0 ≤ x1) ∧ x1 ≤ 1999) ∧ a0 0 0 = x1) ∨ ((0 = 0 ∧ (x1 < a0 0 0 ∨ 1999 < x1)) ∧ a0 0 0 = a0 0 0)) from by omega)⟩
    ·
      have hv663_ : iv (jxu a0 0 0 x1) := iv_put hv0 (l := 0) (u := 1999) rfl (by omega) (by omega)
      have hf664_ : jfr jW_X11_clock a0 (jxu a0 0 0 x1) := jfr_put (jfr_rf _ _) rfl
      exact jt_rI ⟨hv663_, hf664_, rfl, (show (0 ≤ 1 ∧ 1 ≤ 1) from by omega), (show ((((1 = 1 ∧ a0 0 0 ≤ x1) ∧ x1 ≤ 1999) ∧ x1 = x1) ∨ ((1 = 0 ∧ (x1 < a0 0 0 ∨ 1999 < x1)) ∧ x1 = a0 0 0)) from by omega)⟩
def jW_X4_addRing : List (Nat × Nat) := [(83, 7)]
abbrev jQ_X4_addRing (a0 b0 : Nat → Nat → Int) : List jxV → (Nat → Nat → Int) → (Nat → Nat → Int) → Prop := rI (fun r a b => (iv a) ∧ (jfr jW_X4_addRing a0 a) ∧ (b0 = b))
theorem sp_X4_addRing (E : jxE) (d : Nat) (hd : Nat.ble 1 d = true) (a0 b0 : Nat → Nat → Int) (hv0 : iv a0) : jt (jxC E d 67 [.inr (.inr (.inl 83))] (jxSH, a0, b0)) (jQ_X4_addRing a0 b0) := by
  obtain ⟨d, rfl⟩ := jd_succ hd
  refine jt_eq (bq_X4_addRing E d a0 b0) ?_
  have hv665_ : iv (jxu a0 83 7 (jxw ((a0 83 7) + 1))) := iv_putf hv0 rfl
  have hf666_ : jfr jW_X4_addRing a0 (jxu a0 83 7 (jxw ((a0 83 7) + 1))) := jfr_put (jfr_rf _ _) rfl
  exact jt_rI ⟨hv665_, hf666_, rfl⟩
def jW_X4_joinRing : List (Nat × Nat) := [(87, 9999), (88, 9999), (89, 9999)]
abbrev jQ_X4_joinRing (x1 x2 x3 : Int) (a0 b0 : Nat → Nat → Int) : List jxV → (Nat → Nat → Int) → (Nat → Nat → Int) → Prop := rV (fun a b => (iv a) ∧ (jfr jW_X4_joinRing a0 a) ∧ (b0 = b))
theorem cp_X4_joinRing_22 (E : jxE) (d : Nat) (hd : Nat.ble 2 (d + 1) = true) (x1 x2 x3 : Int) (a0 b0 : Nat → Nat → Int) (hv0 : iv a0) : ∀ (y1 y3 : Int) (a : Nat → Nat → Int), iv a → jfr jW_X4_joinRing a0 a → 0 ≤ y1 → y1 ≤ 19 → jt (jxX E d 68 22 [some (.inr (.inr (.inl 83))), some (.inl y1), none, some (.inl y3)] [] (jxSH, a, b0)) (jQ_X4_joinRing x1 x2 x3 a0 b0) := by
  intro y1 y3 a hv hf hi0 hi1
  refine jt_eq (bq_X4_joinRing_22 E d y1 y3 a b0) ?_
  refine jt_grd (by omega) ?_
  have hv667_ : iv (jxu a 89 (y1.toNat) y3) := iv_putf hv rfl
  have hf668_ : jfr jW_X4_joinRing a0 (jxu a 89 (y1.toNat) y3) := jfr_put hf rfl
  exact jt_rV ⟨hv667_, hf668_, rfl⟩
theorem sp_X4_joinRing (E : jxE) (d : Nat) (hd : Nat.ble 2 d = true) (x1 x2 x3 : Int) (a0 b0 : Nat → Nat → Int) (hv0 : iv a0) : jt (jxC E d 68 [.inr (.inr (.inl 83)), .inl x1, .inl x2, .inl x3] (jxSH, a0, b0)) (jQ_X4_joinRing x1 x2 x3 a0 b0) := by
  obtain ⟨d, rfl⟩ := jd_succ hd
  refine jt_eq (bq_X4_joinRing E d x1 x2 x3 a0 b0) ?_
  refine jt_eI (eq_X4_has E d (jd_le hd rfl) x1 a0 b0) ?_
  have h669_ := f_X4_has_eq a0 b0 x1
  have h670_ := iv_get hv0 (k := 83) (j := 6) (l := 0) (u := 20) rfl
  refine jt_ite (fun c671_ => ?_) (fun c671_ => ?_)
  ·
    exact jt_rV ⟨hv0, (jfr_rf _ _), rfl⟩
  ·
    refine jt_grd (by omega) ?_
    refine jt_grd (by omega) ?_
    have hv672_ : iv (jxu a0 87 (x1.toNat) 1) := iv_putf hv0 rfl
    have hv673_ : iv (jxu (jxu a0 87 (x1.toNat) 1) 88 (x1.toNat) x2) := iv_putf hv672_ rfl
    have hf674_ : jfr jW_X4_joinRing a0 (jxu a0 87 (x1.toNat) 1) := jfr_put (jfr_rf _ _) rfl
    have hf675_ : jfr jW_X4_joinRing a0 (jxu (jxu a0 87 (x1.toNat) 1) 88 (x1.toNat) x2) := jfr_put hf674_ rfl
    exact cp_X4_joinRing_22 E d hd x1 x2 x3 a0 b0 hv0 x1 x3 (jxu (jxu a0 87 (x1.toNat) 1) 88 (x1.toNat) x2) hv673_ hf675_ (show 0 ≤ x1 from by omega) (show x1 ≤ 19 from by omega)
def jW_X11_close : List (Nat × Nat) := [(58, 8), (58, 13), (58, 14), (58, 15), (59, 9999), (60, 9999), (61, 9999), (62, 9999), (63, 9999), (64, 9999), (65, 9999), (83, 7), (87, 9999), (88, 9999), (89, 9999)]
abbrev jQ_X11_close (x1 : Int) (a0 b0 : Nat → Nat → Int) : List jxV → (Nat → Nat → Int) → (Nat → Nat → Int) → Prop := rI (fun r a b => (iv a) ∧ (jfr jW_X11_close a0 a) ∧ (b0 = b) ∧ ((a0 90 12 = 0 → r = 0 - 1)))
theorem cp_X11_close_71 (E : jxE) (d : Nat) (hd : Nat.ble 6 (d + 1) = true) (x1 : Int) (a0 b0 : Nat → Nat → Int) (hv0 : iv a0) : ∀ n : Nat, (∀ (y1 y2 y3 y4 y5 y7 : Int) (a : Nat → Nat → Int), (((5 - y4) * 1) + 0).toNat ≤ n → iv a → jfr jW_X11_close a0 a → 0 ≤ y1 → y1 ≤ 5 → 1 ≤ y2 → y2 ≤ 5 → 0 ≤ y4 → y4 ≤ 4 → 1 ≤ a0 90 12 → jt (jxX E d 188 140 [some (.inr (.inr (.inl 0))), some (.inl y1), some (.inl y2), some (.inl y3), some (.inl y4), some (.inl y5), none, some (.inl y7)] [] (jxSH, a, b0)) (jQ_X11_close x1 a0 b0)) ∧ (∀ (y1 y2 y3 y4 y5 s1 s2 : Int) (a : Nat → Nat → Int), (((5 - y4) * 1) + 0).toNat ≤ n → iv a → jfr jW_X11_close a0 a → 0 ≤ y1 → y1 ≤ 5 → 1 ≤ y2 → y2 ≤ 5 → 0 ≤ y4 → y4 ≤ 4 → 0 ≤ s1 → s1 ≤ 5 → 0 ≤ s2 → s2 ≤ 4 → 1 ≤ a0 90 12 → jt (jxX E d 188 110 [some (.inr (.inr (.inl 0))), some (.inl y1), some (.inl y2), some (.inl y3), some (.inl y4), some (.inl y5), none, none] [.inl s2, .inl s1, .inr (.inr (.inl 90))] (jxSH, a, b0)) (jQ_X11_close x1 a0 b0)) ∧ (∀ (y1 y2 y3 y4 : Int) (a : Nat → Nat → Int), (((5 - y4) * 1) + 0).toNat ≤ n → iv a → jfr jW_X11_close a0 a → 0 ≤ y1 → y1 ≤ 5 → 0 ≤ y2 → y2 ≤ 5 → 0 ≤ y4 → y4 ≤ 5 → 1 ≤ a0 90 12 → jt (jxX E d 188 71 [some (.inr (.inr (.inl 0))), some (.inl y1), some (.inl y2), some (.inl y3), some (.inl y4), none, none, none] [] (jxSH, a, b0)) (jQ_X11_close x1 a0 b0)) := by
  refine jx_ind fun n ih => ?_
  have ih140 : ∀ (y1 y2 y3 y4 y5 y7 : Int) (a : Nat → Nat → Int), (((5 - y4) * 1) + 0).toNat < n → iv a → jfr jW_X11_close a0 a → 0 ≤ y1 → y1 ≤ 5 → 1 ≤ y2 → y2 ≤ 5 → 0 ≤ y4 → y4 ≤ 4 → 1 ≤ a0 90 12 → jt (jxX E d 188 140 [some (.inr (.inr (.inl 0))), some (.inl y1), some (.inl y2), some (.inl y3), some (.inl y4), some (.inl y5), none, some (.inl y7)] [] (jxSH, a, b0)) (jQ_X11_close x1 a0 b0) := fun y1 y2 y3 y4 y5 y7 a hlt i0 i1 i2 i3 i4 i5 i6 i7 i8 => (ih _ hlt).1 y1 y2 y3 y4 y5 y7 a (Nat.le_refl _) i0 i1 i2 i3 i4 i5 i6 i7 i8
  have ih110 : ∀ (y1 y2 y3 y4 y5 s1 s2 : Int) (a : Nat → Nat → Int), (((5 - y4) * 1) + 0).toNat < n → iv a → jfr jW_X11_close a0 a → 0 ≤ y1 → y1 ≤ 5 → 1 ≤ y2 → y2 ≤ 5 → 0 ≤ y4 → y4 ≤ 4 → 0 ≤ s1 → s1 ≤ 5 → 0 ≤ s2 → s2 ≤ 4 → 1 ≤ a0 90 12 → jt (jxX E d 188 110 [some (.inr (.inr (.inl 0))), some (.inl y1), some (.inl y2), some (.inl y3), some (.inl y4), some (.inl y5), none, none] [.inl s2, .inl s1, .inr (.inr (.inl 90))] (jxSH, a, b0)) (jQ_X11_close x1 a0 b0) := fun y1 y2 y3 y4 y5 s1 s2 a hlt i0 i1 i2 i3 i4 i5 i6 i7 i8 i9 i10 i11 i12 => (ih _ hlt).2.1 y1 y2 y3 y4 y5 s1 s2 a (Nat.le_refl _) i0 i1 i2 i3 i4 i5 i6 i7 i8 i9 i10 i11 i12
  have ih71 : ∀ (y1 y2 y3 y4 : Int) (a : Nat → Nat → Int), (((5 - y4) * 1) + 0).toNat < n → iv a → jfr jW_X11_close a0 a → 0 ≤ y1 → y1 ≤ 5 → 0 ≤ y2 → y2 ≤ 5 → 0 ≤ y4 → y4 ≤ 5 → 1 ≤ a0 90 12 → jt (jxX E d 188 71 [some (.inr (.inr (.inl 0))), some (.inl y1), some (.inl y2), some (.inl y3), some (.inl y4), none, none, none] [] (jxSH, a, b0)) (jQ_X11_close x1 a0 b0) := fun y1 y2 y3 y4 a hlt i0 i1 i2 i3 i4 i5 i6 i7 i8 => (ih _ hlt).2.2 y1 y2 y3 y4 a (Nat.le_refl _) i0 i1 i2 i3 i4 i5 i6 i7 i8
  have hc140 : ∀ (y1 y2 y3 y4 y5 y7 : Int) (a : Nat → Nat → Int), (((5 - y4) * 1) + 0).toNat ≤ n → iv a → jfr jW_X11_close a0 a → 0 ≤ y1 → y1 ≤ 5 → 1 ≤ y2 → y2 ≤ 5 → 0 ≤ y4 → y4 ≤ 4 → 1 ≤ a0 90 12 → jt (jxX E d 188 140 [some (.inr (.inr (.inl 0))), some (.inl y1), some (.inl y2), some (.inl y3), some (.inl y4), some (.inl y5), none, some (.inl y7)] [] (jxSH, a, b0)) (jQ_X11_close x1 a0 b0) := by
    intro y1 y2 y3 y4 y5 y7 a hm hv hf hi0 hi1 hi2 hi3 hi4 hi5 hi6
    refine jt_eq (bq_X11_close_140 E d y1 y2 y3 y4 y5 y7 a b0) ?_
    have h676_ := iv_get hv0 (k := 90) (j := 12) (l := 0) (u := 6) rfl
    refine jt_bV (sp_X4_joinRing E d (jd_le hd rfl) y5 y3 y7 a b0 hv) (fun a677_ b677_ h677_ => ?_)
    obtain ⟨hv677_, hf677_, rfl⟩ := h677_
    have hf678_ : jfr jW_X11_close a0 a677_ := jfr_tr hf hf677_ rfl
    have h679_ : jxw (y4 + 1) = y4 + 1 := jxw_id (by omega) (by omega)
    exact ih71 y1 y2 y3 (jxw (y4 + 1)) a677_ (show (((5 - (jxw (y4 + 1))) * 1) + 0).toNat < n from by omega) hv677_ hf678_ (show 0 ≤ y1 from by omega) (show y1 ≤ 5 from by omega) (show 0 ≤ y2 from by omega) (show y2 ≤ 5 from by omega) (show 0 ≤ jxw (y4 + 1) from by omega) (show jxw (y4 + 1) ≤ 5 from by omega) (show 1 ≤ a0 90 12 from by omega)
  have hc110 : ∀ (y1 y2 y3 y4 y5 s1 s2 : Int) (a : Nat → Nat → Int), (((5 - y4) * 1) + 0).toNat ≤ n → iv a → jfr jW_X11_close a0 a → 0 ≤ y1 → y1 ≤ 5 → 1 ≤ y2 → y2 ≤ 5 → 0 ≤ y4 → y4 ≤ 4 → 0 ≤ s1 → s1 ≤ 5 → 0 ≤ s2 → s2 ≤ 4 → 1 ≤ a0 90 12 → jt (jxX E d 188 110 [some (.inr (.inr (.inl 0))), some (.inl y1), some (.inl y2), some (.inl y3), some (.inl y4), some (.inl y5), none, none] [.inl s2, .inl s1, .inr (.inr (.inl 90))] (jxSH, a, b0)) (jQ_X11_close x1 a0 b0) := by
    intro y1 y2 y3 y4 y5 s1 s2 a hm hv hf hi0 hi1 hi2 hi3 hi4 hi5 hi6 hi7 hi8 hi9 hi10
    refine jt_eq (bq_X11_close_110 E d y1 y2 y3 y4 y5 s1 s2 a b0) ?_
    have h680_ := iv_get hv0 (k := 90) (j := 12) (l := 0) (u := 6) rfl
    refine jt_eI (eq_X5_offerAt E d (jd_le hd rfl) s1 s2 a b0) ?_
    refine jt_eI (eq_X4_memberOf E d (jd_le hd rfl) y5 a b0) ?_
    refine jt_eI (eq_X4_memberOf E d (jd_le hd rfl) (f_X5_offerAt a b0 s1 s2) a b0) ?_
    refine jt_bI (sp_X11_send E d (jd_le hd rfl) (f_X4_memberOf a b0 y5) (f_X4_memberOf a b0 (f_X5_offerAt a b0 s1 s2)) y3 a b0 hv) (fun r681_ a681_ b681_ h681_ => ?_)
    obtain ⟨hv681_, hf681_, rfl⟩ := h681_
    have hf682_ : jfr jW_X11_close a0 a681_ := jfr_tr hf hf681_ rfl
    exact hc140 y1 y2 y3 y4 y5 r681_ a681_ (show (((5 - y4) * 1) + 0).toNat ≤ n from by omega) hv681_ hf682_ (show 0 ≤ y1 from by omega) (show y1 ≤ 5 from by omega) (show 1 ≤ y2 from by omega) (show y2 ≤ 5 from by omega) (show 0 ≤ y4 from by omega) (show y4 ≤ 4 from by omega) (show 1 ≤ a0 90 12 from by omega)
  have hc71 : ∀ (y1 y2 y3 y4 : Int) (a : Nat → Nat → Int), (((5 - y4) * 1) + 0).toNat ≤ n → iv a → jfr jW_X11_close a0 a → 0 ≤ y1 → y1 ≤ 5 → 0 ≤ y2 → y2 ≤ 5 → 0 ≤ y4 → y4 ≤ 5 → 1 ≤ a0 90 12 → jt (jxX E d 188 71 [some (.inr (.inr (.inl 0))), some (.inl y1), some (.inl y2), some (.inl y3), some (.inl y4), none, none, none] [] (jxSH, a, b0)) (jQ_X11_close x1 a0 b0) := by
    intro y1 y2 y3 y4 a hm hv hf hi0 hi1 hi2 hi3 hi4 hi5 hi6
    refine jt_eq (bq_X11_close_71 E d y1 y2 y3 y4 a b0) ?_
    have h683_ := iv_get hv0 (k := 90) (j := 12) (l := 0) (u := 6) rfl
    refine jt_ite (fun c684_ => ?_) (fun c684_ => ?_)
    ·
      refine jt_eI (eq_X5_offerAt E d (jd_le hd rfl) y1 y4 a b0) ?_
      have h685_ : jxw (y4 + 1) = y4 + 1 := jxw_id (by omega) (by omega)
      refine jt_ite (fun c686_ => ?_) (fun c686_ => ?_)
      ·
        exact hc110 y1 y2 y3 y4 (f_X5_offerAt a b0 y1 y4) y1 (jxw (y4 + 1)) a (show (((5 - y4) * 1) + 0).toNat ≤ n from by omega) hv hf (show 0 ≤ y1 from by omega) (show y1 ≤ 5 from by omega) (show 1 ≤ y2 from by omega) (show y2 ≤ 5 from by omega) (show 0 ≤ y4 from by omega) (show y4 ≤ 4 from by omega) (show 0 ≤ y1 from by omega) (show y1 ≤ 5 from by omega) (show 0 ≤ jxw (y4 + 1) from by omega) (show jxw (y4 + 1) ≤ 4 from by omega) (show 1 ≤ a0 90 12 from by omega)
      ·
        exact hc110 y1 y2 y3 y4 (f_X5_offerAt a b0 y1 y4) y1 0 a (show (((5 - y4) * 1) + 0).toNat ≤ n from by omega) hv hf (show 0 ≤ y1 from by omega) (show y1 ≤ 5 from by omega) (show 1 ≤ y2 from by omega) (show y2 ≤ 5 from by omega) (show 0 ≤ y4 from by omega) (show y4 ≤ 4 from by omega) (show 0 ≤ y1 from by omega) (show y1 ≤ 5 from by omega) (show 0 ≤ 0 from by omega) (show 0 ≤ 4 from by omega) (show 1 ≤ a0 90 12 from by omega)
    ·
      exact jt_rI ⟨hv, hf, rfl, (show (a0 90 12 = 0 → y3 = 0 - 1) from by omega)⟩
  exact ⟨hc140, hc110, hc71⟩
theorem cp_X11_close_28 (E : jxE) (d : Nat) (hd : Nat.ble 6 (d + 1) = true) (x1 : Int) (a0 b0 : Nat → Nat → Int) (hv0 : iv a0) : ∀ n : Nat, (∀ (y1 y2 y3 : Int) (a : Nat → Nat → Int), (((5 - y3) * 1) + 0).toNat ≤ n → iv a → jfr jW_X11_close a0 a → 0 ≤ y1 → y1 ≤ 5 → 0 ≤ y2 → y2 ≤ 5 → 0 ≤ y3 → y3 ≤ 5 → 1 ≤ a0 90 12 → jt (jxX E d 188 28 [some (.inr (.inr (.inl 0))), some (.inl y1), some (.inl y2), some (.inl y3), none, none, none, none] [] (jxSH, a, b0)) (jQ_X11_close x1 a0 b0)) := by
  refine jx_ind fun n ih => ?_
  have ih28 : ∀ (y1 y2 y3 : Int) (a : Nat → Nat → Int), (((5 - y3) * 1) + 0).toNat < n → iv a → jfr jW_X11_close a0 a → 0 ≤ y1 → y1 ≤ 5 → 0 ≤ y2 → y2 ≤ 5 → 0 ≤ y3 → y3 ≤ 5 → 1 ≤ a0 90 12 → jt (jxX E d 188 28 [some (.inr (.inr (.inl 0))), some (.inl y1), some (.inl y2), some (.inl y3), none, none, none, none] [] (jxSH, a, b0)) (jQ_X11_close x1 a0 b0) := fun y1 y2 y3 a hlt i0 i1 i2 i3 i4 i5 i6 i7 i8 => (ih _ hlt) y1 y2 y3 a (Nat.le_refl _) i0 i1 i2 i3 i4 i5 i6 i7 i8
  have hc28 : ∀ (y1 y2 y3 : Int) (a : Nat → Nat → Int), (((5 - y3) * 1) + 0).toNat ≤ n → iv a → jfr jW_X11_close a0 a → 0 ≤ y1 → y1 ≤ 5 → 0 ≤ y2 → y2 ≤ 5 → 0 ≤ y3 → y3 ≤ 5 → 1 ≤ a0 90 12 → jt (jxX E d 188 28 [some (.inr (.inr (.inl 0))), some (.inl y1), some (.inl y2), some (.inl y3), none, none, none, none] [] (jxSH, a, b0)) (jQ_X11_close x1 a0 b0) := by
    intro y1 y2 y3 a hm hv hf hi0 hi1 hi2 hi3 hi4 hi5 hi6
    refine jt_eq (bq_X11_close_28 E d y1 y2 y3 a b0) ?_
    have h687_ := iv_get hv0 (k := 90) (j := 12) (l := 0) (u := 6) rfl
    refine jt_ite (fun c688_ => ?_) (fun c688_ => ?_)
    ·
      refine jt_eI (eq_X5_offerAt E d (jd_le hd rfl) y1 y3 a b0) ?_
      refine jt_eI (eq_X4_isOpen E d (jd_le hd rfl) (f_X5_offerAt a b0 y1 y3) a b0) ?_
      have h689_ := f_X5_offerAt_eq a b0 y1 y3
      have h690_ := f_X5_lengthOf_eq a b0 y1
      have h691_ := iv_get hv (k := 90) (j := 12) (l := 0) (u := 6) rfl
      have h692_ : a 90 12 = a0 90 12 := hf 90 12 rfl
      have h693_ := iv_get hv (k := 104) (j := y1.toNat) (l := 0) (u := 5) rfl
      have h694_ : a 104 (y1.toNat) = a0 104 (y1.toNat) := hf 104 (y1.toNat) rfl
      have h695_ := iv_get hv0 (k := 104) (j := y1.toNat) (l := 0) (u := 5) rfl
      have h696_ : a 97 ((y1.toNat) * 5 + (y3.toNat)) = a0 97 ((y1.toNat) * 5 + (y3.toNat)) := hf 97 ((y1.toNat) * 5 + (y3.toNat)) rfl
      have h697_ := f_X4_isOpen_eq a b0 (f_X5_offerAt a b0 y1 y3)
      have h698_ := f_X4_has_eq a b0 (f_X5_offerAt a b0 y1 y3)
      have h699_ := iv_get hv (k := 83) (j := 6) (l := 0) (u := 20) rfl
      have h700_ : a 83 6 = a0 83 6 := hf 83 6 rfl
      have h701_ := iv_get hv0 (k := 83) (j := 6) (l := 0) (u := 20) rfl
      refine jt_ite (fun c702_ => ?_) (fun c702_ => ?_)
      ·
        exact jt_rI ⟨hv, hf, rfl, (show (a0 90 12 = 0 → (-1) = 0 - 1) from by omega)⟩
      ·
        have h703_ : jxw (y3 + 1) = y3 + 1 := jxw_id (by omega) (by omega)
        exact ih28 y1 y2 (jxw (y3 + 1)) a (show (((5 - (jxw (y3 + 1))) * 1) + 0).toNat < n from by omega) hv hf (show 0 ≤ y1 from by omega) (show y1 ≤ 5 from by omega) (show 0 ≤ y2 from by omega) (show y2 ≤ 5 from by omega) (show 0 ≤ jxw (y3 + 1) from by omega) (show jxw (y3 + 1) ≤ 5 from by omega) (show 1 ≤ a0 90 12 from by omega)
    ·
      refine jt_bI (sp_X4_addRing E d (jd_le hd rfl) a b0 hv) (fun r704_ a704_ b704_ h704_ => ?_)
      obtain ⟨hv704_, hf704_, rfl⟩ := h704_
      have hf705_ : jfr jW_X11_close a0 a704_ := jfr_tr hf hf704_ rfl
      exact (cp_X11_close_71 E d hd x1 a0 b0 hv0 _).2.2 y1 y2 r704_ 0 a704_ (Nat.le_refl _) hv704_ hf705_ (show 0 ≤ y1 from by omega) (show y1 ≤ 5 from by omega) (show 0 ≤ y2 from by omega) (show y2 ≤ 5 from by omega) (show 0 ≤ 0 from by omega) (show 0 ≤ 5 from by omega) (show 1 ≤ a0 90 12 from by omega)
  exact hc28
theorem sp_X11_close (E : jxE) (d : Nat) (hd : Nat.ble 6 d = true) (x1 : Int) (a0 b0 : Nat → Nat → Int) (hv0 : iv a0) : jt (jxC E d 188 [.inr (.inr (.inl 0)), .inl x1] (jxSH, a0, b0)) (jQ_X11_close x1 a0 b0) := by
  obtain ⟨d, rfl⟩ := jd_succ hd
  refine jt_eq (bq_X11_close E d x1 a0 b0) ?_
  refine jt_eI (eq_X5_lengthOf E d (jd_le hd rfl) x1 a0 b0) ?_
  have h706_ := f_X5_lengthOf_eq a0 b0 x1
  have h707_ := iv_get hv0 (k := 90) (j := 12) (l := 0) (u := 6) rfl
  have h708_ := iv_get hv0 (k := 104) (j := x1.toNat) (l := 0) (u := 5) rfl
  refine jt_ite (fun c709_ => ?_) (fun c709_ => ?_)
  ·
    exact jt_rI ⟨hv0, (jfr_rf _ _), rfl, (show (a0 90 12 = 0 → (-1) = 0 - 1) from by omega)⟩
  ·
    refine jt_eI (eq_X0_hasRoom E d (jd_le hd rfl) (f_X5_lengthOf a0 b0 x1) a0 b0) ?_
    have h710_ := f_X0_hasRoom_eq a0 b0 (f_X5_lengthOf a0 b0 x1)
    have h711_ := iv_get hv0 (k := 58) (j := 8) (l := 0) (u := 300) rfl
    have h712_ : jxw (300 - (a0 58 8)) = 300 - (a0 58 8) := jxw_id (by omega) (by omega)
    refine jt_ite (fun c713_ => ?_) (fun c713_ => ?_)
    ·
      exact jt_rI ⟨hv0, (jfr_rf _ _), rfl, (show (a0 90 12 = 0 → (-1) = 0 - 1) from by omega)⟩
    ·
      exact (cp_X11_close_28 E d hd x1 a0 b0 hv0 _) x1 (f_X5_lengthOf a0 b0 x1) 0 a0 (Nat.le_refl _) hv0 (jfr_rf _ _) (show 0 ≤ x1 from by omega) (show x1 ≤ 5 from by omega) (show 0 ≤ f_X5_lengthOf a0 b0 x1 from by omega) (show f_X5_lengthOf a0 b0 x1 ≤ 5 from by omega) (show 0 ≤ 0 from by omega) (show 0 ≤ 5 from by omega) (show 1 ≤ a0 90 12 from by omega)
abbrev jQ_X3_howManyThere (a0 b0 : Nat → Nat → Int) : List jxV → (Nat → Nat → Int) → (Nat → Nat → Int) → Prop := rI (fun r a b => (a0 = a) ∧ (b0 = b) ∧ ((a0 4 6 = 0 → r = 0)))
theorem cp_X3_howManyThere_4 (E : jxE) (d : Nat) (hd : Nat.ble 3 (d + 1) = true) (a0 b0 : Nat → Nat → Int) (hv0 : iv a0) : ∀ n : Nat, (∀ (y1 y2 : Int), (((40 - y2) * 1) + 0).toNat ≤ n → 0 ≤ y2 → y2 ≤ 40 → (a0 4 6 = 0 → y1 = 0) → jt (jxX E d 53 4 [some (.inr (.inr (.inl 4))), some (.inl y1), some (.inl y2)] [] (jxSH, a0, b0)) (jQ_X3_howManyThere a0 b0)) := by
  refine jx_ind fun n ih => ?_
  have ih4 : ∀ (y1 y2 : Int), (((40 - y2) * 1) + 0).toNat < n → 0 ≤ y2 → y2 ≤ 40 → (a0 4 6 = 0 → y1 = 0) → jt (jxX E d 53 4 [some (.inr (.inr (.inl 4))), some (.inl y1), some (.inl y2)] [] (jxSH, a0, b0)) (jQ_X3_howManyThere a0 b0) := fun y1 y2 hlt i0 i1 i2 => (ih _ hlt) y1 y2 (Nat.le_refl _) i0 i1 i2
  have hc4 : ∀ (y1 y2 : Int), (((40 - y2) * 1) + 0).toNat ≤ n → 0 ≤ y2 → y2 ≤ 40 → (a0 4 6 = 0 → y1 = 0) → jt (jxX E d 53 4 [some (.inr (.inr (.inl 4))), some (.inl y1), some (.inl y2)] [] (jxSH, a0, b0)) (jQ_X3_howManyThere a0 b0) := by
    intro y1 y2 hm hi0 hi1 hi2
    refine jt_eq (bq_X3_howManyThere_4 E d y1 y2 a0 b0) ?_
    have h714_ := iv_get hv0 (k := 4) (j := 6) (l := 0) (u := 40) rfl
    refine jt_ite (fun c715_ => ?_) (fun c715_ => ?_)
    ·
      refine jt_eI (eq_X3_isThere E d (jd_le hd rfl) y2 a0 b0) ?_
      have h716_ := f_X3_isThere_eq a0 b0 y2
      have h717_ := f_X3_has_eq a0 b0 y2
      refine jt_ite (fun c718_ => ?_) (fun c718_ => ?_)
      ·
        have h719_ : jxw (y2 + 1) = y2 + 1 := jxw_id (by omega) (by omega)
        exact ih4 y1 (jxw (y2 + 1)) (show (((40 - (jxw (y2 + 1))) * 1) + 0).toNat < n from by omega) (show 0 ≤ jxw (y2 + 1) from by omega) (show jxw (y2 + 1) ≤ 40 from by omega) (show (a0 4 6 = 0 → y1 = 0) from by omega)
      ·
        have h720_ : jxw (y2 + 1) = y2 + 1 := jxw_id (by omega) (by omega)
        have h721_ := jxw_im (y1 + 1)
        have h722_ := jxw_rg (y1 + 1)
        exact ih4 (jxw (y1 + 1)) (jxw (y2 + 1)) (show (((40 - (jxw (y2 + 1))) * 1) + 0).toNat < n from by omega) (show 0 ≤ jxw (y2 + 1) from by omega) (show jxw (y2 + 1) ≤ 40 from by omega) (show (a0 4 6 = 0 → jxw (y1 + 1) = 0) from by omega)
    ·
      exact jt_rI ⟨rfl, rfl, (show (a0 4 6 = 0 → y1 = 0) from by omega)⟩
  exact hc4
theorem sp_X3_howManyThere (E : jxE) (d : Nat) (hd : Nat.ble 3 d = true) (a0 b0 : Nat → Nat → Int) (hv0 : iv a0) : jt (jxC E d 53 [.inr (.inr (.inl 4))] (jxSH, a0, b0)) (jQ_X3_howManyThere a0 b0) := by
  obtain ⟨d, rfl⟩ := jd_succ hd
  refine jt_eq (bq_X3_howManyThere E d a0 b0) ?_
  have h723_ := iv_get hv0 (k := 4) (j := 6) (l := 0) (u := 40) rfl
  exact (cp_X3_howManyThere_4 E d hd a0 b0 hv0 _) 0 0 (Nat.le_refl _) (show 0 ≤ 0 from by omega) (show 0 ≤ 40 from by omega) (show (a0 4 6 = 0 → 0 = 0) from by omega)
abbrev jQ_X11_count (x1 : Int) (a0 b0 : Nat → Nat → Int) : List jxV → (Nat → Nat → Int) → (Nat → Nat → Int) → Prop := rI (fun r a b => (a0 = a) ∧ (b0 = b) ∧ ((x1 = 0 → r = a0 0 0)) ∧ ((x1 = 1 → r = a0 4 6)) ∧ ((x1 = 3 → r = a0 58 8)) ∧ ((x1 = 4 → r = a0 58 12)) ∧ ((x1 = 5 → r = a0 83 6)) ∧ ((x1 = 6 → r = a0 83 7)) ∧ ((x1 = 7 → r = a0 105 5)) ∧ ((x1 = 8 → r = a0 2 1)) ∧ ((x1 = 9 → r = a0 0 9)) ∧ (((x1 = 2 ∧ a0 4 6 = 0) → r = 0)) ∧ ((x1 = 10 → r = a0 56 0)) ∧ ((x1 = 11 → r = a0 56 1)) ∧ ((x1 = 12 → r = a0 56 2)) ∧ ((x1 = 13 → r = a0 56 3)) ∧ ((x1 = 14 → r = a0 56 4)) ∧ (20 ≤ x1 ∧ x1 ≤ 27 → r = a0 143 (jxw (x1 - 20)).toNat) ∧ (30 ≤ x1 ∧ x1 ≤ 37 → r = a0 142 (jxw (x1 - 30)).toNat) ∧ (((((x1 < 0 ∨ (14 < x1 ∧ x1 < 20)) ∨ (27 < x1 ∧ x1 < 30)) ∨ 37 < x1) → r = 0 - 1)))
theorem sp_X11_count (E : jxE) (d : Nat) (hd : Nat.ble 4 d = true) (x1 : Int) (a0 b0 : Nat → Nat → Int) (hv0 : iv a0) : jt (jxC E d 197 [.inr (.inr (.inl 0)), .inl x1] (jxSH, a0, b0)) (jQ_X11_count x1 a0 b0) := by
  obtain ⟨d, rfl⟩ := jd_succ hd
  refine jt_eq (bq_X11_count E d x1 a0 b0) ?_
  refine jt_ite (fun c724_ => ?_) (fun c724_ => ?_)
  ·
    refine jt_eI (eq_X11_countOfDrawer E d (jd_le hd rfl) x1 a0 b0) ?_
    have h725_ := f_X11_countOfDrawer_eq a0 b0 x1
    have h726_ := f_X11_within_eq a0 b0 x1 20 27
    have h727_ := f_X11_within_eq a0 b0 x1 30 37
    have h728_ := jxw_im (x1 - 30)
    have h729_ := jxw_rg (x1 - 30)
    have h730_ := f_X1_valueOf_eq a0 b0 (jxw (x1 - 30))
    have h731_ := f_X11_entry_r142_eq a0 b0 8 (jxw (x1 - 30))
    have h732_ := jxw_im (x1 - 20)
    have h733_ := jxw_rg (x1 - 20)
    have h734_ := f_X1_manyOf_eq a0 b0 (jxw (x1 - 20))
    have h735_ := f_X11_entry_r143_eq a0 b0 8 (jxw (x1 - 20))
    have h736_ := iv_get hv0 (k := 0) (j := 0) (l := 0) (u := 1999) rfl
    have h737_ := iv_get hv0 (k := 4) (j := 6) (l := 0) (u := 40) rfl
    have h738_ := iv_get hv0 (k := 58) (j := 8) (l := 0) (u := 300) rfl
    have h739_ := iv_get hv0 (k := 58) (j := 12) (l := 0) (u := 600) rfl
    have h740_ := iv_get hv0 (k := 83) (j := 6) (l := 0) (u := 20) rfl
    have h741_ := iv_get hv0 (k := 105) (j := 5) (l := 0) (u := 10) rfl
    have h742_ := iv_get hv0 (k := 2) (j := 1) (l := 0) (u := 200) rfl
    have h743_ := iv_get hv0 (k := 0) (j := 9) (l := 0) (u := 8) rfl
    exact jt_rI ⟨rfl, rfl, (show (x1 = 0 → f_X11_countOfDrawer a0 b0 x1 = a0 0 0) from by omega), (show (x1 = 1 → f_X11_countOfDrawer a0 b0 x1 = a0 4 6) from by omega), (show (x1 = 3 → f_X11_countOfDrawer a0 b0 x1 = a0 58 8) from by omega), (show (x1 = 4 → f_X11_countOfDrawer a0 b0 x1 = a0 58 12) from by omega), (show (x1 = 5 → f_X11_countOfDrawer a0 b0 x1 = a0 83 6) from by omega), (show (x1 = 6 → f_X11_countOfDrawer a0 b0 x1 = a0 83 7) from by omega), (show (x1 = 7 → f_X11_countOfDrawer a0 b0 x1 = a0 105 5) from by omega), (show (x1 = 8 → f_X11_countOfDrawer a0 b0 x1 = a0 2 1) from by omega), (show (x1 = 9 → f_X11_countOfDrawer a0 b0 x1 = a0 0 9) from by omega), (show ((x1 = 2 ∧ a0 4 6 = 0) → f_X11_countOfDrawer a0 b0 x1 = 0) from by omega), (show (x1 = 10 → f_X11_countOfDrawer a0 b0 x1 = a0 56 0) from by omega), (show (x1 = 11 → f_X11_countOfDrawer a0 b0 x1 = a0 56 1) from by omega), (show (x1 = 12 → f_X11_countOfDrawer a0 b0 x1 = a0 56 2) from by omega), (show (x1 = 13 → f_X11_countOfDrawer a0 b0 x1 = a0 56 3) from by omega), (show (x1 = 14 → f_X11_countOfDrawer a0 b0 x1 = a0 56 4) from by omega), (by omega), (by omega), (show ((((x1 < 0 ∨ (14 < x1 ∧ x1 < 20)) ∨ (27 < x1 ∧ x1 < 30)) ∨ 37 < x1) → f_X11_countOfDrawer a0 b0 x1 = 0 - 1) from by omega)⟩
  ·
    refine jt_ite (fun c744_ => ?_) (fun c744_ => ?_)
    ·
      have h745_ := iv_get hv0 (k := 0) (j := 0) (l := 0) (u := 1999) rfl
      have h746_ := iv_get hv0 (k := 4) (j := 6) (l := 0) (u := 40) rfl
      have h747_ := iv_get hv0 (k := 58) (j := 8) (l := 0) (u := 300) rfl
      have h748_ := iv_get hv0 (k := 58) (j := 12) (l := 0) (u := 600) rfl
      have h749_ := iv_get hv0 (k := 83) (j := 6) (l := 0) (u := 20) rfl
      have h750_ := iv_get hv0 (k := 105) (j := 5) (l := 0) (u := 10) rfl
      have h751_ := iv_get hv0 (k := 2) (j := 1) (l := 0) (u := 200) rfl
      have h752_ := iv_get hv0 (k := 0) (j := 9) (l := 0) (u := 8) rfl
      exact jt_rI ⟨rfl, rfl, (show (x1 = 0 → a0 0 0 = a0 0 0) from by omega), (show (x1 = 1 → a0 0 0 = a0 4 6) from by omega), (show (x1 = 3 → a0 0 0 = a0 58 8) from by omega), (show (x1 = 4 → a0 0 0 = a0 58 12) from by omega), (show (x1 = 5 → a0 0 0 = a0 83 6) from by omega), (show (x1 = 6 → a0 0 0 = a0 83 7) from by omega), (show (x1 = 7 → a0 0 0 = a0 105 5) from by omega), (show (x1 = 8 → a0 0 0 = a0 2 1) from by omega), (show (x1 = 9 → a0 0 0 = a0 0 9) from by omega), (show ((x1 = 2 ∧ a0 4 6 = 0) → a0 0 0 = 0) from by omega), (show (x1 = 10 → a0 0 0 = a0 56 0) from by omega), (show (x1 = 11 → a0 0 0 = a0 56 1) from by omega), (show (x1 = 12 → a0 0 0 = a0 56 2) from by omega), (show (x1 = 13 → a0 0 0 = a0 56 3) from by omega), (show (x1 = 14 → a0 0 0 = a0 56 4) from by omega), (by omega), (by omega), (show ((((x1 < 0 ∨ (14 < x1 ∧ x1 < 20)) ∨ (27 < x1 ∧ x1 < 30)) ∨ 37 < x1) → a0 0 0 = 0 - 1) from by omega)⟩
    ·
      refine jt_ite (fun c753_ => ?_) (fun c753_ => ?_)
      ·
        refine jt_eI (eq_X3_size E d (jd_le hd rfl) a0 b0) ?_
        have h754_ := f_X3_size_eq a0 b0
        have h755_ := iv_get hv0 (k := 4) (j := 6) (l := 0) (u := 40) rfl
        have h756_ := iv_get hv0 (k := 0) (j := 0) (l := 0) (u := 1999) rfl
        have h757_ := iv_get hv0 (k := 58) (j := 8) (l := 0) (u := 300) rfl
        have h758_ := iv_get hv0 (k := 58) (j := 12) (l := 0) (u := 600) rfl
        have h759_ := iv_get hv0 (k := 83) (j := 6) (l := 0) (u := 20) rfl
        have h760_ := iv_get hv0 (k := 105) (j := 5) (l := 0) (u := 10) rfl
        have h761_ := iv_get hv0 (k := 2) (j := 1) (l := 0) (u := 200) rfl
        have h762_ := iv_get hv0 (k := 0) (j := 9) (l := 0) (u := 8) rfl
        exact jt_rI ⟨rfl, rfl, (show (x1 = 0 → f_X3_size a0 b0 = a0 0 0) from by omega), (show (x1 = 1 → f_X3_size a0 b0 = a0 4 6) from by omega), (show (x1 = 3 → f_X3_size a0 b0 = a0 58 8) from by omega), (show (x1 = 4 → f_X3_size a0 b0 = a0 58 12) from by omega), (show (x1 = 5 → f_X3_size a0 b0 = a0 83 6) from by omega), (show (x1 = 6 → f_X3_size a0 b0 = a0 83 7) from by omega), (show (x1 = 7 → f_X3_size a0 b0 = a0 105 5) from by omega), (show (x1 = 8 → f_X3_size a0 b0 = a0 2 1) from by omega), (show (x1 = 9 → f_X3_size a0 b0 = a0 0 9) from by omega), (show ((x1 = 2 ∧ a0 4 6 = 0) → f_X3_size a0 b0 = 0) from by omega), (show (x1 = 10 → f_X3_size a0 b0 = a0 56 0) from by omega), (show (x1 = 11 → f_X3_size a0 b0 = a0 56 1) from by omega), (show (x1 = 12 → f_X3_size a0 b0 = a0 56 2) from by omega), (show (x1 = 13 → f_X3_size a0 b0 = a0 56 3) from by omega), (show (x1 = 14 → f_X3_size a0 b0 = a0 56 4) from by omega), (by omega), (by omega), (show ((((x1 < 0 ∨ (14 < x1 ∧ x1 < 20)) ∨ (27 < x1 ∧ x1 < 30)) ∨ 37 < x1) → f_X3_size a0 b0 = 0 - 1) from by omega)⟩
      ·
        refine jt_ite (fun c763_ => ?_) (fun c763_ => ?_)
        ·
          refine jt_bI (sp_X3_howManyThere E d (jd_le hd rfl) a0 b0 hv0) (fun r764_ a764_ b764_ h764_ => ?_)
          obtain ⟨rfl, rfl, hq764_0⟩ := h764_
          have h765_ := iv_get hv0 (k := 4) (j := 6) (l := 0) (u := 40) rfl
          have h766_ := iv_get hv0 (k := 0) (j := 0) (l := 0) (u := 1999) rfl
          have h767_ := iv_get hv0 (k := 58) (j := 8) (l := 0) (u := 300) rfl
          have h768_ := iv_get hv0 (k := 58) (j := 12) (l := 0) (u := 600) rfl
          have h769_ := iv_get hv0 (k := 83) (j := 6) (l := 0) (u := 20) rfl
          have h770_ := iv_get hv0 (k := 105) (j := 5) (l := 0) (u := 10) rfl
          have h771_ := iv_get hv0 (k := 2) (j := 1) (l := 0) (u := 200) rfl
          have h772_ := iv_get hv0 (k := 0) (j := 9) (l := 0) (u := 8) rfl
          exact jt_rI ⟨rfl, rfl, (show (x1 = 0 → r764_ = a0 0 0) from by omega), (show (x1 = 1 → r764_ = a0 4 6) from by omega), (show (x1 = 3 → r764_ = a0 58 8) from by omega), (show (x1 = 4 → r764_ = a0 58 12) from by omega), (show (x1 = 5 → r764_ = a0 83 6) from by omega), (show (x1 = 6 → r764_ = a0 83 7) from by omega), (show (x1 = 7 → r764_ = a0 105 5) from by omega), (show (x1 = 8 → r764_ = a0 2 1) from by omega), (show (x1 = 9 → r764_ = a0 0 9) from by omega), (show ((x1 = 2 ∧ a0 4 6 = 0) → r764_ = 0) from by omega), (show (x1 = 10 → r764_ = a0 56 0) from by omega), (show (x1 = 11 → r764_ = a0 56 1) from by omega), (show (x1 = 12 → r764_ = a0 56 2) from by omega), (show (x1 = 13 → r764_ = a0 56 3) from by omega), (show (x1 = 14 → r764_ = a0 56 4) from by omega), (by omega), (by omega), (show ((((x1 < 0 ∨ (14 < x1 ∧ x1 < 20)) ∨ (27 < x1 ∧ x1 < 30)) ∨ 37 < x1) → r764_ = 0 - 1) from by omega)⟩
        ·
          refine jt_ite (fun c773_ => ?_) (fun c773_ => ?_)
          ·
            refine jt_eI (eq_X0_size E d (jd_le hd rfl) a0 b0) ?_
            have h774_ := f_X0_size_eq a0 b0
            have h775_ := iv_get hv0 (k := 58) (j := 8) (l := 0) (u := 300) rfl
            have h776_ := iv_get hv0 (k := 0) (j := 0) (l := 0) (u := 1999) rfl
            have h777_ := iv_get hv0 (k := 4) (j := 6) (l := 0) (u := 40) rfl
            have h778_ := iv_get hv0 (k := 58) (j := 12) (l := 0) (u := 600) rfl
            have h779_ := iv_get hv0 (k := 83) (j := 6) (l := 0) (u := 20) rfl
            have h780_ := iv_get hv0 (k := 105) (j := 5) (l := 0) (u := 10) rfl
            have h781_ := iv_get hv0 (k := 2) (j := 1) (l := 0) (u := 200) rfl
            have h782_ := iv_get hv0 (k := 0) (j := 9) (l := 0) (u := 8) rfl
            exact jt_rI ⟨rfl, rfl, (show (x1 = 0 → f_X0_size a0 b0 = a0 0 0) from by omega), (show (x1 = 1 → f_X0_size a0 b0 = a0 4 6) from by omega), (show (x1 = 3 → f_X0_size a0 b0 = a0 58 8) from by omega), (show (x1 = 4 → f_X0_size a0 b0 = a0 58 12) from by omega), (show (x1 = 5 → f_X0_size a0 b0 = a0 83 6) from by omega), (show (x1 = 6 → f_X0_size a0 b0 = a0 83 7) from by omega), (show (x1 = 7 → f_X0_size a0 b0 = a0 105 5) from by omega), (show (x1 = 8 → f_X0_size a0 b0 = a0 2 1) from by omega), (show (x1 = 9 → f_X0_size a0 b0 = a0 0 9) from by omega), (show ((x1 = 2 ∧ a0 4 6 = 0) → f_X0_size a0 b0 = 0) from by omega), (show (x1 = 10 → f_X0_size a0 b0 = a0 56 0) from by omega), (show (x1 = 11 → f_X0_size a0 b0 = a0 56 1) from by omega), (show (x1 = 12 → f_X0_size a0 b0 = a0 56 2) from by omega), (show (x1 = 13 → f_X0_size a0 b0 = a0 56 3) from by omega), (show (x1 = 14 → f_X0_size a0 b0 = a0 56 4) from by omega), (by omega), (by omega), (show ((((x1 < 0 ∨ (14 < x1 ∧ x1 < 20)) ∨ (27 < x1 ∧ x1 < 30)) ∨ 37 < x1) → f_X0_size a0 b0 = 0 - 1) from by omega)⟩
          ·
            refine jt_ite (fun c783_ => ?_) (fun c783_ => ?_)
            ·
              refine jt_eI (eq_X0_tellings E d (jd_le hd rfl) a0 b0) ?_
              have h784_ := f_X0_tellings_eq a0 b0
              have h785_ := iv_get hv0 (k := 58) (j := 12) (l := 0) (u := 600) rfl
              have h786_ := iv_get hv0 (k := 0) (j := 0) (l := 0) (u := 1999) rfl
              have h787_ := iv_get hv0 (k := 4) (j := 6) (l := 0) (u := 40) rfl
              have h788_ := iv_get hv0 (k := 58) (j := 8) (l := 0) (u := 300) rfl
              have h789_ := iv_get hv0 (k := 83) (j := 6) (l := 0) (u := 20) rfl
              have h790_ := iv_get hv0 (k := 105) (j := 5) (l := 0) (u := 10) rfl
              have h791_ := iv_get hv0 (k := 2) (j := 1) (l := 0) (u := 200) rfl
              have h792_ := iv_get hv0 (k := 0) (j := 9) (l := 0) (u := 8) rfl
              exact jt_rI ⟨rfl, rfl, (show (x1 = 0 → f_X0_tellings a0 b0 = a0 0 0) from by omega), (show (x1 = 1 → f_X0_tellings a0 b0 = a0 4 6) from by omega), (show (x1 = 3 → f_X0_tellings a0 b0 = a0 58 8) from by omega), (show (x1 = 4 → f_X0_tellings a0 b0 = a0 58 12) from by omega), (show (x1 = 5 → f_X0_tellings a0 b0 = a0 83 6) from by omega), (show (x1 = 6 → f_X0_tellings a0 b0 = a0 83 7) from by omega), (show (x1 = 7 → f_X0_tellings a0 b0 = a0 105 5) from by omega), (show (x1 = 8 → f_X0_tellings a0 b0 = a0 2 1) from by omega), (show (x1 = 9 → f_X0_tellings a0 b0 = a0 0 9) from by omega), (show ((x1 = 2 ∧ a0 4 6 = 0) → f_X0_tellings a0 b0 = 0) from by omega), (show (x1 = 10 → f_X0_tellings a0 b0 = a0 56 0) from by omega), (show (x1 = 11 → f_X0_tellings a0 b0 = a0 56 1) from by omega), (show (x1 = 12 → f_X0_tellings a0 b0 = a0 56 2) from by omega), (show (x1 = 13 → f_X0_tellings a0 b0 = a0 56 3) from by omega), (show (x1 = 14 → f_X0_tellings a0 b0 = a0 56 4) from by omega), (by omega), (by omega), (show ((((x1 < 0 ∨ (14 < x1 ∧ x1 < 20)) ∨ (27 < x1 ∧ x1 < 30)) ∨ 37 < x1) → f_X0_tellings a0 b0 = 0 - 1) from by omega)⟩
            ·
              refine jt_ite (fun c793_ => ?_) (fun c793_ => ?_)
              ·
                refine jt_eI (eq_X4_size E d (jd_le hd rfl) a0 b0) ?_
                have h794_ := f_X4_size_eq a0 b0
                have h795_ := iv_get hv0 (k := 83) (j := 6) (l := 0) (u := 20) rfl
                have h796_ := iv_get hv0 (k := 0) (j := 0) (l := 0) (u := 1999) rfl
                have h797_ := iv_get hv0 (k := 4) (j := 6) (l := 0) (u := 40) rfl
                have h798_ := iv_get hv0 (k := 58) (j := 8) (l := 0) (u := 300) rfl
                have h799_ := iv_get hv0 (k := 58) (j := 12) (l := 0) (u := 600) rfl
                have h800_ := iv_get hv0 (k := 105) (j := 5) (l := 0) (u := 10) rfl
                have h801_ := iv_get hv0 (k := 2) (j := 1) (l := 0) (u := 200) rfl
                have h802_ := iv_get hv0 (k := 0) (j := 9) (l := 0) (u := 8) rfl
                exact jt_rI ⟨rfl, rfl, (show (x1 = 0 → f_X4_size a0 b0 = a0 0 0) from by omega), (show (x1 = 1 → f_X4_size a0 b0 = a0 4 6) from by omega), (show (x1 = 3 → f_X4_size a0 b0 = a0 58 8) from by omega), (show (x1 = 4 → f_X4_size a0 b0 = a0 58 12) from by omega), (show (x1 = 5 → f_X4_size a0 b0 = a0 83 6) from by omega), (show (x1 = 6 → f_X4_size a0 b0 = a0 83 7) from by omega), (show (x1 = 7 → f_X4_size a0 b0 = a0 105 5) from by omega), (show (x1 = 8 → f_X4_size a0 b0 = a0 2 1) from by omega), (show (x1 = 9 → f_X4_size a0 b0 = a0 0 9) from by omega), (show ((x1 = 2 ∧ a0 4 6 = 0) → f_X4_size a0 b0 = 0) from by omega), (show (x1 = 10 → f_X4_size a0 b0 = a0 56 0) from by omega), (show (x1 = 11 → f_X4_size a0 b0 = a0 56 1) from by omega), (show (x1 = 12 → f_X4_size a0 b0 = a0 56 2) from by omega), (show (x1 = 13 → f_X4_size a0 b0 = a0 56 3) from by omega), (show (x1 = 14 → f_X4_size a0 b0 = a0 56 4) from by omega), (by omega), (by omega), (show ((((x1 < 0 ∨ (14 < x1 ∧ x1 < 20)) ∨ (27 < x1 ∧ x1 < 30)) ∨ 37 < x1) → f_X4_size a0 b0 = 0 - 1) from by omega)⟩
              ·
                refine jt_ite (fun c803_ => ?_) (fun c803_ => ?_)
                ·
                  refine jt_eI (eq_X4_ringsClosed E d (jd_le hd rfl) a0 b0) ?_
                  have h804_ := f_X4_ringsClosed_eq a0 b0
                  have h805_ := iv_get hv0 (k := 0) (j := 0) (l := 0) (u := 1999) rfl
                  have h806_ := iv_get hv0 (k := 4) (j := 6) (l := 0) (u := 40) rfl
                  have h807_ := iv_get hv0 (k := 58) (j := 8) (l := 0) (u := 300) rfl
                  have h808_ := iv_get hv0 (k := 58) (j := 12) (l := 0) (u := 600) rfl
                  have h809_ := iv_get hv0 (k := 83) (j := 6) (l := 0) (u := 20) rfl
                  have h810_ := iv_get hv0 (k := 105) (j := 5) (l := 0) (u := 10) rfl
                  have h811_ := iv_get hv0 (k := 2) (j := 1) (l := 0) (u := 200) rfl
                  have h812_ := iv_get hv0 (k := 0) (j := 9) (l := 0) (u := 8) rfl
                  exact jt_rI ⟨rfl, rfl, (show (x1 = 0 → f_X4_ringsClosed a0 b0 = a0 0 0) from by omega), (show (x1 = 1 → f_X4_ringsClosed a0 b0 = a0 4 6) from by omega), (show (x1 = 3 → f_X4_ringsClosed a0 b0 = a0 58 8) from by omega), (show (x1 = 4 → f_X4_ringsClosed a0 b0 = a0 58 12) from by omega), (show (x1 = 5 → f_X4_ringsClosed a0 b0 = a0 83 6) from by omega), (show (x1 = 6 → f_X4_ringsClosed a0 b0 = a0 83 7) from by omega), (show (x1 = 7 → f_X4_ringsClosed a0 b0 = a0 105 5) from by omega), (show (x1 = 8 → f_X4_ringsClosed a0 b0 = a0 2 1) from by omega), (show (x1 = 9 → f_X4_ringsClosed a0 b0 = a0 0 9) from by omega), (show ((x1 = 2 ∧ a0 4 6 = 0) → f_X4_ringsClosed a0 b0 = 0) from by omega), (show (x1 = 10 → f_X4_ringsClosed a0 b0 = a0 56 0) from by omega), (show (x1 = 11 → f_X4_ringsClosed a0 b0 = a0 56 1) from by omega), (show (x1 = 12 → f_X4_ringsClosed a0 b0 = a0 56 2) from by omega), (show (x1 = 13 → f_X4_ringsClosed a0 b0 = a0 56 3) from by omega), (show (x1 = 14 → f_X4_ringsClosed a0 b0 = a0 56 4) from by omega), (by omega), (by omega), (show ((((x1 < 0 ∨ (14 < x1 ∧ x1 < 20)) ∨ (27 < x1 ∧ x1 < 30)) ∨ 37 < x1) → f_X4_ringsClosed a0 b0 = 0 - 1) from by omega)⟩
                ·
                  refine jt_ite (fun c813_ => ?_) (fun c813_ => ?_)
                  ·
                    refine jt_eI (eq_X9_size E d (jd_le hd rfl) a0 b0) ?_
                    have h814_ := f_X9_size_eq a0 b0
                    have h815_ := iv_get hv0 (k := 105) (j := 5) (l := 0) (u := 10) rfl
                    have h816_ := iv_get hv0 (k := 0) (j := 0) (l := 0) (u := 1999) rfl
                    have h817_ := iv_get hv0 (k := 4) (j := 6) (l := 0) (u := 40) rfl
                    have h818_ := iv_get hv0 (k := 58) (j := 8) (l := 0) (u := 300) rfl
                    have h819_ := iv_get hv0 (k := 58) (j := 12) (l := 0) (u := 600) rfl
                    have h820_ := iv_get hv0 (k := 83) (j := 6) (l := 0) (u := 20) rfl
                    have h821_ := iv_get hv0 (k := 2) (j := 1) (l := 0) (u := 200) rfl
                    have h822_ := iv_get hv0 (k := 0) (j := 9) (l := 0) (u := 8) rfl
                    exact jt_rI ⟨rfl, rfl, (show (x1 = 0 → f_X9_size a0 b0 = a0 0 0) from by omega), (show (x1 = 1 → f_X9_size a0 b0 = a0 4 6) from by omega), (show (x1 = 3 → f_X9_size a0 b0 = a0 58 8) from by omega), (show (x1 = 4 → f_X9_size a0 b0 = a0 58 12) from by omega), (show (x1 = 5 → f_X9_size a0 b0 = a0 83 6) from by omega), (show (x1 = 6 → f_X9_size a0 b0 = a0 83 7) from by omega), (show (x1 = 7 → f_X9_size a0 b0 = a0 105 5) from by omega), (show (x1 = 8 → f_X9_size a0 b0 = a0 2 1) from by omega), (show (x1 = 9 → f_X9_size a0 b0 = a0 0 9) from by omega), (show ((x1 = 2 ∧ a0 4 6 = 0) → f_X9_size a0 b0 = 0) from by omega), (show (x1 = 10 → f_X9_size a0 b0 = a0 56 0) from by omega), (show (x1 = 11 → f_X9_size a0 b0 = a0 56 1) from by omega), (show (x1 = 12 → f_X9_size a0 b0 = a0 56 2) from by omega), (show (x1 = 13 → f_X9_size a0 b0 = a0 56 3) from by omega), (show (x1 = 14 → f_X9_size a0 b0 = a0 56 4) from by omega), (by omega), (by omega), (show ((((x1 < 0 ∨ (14 < x1 ∧ x1 < 20)) ∨ (27 < x1 ∧ x1 < 30)) ∨ 37 < x1) → f_X9_size a0 b0 = 0 - 1) from by omega)⟩
                  ·
                    refine jt_ite (fun c823_ => ?_) (fun c823_ => ?_)
                    ·
                      refine jt_eI (eq_X8_length E d (jd_le hd rfl) a0 b0) ?_
                      have h824_ := f_X8_length_eq a0 b0
                      have h825_ := iv_get hv0 (k := 2) (j := 1) (l := 0) (u := 200) rfl
                      have h826_ := iv_get hv0 (k := 0) (j := 0) (l := 0) (u := 1999) rfl
                      have h827_ := iv_get hv0 (k := 4) (j := 6) (l := 0) (u := 40) rfl
                      have h828_ := iv_get hv0 (k := 58) (j := 8) (l := 0) (u := 300) rfl
                      have h829_ := iv_get hv0 (k := 58) (j := 12) (l := 0) (u := 600) rfl
                      have h830_ := iv_get hv0 (k := 83) (j := 6) (l := 0) (u := 20) rfl
                      have h831_ := iv_get hv0 (k := 105) (j := 5) (l := 0) (u := 10) rfl
                      have h832_ := iv_get hv0 (k := 0) (j := 9) (l := 0) (u := 8) rfl
                      exact jt_rI ⟨rfl, rfl, (show (x1 = 0 → f_X8_length a0 b0 = a0 0 0) from by omega), (show (x1 = 1 → f_X8_length a0 b0 = a0 4 6) from by omega), (show (x1 = 3 → f_X8_length a0 b0 = a0 58 8) from by omega), (show (x1 = 4 → f_X8_length a0 b0 = a0 58 12) from by omega), (show (x1 = 5 → f_X8_length a0 b0 = a0 83 6) from by omega), (show (x1 = 6 → f_X8_length a0 b0 = a0 83 7) from by omega), (show (x1 = 7 → f_X8_length a0 b0 = a0 105 5) from by omega), (show (x1 = 8 → f_X8_length a0 b0 = a0 2 1) from by omega), (show (x1 = 9 → f_X8_length a0 b0 = a0 0 9) from by omega), (show ((x1 = 2 ∧ a0 4 6 = 0) → f_X8_length a0 b0 = 0) from by omega), (show (x1 = 10 → f_X8_length a0 b0 = a0 56 0) from by omega), (show (x1 = 11 → f_X8_length a0 b0 = a0 56 1) from by omega), (show (x1 = 12 → f_X8_length a0 b0 = a0 56 2) from by omega), (show (x1 = 13 → f_X8_length a0 b0 = a0 56 3) from by omega), (show (x1 = 14 → f_X8_length a0 b0 = a0 56 4) from by omega), (by omega), (by omega), (show ((((x1 < 0 ∨ (14 < x1 ∧ x1 < 20)) ∨ (27 < x1 ∧ x1 < 30)) ∨ 37 < x1) → f_X8_length a0 b0 = 0 - 1) from by omega)⟩
                    ·
                      refine jt_ite (fun c833_ => ?_) (fun c833_ => ?_)
                      ·
                        have h834_ := iv_get hv0 (k := 0) (j := 9) (l := 0) (u := 8) rfl
                        have h835_ := iv_get hv0 (k := 0) (j := 0) (l := 0) (u := 1999) rfl
                        have h836_ := iv_get hv0 (k := 4) (j := 6) (l := 0) (u := 40) rfl
                        have h837_ := iv_get hv0 (k := 58) (j := 8) (l := 0) (u := 300) rfl
                        have h838_ := iv_get hv0 (k := 58) (j := 12) (l := 0) (u := 600) rfl
                        have h839_ := iv_get hv0 (k := 83) (j := 6) (l := 0) (u := 20) rfl
                        have h840_ := iv_get hv0 (k := 105) (j := 5) (l := 0) (u := 10) rfl
                        have h841_ := iv_get hv0 (k := 2) (j := 1) (l := 0) (u := 200) rfl
                        exact jt_rI ⟨rfl, rfl, (show (x1 = 0 → a0 0 9 = a0 0 0) from by omega), (show (x1 = 1 → a0 0 9 = a0 4 6) from by omega), (show (x1 = 3 → a0 0 9 = a0 58 8) from by omega), (show (x1 = 4 → a0 0 9 = a0 58 12) from by omega), (show (x1 = 5 → a0 0 9 = a0 83 6) from by omega), (show (x1 = 6 → a0 0 9 = a0 83 7) from by omega), (show (x1 = 7 → a0 0 9 = a0 105 5) from by omega), (show (x1 = 8 → a0 0 9 = a0 2 1) from by omega), (show (x1 = 9 → a0 0 9 = a0 0 9) from by omega), (show ((x1 = 2 ∧ a0 4 6 = 0) → a0 0 9 = 0) from by omega), (show (x1 = 10 → a0 0 9 = a0 56 0) from by omega), (show (x1 = 11 → a0 0 9 = a0 56 1) from by omega), (show (x1 = 12 → a0 0 9 = a0 56 2) from by omega), (show (x1 = 13 → a0 0 9 = a0 56 3) from by omega), (show (x1 = 14 → a0 0 9 = a0 56 4) from by omega), (by omega), (by omega), (show ((((x1 < 0 ∨ (14 < x1 ∧ x1 < 20)) ∨ (27 < x1 ∧ x1 < 30)) ∨ 37 < x1) → a0 0 9 = 0 - 1) from by omega)⟩
                      ·
                        refine jt_ite (fun c842_ => ?_) (fun c842_ => ?_)
                        ·
                          refine jt_eI (eq_X6_under E d (jd_le hd rfl) a0 b0) ?_
                          have h843_ := f_X6_under_eq a0 b0
                          have h844_ := iv_get hv0 (k := 0) (j := 0) (l := 0) (u := 1999) rfl
                          have h845_ := iv_get hv0 (k := 4) (j := 6) (l := 0) (u := 40) rfl
                          have h846_ := iv_get hv0 (k := 58) (j := 8) (l := 0) (u := 300) rfl
                          have h847_ := iv_get hv0 (k := 58) (j := 12) (l := 0) (u := 600) rfl
                          have h848_ := iv_get hv0 (k := 83) (j := 6) (l := 0) (u := 20) rfl
                          have h849_ := iv_get hv0 (k := 105) (j := 5) (l := 0) (u := 10) rfl
                          have h850_ := iv_get hv0 (k := 2) (j := 1) (l := 0) (u := 200) rfl
                          have h851_ := iv_get hv0 (k := 0) (j := 9) (l := 0) (u := 8) rfl
                          exact jt_rI ⟨rfl, rfl, (show (x1 = 0 → f_X6_under a0 b0 = a0 0 0) from by omega), (show (x1 = 1 → f_X6_under a0 b0 = a0 4 6) from by omega), (show (x1 = 3 → f_X6_under a0 b0 = a0 58 8) from by omega), (show (x1 = 4 → f_X6_under a0 b0 = a0 58 12) from by omega), (show (x1 = 5 → f_X6_under a0 b0 = a0 83 6) from by omega), (show (x1 = 6 → f_X6_under a0 b0 = a0 83 7) from by omega), (show (x1 = 7 → f_X6_under a0 b0 = a0 105 5) from by omega), (show (x1 = 8 → f_X6_under a0 b0 = a0 2 1) from by omega), (show (x1 = 9 → f_X6_under a0 b0 = a0 0 9) from by omega), (show ((x1 = 2 ∧ a0 4 6 = 0) → f_X6_under a0 b0 = 0) from by omega), (show (x1 = 10 → f_X6_under a0 b0 = a0 56 0) from by omega), (show (x1 = 11 → f_X6_under a0 b0 = a0 56 1) from by omega), (show (x1 = 12 → f_X6_under a0 b0 = a0 56 2) from by omega), (show (x1 = 13 → f_X6_under a0 b0 = a0 56 3) from by omega), (show (x1 = 14 → f_X6_under a0 b0 = a0 56 4) from by omega), (by omega), (by omega), (show ((((x1 < 0 ∨ (14 < x1 ∧ x1 < 20)) ∨ (27 < x1 ∧ x1 < 30)) ∨ 37 < x1) → f_X6_under a0 b0 = 0 - 1) from by omega)⟩
                        ·
                          refine jt_ite (fun c852_ => ?_) (fun c852_ => ?_)
                          ·
                            refine jt_eI (eq_X6_more E d (jd_le hd rfl) a0 b0) ?_
                            have h853_ := f_X6_more_eq a0 b0
                            have h854_ := iv_get hv0 (k := 0) (j := 0) (l := 0) (u := 1999) rfl
                            have h855_ := iv_get hv0 (k := 4) (j := 6) (l := 0) (u := 40) rfl
                            have h856_ := iv_get hv0 (k := 58) (j := 8) (l := 0) (u := 300) rfl
                            have h857_ := iv_get hv0 (k := 58) (j := 12) (l := 0) (u := 600) rfl
                            have h858_ := iv_get hv0 (k := 83) (j := 6) (l := 0) (u := 20) rfl
                            have h859_ := iv_get hv0 (k := 105) (j := 5) (l := 0) (u := 10) rfl
                            have h860_ := iv_get hv0 (k := 2) (j := 1) (l := 0) (u := 200) rfl
                            have h861_ := iv_get hv0 (k := 0) (j := 9) (l := 0) (u := 8) rfl
                            exact jt_rI ⟨rfl, rfl, (show (x1 = 0 → f_X6_more a0 b0 = a0 0 0) from by omega), (show (x1 = 1 → f_X6_more a0 b0 = a0 4 6) from by omega), (show (x1 = 3 → f_X6_more a0 b0 = a0 58 8) from by omega), (show (x1 = 4 → f_X6_more a0 b0 = a0 58 12) from by omega), (show (x1 = 5 → f_X6_more a0 b0 = a0 83 6) from by omega), (show (x1 = 6 → f_X6_more a0 b0 = a0 83 7) from by omega), (show (x1 = 7 → f_X6_more a0 b0 = a0 105 5) from by omega), (show (x1 = 8 → f_X6_more a0 b0 = a0 2 1) from by omega), (show (x1 = 9 → f_X6_more a0 b0 = a0 0 9) from by omega), (show ((x1 = 2 ∧ a0 4 6 = 0) → f_X6_more a0 b0 = 0) from by omega), (show (x1 = 10 → f_X6_more a0 b0 = a0 56 0) from by omega), (show (x1 = 11 → f_X6_more a0 b0 = a0 56 1) from by omega), (show (x1 = 12 → f_X6_more a0 b0 = a0 56 2) from by omega), (show (x1 = 13 → f_X6_more a0 b0 = a0 56 3) from by omega), (show (x1 = 14 → f_X6_more a0 b0 = a0 56 4) from by omega), (by omega), (by omega), (show ((((x1 < 0 ∨ (14 < x1 ∧ x1 < 20)) ∨ (27 < x1 ∧ x1 < 30)) ∨ 37 < x1) → f_X6_more a0 b0 = 0 - 1) from by omega)⟩
                          ·
                            refine jt_ite (fun c862_ => ?_) (fun c862_ => ?_)
                            ·
                              refine jt_eI (eq_X6_slack E d (jd_le hd rfl) a0 b0) ?_
                              have h863_ := f_X6_slack_eq a0 b0
                              have h864_ := iv_get hv0 (k := 0) (j := 0) (l := 0) (u := 1999) rfl
                              have h865_ := iv_get hv0 (k := 4) (j := 6) (l := 0) (u := 40) rfl
                              have h866_ := iv_get hv0 (k := 58) (j := 8) (l := 0) (u := 300) rfl
                              have h867_ := iv_get hv0 (k := 58) (j := 12) (l := 0) (u := 600) rfl
                              have h868_ := iv_get hv0 (k := 83) (j := 6) (l := 0) (u := 20) rfl
                              have h869_ := iv_get hv0 (k := 105) (j := 5) (l := 0) (u := 10) rfl
                              have h870_ := iv_get hv0 (k := 2) (j := 1) (l := 0) (u := 200) rfl
                              have h871_ := iv_get hv0 (k := 0) (j := 9) (l := 0) (u := 8) rfl
                              exact jt_rI ⟨rfl, rfl, (show (x1 = 0 → f_X6_slack a0 b0 = a0 0 0) from by omega), (show (x1 = 1 → f_X6_slack a0 b0 = a0 4 6) from by omega), (show (x1 = 3 → f_X6_slack a0 b0 = a0 58 8) from by omega), (show (x1 = 4 → f_X6_slack a0 b0 = a0 58 12) from by omega), (show (x1 = 5 → f_X6_slack a0 b0 = a0 83 6) from by omega), (show (x1 = 6 → f_X6_slack a0 b0 = a0 83 7) from by omega), (show (x1 = 7 → f_X6_slack a0 b0 = a0 105 5) from by omega), (show (x1 = 8 → f_X6_slack a0 b0 = a0 2 1) from by omega), (show (x1 = 9 → f_X6_slack a0 b0 = a0 0 9) from by omega), (show ((x1 = 2 ∧ a0 4 6 = 0) → f_X6_slack a0 b0 = 0) from by omega), (show (x1 = 10 → f_X6_slack a0 b0 = a0 56 0) from by omega), (show (x1 = 11 → f_X6_slack a0 b0 = a0 56 1) from by omega), (show (x1 = 12 → f_X6_slack a0 b0 = a0 56 2) from by omega), (show (x1 = 13 → f_X6_slack a0 b0 = a0 56 3) from by omega), (show (x1 = 14 → f_X6_slack a0 b0 = a0 56 4) from by omega), (by omega), (by omega), (show ((((x1 < 0 ∨ (14 < x1 ∧ x1 < 20)) ∨ (27 < x1 ∧ x1 < 30)) ∨ 37 < x1) → f_X6_slack a0 b0 = 0 - 1) from by omega)⟩
                            ·
                              refine jt_ite (fun c872_ => ?_) (fun c872_ => ?_)
                              ·
                                refine jt_eI (eq_X6_lost E d (jd_le hd rfl) a0 b0) ?_
                                have h873_ := f_X6_lost_eq a0 b0
                                have h874_ := iv_get hv0 (k := 0) (j := 0) (l := 0) (u := 1999) rfl
                                have h875_ := iv_get hv0 (k := 4) (j := 6) (l := 0) (u := 40) rfl
                                have h876_ := iv_get hv0 (k := 58) (j := 8) (l := 0) (u := 300) rfl
                                have h877_ := iv_get hv0 (k := 58) (j := 12) (l := 0) (u := 600) rfl
                                have h878_ := iv_get hv0 (k := 83) (j := 6) (l := 0) (u := 20) rfl
                                have h879_ := iv_get hv0 (k := 105) (j := 5) (l := 0) (u := 10) rfl
                                have h880_ := iv_get hv0 (k := 2) (j := 1) (l := 0) (u := 200) rfl
                                have h881_ := iv_get hv0 (k := 0) (j := 9) (l := 0) (u := 8) rfl
                                exact jt_rI ⟨rfl, rfl, (show (x1 = 0 → f_X6_lost a0 b0 = a0 0 0) from by omega), (show (x1 = 1 → f_X6_lost a0 b0 = a0 4 6) from by omega), (show (x1 = 3 → f_X6_lost a0 b0 = a0 58 8) from by omega), (show (x1 = 4 → f_X6_lost a0 b0 = a0 58 12) from by omega), (show (x1 = 5 → f_X6_lost a0 b0 = a0 83 6) from by omega), (show (x1 = 6 → f_X6_lost a0 b0 = a0 83 7) from by omega), (show (x1 = 7 → f_X6_lost a0 b0 = a0 105 5) from by omega), (show (x1 = 8 → f_X6_lost a0 b0 = a0 2 1) from by omega), (show (x1 = 9 → f_X6_lost a0 b0 = a0 0 9) from by omega), (show ((x1 = 2 ∧ a0 4 6 = 0) → f_X6_lost a0 b0 = 0) from by omega), (show (x1 = 10 → f_X6_lost a0 b0 = a0 56 0) from by omega), (show (x1 = 11 → f_X6_lost a0 b0 = a0 56 1) from by omega), (show (x1 = 12 → f_X6_lost a0 b0 = a0 56 2) from by omega), (show (x1 = 13 → f_X6_lost a0 b0 = a0 56 3) from by omega), (show (x1 = 14 → f_X6_lost a0 b0 = a0 56 4) from by omega), (by omega), (by omega), (show ((((x1 < 0 ∨ (14 < x1 ∧ x1 < 20)) ∨ (27 < x1 ∧ x1 < 30)) ∨ 37 < x1) → f_X6_lost a0 b0 = 0 - 1) from by omega)⟩
                              ·
                                refine jt_ite (fun c882_ => ?_) (fun c882_ => ?_)
                                ·
                                  refine jt_eI (eq_X6_strict E d (jd_le hd rfl) a0 b0) ?_
                                  have h883_ := f_X6_strict_eq a0 b0
                                  have h884_ := iv_get hv0 (k := 0) (j := 0) (l := 0) (u := 1999) rfl
                                  have h885_ := iv_get hv0 (k := 4) (j := 6) (l := 0) (u := 40) rfl
                                  have h886_ := iv_get hv0 (k := 58) (j := 8) (l := 0) (u := 300) rfl
                                  have h887_ := iv_get hv0 (k := 58) (j := 12) (l := 0) (u := 600) rfl
                                  have h888_ := iv_get hv0 (k := 83) (j := 6) (l := 0) (u := 20) rfl
                                  have h889_ := iv_get hv0 (k := 105) (j := 5) (l := 0) (u := 10) rfl
                                  have h890_ := iv_get hv0 (k := 2) (j := 1) (l := 0) (u := 200) rfl
                                  have h891_ := iv_get hv0 (k := 0) (j := 9) (l := 0) (u := 8) rfl
                                  exact jt_rI ⟨rfl, rfl, (show (x1 = 0 → f_X6_strict a0 b0 = a0 0 0) from by omega), (show (x1 = 1 → f_X6_strict a0 b0 = a0 4 6) from by omega), (show (x1 = 3 → f_X6_strict a0 b0 = a0 58 8) from by omega), (show (x1 = 4 → f_X6_strict a0 b0 = a0 58 12) from by omega), (show (x1 = 5 → f_X6_strict a0 b0 = a0 83 6) from by omega), (show (x1 = 6 → f_X6_strict a0 b0 = a0 83 7) from by omega), (show (x1 = 7 → f_X6_strict a0 b0 = a0 105 5) from by omega), (show (x1 = 8 → f_X6_strict a0 b0 = a0 2 1) from by omega), (show (x1 = 9 → f_X6_strict a0 b0 = a0 0 9) from by omega), (show ((x1 = 2 ∧ a0 4 6 = 0) → f_X6_strict a0 b0 = 0) from by omega), (show (x1 = 10 → f_X6_strict a0 b0 = a0 56 0) from by omega), (show (x1 = 11 → f_X6_strict a0 b0 = a0 56 1) from by omega), (show (x1 = 12 → f_X6_strict a0 b0 = a0 56 2) from by omega), (show (x1 = 13 → f_X6_strict a0 b0 = a0 56 3) from by omega), (show (x1 = 14 → f_X6_strict a0 b0 = a0 56 4) from by omega), (by omega), (by omega), (show ((((x1 < 0 ∨ (14 < x1 ∧ x1 < 20)) ∨ (27 < x1 ∧ x1 < 30)) ∨ 37 < x1) → f_X6_strict a0 b0 = 0 - 1) from by omega)⟩
                                ·
                                  exact absurd (by omega : False) id
def jW_X11_withdraw : List (Nat × Nat) := [(9, 9999), (64, 9999), (87, 9999), (88, 9999), (89, 9999)]
abbrev jQ_X11_withdraw (x1 : Int) (a0 b0 : Nat → Nat → Int) : List jxV → (Nat → Nat → Int) → (Nat → Nat → Int) → Prop := rI (fun r a b => (iv a) ∧ (jfr jW_X11_withdraw a0 a) ∧ (b0 = b))
theorem cp_X11_withdraw_58 (E : jxE) (d : Nat) (hd : Nat.ble 4 (d + 1) = true) (x1 : Int) (a0 b0 : Nat → Nat → Int) (hv0 : iv a0) : ∀ (a : Nat → Nat → Int), iv a → jfr jW_X11_withdraw a0 a → jt (jxX E d 159 58 [none, none, none] [] (jxSH, a, b0)) (jQ_X11_withdraw x1 a0 b0) := by
  intro a hv hf
  refine jt_eq (bq_X11_withdraw_58 E d a b0) ?_
  exact jt_rI ⟨hv, hf, rfl⟩
theorem cp_X11_withdraw_105 (E : jxE) (d : Nat) (hd : Nat.ble 4 (d + 1) = true) (x1 : Int) (a0 b0 : Nat → Nat → Int) (hv0 : iv a0) : ∀ (a : Nat → Nat → Int), iv a → jfr jW_X11_withdraw a0 a → jt (jxX E d 159 105 [none, none, none] [] (jxSH, a, b0)) (jQ_X11_withdraw x1 a0 b0) := by
  intro a hv hf
  refine jt_eq (bq_X11_withdraw_105 E d a b0) ?_
  exact jt_rI ⟨hv, hf, rfl⟩
theorem cp_X11_withdraw_90 (E : jxE) (d : Nat) (hd : Nat.ble 4 (d + 1) = true) (x1 : Int) (a0 b0 : Nat → Nat → Int) (hv0 : iv a0) : ∀ (y2 : Int) (a : Nat → Nat → Int), iv a → jfr jW_X11_withdraw a0 a → 0 ≤ y2 → y2 ≤ 299 → jt (jxX E d 159 90 [some (.inr (.inr (.inl 0))), none, some (.inl y2)] [] (jxSH, a, b0)) (jQ_X11_withdraw x1 a0 b0) := by
  intro y2 a hv hf hi0 hi1
  refine jt_eq (bq_X11_withdraw_90 E d y2 a b0) ?_
  refine jt_eI (eq_X0_toOf E d (jd_le hd rfl) y2 a b0) ?_
  refine jt_bV (sp_X3_addCredit E d (jd_le hd rfl) (f_X0_toOf a b0 y2) a b0 hv) (fun a892_ b892_ h892_ => ?_)
  obtain ⟨hv892_, hf892_, rfl⟩ := h892_
  have hf893_ : jfr jW_X11_withdraw a0 a892_ := jfr_tr hf hf892_ rfl
  exact cp_X11_withdraw_105 E d hd x1 a0 b0 hv0 a892_ hv892_ hf893_
theorem cp_X11_withdraw_60 (E : jxE) (d : Nat) (hd : Nat.ble 4 (d + 1) = true) (x1 : Int) (a0 b0 : Nat → Nat → Int) (hv0 : iv a0) : ∀ (y2 : Int) (a : Nat → Nat → Int), iv a → jfr jW_X11_withdraw a0 a → 0 ≤ y2 → y2 ≤ 299 → jt (jxX E d 159 60 [some (.inr (.inr (.inl 0))), none, some (.inl y2)] [] (jxSH, a, b0)) (jQ_X11_withdraw x1 a0 b0) := by
  intro y2 a hv hf hi0 hi1
  refine jt_eq (bq_X11_withdraw_60 E d y2 a b0) ?_
  refine jt_bV (sp_X0_cancel E d (jd_le hd rfl) y2 (a 0 0) a b0 hv) (fun a894_ b894_ h894_ => ?_)
  obtain ⟨hv894_, hf894_, rfl⟩ := h894_
  refine jt_eI (eq_X0_toOf E d (jd_le hd rfl) y2 a894_ b0) ?_
  refine jt_eI (eq_X3_isThere E d (jd_le hd rfl) (f_X0_toOf a894_ b0 y2) a894_ b0) ?_
  have h895_ := f_X0_toOf_eq a894_ b0 y2
  have h896_ := iv_get hv894_ (k := 58) (j := 8) (l := 0) (u := 300) rfl
  have h897_ : a894_ 58 8 = a 58 8 := hf894_ 58 8 rfl
  have h898_ := iv_get hv (k := 58) (j := 8) (l := 0) (u := 300) rfl
  have h899_ : a 58 8 = a0 58 8 := hf 58 8 rfl
  have h900_ := iv_get hv0 (k := 58) (j := 8) (l := 0) (u := 300) rfl
  have h901_ := f_X11_entry_r60_eq a894_ b0 (a894_ 58 8) y2
  have h902_ : a894_ 60 (y2.toNat) = a 60 (y2.toNat) := hf894_ 60 (y2.toNat) rfl
  have h903_ : a 60 (y2.toNat) = a0 60 (y2.toNat) := hf 60 (y2.toNat) rfl
  have h904_ := f_X3_isThere_eq a894_ b0 (f_X0_toOf a894_ b0 y2)
  have h905_ := f_X3_has_eq a894_ b0 (f_X0_toOf a894_ b0 y2)
  have h906_ := iv_get hv894_ (k := 4) (j := 6) (l := 0) (u := 40) rfl
  have h907_ : a894_ 4 6 = a 4 6 := hf894_ 4 6 rfl
  have h908_ := iv_get hv (k := 4) (j := 6) (l := 0) (u := 40) rfl
  have h909_ : a 4 6 = a0 4 6 := hf 4 6 rfl
  have h910_ := iv_get hv0 (k := 4) (j := 6) (l := 0) (u := 40) rfl
  have h911_ : a894_ 10 ((f_X0_toOf a894_ b0 y2).toNat) = a 10 ((f_X0_toOf a894_ b0 y2).toNat) := hf894_ 10 ((f_X0_toOf a894_ b0 y2).toNat) rfl
  have h912_ : a 10 ((f_X0_toOf a894_ b0 y2).toNat) = a0 10 ((f_X0_toOf a894_ b0 y2).toNat) := hf 10 ((f_X0_toOf a894_ b0 y2).toNat) rfl
  refine jt_ite (fun c913_ => ?_) (fun c913_ => ?_)
  ·
    have hf914_ : jfr jW_X11_withdraw a0 a894_ := jfr_tr hf hf894_ rfl
    exact cp_X11_withdraw_105 E d hd x1 a0 b0 hv0 a894_ hv894_ hf914_
  ·
    have hf915_ : jfr jW_X11_withdraw a0 a894_ := jfr_tr hf hf894_ rfl
    exact cp_X11_withdraw_90 E d hd x1 a0 b0 hv0 y2 a894_ hv894_ hf915_ (show 0 ≤ y2 from by omega) (show y2 ≤ 299 from by omega)
theorem cp_X11_withdraw_23 (E : jxE) (d : Nat) (hd : Nat.ble 4 (d + 1) = true) (x1 : Int) (a0 b0 : Nat → Nat → Int) (hv0 : iv a0) : ∀ (y1 s0 : Int) (a : Nat → Nat → Int), iv a → jfr jW_X11_withdraw a0 a → jt (jxX E d 159 23 [some (.inr (.inr (.inl 0))), some (.inl y1), none] [.inl s0] (jxSH, a, b0)) (jQ_X11_withdraw x1 a0 b0) := by
  intro y1 s0 a hv hf
  refine jt_eq (bq_X11_withdraw_23 E d y1 s0 a b0) ?_
  refine jt_bV (sp_X4_takeAway E d (jd_le hd rfl) y1 a b0 hv) (fun a916_ b916_ h916_ => ?_)
  obtain ⟨hv916_, hf916_, rfl⟩ := h916_
  refine jt_eI (eq_X0_has E d (jd_le hd rfl) s0 a916_ b0) ?_
  have h917_ := f_X0_has_eq a916_ b0 s0
  have h918_ := iv_get hv916_ (k := 58) (j := 8) (l := 0) (u := 300) rfl
  have h919_ : a916_ 58 8 = a 58 8 := hf916_ 58 8 rfl
  have h920_ := iv_get hv (k := 58) (j := 8) (l := 0) (u := 300) rfl
  have h921_ : a 58 8 = a0 58 8 := hf 58 8 rfl
  have h922_ := iv_get hv0 (k := 58) (j := 8) (l := 0) (u := 300) rfl
  refine jt_ite (fun c923_ => ?_) (fun c923_ => ?_)
  ·
    have hf924_ : jfr jW_X11_withdraw a0 a916_ := jfr_tr hf hf916_ rfl
    exact cp_X11_withdraw_58 E d hd x1 a0 b0 hv0 a916_ hv916_ hf924_
  ·
    refine jt_eI (eq_X0_stateNow E d (jd_le hd rfl) s0 (a916_ 0 0) a916_ b0) ?_
    have h925_ := iv_get hv916_ (k := 0) (j := 0) (l := 0) (u := 1999) rfl
    have h926_ : a916_ 0 0 = a 0 0 := hf916_ 0 0 rfl
    have h927_ := iv_get hv (k := 0) (j := 0) (l := 0) (u := 1999) rfl
    have h928_ : a 0 0 = a0 0 0 := hf 0 0 rfl
    have h929_ := iv_get hv0 (k := 0) (j := 0) (l := 0) (u := 1999) rfl
    have h930_ := f_X0_stateNow_eq a916_ b0 s0 (a916_ 0 0)
    have h931_ := f_X0_arrivedOnOf_eq a916_ b0 s0
    have h932_ := iv_get hv916_ (k := 58) (j := 12) (l := 0) (u := 600) rfl
    have h933_ : a916_ 58 12 = a 58 12 := hf916_ 58 12 rfl
    have h934_ := iv_get hv (k := 58) (j := 12) (l := 0) (u := 600) rfl
    have h935_ : a 58 12 = a0 58 12 := hf 58 12 rfl
    have h936_ := iv_get hv0 (k := 58) (j := 12) (l := 0) (u := 600) rfl
    have h937_ := f_X11_entry_r65_eq a916_ b0 (a916_ 58 8) s0
    have h938_ : a916_ 65 (s0.toNat) = a 65 (s0.toNat) := hf916_ 65 (s0.toNat) rfl
    have h939_ : a 65 (s0.toNat) = a0 65 (s0.toNat) := hf 65 (s0.toNat) rfl
    have h940_ := f_X11_entry_r67_eq a916_ b0 (a916_ 58 12) (f_X11_entry_r65 a916_ b0 (a916_ 58 8) s0)
    have h941_ : a916_ 67 ((f_X11_entry_r65 a916_ b0 (a916_ 58 8) s0).toNat) = a 67 ((f_X11_entry_r65 a916_ b0 (a916_ 58 8) s0).toNat) := hf916_ 67 ((f_X11_entry_r65 a916_ b0 (a916_ 58 8) s0).toNat) rfl
    have h942_ : a 67 ((f_X11_entry_r65 a916_ b0 (a916_ 58 8) s0).toNat) = a0 67 ((f_X11_entry_r65 a916_ b0 (a916_ 58 8) s0).toNat) := hf 67 ((f_X11_entry_r65 a916_ b0 (a916_ 58 8) s0).toNat) rfl
    refine jt_ite (fun c943_ => ?_) (fun c943_ => ?_)
    ·
      have hf944_ : jfr jW_X11_withdraw a0 a916_ := jfr_tr hf hf916_ rfl
      exact cp_X11_withdraw_60 E d hd x1 a0 b0 hv0 s0 a916_ hv916_ hf944_ (show 0 ≤ s0 from by omega) (show s0 ≤ 299 from by omega)
    ·
      have hf945_ : jfr jW_X11_withdraw a0 a916_ := jfr_tr hf hf916_ rfl
      exact cp_X11_withdraw_58 E d hd x1 a0 b0 hv0 a916_ hv916_ hf945_
theorem sp_X11_withdraw (E : jxE) (d : Nat) (hd : Nat.ble 4 d = true) (x1 : Int) (a0 b0 : Nat → Nat → Int) (hv0 : iv a0) : jt (jxC E d 159 [.inr (.inr (.inl 0)), .inl x1] (jxSH, a0, b0)) (jQ_X11_withdraw x1 a0 b0) := by
  obtain ⟨d, rfl⟩ := jd_succ hd
  refine jt_eq (bq_X11_withdraw E d x1 a0 b0) ?_
  refine jt_eI (eq_X4_isInRing E d (jd_le hd rfl) x1 a0 b0) ?_
  have h946_ := f_X4_isInRing_eq a0 b0 x1
  have h947_ := f_X4_has_eq a0 b0 x1
  have h948_ := iv_get hv0 (k := 83) (j := 6) (l := 0) (u := 20) rfl
  refine jt_ite (fun c949_ => ?_) (fun c949_ => ?_)
  ·
    exact cp_X11_withdraw_23 E d hd x1 a0 b0 hv0 x1 (-1) a0 hv0 (jfr_rf _ _)
  ·
    refine jt_eI (eq_X4_cardOf E d (jd_le hd rfl) x1 a0 b0) ?_
    exact cp_X11_withdraw_23 E d hd x1 a0 b0 hv0 x1 (f_X4_cardOf a0 b0 x1) a0 hv0 (jfr_rf _ _)
abbrev jQ_X4_offerInRing (x1 x2 : Int) (a0 b0 : Nat → Nat → Int) : List jxV → (Nat → Nat → Int) → (Nat → Nat → Int) → Prop := rI (fun r a b => (a0 = a) ∧ (b0 = b) ∧ ((a0 83 6 = 0 → r = 0 - 1)))
theorem cp_X4_offerInRing_2 (E : jxE) (d : Nat) (hd : Nat.ble 3 (d + 1) = true) (x1 x2 : Int) (a0 b0 : Nat → Nat → Int) (hv0 : iv a0) : ∀ n : Nat, (∀ (y1 y2 y3 : Int), (((20 - y3) * 1) + 0).toNat ≤ n → 0 ≤ y3 → y3 ≤ 19 → jt (jxX E d 72 40 [some (.inr (.inr (.inl 83))), some (.inl y1), some (.inl y2), some (.inl y3)] [] (jxSH, a0, b0)) (jQ_X4_offerInRing x1 x2 a0 b0)) ∧ (∀ (y1 y2 y3 : Int), (((20 - y3) * 1) + 0).toNat ≤ n → 0 ≤ y3 → y3 ≤ 19 → 1 ≤ a0 83 6 → jt (jxX E d 72 28 [some (.inr (.inr (.inl 83))), some (.inl y1), some (.inl y2), some (.inl y3)] [] (jxSH, a0, b0)) (jQ_X4_offerInRing x1 x2 a0 b0)) ∧ (∀ (y1 y2 y3 : Int), (((20 - y3) * 1) + 0).toNat ≤ n → 0 ≤ y3 → y3 ≤ 20 → jt (jxX E d 72 2 [some (.inr (.inr (.inl 83))), some (.inl y1), some (.inl y2), some (.inl y3)] [] (jxSH, a0, b0)) (jQ_X4_offerInRing x1 x2 a0 b0)) := by
  refine jx_ind fun n ih => ?_
  have ih40 : ∀ (y1 y2 y3 : Int), (((20 - y3) * 1) + 0).toNat < n → 0 ≤ y3 → y3 ≤ 19 → jt (jxX E d 72 40 [some (.inr (.inr (.inl 83))), some (.inl y1), some (.inl y2), some (.inl y3)] [] (jxSH, a0, b0)) (jQ_X4_offerInRing x1 x2 a0 b0) := fun y1 y2 y3 hlt i0 i1 => (ih _ hlt).1 y1 y2 y3 (Nat.le_refl _) i0 i1
  have ih28 : ∀ (y1 y2 y3 : Int), (((20 - y3) * 1) + 0).toNat < n → 0 ≤ y3 → y3 ≤ 19 → 1 ≤ a0 83 6 → jt (jxX E d 72 28 [some (.inr (.inr (.inl 83))), some (.inl y1), some (.inl y2), some (.inl y3)] [] (jxSH, a0, b0)) (jQ_X4_offerInRing x1 x2 a0 b0) := fun y1 y2 y3 hlt i0 i1 i2 => (ih _ hlt).2.1 y1 y2 y3 (Nat.le_refl _) i0 i1 i2
  have ih2 : ∀ (y1 y2 y3 : Int), (((20 - y3) * 1) + 0).toNat < n → 0 ≤ y3 → y3 ≤ 20 → jt (jxX E d 72 2 [some (.inr (.inr (.inl 83))), some (.inl y1), some (.inl y2), some (.inl y3)] [] (jxSH, a0, b0)) (jQ_X4_offerInRing x1 x2 a0 b0) := fun y1 y2 y3 hlt i0 i1 => (ih _ hlt).2.2 y1 y2 y3 (Nat.le_refl _) i0 i1
  have hc40 : ∀ (y1 y2 y3 : Int), (((20 - y3) * 1) + 0).toNat ≤ n → 0 ≤ y3 → y3 ≤ 19 → jt (jxX E d 72 40 [some (.inr (.inr (.inl 83))), some (.inl y1), some (.inl y2), some (.inl y3)] [] (jxSH, a0, b0)) (jQ_X4_offerInRing x1 x2 a0 b0) := by
    intro y1 y2 y3 hm hi0 hi1
    refine jt_eq (bq_X4_offerInRing_40 E d y1 y2 y3 a0 b0) ?_
    have h950_ : jxw (y3 + 1) = y3 + 1 := jxw_id (by omega) (by omega)
    exact ih2 y1 y2 (jxw (y3 + 1)) (show (((20 - (jxw (y3 + 1))) * 1) + 0).toNat < n from by omega) (show 0 ≤ jxw (y3 + 1) from by omega) (show jxw (y3 + 1) ≤ 20 from by omega)
  have hc28 : ∀ (y1 y2 y3 : Int), (((20 - y3) * 1) + 0).toNat ≤ n → 0 ≤ y3 → y3 ≤ 19 → 1 ≤ a0 83 6 → jt (jxX E d 72 28 [some (.inr (.inr (.inl 83))), some (.inl y1), some (.inl y2), some (.inl y3)] [] (jxSH, a0, b0)) (jQ_X4_offerInRing x1 x2 a0 b0) := by
    intro y1 y2 y3 hm hi0 hi1 hi2
    refine jt_eq (bq_X4_offerInRing_28 E d y1 y2 y3 a0 b0) ?_
    have h951_ := iv_get hv0 (k := 83) (j := 6) (l := 0) (u := 20) rfl
    refine jt_grd (by omega) ?_
    refine jt_ite (fun c952_ => ?_) (fun c952_ => ?_)
    ·
      exact jt_rI ⟨rfl, rfl, (show (a0 83 6 = 0 → y3 = 0 - 1) from by omega)⟩
    ·
      exact hc40 y1 y2 y3 (show (((20 - y3) * 1) + 0).toNat ≤ n from by omega) (show 0 ≤ y3 from by omega) (show y3 ≤ 19 from by omega)
  have hc2 : ∀ (y1 y2 y3 : Int), (((20 - y3) * 1) + 0).toNat ≤ n → 0 ≤ y3 → y3 ≤ 20 → jt (jxX E d 72 2 [some (.inr (.inr (.inl 83))), some (.inl y1), some (.inl y2), some (.inl y3)] [] (jxSH, a0, b0)) (jQ_X4_offerInRing x1 x2 a0 b0) := by
    intro y1 y2 y3 hm hi0 hi1
    refine jt_eq (bq_X4_offerInRing_2 E d y1 y2 y3 a0 b0) ?_
    have h953_ := iv_get hv0 (k := 83) (j := 6) (l := 0) (u := 20) rfl
    refine jt_ite (fun c954_ => ?_) (fun c954_ => ?_)
    ·
      refine jt_eI (eq_X4_isInRing E d (jd_le hd rfl) y3 a0 b0) ?_
      have h955_ := f_X4_isInRing_eq a0 b0 y3
      have h956_ := f_X4_has_eq a0 b0 y3
      refine jt_ite (fun c957_ => ?_) (fun c957_ => ?_)
      ·
        exact hc40 y1 y2 y3 (show (((20 - y3) * 1) + 0).toNat ≤ n from by omega) (show 0 ≤ y3 from by omega) (show y3 ≤ 19 from by omega)
      ·
        refine jt_grd (by omega) ?_
        refine jt_ite (fun c958_ => ?_) (fun c958_ => ?_)
        ·
          exact hc28 y1 y2 y3 (show (((20 - y3) * 1) + 0).toNat ≤ n from by omega) (show 0 ≤ y3 from by omega) (show y3 ≤ 19 from by omega) (show 1 ≤ a0 83 6 from by omega)
        ·
          exact hc40 y1 y2 y3 (show (((20 - y3) * 1) + 0).toNat ≤ n from by omega) (show 0 ≤ y3 from by omega) (show y3 ≤ 19 from by omega)
    ·
      exact jt_rI ⟨rfl, rfl, (show (a0 83 6 = 0 → (-1) = 0 - 1) from by omega)⟩
  exact ⟨hc40, hc28, hc2⟩
theorem sp_X4_offerInRing (E : jxE) (d : Nat) (hd : Nat.ble 3 d = true) (x1 x2 : Int) (a0 b0 : Nat → Nat → Int) (hv0 : iv a0) : jt (jxC E d 72 [.inr (.inr (.inl 83)), .inl x1, .inl x2] (jxSH, a0, b0)) (jQ_X4_offerInRing x1 x2 a0 b0) := by
  obtain ⟨d, rfl⟩ := jd_succ hd
  refine jt_eq (bq_X4_offerInRing E d x1 x2 a0 b0) ?_
  exact (cp_X4_offerInRing_2 E d hd x1 x2 a0 b0 hv0 _).2.2 x1 x2 0 (Nat.le_refl _) (show 0 ≤ 0 from by omega) (show 0 ≤ 20 from by omega)
def jW_X11_drop : List (Nat × Nat) := [(9, 9999), (64, 9999), (87, 9999), (88, 9999), (89, 9999)]
abbrev jQ_X11_drop (x1 x2 : Int) (a0 b0 : Nat → Nat → Int) : List jxV → (Nat → Nat → Int) → (Nat → Nat → Int) → Prop := rI (fun r a b => (iv a) ∧ (jfr jW_X11_drop a0 a) ∧ (b0 = b) ∧ ((a0 83 6 = 0 → r = 0 - 1)))
theorem sp_X11_drop (E : jxE) (d : Nat) (hd : Nat.ble 5 d = true) (x1 x2 : Int) (a0 b0 : Nat → Nat → Int) (hv0 : iv a0) : jt (jxC E d 189 [.inr (.inr (.inl 0)), .inl x1, .inl x2] (jxSH, a0, b0)) (jQ_X11_drop x1 x2 a0 b0) := by
  obtain ⟨d, rfl⟩ := jd_succ hd
  refine jt_eq (bq_X11_drop E d x1 x2 a0 b0) ?_
  refine jt_bI (sp_X4_offerInRing E d (jd_le hd rfl) x1 x2 a0 b0 hv0) (fun r959_ a959_ b959_ h959_ => ?_)
  obtain ⟨rfl, rfl, hq959_0⟩ := h959_
  have h960_ := iv_get hv0 (k := 83) (j := 6) (l := 0) (u := 20) rfl
  refine jt_ite (fun c961_ => ?_) (fun c961_ => ?_)
  ·
    exact jt_rI ⟨hv0, (jfr_rf _ _), rfl, (show (a0 83 6 = 0 → (-1) = 0 - 1) from by omega)⟩
  ·
    refine jt_bI (sp_X11_withdraw E d (jd_le hd rfl) r959_ a0 b0 hv0) (fun r962_ a962_ b962_ h962_ => ?_)
    obtain ⟨hv962_, hf962_, rfl⟩ := h962_
    have hf963_ : jfr jW_X11_drop a0 a962_ := jfr_tr (jfr_rf _ _) hf962_ rfl
    exact jt_rI ⟨hv962_, hf963_, rfl, (show (a0 83 6 = 0 → r962_ = 0 - 1) from by omega)⟩
def jW_X8_cut : List (Nat × Nat) := [(2, 1)]
abbrev jQ_X8_cut (x1 : Int) (a0 b0 : Nat → Nat → Int) : List jxV → (Nat → Nat → Int) → (Nat → Nat → Int) → Prop := rV (fun a b => (iv a) ∧ (jfr jW_X8_cut a0 a) ∧ (b0 = b) ∧ ((((0 ≤ x1 ∧ x1 ≤ a0 2 1) ∧ a 2 1 = x1) ∨ ((x1 < 0 ∨ a0 2 1 < x1) ∧ a 2 1 = a0 2 1))))
theorem sp_X8_cut (E : jxE) (d : Nat) (hd : Nat.ble 1 d = true) (x1 : Int) (a0 b0 : Nat → Nat → Int) (hv0 : iv a0) : jt (jxC E d 120 [.inr (.inr (.inl 2)), .inl x1] (jxSH, a0, b0)) (jQ_X8_cut x1 a0 b0) := by
  obtain ⟨d, rfl⟩ := jd_succ hd
  refine jt_eq (bq_X8_cut E d x1 a0 b0) ?_
  refine jt_ite (fun c964_ => ?_) (fun c964_ => ?_)
  ·
    have h965_ := iv_get hv0 (k := 2) (j := 1) (l := 0) (u := 200) rfl
    exact jt_rV ⟨hv0, (jfr_rf _ _), rfl, (show (((0 ≤ x1 ∧ x1 ≤ a0 2 1) ∧ a0 2 1 = x1) ∨ ((x1 < 0 ∨ a0 2 1 < x1) ∧ a0 2 1 = a0 2 1)) from by omega)⟩
  ·
    have h966_ := iv_get hv0 (k := 2) (j := 1) (l := 0) (u := 200) rfl
    refine jt_ite (fun c967_ => ?_) (fun c967_ => ?_)
    ·
      exact jt_rV ⟨hv0, (jfr_rf _ _), rfl, (show (((0 ≤ x1 ∧ x1 ≤ a0 2 1) ∧ a0 2 1 = x1) ∨ ((x1 < 0 ∨ a0 2 1 < x1) ∧ a0 2 1 = a0 2 1)) from by omega)⟩
    ·
      have hv968_ : iv (jxu a0 2 1 x1) := iv_put hv0 (l := 0) (u := 200) rfl (by omega) (by omega)
      have hf969_ : jfr jW_X8_cut a0 (jxu a0 2 1 x1) := jfr_put (jfr_rf _ _) rfl
      exact jt_rV ⟨hv968_, hf969_, rfl, (show (((0 ≤ x1 ∧ x1 ≤ a0 2 1) ∧ x1 = x1) ∨ ((x1 < 0 ∨ a0 2 1 < x1) ∧ x1 = a0 2 1)) from by omega)⟩
def jW_X11_end : List (Nat × Nat) := [(2, 1)]
abbrev jQ_X11_end (x1 : Int) (a0 b0 : Nat → Nat → Int) : List jxV → (Nat → Nat → Int) → (Nat → Nat → Int) → Prop := rI (fun r a b => (iv a) ∧ (jfr jW_X11_end a0 a) ∧ (b0 = b) ∧ (((((0 ≤ x1 ∧ x1 ≤ a0 2 1) ∧ r = x1) ∧ a 2 1 = x1) ∨ (((x1 < 0 ∨ a0 2 1 < x1) ∧ r = 0 - 1) ∧ a 2 1 = a0 2 1))))
theorem sp_X11_end (E : jxE) (d : Nat) (hd : Nat.ble 2 d = true) (x1 : Int) (a0 b0 : Nat → Nat → Int) (hv0 : iv a0) : jt (jxC E d 161 [.inr (.inr (.inl 0)), .inl x1] (jxSH, a0, b0)) (jQ_X11_end x1 a0 b0) := by
  obtain ⟨d, rfl⟩ := jd_succ hd
  refine jt_eq (bq_X11_end E d x1 a0 b0) ?_
  refine jt_eI (eq_X8_length E d (jd_le hd rfl) a0 b0) ?_
  refine jt_eI (eq_X11_within E d (jd_le hd rfl) x1 0 (f_X8_length a0 b0) a0 b0) ?_
  have h970_ := f_X8_length_eq a0 b0
  have h971_ := iv_get hv0 (k := 2) (j := 1) (l := 0) (u := 200) rfl
  have h972_ := f_X11_within_eq a0 b0 x1 0 (f_X8_length a0 b0)
  refine jt_ite (fun c973_ => ?_) (fun c973_ => ?_)
  ·
    exact jt_rI ⟨hv0, (jfr_rf _ _), rfl, (show ((((0 ≤ x1 ∧ x1 ≤ a0 2 1) ∧ (-1) = x1) ∧ a0 2 1 = x1) ∨ (((x1 < 0 ∨ a0 2 1 < x1) ∧ (-1) = 0 - 1) ∧ a0 2 1 = a0 2 1)) from by omega)⟩
  ·
    refine jt_bV (sp_X8_cut E d (jd_le hd rfl) x1 a0 b0 hv0) (fun a974_ b974_ h974_ => ?_)
    obtain ⟨hv974_, hf974_, rfl, hq974_0⟩ := h974_
    have h975_ := iv_get hv974_ (k := 2) (j := 1) (l := 0) (u := 200) rfl
    have hf976_ : jfr jW_X11_end a0 a974_ := jfr_tr (jfr_rf _ _) hf974_ rfl
    exact jt_rI ⟨hv974_, hf976_, rfl, (show ((((0 ≤ x1 ∧ x1 ≤ a0 2 1) ∧ x1 = x1) ∧ a974_ 2 1 = x1) ∨ (((x1 < 0 ∨ a0 2 1 < x1) ∧ x1 = 0 - 1) ∧ a974_ 2 1 = a0 2 1)) from by omega)⟩
def jWe_X11_far : List (Nat × Nat) := []
def jW_X11_far : List (Nat × Nat) := [(1, 9999)]
abbrev jQ_X11_far (x1 x2 x3 : Int) (a0 b0 : Nat → Nat → Int) : List jxV → (Nat → Nat → Int) → (Nat → Nat → Int) → Prop := rI (fun r a b => (iv a) ∧ (jfr jW_X11_far a0 a) ∧ (b0 = b) ∧ (FarP (a0 1) (a 1) x1 x2 x3 r))
theorem cp_X11_far_29 (E : jxE) (d : Nat) (hd : Nat.ble 3 (d + 1) = true) (x1 x2 x3 : Int) (a0 b0 : Nat → Nat → Int) (hv0 : iv a0) : ∀ (a : Nat → Nat → Int), iv a → jfr jW_X11_far a0 a → ((((((x1 < 0 ∨ 15 < x1) ∨ x2 < 0) ∨ 15 < x2) ∨ x1 = x2) ∨ x3 < 0) ∨ 99 < x3) → (jfr jWe_X11_far a0 a) → jt (jxX E d 155 29 [none, none, none, none, none] [] (jxSH, a, b0)) (jQ_X11_far x1 x2 x3 a0 b0) := by
  intro a hv hf hi0 hfe
  refine jt_eq (bq_X11_far_29 E d a b0) ?_
  exact jt_rI ⟨hv, hf, rfl, (Or.inr ⟨by omega, rfl, fun j => hfe 1 j rfl⟩)⟩
theorem cp_X11_far_56 (E : jxE) (d : Nat) (hd : Nat.ble 3 (d + 1) = true) (x1 x2 x3 : Int) (a0 b0 : Nat → Nat → Int) (hv0 : iv a0) : ∀ (y1 y2 y3 y4 : Int) (a : Nat → Nat → Int), iv a → jfr jW_X11_far a0 a → 0 ≤ y1 → y1 ≤ 15 → 0 ≤ y2 → y2 ≤ 15 → 0 ≤ y3 → y3 ≤ 99 → 0 ≤ y4 → y4 ≤ 99 → y1 = x1 → y2 = x2 → y3 = x3 → ((((((0 ≤ x1 ∧ x1 ≤ 15) ∧ 0 ≤ x2) ∧ x2 ≤ 15) ∧ ¬ x1 = x2) ∧ 0 ≤ x3) ∧ x3 ≤ 99) → (∀ j, a 1 j = if j = (16 * x1 + x2).toNat then x3 else a0 1 j) → (y4 = a0 1 (16 * x1 + x2).toNat) → jt (jxX E d 155 56 [some (.inr (.inr (.inl 0))), some (.inl y1), some (.inl y2), some (.inl y3), some (.inl y4)] [] (jxSH, a, b0)) (jQ_X11_far x1 x2 x3 a0 b0) := by
  intro y1 y2 y3 y4 a hv hf hi0 hi1 hi2 hi3 hi4 hi5 hi6 hi7 hi8 hi9 hi10 hi11 hf56 hy4
  refine jt_eq (bq_X11_far_56 E d y1 y2 y3 y4 a b0) ?_
  have hix2 : (jxw ((jxw (y2 * 16)) + y1)).toNat = (16 * x2 + x1).toNat := by rw [jxw_id (x := y2 * 16) (by omega) (by omega), jxw_id (by omega) (by omega)]; omega
  have h977_ : jxw (y2 * 16) = y2 * 16 := jxw_id (by omega) (by omega)
  have h978_ : jxw ((jxw (y2 * 16)) + y1) = (jxw (y2 * 16)) + y1 := jxw_id (by omega) (by omega)
  refine jt_grd (by omega) ?_
  have hv979_ : iv (jxu a 1 ((jxw ((jxw (y2 * 16)) + y1)).toNat) y3) := iv_put hv (l := 0) (u := 99) rfl (by omega) (by omega)
  have hf980_ : jfr jW_X11_far a0 (jxu a 1 ((jxw ((jxw (y2 * 16)) + y1)).toNat) y3) := jfr_put hf rfl
  exact jt_rI ⟨hv979_, hf980_, rfl, (Or.inl ⟨by omega, by omega, by omega, by omega, by omega, by omega, by omega, hy4, fun j => by rw [hix2]; simp only [jxu]; rw [hf56 j, show y3 = x3 from (by omega)]; simp⟩)⟩
theorem cp_X11_far_31 (E : jxE) (d : Nat) (hd : Nat.ble 3 (d + 1) = true) (x1 x2 x3 : Int) (a0 b0 : Nat → Nat → Int) (hv0 : iv a0) : ∀ (y1 y2 y3 : Int) (a : Nat → Nat → Int), iv a → jfr jW_X11_far a0 a → 0 ≤ y1 → y1 ≤ 15 → 0 ≤ y2 → y2 ≤ 15 → 0 ≤ y3 → y3 ≤ 99 → y1 = x1 → y2 = x2 → y3 = x3 → ((((((0 ≤ x1 ∧ x1 ≤ 15) ∧ 0 ≤ x2) ∧ x2 ≤ 15) ∧ ¬ x1 = x2) ∧ 0 ≤ x3) ∧ x3 ≤ 99) → (jfr jWe_X11_far a0 a) → jt (jxX E d 155 31 [some (.inr (.inr (.inl 0))), some (.inl y1), some (.inl y2), some (.inl y3), none] [] (jxSH, a, b0)) (jQ_X11_far x1 x2 x3 a0 b0) := by
  intro y1 y2 y3 a hv hf hi0 hi1 hi2 hi3 hi4 hi5 hi6 hi7 hi8 hi9 hfe
  refine jt_eq (bq_X11_far_31 E d y1 y2 y3 a b0) ?_
  have hix : (jxw ((jxw (y1 * 16)) + y2)).toNat = (16 * x1 + x2).toNat := by rw [jxw_id (x := y1 * 16) (by omega) (by omega), jxw_id (by omega) (by omega)]; omega
  have h981_ : jxw (y1 * 16) = y1 * 16 := jxw_id (by omega) (by omega)
  have h982_ : jxw ((jxw (y1 * 16)) + y2) = (jxw (y1 * 16)) + y2 := jxw_id (by omega) (by omega)
  refine jt_grd (by omega) ?_
  refine jt_grd (by omega) ?_
  have hv983_ : iv (jxu a 1 ((jxw ((jxw (y1 * 16)) + y2)).toNat) y3) := iv_put hv (l := 0) (u := 99) rfl (by omega) (by omega)
  have hf984_ : jfr jW_X11_far a0 (jxu a 1 ((jxw ((jxw (y1 * 16)) + y2)).toNat) y3) := jfr_put hf rfl
  have h985_ := iv_get hv (k := 1) (j := (jxw ((jxw (y1 * 16)) + y2)).toNat) (l := 0) (u := 99) rfl
  exact cp_X11_far_56 E d hd x1 x2 x3 a0 b0 hv0 y1 y2 y3 (a 1 ((jxw ((jxw (y1 * 16)) + y2)).toNat)) (jxu a 1 ((jxw ((jxw (y1 * 16)) + y2)).toNat) y3) hv983_ hf984_ (show 0 ≤ y1 from by omega) (show y1 ≤ 15 from by omega) (show 0 ≤ y2 from by omega) (show y2 ≤ 15 from by omega) (show 0 ≤ y3 from by omega) (show y3 ≤ 99 from by omega) (show 0 ≤ a 1 ((jxw ((jxw (y1 * 16)) + y2)).toNat) from by omega) (show a 1 ((jxw ((jxw (y1 * 16)) + y2)).toNat) ≤ 99 from by omega) (show y1 = x1 from by omega) (show y2 = x2 from by omega) (show y3 = x3 from by omega) (show ((((((0 ≤ x1 ∧ x1 ≤ 15) ∧ 0 ≤ x2) ∧ x2 ≤ 15) ∧ ¬ x1 = x2) ∧ 0 ≤ x3) ∧ x3 ≤ 99) from by omega) (by intro j; rw [hix]; simp only [jxu]; rw [hfe 1 j rfl, show y3 = x3 from (by omega)]; simp) (by rw [hix]; exact hfe 1 _ rfl)
theorem sp_X11_far (E : jxE) (d : Nat) (hd : Nat.ble 3 d = true) (x1 x2 x3 : Int) (a0 b0 : Nat → Nat → Int) (hv0 : iv a0) : jt (jxC E d 155 [.inr (.inr (.inl 0)), .inl x1, .inl x2, .inl x3] (jxSH, a0, b0)) (jQ_X11_far x1 x2 x3 a0 b0) := by
  obtain ⟨d, rfl⟩ := jd_succ hd
  refine jt_eq (bq_X11_far E d x1 x2 x3 a0 b0) ?_
  refine jt_eI (eq_X11_isLand E d (jd_le hd rfl) x1 a0 b0) ?_
  have h986_ := f_X11_isLand_eq a0 b0 x1
  have h987_ := f_X11_within_eq a0 b0 x1 0 15
  refine jt_ite (fun c988_ => ?_) (fun c988_ => ?_)
  ·
    exact cp_X11_far_29 E d hd x1 x2 x3 a0 b0 hv0 a0 hv0 (jfr_rf _ _) (show ((((((x1 < 0 ∨ 15 < x1) ∨ x2 < 0) ∨ 15 < x2) ∨ x1 = x2) ∨ x3 < 0) ∨ 99 < x3) from by omega) (jfr_rf _ _)
  ·
    refine jt_eI (eq_X11_isLand E d (jd_le hd rfl) x2 a0 b0) ?_
    have h989_ := f_X11_isLand_eq a0 b0 x2
    have h990_ := f_X11_within_eq a0 b0 x2 0 15
    refine jt_ite (fun c991_ => ?_) (fun c991_ => ?_)
    ·
      exact cp_X11_far_29 E d hd x1 x2 x3 a0 b0 hv0 a0 hv0 (jfr_rf _ _) (show ((((((x1 < 0 ∨ 15 < x1) ∨ x2 < 0) ∨ 15 < x2) ∨ x1 = x2) ∨ x3 < 0) ∨ 99 < x3) from by omega) (jfr_rf _ _)
    ·
      refine jt_ite (fun c992_ => ?_) (fun c992_ => ?_)
      ·
        exact cp_X11_far_29 E d hd x1 x2 x3 a0 b0 hv0 a0 hv0 (jfr_rf _ _) (show ((((((x1 < 0 ∨ 15 < x1) ∨ x2 < 0) ∨ 15 < x2) ∨ x1 = x2) ∨ x3 < 0) ∨ 99 < x3) from by omega) (jfr_rf _ _)
      ·
        refine jt_eI (eq_X11_within E d (jd_le hd rfl) x3 0 99 a0 b0) ?_
        have h993_ := f_X11_within_eq a0 b0 x3 0 99
        refine jt_ite (fun c994_ => ?_) (fun c994_ => ?_)
        ·
          exact cp_X11_far_29 E d hd x1 x2 x3 a0 b0 hv0 a0 hv0 (jfr_rf _ _) (show ((((((x1 < 0 ∨ 15 < x1) ∨ x2 < 0) ∨ 15 < x2) ∨ x1 = x2) ∨ x3 < 0) ∨ 99 < x3) from by omega) (jfr_rf _ _)
        ·
          exact cp_X11_far_31 E d hd x1 x2 x3 a0 b0 hv0 x1 x2 x3 a0 hv0 (jfr_rf _ _) (show 0 ≤ x1 from by omega) (show x1 ≤ 15 from by omega) (show 0 ≤ x2 from by omega) (show x2 ≤ 15 from by omega) (show 0 ≤ x3 from by omega) (show x3 ≤ 99 from by omega) (show x1 = x1 from by omega) (show x2 = x2 from by omega) (show x3 = x3 from by omega) (show ((((((0 ≤ x1 ∧ x1 ≤ 15) ∧ 0 ≤ x2) ∧ x2 ≤ 15) ∧ ¬ x1 = x2) ∧ 0 ≤ x3) ∧ x3 ≤ 99) from by omega) (jfr_rf _ _)
def jW_X8_append : List (Nat × Nat) := [(2, 1), (3, 9999)]
abbrev jQ_X8_append (x1 : Int) (a0 b0 : Nat → Nat → Int) : List jxV → (Nat → Nat → Int) → (Nat → Nat → Int) → Prop := rV (fun a b => (iv a) ∧ (jfr jW_X8_append a0 a) ∧ (b0 = b) ∧ ((a0 2 1 ≤ 196 → a 2 1 = (a0 2 1) + 4)) ∧ (a0 2 1 ≤ 196 → APP (a0 3) (a 3) (a0 2 1) x1 (a0 2 1 + 4)))
theorem cp_X8_append_3 (E : jxE) (d : Nat) (hd : Nat.ble 1 (d + 1) = true) (x1 : Int) (a0 b0 : Nat → Nat → Int) (hv0 : iv a0) : ∀ n : Nat, (∀ (y1 y2 : Int) (a : Nat → Nat → Int), (((y2 + 8) * 1) + 0).toNat ≤ n → iv a → jfr jW_X8_append a0 a → 0 ≤ y2 → y2 ≤ 24 → 1 ≤ a 2 1 → (a0 2 1 ≤ 196 → (8 * (a 2 1)) + y2 = (8 * (a0 2 1)) + 32) → 0 ≤ y2 → (y1 = x1) → (a0 2 1 ≤ 196 → APP (a0 3) (a 3) (a0 2 1) x1 (a 2 1)) → jt (jxX E d 119 42 [some (.inr (.inr (.inl 2))), some (.inl y1), some (.inl y2)] [] (jxSH, a, b0)) (jQ_X8_append x1 a0 b0)) ∧ (∀ (y1 y2 : Int) (a : Nat → Nat → Int), (((y2 + 8) * 1) + 0).toNat ≤ n → iv a → jfr jW_X8_append a0 a → 0 - 8 ≤ y2 → y2 ≤ 24 → (a0 2 1 ≤ 196 → (8 * (a 2 1)) + y2 = (8 * (a0 2 1)) + 24) → (y1 = x1) → (a0 2 1 ≤ 196 → APP (a0 3) (a 3) (a0 2 1) x1 (a 2 1)) → jt (jxX E d 119 3 [some (.inr (.inr (.inl 2))), some (.inl y1), some (.inl y2)] [] (jxSH, a, b0)) (jQ_X8_append x1 a0 b0)) := by
  refine jx_ind fun n ih => ?_
  have ih42 : ∀ (y1 y2 : Int) (a : Nat → Nat → Int), (((y2 + 8) * 1) + 0).toNat < n → iv a → jfr jW_X8_append a0 a → 0 ≤ y2 → y2 ≤ 24 → 1 ≤ a 2 1 → (a0 2 1 ≤ 196 → (8 * (a 2 1)) + y2 = (8 * (a0 2 1)) + 32) → 0 ≤ y2 → (y1 = x1) → (a0 2 1 ≤ 196 → APP (a0 3) (a 3) (a0 2 1) x1 (a 2 1)) → jt (jxX E d 119 42 [some (.inr (.inr (.inl 2))), some (.inl y1), some (.inl y2)] [] (jxSH, a, b0)) (jQ_X8_append x1 a0 b0) := fun y1 y2 a hlt i0 i1 i2 i3 i4 i5 i6 i7 i8 => (ih _ hlt).1 y1 y2 a (Nat.le_refl _) i0 i1 i2 i3 i4 i5 i6 i7 i8
  have ih3 : ∀ (y1 y2 : Int) (a : Nat → Nat → Int), (((y2 + 8) * 1) + 0).toNat < n → iv a → jfr jW_X8_append a0 a → 0 - 8 ≤ y2 → y2 ≤ 24 → (a0 2 1 ≤ 196 → (8 * (a 2 1)) + y2 = (8 * (a0 2 1)) + 24) → (y1 = x1) → (a0 2 1 ≤ 196 → APP (a0 3) (a 3) (a0 2 1) x1 (a 2 1)) → jt (jxX E d 119 3 [some (.inr (.inr (.inl 2))), some (.inl y1), some (.inl y2)] [] (jxSH, a, b0)) (jQ_X8_append x1 a0 b0) := fun y1 y2 a hlt i0 i1 i2 i3 i4 i5 i6 => (ih _ hlt).2 y1 y2 a (Nat.le_refl _) i0 i1 i2 i3 i4 i5 i6
  have hc42 : ∀ (y1 y2 : Int) (a : Nat → Nat → Int), (((y2 + 8) * 1) + 0).toNat ≤ n → iv a → jfr jW_X8_append a0 a → 0 ≤ y2 → y2 ≤ 24 → 1 ≤ a 2 1 → (a0 2 1 ≤ 196 → (8 * (a 2 1)) + y2 = (8 * (a0 2 1)) + 32) → 0 ≤ y2 → (y1 = x1) → (a0 2 1 ≤ 196 → APP (a0 3) (a 3) (a0 2 1) x1 (a 2 1)) → jt (jxX E d 119 42 [some (.inr (.inr (.inl 2))), some (.inl y1), some (.inl y2)] [] (jxSH, a, b0)) (jQ_X8_append x1 a0 b0) := by
    intro y1 y2 a hm hv hf hi0 hi1 hi2 hi3 hi4 hy1 hap
    refine jt_eq (bq_X8_append_42 E d y1 y2 a b0) ?_
    have h995_ := iv_get hv (k := 2) (j := 1) (l := 0) (u := 200) rfl
    have h996_ := iv_get hv0 (k := 2) (j := 1) (l := 0) (u := 200) rfl
    have h997_ : jxw (y2 + (-8)) = y2 + (-8) := jxw_id (by omega) (by omega)
    exact ih3 y1 (jxw (y2 + (-8))) a (show ((((jxw (y2 + (-8))) + 8) * 1) + 0).toNat < n from by omega) hv hf (show 0 - 8 ≤ jxw (y2 + (-8)) from by omega) (show jxw (y2 + (-8)) ≤ 24 from by omega) (show (a0 2 1 ≤ 196 → (8 * (a 2 1)) + (jxw (y2 + (-8))) = (8 * (a0 2 1)) + 24) from by omega) (by first | rfl | assumption) hap
  have hc3 : ∀ (y1 y2 : Int) (a : Nat → Nat → Int), (((y2 + 8) * 1) + 0).toNat ≤ n → iv a → jfr jW_X8_append a0 a → 0 - 8 ≤ y2 → y2 ≤ 24 → (a0 2 1 ≤ 196 → (8 * (a 2 1)) + y2 = (8 * (a0 2 1)) + 24) → (y1 = x1) → (a0 2 1 ≤ 196 → APP (a0 3) (a 3) (a0 2 1) x1 (a 2 1)) → jt (jxX E d 119 3 [some (.inr (.inr (.inl 2))), some (.inl y1), some (.inl y2)] [] (jxSH, a, b0)) (jQ_X8_append x1 a0 b0) := by
    intro y1 y2 a hm hv hf hi0 hi1 hi2 hy1 hap
    refine jt_eq (bq_X8_append_3 E d y1 y2 a b0) ?_
    have h998_ := iv_get hv0 (k := 2) (j := 1) (l := 0) (u := 200) rfl
    have h999_ := iv_get hv (k := 2) (j := 1) (l := 0) (u := 200) rfl
    refine jt_ite (fun c1000_ => ?_) (fun c1000_ => ?_)
    ·
      exact jt_rV ⟨hv, hf, rfl, (show (a0 2 1 ≤ 196 → a 2 1 = (a0 2 1) + 4) from by omega), (fun h => by rw [show a0 2 1 + 4 = a 2 1 from by omega]; exact hap h)⟩
    ·
      refine jt_ite (fun c1001_ => ?_) (fun c1001_ => ?_)
      ·
        refine jt_grd (by omega) ?_
        have h1003_ : jxw ((a 2 1) + 1) = (a 2 1) + 1 := jxw_id (by omega) (by omega)
        have hv1002_ : iv (jxu a 2 1 (jxw ((a 2 1) + 1))) := iv_put hv (l := 0) (u := 200) rfl (by omega) (by omega)
        have h1005_ := jxshr_b y1 y2
        have h1006_ := jxand_r (jxshr y1 y2) 255 (by decide) (by decide)
        have hv1004_ : iv (jxu (jxu a 2 1 (jxw ((a 2 1) + 1))) 3 ((a 2 1).toNat) (jxand (jxshr y1 y2) 255)) := iv_put hv1002_ (l := 0) (u := 255) rfl (by omega) (by omega)
        have hf1007_ : jfr jW_X8_append a0 (jxu a 2 1 (jxw ((a 2 1) + 1))) := jfr_put hf rfl
        have hf1008_ : jfr jW_X8_append a0 (jxu (jxu a 2 1 (jxw ((a 2 1) + 1))) 3 ((a 2 1).toNat) (jxand (jxshr y1 y2) 255)) := jfr_put hf1007_ rfl
        exact hc42 y1 y2 (jxu (jxu a 2 1 (jxw ((a 2 1) + 1))) 3 ((a 2 1).toNat) (jxand (jxshr y1 y2) 255)) (show (((y2 + 8) * 1) + 0).toNat ≤ n from by omega) hv1004_ hf1008_ (show 0 ≤ y2 from by omega) (show y2 ≤ 24 from by omega) (show 1 ≤ jxw ((a 2 1) + 1) from by omega) (show (a0 2 1 ≤ 196 → (8 * (jxw ((a 2 1) + 1))) + y2 = (8 * (a0 2 1)) + 32) from by omega) (show 0 ≤ y2 from by omega) (by first | rfl | assumption) (fun h => by rw [show jxu (jxu a 2 1 (jxw ((a 2 1) + 1))) 3 ((a 2 1).toNat) (jxand (jxshr y1 y2) 255) 2 1 = a 2 1 + 1 from (show jxw ((a 2 1) + 1) = _ from by omega)]; exact APP_s (s := y2) (hap h) (UP_put (fun _ => rfl)) (by omega) (by omega) (by omega) (by rw [← hy1]))
      ·
        exact hc42 y1 y2 a (show (((y2 + 8) * 1) + 0).toNat ≤ n from by omega) hv hf (show 0 ≤ y2 from by omega) (show y2 ≤ 24 from by omega) (show 1 ≤ a 2 1 from by omega) (show (a0 2 1 ≤ 196 → (8 * (a 2 1)) + y2 = (8 * (a0 2 1)) + 32) from by omega) (show 0 ≤ y2 from by omega) (by first | rfl | assumption) (fun h => absurd h (by omega))
  exact ⟨hc42, hc3⟩
theorem sp_X8_append (E : jxE) (d : Nat) (hd : Nat.ble 1 d = true) (x1 : Int) (a0 b0 : Nat → Nat → Int) (hv0 : iv a0) : jt (jxC E d 119 [.inr (.inr (.inl 2)), .inl x1] (jxSH, a0, b0)) (jQ_X8_append x1 a0 b0) := by
  obtain ⟨d, rfl⟩ := jd_succ hd
  refine jt_eq (bq_X8_append E d x1 a0 b0) ?_
  have h1009_ := iv_get hv0 (k := 2) (j := 1) (l := 0) (u := 200) rfl
  exact (cp_X8_append_3 E d hd x1 a0 b0 hv0 _).2 x1 24 a0 (Nat.le_refl _) hv0 (jfr_rf _ _) (show 0 - 8 ≤ 24 from by omega) (show 24 ≤ 24 from by omega) (show (a0 2 1 ≤ 196 → (8 * (a0 2 1)) + 24 = (8 * (a0 2 1)) + 24) from by omega) (by first | rfl | assumption) (fun _ => APP_0 _ _ _)
def jW_X11_feed : List (Nat × Nat) := [(2, 1), (3, 9999)]
abbrev jQ_X11_feed (x1 x2 x3 x4 x5 : Int) (a0 b0 : Nat → Nat → Int) : List jxV → (Nat → Nat → Int) → (Nat → Nat → Int) → Prop := rI (fun r a b => (iv a) ∧ (jfr jW_X11_feed a0 a) ∧ (b0 = b) ∧ ((((a0 2 1 ≤ 180 ∧ r = (a0 2 1) + 20) ∧ a 2 1 = (a0 2 1) + 20) ∨ ((180 < a0 2 1 ∧ r = 0 - 1) ∧ a 2 1 = a0 2 1))) ∧ (a0 2 1 ≤ 180 → FED (a0 3) (a 3) (a0 2 1) x1 x2 x3 x4 x5) ∧ (180 < a0 2 1 → ∀ j, a 3 j = a0 3 j))
theorem cp_X11_feed_38 (E : jxE) (d : Nat) (hd : Nat.ble 2 (d + 1) = true) (x1 x2 x3 x4 x5 : Int) (a0 b0 : Nat → Nat → Int) (hv0 : iv a0) : ∀ (y4 y5 : Int) (a : Nat → Nat → Int), iv a → jfr jW_X11_feed a0 a → a 2 1 = (a0 2 1) + 12 → a0 2 1 ≤ 180 → (∃ g1 g2 : Nat → Int, APP (a0 3) g1 (a0 2 1) x1 ((a0 2 1) + 4) ∧ APP g1 g2 ((a0 2 1) + 4) x2 ((a0 2 1) + 8) ∧ APP g2 (a 3) ((a0 2 1) + 8) x3 ((a0 2 1) + 12)) → (y4 = x4) → (y5 = x5) → jt (jxX E d 160 38 [some (.inr (.inr (.inl 0))), none, none, none, some (.inl y4), some (.inl y5)] [] (jxSH, a, b0)) (jQ_X11_feed x1 x2 x3 x4 x5 a0 b0) := by
  intro y4 y5 a hv hf hi0 hi1 hfd hy4 hy5
  refine jt_eq (bq_X11_feed_38 E d y4 y5 a b0) ?_
  have h1010_ := iv_get hv (k := 2) (j := 1) (l := 0) (u := 200) rfl
  have h1011_ := iv_get hv0 (k := 2) (j := 1) (l := 0) (u := 200) rfl
  refine jt_bV (sp_X8_append E d (jd_le hd rfl) y4 a b0 hv) (fun a1012_ b1012_ h1012_ => ?_)
  obtain ⟨hv1012_, hf1012_, rfl, hq1012_0, hq1012_1⟩ := h1012_
  have h1013_ := iv_get hv1012_ (k := 2) (j := 1) (l := 0) (u := 200) rfl
  refine jt_bV (sp_X8_append E d (jd_le hd rfl) y5 a1012_ b0 hv1012_) (fun a1014_ b1014_ h1014_ => ?_)
  obtain ⟨hv1014_, hf1014_, rfl, hq1014_0, hq1014_1⟩ := h1014_
  have h1015_ := iv_get hv1014_ (k := 2) (j := 1) (l := 0) (u := 200) rfl
  refine jt_eI (eq_X8_length E d (jd_le hd rfl) a1014_ b0) ?_
  have hf1016_ : jfr jW_X11_feed a0 a1012_ := jfr_tr hf hf1012_ rfl
  have hf1017_ : jfr jW_X11_feed a0 a1014_ := jfr_tr hf1016_ hf1014_ rfl
  have h1018_ := f_X8_length_eq a1014_ b0
  exact jt_rI ⟨hv1014_, hf1017_, rfl, (show (((a0 2 1 ≤ 180 ∧ f_X8_length a1014_ b0 = (a0 2 1) + 20) ∧ a1014_ 2 1 = (a0 2 1) + 20) ∨ ((180 < a0 2 1 ∧ f_X8_length a1014_ b0 = 0 - 1) ∧ a1014_ 2 1 = a0 2 1)) from by omega), (fun _ => by obtain ⟨g1, g2, p1, p2, p3⟩ := hfd; subst hy4; subst hy5; exact ⟨g1, g2, (a 3), (a1012_ 3), p1, p2, p3, APP_c (hq1012_1 (by omega)) (by omega) (by omega), APP_c (hq1014_1 (by omega)) (by omega) (by omega)⟩), (fun h => absurd h (by omega))⟩
theorem sp_X11_feed (E : jxE) (d : Nat) (hd : Nat.ble 2 d = true) (x1 x2 x3 x4 x5 : Int) (a0 b0 : Nat → Nat → Int) (hv0 : iv a0) : jt (jxC E d 160 [.inr (.inr (.inl 0)), .inl x1, .inl x2, .inl x3, .inl x4, .inl x5] (jxSH, a0, b0)) (jQ_X11_feed x1 x2 x3 x4 x5 a0 b0) := by
  obtain ⟨d, rfl⟩ := jd_succ hd
  refine jt_eq (bq_X11_feed E d x1 x2 x3 x4 x5 a0 b0) ?_
  refine jt_eI (eq_X8_hasRoom E d (jd_le hd rfl) 20 a0 b0) ?_
  have h1019_ := f_X8_hasRoom_eq a0 b0 20
  have h1020_ := iv_get hv0 (k := 2) (j := 1) (l := 0) (u := 200) rfl
  have h1021_ : jxw (200 - (a0 2 1)) = 200 - (a0 2 1) := jxw_id (by omega) (by omega)
  refine jt_ite (fun c1022_ => ?_) (fun c1022_ => ?_)
  ·
    exact jt_rI ⟨hv0, (jfr_rf _ _), rfl, (show (((a0 2 1 ≤ 180 ∧ (-1) = (a0 2 1) + 20) ∧ a0 2 1 = (a0 2 1) + 20) ∨ ((180 < a0 2 1 ∧ (-1) = 0 - 1) ∧ a0 2 1 = a0 2 1)) from by omega), (fun h => absurd h (by omega)), (fun _ _ => rfl)⟩
  ·
    refine jt_bV (sp_X8_append E d (jd_le hd rfl) x1 a0 b0 hv0) (fun a1023_ b1023_ h1023_ => ?_)
    obtain ⟨hv1023_, hf1023_, rfl, hq1023_0, hq1023_1⟩ := h1023_
    have h1024_ := iv_get hv1023_ (k := 2) (j := 1) (l := 0) (u := 200) rfl
    refine jt_bV (sp_X8_append E d (jd_le hd rfl) x2 a1023_ b0 hv1023_) (fun a1025_ b1025_ h1025_ => ?_)
    obtain ⟨hv1025_, hf1025_, rfl, hq1025_0, hq1025_1⟩ := h1025_
    have h1026_ := iv_get hv1025_ (k := 2) (j := 1) (l := 0) (u := 200) rfl
    refine jt_bV (sp_X8_append E d (jd_le hd rfl) x3 a1025_ b0 hv1025_) (fun a1027_ b1027_ h1027_ => ?_)
    obtain ⟨hv1027_, hf1027_, rfl, hq1027_0, hq1027_1⟩ := h1027_
    have h1028_ := iv_get hv1027_ (k := 2) (j := 1) (l := 0) (u := 200) rfl
    have hf1029_ : jfr jW_X11_feed a0 a1023_ := jfr_tr (jfr_rf _ _) hf1023_ rfl
    have hf1030_ : jfr jW_X11_feed a0 a1025_ := jfr_tr hf1029_ hf1025_ rfl
    have hf1031_ : jfr jW_X11_feed a0 a1027_ := jfr_tr hf1030_ hf1027_ rfl
    exact cp_X11_feed_38 E d hd x1 x2 x3 x4 x5 a0 b0 hv0 x4 x5 a1027_ hv1027_ hf1031_ (show a1027_ 2 1 = (a0 2 1) + 12 from by omega) (show a0 2 1 ≤ 180 from by omega) ⟨_, _, hq1023_1 (by omega), APP_c (hq1025_1 (by omega)) (by omega) (by omega), APP_c (hq1027_1 (by omega)) (by omega) (by omega)⟩ rfl rfl
def jW_X11_gatherAskers : List (Nat × Nat) := [(77, 9999)]
abbrev jQ_X11_gatherAskers (a0 b0 : Nat → Nat → Int) : List jxV → (Nat → Nat → Int) → (Nat → Nat → Int) → Prop := rI (fun r a b => (iv a) ∧ (jfr jW_X11_gatherAskers a0 a) ∧ (0 ≤ r) ∧ (r ≤ 8) ∧ ((a0 0 9 = 0 → r = 0)))
theorem cp_X11_gatherAskers_4 (E : jxE) (d : Nat) (hd : Nat.ble 4 (d + 1) = true) (a0 b0 : Nat → Nat → Int) (hv0 : iv a0) : ∀ n : Nat, (∀ (y1 y2 : Int) (a b : Nat → Nat → Int), (((8 - y2) * 1) + 0).toNat ≤ n → iv a → jfr jW_X11_gatherAskers a0 a → 0 ≤ y1 → y1 ≤ 7 → 0 ≤ y2 → y2 ≤ 7 → 1 ≤ a 0 9 → y1 ≤ y2 → 1 ≤ a0 0 9 → jt (jxX E d 169 37 [some (.inr (.inr (.inl 0))), some (.inl y1), some (.inl y2)] [] (jxSH, a, b)) (jQ_X11_gatherAskers a0 b0)) ∧ (∀ (y1 y2 : Int) (a b : Nat → Nat → Int), (((8 - y2) * 1) + 0).toNat ≤ n → iv a → jfr jW_X11_gatherAskers a0 a → 0 ≤ y1 → y1 ≤ 8 → 0 ≤ y2 → y2 ≤ 8 → y1 ≤ y2 → (a0 0 9 = 0 → y1 = 0) → jt (jxX E d 169 4 [some (.inr (.inr (.inl 0))), some (.inl y1), some (.inl y2)] [] (jxSH, a, b)) (jQ_X11_gatherAskers a0 b0)) := by
  refine jx_ind fun n ih => ?_
  have ih37 : ∀ (y1 y2 : Int) (a b : Nat → Nat → Int), (((8 - y2) * 1) + 0).toNat < n → iv a → jfr jW_X11_gatherAskers a0 a → 0 ≤ y1 → y1 ≤ 7 → 0 ≤ y2 → y2 ≤ 7 → 1 ≤ a 0 9 → y1 ≤ y2 → 1 ≤ a0 0 9 → jt (jxX E d 169 37 [some (.inr (.inr (.inl 0))), some (.inl y1), some (.inl y2)] [] (jxSH, a, b)) (jQ_X11_gatherAskers a0 b0) := fun y1 y2 a b hlt i0 i1 i2 i3 i4 i5 i6 i7 i8 => (ih _ hlt).1 y1 y2 a b (Nat.le_refl _) i0 i1 i2 i3 i4 i5 i6 i7 i8
  have ih4 : ∀ (y1 y2 : Int) (a b : Nat → Nat → Int), (((8 - y2) * 1) + 0).toNat < n → iv a → jfr jW_X11_gatherAskers a0 a → 0 ≤ y1 → y1 ≤ 8 → 0 ≤ y2 → y2 ≤ 8 → y1 ≤ y2 → (a0 0 9 = 0 → y1 = 0) → jt (jxX E d 169 4 [some (.inr (.inr (.inl 0))), some (.inl y1), some (.inl y2)] [] (jxSH, a, b)) (jQ_X11_gatherAskers a0 b0) := fun y1 y2 a b hlt i0 i1 i2 i3 i4 i5 i6 i7 => (ih _ hlt).2 y1 y2 a b (Nat.le_refl _) i0 i1 i2 i3 i4 i5 i6 i7
  have hc37 : ∀ (y1 y2 : Int) (a b : Nat → Nat → Int), (((8 - y2) * 1) + 0).toNat ≤ n → iv a → jfr jW_X11_gatherAskers a0 a → 0 ≤ y1 → y1 ≤ 7 → 0 ≤ y2 → y2 ≤ 7 → 1 ≤ a 0 9 → y1 ≤ y2 → 1 ≤ a0 0 9 → jt (jxX E d 169 37 [some (.inr (.inr (.inl 0))), some (.inl y1), some (.inl y2)] [] (jxSH, a, b)) (jQ_X11_gatherAskers a0 b0) := by
    intro y1 y2 a b hm hv hf hi0 hi1 hi2 hi3 hi4 hi5 hi6
    refine jt_eq (bq_X11_gatherAskers_37 E d y1 y2 a b) ?_
    have h1032_ := iv_get hv (k := 0) (j := 9) (l := 0) (u := 8) rfl
    have h1033_ : a 0 9 = a0 0 9 := hf 0 9 rfl
    have h1034_ := iv_get hv0 (k := 0) (j := 9) (l := 0) (u := 8) rfl
    refine jt_grd (by omega) ?_
    refine jt_bJ (sp_X0_reachedBy E d (jd_le hd rfl) (a 76 (y2.toNat)) a b hv) (fun r1035_ a1035_ b1035_ h1035_ => ?_)
    obtain ⟨rfl, rfl⟩ := h1035_
    refine jt_grd (by omega) ?_
    have h1036_ : jxw (y1 + 1) = y1 + 1 := jxw_id (by omega) (by omega)
    have h1037_ : jxw (y2 + 1) = y2 + 1 := jxw_id (by omega) (by omega)
    exact ih4 (jxw (y1 + 1)) (jxw (y2 + 1)) a (jxu b 78 (y1.toNat) r1035_) (show (((8 - (jxw (y2 + 1))) * 1) + 0).toNat < n from by omega) hv hf (show 0 ≤ jxw (y1 + 1) from by omega) (show jxw (y1 + 1) ≤ 8 from by omega) (show 0 ≤ jxw (y2 + 1) from by omega) (show jxw (y2 + 1) ≤ 8 from by omega) (show jxw (y1 + 1) ≤ jxw (y2 + 1) from by omega) (show (a0 0 9 = 0 → jxw (y1 + 1) = 0) from by omega)
  have hc4 : ∀ (y1 y2 : Int) (a b : Nat → Nat → Int), (((8 - y2) * 1) + 0).toNat ≤ n → iv a → jfr jW_X11_gatherAskers a0 a → 0 ≤ y1 → y1 ≤ 8 → 0 ≤ y2 → y2 ≤ 8 → y1 ≤ y2 → (a0 0 9 = 0 → y1 = 0) → jt (jxX E d 169 4 [some (.inr (.inr (.inl 0))), some (.inl y1), some (.inl y2)] [] (jxSH, a, b)) (jQ_X11_gatherAskers a0 b0) := by
    intro y1 y2 a b hm hv hf hi0 hi1 hi2 hi3 hi4 hi5
    refine jt_eq (bq_X11_gatherAskers_4 E d y1 y2 a b) ?_
    have h1038_ := iv_get hv0 (k := 0) (j := 9) (l := 0) (u := 8) rfl
    have h1039_ := iv_get hv (k := 0) (j := 9) (l := 0) (u := 8) rfl
    have h1040_ : a 0 9 = a0 0 9 := hf 0 9 rfl
    refine jt_ite (fun c1041_ => ?_) (fun c1041_ => ?_)
    ·
      refine jt_grd (by omega) ?_
      refine jt_eI (eq_X11_mayAsk E d (jd_le hd rfl) (a 76 (y2.toNat)) a b) ?_
      have h1042_ : a 76 (y2.toNat) = a0 76 (y2.toNat) := hf 76 (y2.toNat) rfl
      have h1043_ := f_X11_mayAsk_bool a b (a 76 (y2.toNat))
      refine jt_ite (fun c1044_ => ?_) (fun c1044_ => ?_)
      ·
        have h1045_ : jxw (y2 + 1) = y2 + 1 := jxw_id (by omega) (by omega)
        exact ih4 y1 (jxw (y2 + 1)) a b (show (((8 - (jxw (y2 + 1))) * 1) + 0).toNat < n from by omega) hv hf (show 0 ≤ y1 from by omega) (show y1 ≤ 8 from by omega) (show 0 ≤ jxw (y2 + 1) from by omega) (show jxw (y2 + 1) ≤ 8 from by omega) (show y1 ≤ jxw (y2 + 1) from by omega) (show (a0 0 9 = 0 → y1 = 0) from by omega)
      ·
        refine jt_grd (by omega) ?_
        refine jt_grd (by omega) ?_
        have hv1046_ : iv (jxu a 77 (y1.toNat) (a 76 (y2.toNat))) := iv_putf hv rfl
        have hf1047_ : jfr jW_X11_gatherAskers a0 (jxu a 77 (y1.toNat) (a 76 (y2.toNat))) := jfr_put hf rfl
        exact hc37 y1 y2 (jxu a 77 (y1.toNat) (a 76 (y2.toNat))) b (show (((8 - y2) * 1) + 0).toNat ≤ n from by omega) hv1046_ hf1047_ (show 0 ≤ y1 from by omega) (show y1 ≤ 7 from by omega) (show 0 ≤ y2 from by omega) (show y2 ≤ 7 from by omega) (show 1 ≤ a 0 9 from by omega) (show y1 ≤ y2 from by omega) (show 1 ≤ a0 0 9 from by omega)
    ·
      exact jt_rI ⟨hv, hf, (show 0 ≤ y1 from by omega), (show y1 ≤ 8 from by omega), (show (a0 0 9 = 0 → y1 = 0) from by omega)⟩
  exact ⟨hc37, hc4⟩
theorem sp_X11_gatherAskers (E : jxE) (d : Nat) (hd : Nat.ble 4 d = true) (a0 b0 : Nat → Nat → Int) (hv0 : iv a0) : jt (jxC E d 169 [.inr (.inr (.inl 0))] (jxSH, a0, b0)) (jQ_X11_gatherAskers a0 b0) := by
  obtain ⟨d, rfl⟩ := jd_succ hd
  refine jt_eq (bq_X11_gatherAskers E d a0 b0) ?_
  have h1048_ := iv_get hv0 (k := 0) (j := 9) (l := 0) (u := 8) rfl
  exact (cp_X11_gatherAskers_4 E d hd a0 b0 hv0 _).2 0 0 a0 b0 (Nat.le_refl _) hv0 (jfr_rf _ _) (show 0 ≤ 0 from by omega) (show 0 ≤ 8 from by omega) (show 0 ≤ 0 from by omega) (show 0 ≤ 8 from by omega) (show 0 ≤ 0 from by omega) (show (a0 0 9 = 0 → 0 = 0) from by omega)
abbrev jQ_X2_allow (x1 x2 x3 : Int) (a0 b0 : Nat → Nat → Int) : List jxV → (Nat → Nat → Int) → (Nat → Nat → Int) → Prop := rV (fun a b => (a0 = a))
theorem cp_X2_allow_29 (E : jxE) (d : Nat) (hd : Nat.ble 2 (d + 1) = true) (x1 x2 x3 : Int) (a0 b0 : Nat → Nat → Int) (hv0 : iv a0) : ∀ (b : Nat → Nat → Int), jt (jxX E d 43 29 [none, none, none, none] [] (jxSH, a0, b)) (jQ_X2_allow x1 x2 x3 a0 b0) := by
  intro b
  refine jt_eq (bq_X2_allow_29 E d a0 b) ?_
  exact jt_rV rfl
theorem sp_X2_allow (E : jxE) (d : Nat) (hd : Nat.ble 2 d = true) (x1 x2 x3 : Int) (a0 b0 : Nat → Nat → Int) (hv0 : iv a0) : jt (jxC E d 43 [.inr (.inr (.inl 79)), .inl x1, .inl x2, .inl x3] (jxSH, a0, b0)) (jQ_X2_allow x1 x2 x3 a0 b0) := by
  obtain ⟨d, rfl⟩ := jd_succ hd
  refine jt_eq (bq_X2_allow E d x1 x2 x3 a0 b0) ?_
  refine jt_eI (eq_X11_within E d (jd_le hd rfl) x1 0 7 a0 b0) ?_
  have h1049_ := f_X11_within_eq a0 b0 x1 0 7
  refine jt_ite (fun c1050_ => ?_) (fun c1050_ => ?_)
  ·
    exact cp_X2_allow_29 E d hd x1 x2 x3 a0 b0 hv0 b0
  ·
    refine jt_grd (by omega) ?_
    exact cp_X2_allow_29 E d hd x1 x2 x3 a0 b0 hv0 (jxu b0 82 (x1.toNat) (jxwl ((jxwl ((jxwl (x2 * 1048576)) - x3)) - 1099511627776)))
abbrev jQ_X2_forbidAll (a0 b0 : Nat → Nat → Int) : List jxV → (Nat → Nat → Int) → (Nat → Nat → Int) → Prop := rV (fun a b => (a0 = a))
theorem cp_X2_forbidAll_2 (E : jxE) (d : Nat) (hd : Nat.ble 1 (d + 1) = true) (a0 b0 : Nat → Nat → Int) (hv0 : iv a0) : ∀ n : Nat, (∀ (y1 : Int) (b : Nat → Nat → Int), (((8 - y1) * 1) + 0).toNat ≤ n → 0 ≤ y1 → y1 ≤ 8 → jt (jxX E d 42 2 [some (.inr (.inr (.inl 79))), some (.inl y1)] [] (jxSH, a0, b)) (jQ_X2_forbidAll a0 b0)) := by
  refine jx_ind fun n ih => ?_
  have ih2 : ∀ (y1 : Int) (b : Nat → Nat → Int), (((8 - y1) * 1) + 0).toNat < n → 0 ≤ y1 → y1 ≤ 8 → jt (jxX E d 42 2 [some (.inr (.inr (.inl 79))), some (.inl y1)] [] (jxSH, a0, b)) (jQ_X2_forbidAll a0 b0) := fun y1 b hlt i0 i1 => (ih _ hlt) y1 b (Nat.le_refl _) i0 i1
  have hc2 : ∀ (y1 : Int) (b : Nat → Nat → Int), (((8 - y1) * 1) + 0).toNat ≤ n → 0 ≤ y1 → y1 ≤ 8 → jt (jxX E d 42 2 [some (.inr (.inr (.inl 79))), some (.inl y1)] [] (jxSH, a0, b)) (jQ_X2_forbidAll a0 b0) := by
    intro y1 b hm hi0 hi1
    refine jt_eq (bq_X2_forbidAll_2 E d y1 a0 b) ?_
    refine jt_ite (fun c1051_ => ?_) (fun c1051_ => ?_)
    ·
      refine jt_grd (by omega) ?_
      have h1052_ : jxw (y1 + 1) = y1 + 1 := jxw_id (by omega) (by omega)
      exact ih2 (jxw (y1 + 1)) (jxu b 82 (y1.toNat) 4611686018427387904) (show (((8 - (jxw (y1 + 1))) * 1) + 0).toNat < n from by omega) (show 0 ≤ jxw (y1 + 1) from by omega) (show jxw (y1 + 1) ≤ 8 from by omega)
    ·
      exact jt_rV rfl
  exact hc2
theorem sp_X2_forbidAll (E : jxE) (d : Nat) (hd : Nat.ble 1 d = true) (a0 b0 : Nat → Nat → Int) (hv0 : iv a0) : jt (jxC E d 42 [.inr (.inr (.inl 79))] (jxSH, a0, b0)) (jQ_X2_forbidAll a0 b0) := by
  obtain ⟨d, rfl⟩ := jd_succ hd
  refine jt_eq (bq_X2_forbidAll E d a0 b0) ?_
  exact (cp_X2_forbidAll_2 E d hd a0 b0 hv0 _) 0 b0 (Nat.le_refl _) (show 0 ≤ 0 from by omega) (show 0 ≤ 8 from by omega)
def jW_X2_begin : List (Nat × Nat) := [(79, 3)]
abbrev jQ_X2_begin (x1 : Int) (a0 b0 : Nat → Nat → Int) : List jxV → (Nat → Nat → Int) → (Nat → Nat → Int) → Prop := rV (fun a b => (iv a) ∧ (jfr jW_X2_begin a0 a))
theorem cp_X2_begin_56 (E : jxE) (d : Nat) (hd : Nat.ble 2 (d + 1) = true) (x1 : Int) (a0 b0 : Nat → Nat → Int) (hv0 : iv a0) : ∀ n : Nat, (∀ (y2 : Int) (a b : Nat → Nat → Int), (((8 - y2) * 1) + 0).toNat ≤ n → iv a → jfr jW_X2_begin a0 a → 0 ≤ y2 → y2 ≤ 7 → 1 ≤ a 79 3 → jt (jxX E d 41 81 [some (.inr (.inr (.inl 79))), none, some (.inl y2)] [] (jxSH, a, b)) (jQ_X2_begin x1 a0 b0)) ∧ (∀ (y2 : Int) (a b : Nat → Nat → Int), (((8 - y2) * 1) + 0).toNat ≤ n → iv a → jfr jW_X2_begin a0 a → 0 ≤ y2 → y2 ≤ 8 → jt (jxX E d 41 56 [some (.inr (.inr (.inl 79))), none, some (.inl y2)] [] (jxSH, a, b)) (jQ_X2_begin x1 a0 b0)) := by
  refine jx_ind fun n ih => ?_
  have ih81 : ∀ (y2 : Int) (a b : Nat → Nat → Int), (((8 - y2) * 1) + 0).toNat < n → iv a → jfr jW_X2_begin a0 a → 0 ≤ y2 → y2 ≤ 7 → 1 ≤ a 79 3 → jt (jxX E d 41 81 [some (.inr (.inr (.inl 79))), none, some (.inl y2)] [] (jxSH, a, b)) (jQ_X2_begin x1 a0 b0) := fun y2 a b hlt i0 i1 i2 i3 i4 => (ih _ hlt).1 y2 a b (Nat.le_refl _) i0 i1 i2 i3 i4
  have ih56 : ∀ (y2 : Int) (a b : Nat → Nat → Int), (((8 - y2) * 1) + 0).toNat < n → iv a → jfr jW_X2_begin a0 a → 0 ≤ y2 → y2 ≤ 8 → jt (jxX E d 41 56 [some (.inr (.inr (.inl 79))), none, some (.inl y2)] [] (jxSH, a, b)) (jQ_X2_begin x1 a0 b0) := fun y2 a b hlt i0 i1 i2 i3 => (ih _ hlt).2 y2 a b (Nat.le_refl _) i0 i1 i2 i3
  have hc81 : ∀ (y2 : Int) (a b : Nat → Nat → Int), (((8 - y2) * 1) + 0).toNat ≤ n → iv a → jfr jW_X2_begin a0 a → 0 ≤ y2 → y2 ≤ 7 → 1 ≤ a 79 3 → jt (jxX E d 41 81 [some (.inr (.inr (.inl 79))), none, some (.inl y2)] [] (jxSH, a, b)) (jQ_X2_begin x1 a0 b0) := by
    intro y2 a b hm hv hf hi0 hi1 hi2
    refine jt_eq (bq_X2_begin_81 E d y2 a b) ?_
    have h1053_ := iv_get hv (k := 79) (j := 3) (l := 0) (u := 8) rfl
    have h1054_ : jxw (y2 + 1) = y2 + 1 := jxw_id (by omega) (by omega)
    exact ih56 (jxw (y2 + 1)) a b (show (((8 - (jxw (y2 + 1))) * 1) + 0).toNat < n from by omega) hv hf (show 0 ≤ jxw (y2 + 1) from by omega) (show jxw (y2 + 1) ≤ 8 from by omega)
  have hc56 : ∀ (y2 : Int) (a b : Nat → Nat → Int), (((8 - y2) * 1) + 0).toNat ≤ n → iv a → jfr jW_X2_begin a0 a → 0 ≤ y2 → y2 ≤ 8 → jt (jxX E d 41 56 [some (.inr (.inr (.inl 79))), none, some (.inl y2)] [] (jxSH, a, b)) (jQ_X2_begin x1 a0 b0) := by
    intro y2 a b hm hv hf hi0 hi1
    refine jt_eq (bq_X2_begin_56 E d y2 a b) ?_
    have h1055_ := iv_get hv (k := 79) (j := 3) (l := 0) (u := 8) rfl
    refine jt_ite (fun c1056_ => ?_) (fun c1056_ => ?_)
    ·
      refine jt_eI (eq_X2_shiftOf E d (jd_le hd rfl) y2 a b) ?_
      exact hc81 y2 a (jxu b 81 0 (jxwl ((b 81 0) + (jxshll 40 (f_X2_shiftOf a b y2))))) (show (((8 - y2) * 1) + 0).toNat ≤ n from by omega) hv hf (show 0 ≤ y2 from by omega) (show y2 ≤ 7 from by omega) (show 1 ≤ a 79 3 from by omega)
    ·
      refine jt_bV (sp_X2_forbidAll E d (jd_le hd rfl) a b hv) (fun a1057_ b1057_ h1057_ => ?_)
      subst h1057_
      exact jt_rV ⟨hv, hf⟩
  exact ⟨hc81, hc56⟩
theorem cp_X2_begin_54 (E : jxE) (d : Nat) (hd : Nat.ble 2 (d + 1) = true) (x1 : Int) (a0 b0 : Nat → Nat → Int) (hv0 : iv a0) : ∀ (a b : Nat → Nat → Int), iv a → jfr jW_X2_begin a0 a → jt (jxX E d 41 54 [some (.inr (.inr (.inl 79))), none, none] [] (jxSH, a, b)) (jQ_X2_begin x1 a0 b0) := by
  intro a b hv hf
  refine jt_eq (bq_X2_begin_54 E d a b) ?_
  exact (cp_X2_begin_56 E d hd x1 a0 b0 hv0 _).2 0 a b (Nat.le_refl _) hv hf (show 0 ≤ 0 from by omega) (show 0 ≤ 8 from by omega)
theorem cp_X2_begin_16 (E : jxE) (d : Nat) (hd : Nat.ble 2 (d + 1) = true) (x1 : Int) (a0 b0 : Nat → Nat → Int) (hv0 : iv a0) : ∀ n : Nat, (∀ (y2 : Int) (a b : Nat → Nat → Int), (((256 - y2) * 1) + 0).toNat ≤ n → iv a → jfr jW_X2_begin a0 a → 0 ≤ y2 → y2 ≤ 256 → jt (jxX E d 41 16 [some (.inr (.inr (.inl 79))), none, some (.inl y2)] [] (jxSH, a, b)) (jQ_X2_begin x1 a0 b0)) := by
  refine jx_ind fun n ih => ?_
  have ih16 : ∀ (y2 : Int) (a b : Nat → Nat → Int), (((256 - y2) * 1) + 0).toNat < n → iv a → jfr jW_X2_begin a0 a → 0 ≤ y2 → y2 ≤ 256 → jt (jxX E d 41 16 [some (.inr (.inr (.inl 79))), none, some (.inl y2)] [] (jxSH, a, b)) (jQ_X2_begin x1 a0 b0) := fun y2 a b hlt i0 i1 i2 i3 => (ih _ hlt) y2 a b (Nat.le_refl _) i0 i1 i2 i3
  have hc16 : ∀ (y2 : Int) (a b : Nat → Nat → Int), (((256 - y2) * 1) + 0).toNat ≤ n → iv a → jfr jW_X2_begin a0 a → 0 ≤ y2 → y2 ≤ 256 → jt (jxX E d 41 16 [some (.inr (.inr (.inl 79))), none, some (.inl y2)] [] (jxSH, a, b)) (jQ_X2_begin x1 a0 b0) := by
    intro y2 a b hm hv hf hi0 hi1
    refine jt_eq (bq_X2_begin_16 E d y2 a b) ?_
    refine jt_ite (fun c1058_ => ?_) (fun c1058_ => ?_)
    ·
      refine jt_grd (by omega) ?_
      have h1059_ : jxw (y2 + 1) = y2 + 1 := jxw_id (by omega) (by omega)
      exact ih16 (jxw (y2 + 1)) a (jxu b 80 (y2.toNat) 4611686018427387904) (show (((256 - (jxw (y2 + 1))) * 1) + 0).toNat < n from by omega) hv hf (show 0 ≤ jxw (y2 + 1) from by omega) (show jxw (y2 + 1) ≤ 256 from by omega)
    ·
      exact cp_X2_begin_54 E d hd x1 a0 b0 hv0 a (jxu (jxu b 80 0 0) 81 0 0) hv hf
  exact hc16
theorem sp_X2_begin (E : jxE) (d : Nat) (hd : Nat.ble 2 d = true) (x1 : Int) (a0 b0 : Nat → Nat → Int) (hv0 : iv a0) : jt (jxC E d 41 [.inr (.inr (.inl 79)), .inl x1] (jxSH, a0, b0)) (jQ_X2_begin x1 a0 b0) := by
  obtain ⟨d, rfl⟩ := jd_succ hd
  refine jt_eq (bq_X2_begin E d x1 a0 b0) ?_
  refine jt_eI (eq_J9_max_7cf53 E d (jd_le hd rfl) x1 0 a0 b0) ?_
  refine jt_eI (eq_J9_min_7cf53 E d (jd_le hd rfl) (f_J9_max_7cf53 a0 b0 x1 0) 8 a0 b0) ?_
  have h1061_ := f_J9_max_7cf53_eq a0 b0 x1 0
  have h1062_ := f_J9_min_7cf53_eq a0 b0 (f_J9_max_7cf53 a0 b0 x1 0) 8
  have hv1060_ : iv (jxu a0 79 3 (f_J9_min_7cf53 a0 b0 (f_J9_max_7cf53 a0 b0 x1 0) 8)) := iv_put hv0 (l := 0) (u := 8) rfl (by omega) (by omega)
  have hf1063_ : jfr jW_X2_begin a0 (jxu a0 79 3 (f_J9_min_7cf53 a0 b0 (f_J9_max_7cf53 a0 b0 x1 0) 8)) := jfr_put (jfr_rf _ _) rfl
  exact (cp_X2_begin_16 E d hd x1 a0 b0 hv0 _) 0 (jxu a0 79 3 (f_J9_min_7cf53 a0 b0 (f_J9_max_7cf53 a0 b0 x1 0) 8)) b0 (Nat.le_refl _) hv1060_ hf1063_ (show 0 ≤ 0 from by omega) (show 0 ≤ 256 from by omega)
abbrev jQ_X2_finish (a0 b0 : Nat → Nat → Int) : List jxV → (Nat → Nat → Int) → (Nat → Nat → Int) → Prop := rV (fun a b => (a0 = a))
theorem cp_X2_finish_4 (E : jxE) (d : Nat) (hd : Nat.ble 1 (d + 1) = true) (a0 b0 : Nat → Nat → Int) (hv0 : iv a0) : ∀ n : Nat, (∀ (y1 y2 : Int) (b : Nat → Nat → Int), (((256 - y2) * 1) + 0).toNat ≤ n → 0 ≤ y1 → y1 ≤ 255 → 1 ≤ y2 → y2 ≤ 255 → jt (jxX E d 46 64 [some (.inr (.inr (.inl 79))), some (.inl y1), some (.inl y2)] [] (jxSH, a0, b)) (jQ_X2_finish a0 b0)) ∧ (∀ (y2 : Int) (b : Nat → Nat → Int), (((256 - y2) * 1) + 0).toNat ≤ n → 1 ≤ y2 → y2 ≤ 255 → jt (jxX E d 46 62 [some (.inr (.inr (.inl 79))), none, some (.inl y2)] [] (jxSH, a0, b)) (jQ_X2_finish a0 b0)) ∧ (∀ (y1 y2 : Int) (b : Nat → Nat → Int), (((256 - y2) * 1) + 0).toNat ≤ n → 0 ≤ y1 → y1 ≤ 255 → 1 ≤ y2 → y2 ≤ 255 → jt (jxX E d 46 30 [some (.inr (.inr (.inl 79))), some (.inl y1), some (.inl y2)] [] (jxSH, a0, b)) (jQ_X2_finish a0 b0)) ∧ (∀ (y1 y2 : Int) (b : Nat → Nat → Int), (((256 - y2) * 1) + 0).toNat ≤ n → 0 ≤ y1 → y1 ≤ 255 → 1 ≤ y2 → y2 ≤ 256 → jt (jxX E d 46 4 [some (.inr (.inr (.inl 79))), some (.inl y1), some (.inl y2)] [] (jxSH, a0, b)) (jQ_X2_finish a0 b0)) := by
  refine jx_ind fun n ih => ?_
  have ih64 : ∀ (y1 y2 : Int) (b : Nat → Nat → Int), (((256 - y2) * 1) + 0).toNat < n → 0 ≤ y1 → y1 ≤ 255 → 1 ≤ y2 → y2 ≤ 255 → jt (jxX E d 46 64 [some (.inr (.inr (.inl 79))), some (.inl y1), some (.inl y2)] [] (jxSH, a0, b)) (jQ_X2_finish a0 b0) := fun y1 y2 b hlt i0 i1 i2 i3 => (ih _ hlt).1 y1 y2 b (Nat.le_refl _) i0 i1 i2 i3
  have ih62 : ∀ (y2 : Int) (b : Nat → Nat → Int), (((256 - y2) * 1) + 0).toNat < n → 1 ≤ y2 → y2 ≤ 255 → jt (jxX E d 46 62 [some (.inr (.inr (.inl 79))), none, some (.inl y2)] [] (jxSH, a0, b)) (jQ_X2_finish a0 b0) := fun y2 b hlt i0 i1 => (ih _ hlt).2.1 y2 b (Nat.le_refl _) i0 i1
  have ih30 : ∀ (y1 y2 : Int) (b : Nat → Nat → Int), (((256 - y2) * 1) + 0).toNat < n → 0 ≤ y1 → y1 ≤ 255 → 1 ≤ y2 → y2 ≤ 255 → jt (jxX E d 46 30 [some (.inr (.inr (.inl 79))), some (.inl y1), some (.inl y2)] [] (jxSH, a0, b)) (jQ_X2_finish a0 b0) := fun y1 y2 b hlt i0 i1 i2 i3 => (ih _ hlt).2.2.1 y1 y2 b (Nat.le_refl _) i0 i1 i2 i3
  have ih4 : ∀ (y1 y2 : Int) (b : Nat → Nat → Int), (((256 - y2) * 1) + 0).toNat < n → 0 ≤ y1 → y1 ≤ 255 → 1 ≤ y2 → y2 ≤ 256 → jt (jxX E d 46 4 [some (.inr (.inr (.inl 79))), some (.inl y1), some (.inl y2)] [] (jxSH, a0, b)) (jQ_X2_finish a0 b0) := fun y1 y2 b hlt i0 i1 i2 i3 => (ih _ hlt).2.2.2 y1 y2 b (Nat.le_refl _) i0 i1 i2 i3
  have hc64 : ∀ (y1 y2 : Int) (b : Nat → Nat → Int), (((256 - y2) * 1) + 0).toNat ≤ n → 0 ≤ y1 → y1 ≤ 255 → 1 ≤ y2 → y2 ≤ 255 → jt (jxX E d 46 64 [some (.inr (.inr (.inl 79))), some (.inl y1), some (.inl y2)] [] (jxSH, a0, b)) (jQ_X2_finish a0 b0) := by
    intro y1 y2 b hm hi0 hi1 hi2 hi3
    refine jt_eq (bq_X2_finish_64 E d y1 y2 a0 b) ?_
    have h1064_ : jxw (y2 + 1) = y2 + 1 := jxw_id (by omega) (by omega)
    exact ih4 y1 (jxw (y2 + 1)) b (show (((256 - (jxw (y2 + 1))) * 1) + 0).toNat < n from by omega) (show 0 ≤ y1 from by omega) (show y1 ≤ 255 from by omega) (show 1 ≤ jxw (y2 + 1) from by omega) (show jxw (y2 + 1) ≤ 256 from by omega)
  have hc62 : ∀ (y2 : Int) (b : Nat → Nat → Int), (((256 - y2) * 1) + 0).toNat ≤ n → 1 ≤ y2 → y2 ≤ 255 → jt (jxX E d 46 62 [some (.inr (.inr (.inl 79))), none, some (.inl y2)] [] (jxSH, a0, b)) (jQ_X2_finish a0 b0) := by
    intro y2 b hm hi0 hi1
    refine jt_eq (bq_X2_finish_62 E d y2 a0 b) ?_
    exact hc64 y2 y2 b (show (((256 - y2) * 1) + 0).toNat ≤ n from by omega) (show 0 ≤ y2 from by omega) (show y2 ≤ 255 from by omega) (show 1 ≤ y2 from by omega) (show y2 ≤ 255 from by omega)
  have hc30 : ∀ (y1 y2 : Int) (b : Nat → Nat → Int), (((256 - y2) * 1) + 0).toNat ≤ n → 0 ≤ y1 → y1 ≤ 255 → 1 ≤ y2 → y2 ≤ 255 → jt (jxX E d 46 30 [some (.inr (.inr (.inl 79))), some (.inl y1), some (.inl y2)] [] (jxSH, a0, b)) (jQ_X2_finish a0 b0) := by
    intro y1 y2 b hm hi0 hi1 hi2 hi3
    refine jt_eq (bq_X2_finish_30 E d y1 y2 a0 b) ?_
    refine jt_grd (by omega) ?_
    refine jt_grd (by omega) ?_
    have h1065_ := jxlcmp_b (b 80 (y2.toNat)) (b 80 (y1.toNat))
    refine jt_ite (fun c1066_ => ?_) (fun c1066_ => ?_)
    ·
      refine jt_grd (by omega) ?_
      refine jt_grd (by omega) ?_
      have h1067_ := jxlcmp_b (b 81 (y2.toNat)) (b 81 (y1.toNat))
      refine jt_ite (fun c1068_ => ?_) (fun c1068_ => ?_)
      ·
        exact hc62 y2 b (show (((256 - y2) * 1) + 0).toNat ≤ n from by omega) (show 1 ≤ y2 from by omega) (show y2 ≤ 255 from by omega)
      ·
        exact hc64 y1 y2 b (show (((256 - y2) * 1) + 0).toNat ≤ n from by omega) (show 0 ≤ y1 from by omega) (show y1 ≤ 255 from by omega) (show 1 ≤ y2 from by omega) (show y2 ≤ 255 from by omega)
    ·
      exact hc64 y1 y2 b (show (((256 - y2) * 1) + 0).toNat ≤ n from by omega) (show 0 ≤ y1 from by omega) (show y1 ≤ 255 from by omega) (show 1 ≤ y2 from by omega) (show y2 ≤ 255 from by omega)
  have hc4 : ∀ (y1 y2 : Int) (b : Nat → Nat → Int), (((256 - y2) * 1) + 0).toNat ≤ n → 0 ≤ y1 → y1 ≤ 255 → 1 ≤ y2 → y2 ≤ 256 → jt (jxX E d 46 4 [some (.inr (.inr (.inl 79))), some (.inl y1), some (.inl y2)] [] (jxSH, a0, b)) (jQ_X2_finish a0 b0) := by
    intro y1 y2 b hm hi0 hi1 hi2 hi3
    refine jt_eq (bq_X2_finish_4 E d y1 y2 a0 b) ?_
    have h1069_ := iv_get hv0 (k := 79) (j := 3) (l := 0) (u := 8) rfl
    have h1070_ := jxshl1_b (a0 79 3)
    refine jt_ite (fun c1071_ => ?_) (fun c1071_ => ?_)
    ·
      refine jt_grd (by omega) ?_
      refine jt_grd (by omega) ?_
      have h1072_ := jxlcmp_b (b 80 (y2.toNat)) (b 80 (y1.toNat))
      refine jt_ite (fun c1073_ => ?_) (fun c1073_ => ?_)
      ·
        exact hc62 y2 b (show (((256 - y2) * 1) + 0).toNat ≤ n from by omega) (show 1 ≤ y2 from by omega) (show y2 ≤ 255 from by omega)
      ·
        exact hc30 y1 y2 b (show (((256 - y2) * 1) + 0).toNat ≤ n from by omega) (show 0 ≤ y1 from by omega) (show y1 ≤ 255 from by omega) (show 1 ≤ y2 from by omega) (show y2 ≤ 255 from by omega)
    ·
      refine jt_grd (by omega) ?_
      exact jt_rV rfl
  exact ⟨hc64, hc62, hc30, hc4⟩
theorem sp_X2_finish (E : jxE) (d : Nat) (hd : Nat.ble 1 d = true) (a0 b0 : Nat → Nat → Int) (hv0 : iv a0) : jt (jxC E d 46 [.inr (.inr (.inl 79))] (jxSH, a0, b0)) (jQ_X2_finish a0 b0) := by
  obtain ⟨d, rfl⟩ := jd_succ hd
  refine jt_eq (bq_X2_finish E d a0 b0) ?_
  exact (cp_X2_finish_4 E d hd a0 b0 hv0 _).2.2.2 0 1 b0 (Nat.le_refl _) (show 0 ≤ 0 from by omega) (show 0 ≤ 255 from by omega) (show 1 ≤ 1 from by omega) (show 1 ≤ 256 from by omega)
abbrev jQ_X2_tryPair (x1 x2 x3 : Int) (a0 b0 : Nat → Nat → Int) : List jxV → (Nat → Nat → Int) → (Nat → Nat → Int) → Prop := rV (fun a b => (a0 = a))
theorem cp_X2_tryPair_110 (E : jxE) (d : Nat) (hd : Nat.ble 2 (d + 1) = true) (x1 x2 x3 : Int) (a0 b0 : Nat → Nat → Int) (hv0 : iv a0) (hp0 : 0 ≤ x1) (hp1 : x1 ≤ 255) (hp2 : 0 ≤ x2) (hp3 : x2 ≤ 7) : ∀ (b : Nat → Nat → Int), jt (jxX E d 45 110 [none, none, none, none, none, none, none, none, none] [] (jxSH, a0, b)) (jQ_X2_tryPair x1 x2 x3 a0 b0) := by
  intro b
  refine jt_eq (bq_X2_tryPair_110 E d a0 b) ?_
  exact jt_rV rfl
theorem cp_X2_tryPair_94 (E : jxE) (d : Nat) (hd : Nat.ble 2 (d + 1) = true) (x1 x2 x3 : Int) (a0 b0 : Nat → Nat → Int) (hv0 : iv a0) (hp0 : 0 ≤ x1) (hp1 : x1 ≤ 255) (hp2 : 0 ≤ x2) (hp3 : x2 ≤ 7) : ∀ (y1 y5 y7 : Int) (b : Nat → Nat → Int), 0 ≤ y1 → y1 ≤ 255 → jt (jxX E d 45 94 [some (.inr (.inr (.inl 79))), some (.inl y1), none, none, none, some (.inr (.inl y5)), none, some (.inr (.inl y7)), none] [] (jxSH, a0, b)) (jQ_X2_tryPair x1 x2 x3 a0 b0) := by
  intro y1 y5 y7 b hi0 hi1
  refine jt_eq (bq_X2_tryPair_94 E d y1 y5 y7 a0 b) ?_
  refine jt_grd (by omega) ?_
  refine jt_grd (by omega) ?_
  exact cp_X2_tryPair_110 E d hd x1 x2 x3 a0 b0 hv0 hp0 hp1 hp2 hp3 (jxu (jxu b 80 (y1.toNat) y5) 81 (y1.toNat) y7)
theorem cp_X2_tryPair_70 (E : jxE) (d : Nat) (hd : Nat.ble 2 (d + 1) = true) (x1 x2 x3 : Int) (a0 b0 : Nat → Nat → Int) (hv0 : iv a0) (hp0 : 0 ≤ x1) (hp1 : x1 ≤ 255) (hp2 : 0 ≤ x2) (hp3 : x2 ≤ 7) : ∀ (y1 y5 y7 : Int) (b : Nat → Nat → Int), 0 ≤ y1 → y1 ≤ 255 → jt (jxX E d 45 70 [some (.inr (.inr (.inl 79))), some (.inl y1), none, none, none, some (.inr (.inl y5)), none, some (.inr (.inl y7)), none] [] (jxSH, a0, b)) (jQ_X2_tryPair x1 x2 x3 a0 b0) := by
  intro y1 y5 y7 b hi0 hi1
  refine jt_eq (bq_X2_tryPair_70 E d y1 y5 y7 a0 b) ?_
  refine jt_grd (by omega) ?_
  have h1074_ := jxlcmp_b y5 (b 80 (y1.toNat))
  refine jt_ite (fun c1075_ => ?_) (fun c1075_ => ?_)
  ·
    refine jt_grd (by omega) ?_
    have h1076_ := jxlcmp_b y7 (b 81 (y1.toNat))
    refine jt_ite (fun c1077_ => ?_) (fun c1077_ => ?_)
    ·
      exact cp_X2_tryPair_94 E d hd x1 x2 x3 a0 b0 hv0 hp0 hp1 hp2 hp3 y1 y5 y7 b (show 0 ≤ y1 from by omega) (show y1 ≤ 255 from by omega)
    ·
      exact cp_X2_tryPair_110 E d hd x1 x2 x3 a0 b0 hv0 hp0 hp1 hp2 hp3 b
  ·
    exact cp_X2_tryPair_110 E d hd x1 x2 x3 a0 b0 hv0 hp0 hp1 hp2 hp3 b
theorem cp_X2_tryPair_38 (E : jxE) (d : Nat) (hd : Nat.ble 2 (d + 1) = true) (x1 x2 x3 : Int) (a0 b0 : Nat → Nat → Int) (hv0 : iv a0) (hp0 : 0 ≤ x1) (hp1 : x1 ≤ 255) (hp2 : 0 ≤ x2) (hp3 : x2 ≤ 7) : ∀ (y1 y2 y3 y4 y5 : Int) (b : Nat → Nat → Int), 0 ≤ y1 → y1 ≤ 255 → 0 ≤ y2 → y2 ≤ 7 → 0 ≤ y4 → y4 ≤ 255 → jt (jxX E d 45 38 [some (.inr (.inr (.inl 79))), some (.inl y1), some (.inl y2), some (.inl y3), some (.inl y4), some (.inr (.inl y5)), none, none, none] [] (jxSH, a0, b)) (jQ_X2_tryPair x1 x2 x3 a0 b0) := by
  intro y1 y2 y3 y4 y5 b hi0 hi1 hi2 hi3 hi4 hi5
  refine jt_eq (bq_X2_tryPair_38 E d y1 y2 y3 y4 y5 a0 b) ?_
  refine jt_grd (by omega) ?_
  refine jt_eI (eq_X2_shiftOf E d (jd_le hd rfl) y2 a0 b) ?_
  refine jt_grd (by omega) ?_
  have h1078_ := jxlcmp_b y5 (b 80 (y1.toNat))
  refine jt_ite (fun c1079_ => ?_) (fun c1079_ => ?_)
  ·
    exact cp_X2_tryPair_94 E d hd x1 x2 x3 a0 b0 hv0 hp0 hp1 hp2 hp3 y1 y5 (jxwl ((b 81 (y4.toNat)) - (jxshll (jxw (40 - y3)) (f_X2_shiftOf a0 b y2)))) b (show 0 ≤ y1 from by omega) (show y1 ≤ 255 from by omega)
  ·
    exact cp_X2_tryPair_70 E d hd x1 x2 x3 a0 b0 hv0 hp0 hp1 hp2 hp3 y1 y5 (jxwl ((b 81 (y4.toNat)) - (jxshll (jxw (40 - y3)) (f_X2_shiftOf a0 b y2)))) b (show 0 ≤ y1 from by omega) (show y1 ≤ 255 from by omega)
theorem sp_X2_tryPair (E : jxE) (d : Nat) (hd : Nat.ble 2 d = true) (x1 x2 x3 : Int) (a0 b0 : Nat → Nat → Int) (hv0 : iv a0) (hp0 : 0 ≤ x1) (hp1 : x1 ≤ 255) (hp2 : 0 ≤ x2) (hp3 : x2 ≤ 7) : jt (jxC E d 45 [.inr (.inr (.inl 79)), .inl x1, .inl x2, .inl x3] (jxSH, a0, b0)) (jQ_X2_tryPair x1 x2 x3 a0 b0) := by
  obtain ⟨d, rfl⟩ := jd_succ hd
  refine jt_eq (bq_X2_tryPair E d x1 x2 x3 a0 b0) ?_
  have h1080_ := jxshl1_b x2
  have h1081_ := jxxor_b x1 (jxshl 1 x2)
  refine jt_grd (by omega) ?_
  have h1082_ := jxlcmp_b (b0 80 ((jxxor x1 (jxshl 1 x2)).toNat)) 4611686018427387904
  refine jt_ite (fun c1083_ => ?_) (fun c1083_ => ?_)
  ·
    exact jt_rV rfl
  ·
    refine jt_grd (by omega) ?_
    refine jt_grd (by omega) ?_
    exact cp_X2_tryPair_38 E d hd x1 x2 x3 a0 b0 hv0 hp0 hp1 hp2 hp3 x1 x2 x3 (jxxor x1 (jxshl 1 x2)) (jxwl ((b0 80 ((jxxor x1 (jxshl 1 x2)).toNat)) + (b0 82 (x2.toNat)))) b0 (show 0 ≤ x1 from by omega) (show x1 ≤ 255 from by omega) (show 0 ≤ x2 from by omega) (show x2 ≤ 7 from by omega) (show 0 ≤ jxxor x1 (jxshl 1 x2) from by omega) (show jxxor x1 (jxshl 1 x2) ≤ 255 from by omega)
abbrev jQ_X2_tryReceiver (x1 : Int) (a0 b0 : Nat → Nat → Int) : List jxV → (Nat → Nat → Int) → (Nat → Nat → Int) → Prop := rV (fun a b => (a0 = a))
theorem cp_X2_tryReceiver_9 (E : jxE) (d : Nat) (hd : Nat.ble 3 (d + 1) = true) (x1 : Int) (a0 b0 : Nat → Nat → Int) (hv0 : iv a0) : ∀ n : Nat, (∀ (y1 y2 y3 : Int) (b : Nat → Nat → Int), (((((y2 + 0) * 11) + 0) + ((8 - y3) * 1)) + 0).toNat ≤ n → 1 ≤ y2 → y2 ≤ 255 → 0 ≤ y3 → y3 ≤ 7 → jt (jxX E d 44 52 [some (.inr (.inr (.inl 79))), some (.inl y1), some (.inl y2), some (.inl y3)] [] (jxSH, a0, b)) (jQ_X2_tryReceiver x1 a0 b0)) ∧ (∀ (y1 y2 y3 : Int) (b : Nat → Nat → Int), (((((y2 + 0) * 11) + 0) + ((8 - y3) * 1)) + 0).toNat ≤ n → 1 ≤ y2 → y2 ≤ 255 → 0 ≤ y3 → y3 ≤ 7 → jt (jxX E d 44 45 [some (.inr (.inr (.inl 79))), some (.inl y1), some (.inl y2), some (.inl y3)] [] (jxSH, a0, b)) (jQ_X2_tryReceiver x1 a0 b0)) ∧ (∀ (y1 y2 y3 : Int) (b : Nat → Nat → Int), (((((y2 + 0) * 11) + 0) + ((8 - y3) * 1)) + 0).toNat ≤ n → 1 ≤ y2 → y2 ≤ 255 → 0 ≤ y3 → y3 ≤ 8 → jt (jxX E d 44 15 [some (.inr (.inr (.inl 79))), some (.inl y1), some (.inl y2), some (.inl y3)] [] (jxSH, a0, b)) (jQ_X2_tryReceiver x1 a0 b0)) ∧ (∀ (y1 y2 : Int) (b : Nat → Nat → Int), (((y2 + 0) * 11) + 10).toNat ≤ n → 0 ≤ y2 → y2 ≤ 255 → jt (jxX E d 44 9 [some (.inr (.inr (.inl 79))), some (.inl y1), some (.inl y2), none] [] (jxSH, a0, b)) (jQ_X2_tryReceiver x1 a0 b0)) := by
  refine jx_ind fun n ih => ?_
  have ih52 : ∀ (y1 y2 y3 : Int) (b : Nat → Nat → Int), (((((y2 + 0) * 11) + 0) + ((8 - y3) * 1)) + 0).toNat < n → 1 ≤ y2 → y2 ≤ 255 → 0 ≤ y3 → y3 ≤ 7 → jt (jxX E d 44 52 [some (.inr (.inr (.inl 79))), some (.inl y1), some (.inl y2), some (.inl y3)] [] (jxSH, a0, b)) (jQ_X2_tryReceiver x1 a0 b0) := fun y1 y2 y3 b hlt i0 i1 i2 i3 => (ih _ hlt).1 y1 y2 y3 b (Nat.le_refl _) i0 i1 i2 i3
  have ih45 : ∀ (y1 y2 y3 : Int) (b : Nat → Nat → Int), (((((y2 + 0) * 11) + 0) + ((8 - y3) * 1)) + 0).toNat < n → 1 ≤ y2 → y2 ≤ 255 → 0 ≤ y3 → y3 ≤ 7 → jt (jxX E d 44 45 [some (.inr (.inr (.inl 79))), some (.inl y1), some (.inl y2), some (.inl y3)] [] (jxSH, a0, b)) (jQ_X2_tryReceiver x1 a0 b0) := fun y1 y2 y3 b hlt i0 i1 i2 i3 => (ih _ hlt).2.1 y1 y2 y3 b (Nat.le_refl _) i0 i1 i2 i3
  have ih15 : ∀ (y1 y2 y3 : Int) (b : Nat → Nat → Int), (((((y2 + 0) * 11) + 0) + ((8 - y3) * 1)) + 0).toNat < n → 1 ≤ y2 → y2 ≤ 255 → 0 ≤ y3 → y3 ≤ 8 → jt (jxX E d 44 15 [some (.inr (.inr (.inl 79))), some (.inl y1), some (.inl y2), some (.inl y3)] [] (jxSH, a0, b)) (jQ_X2_tryReceiver x1 a0 b0) := fun y1 y2 y3 b hlt i0 i1 i2 i3 => (ih _ hlt).2.2.1 y1 y2 y3 b (Nat.le_refl _) i0 i1 i2 i3
  have ih9 : ∀ (y1 y2 : Int) (b : Nat → Nat → Int), (((y2 + 0) * 11) + 10).toNat < n → 0 ≤ y2 → y2 ≤ 255 → jt (jxX E d 44 9 [some (.inr (.inr (.inl 79))), some (.inl y1), some (.inl y2), none] [] (jxSH, a0, b)) (jQ_X2_tryReceiver x1 a0 b0) := fun y1 y2 b hlt i0 i1 => (ih _ hlt).2.2.2 y1 y2 b (Nat.le_refl _) i0 i1
  have hc52 : ∀ (y1 y2 y3 : Int) (b : Nat → Nat → Int), (((((y2 + 0) * 11) + 0) + ((8 - y3) * 1)) + 0).toNat ≤ n → 1 ≤ y2 → y2 ≤ 255 → 0 ≤ y3 → y3 ≤ 7 → jt (jxX E d 44 52 [some (.inr (.inr (.inl 79))), some (.inl y1), some (.inl y2), some (.inl y3)] [] (jxSH, a0, b)) (jQ_X2_tryReceiver x1 a0 b0) := by
    intro y1 y2 y3 b hm hi0 hi1 hi2 hi3
    refine jt_eq (bq_X2_tryReceiver_52 E d y1 y2 y3 a0 b) ?_
    have h1084_ : jxw (y3 + 1) = y3 + 1 := jxw_id (by omega) (by omega)
    exact ih15 y1 y2 (jxw (y3 + 1)) b (show (((((y2 + 0) * 11) + 0) + ((8 - (jxw (y3 + 1))) * 1)) + 0).toNat < n from by omega) (show 1 ≤ y2 from by omega) (show y2 ≤ 255 from by omega) (show 0 ≤ jxw (y3 + 1) from by omega) (show jxw (y3 + 1) ≤ 8 from by omega)
  have hc45 : ∀ (y1 y2 y3 : Int) (b : Nat → Nat → Int), (((((y2 + 0) * 11) + 0) + ((8 - y3) * 1)) + 0).toNat ≤ n → 1 ≤ y2 → y2 ≤ 255 → 0 ≤ y3 → y3 ≤ 7 → jt (jxX E d 44 45 [some (.inr (.inr (.inl 79))), some (.inl y1), some (.inl y2), some (.inl y3)] [] (jxSH, a0, b)) (jQ_X2_tryReceiver x1 a0 b0) := by
    intro y1 y2 y3 b hm hi0 hi1 hi2 hi3
    refine jt_eq (bq_X2_tryReceiver_45 E d y1 y2 y3 a0 b) ?_
    refine jt_bV (sp_X2_tryPair E d (jd_le hd rfl) y2 y3 y1 a0 b hv0 (show 0 ≤ y2 from by omega) (show y2 ≤ 255 from by omega) (show 0 ≤ y3 from by omega) (show y3 ≤ 7 from by omega)) (fun a1085_ b1085_ h1085_ => ?_)
    subst h1085_
    exact hc52 y1 y2 y3 b1085_ (show (((((y2 + 0) * 11) + 0) + ((8 - y3) * 1)) + 0).toNat ≤ n from by omega) (show 1 ≤ y2 from by omega) (show y2 ≤ 255 from by omega) (show 0 ≤ y3 from by omega) (show y3 ≤ 7 from by omega)
  have hc15 : ∀ (y1 y2 y3 : Int) (b : Nat → Nat → Int), (((((y2 + 0) * 11) + 0) + ((8 - y3) * 1)) + 0).toNat ≤ n → 1 ≤ y2 → y2 ≤ 255 → 0 ≤ y3 → y3 ≤ 8 → jt (jxX E d 44 15 [some (.inr (.inr (.inl 79))), some (.inl y1), some (.inl y2), some (.inl y3)] [] (jxSH, a0, b)) (jQ_X2_tryReceiver x1 a0 b0) := by
    intro y1 y2 y3 b hm hi0 hi1 hi2 hi3
    refine jt_eq (bq_X2_tryReceiver_15 E d y1 y2 y3 a0 b) ?_
    have h1086_ := iv_get hv0 (k := 79) (j := 3) (l := 0) (u := 8) rfl
    refine jt_ite (fun c1087_ => ?_) (fun c1087_ => ?_)
    ·
      have h1088_ := jxshr_b y2 y3
      have h1089_ := jxand_r (jxshr y2 y3) 1 (by decide) (by decide)
      refine jt_ite (fun c1090_ => ?_) (fun c1090_ => ?_)
      ·
        refine jt_grd (by omega) ?_
        have h1091_ := jxlcmp_b (b 82 (y3.toNat)) 4611686018427387904
        refine jt_ite (fun c1092_ => ?_) (fun c1092_ => ?_)
        ·
          exact hc52 y1 y2 y3 b (show (((((y2 + 0) * 11) + 0) + ((8 - y3) * 1)) + 0).toNat ≤ n from by omega) (show 1 ≤ y2 from by omega) (show y2 ≤ 255 from by omega) (show 0 ≤ y3 from by omega) (show y3 ≤ 7 from by omega)
        ·
          exact hc45 y1 y2 y3 b (show (((((y2 + 0) * 11) + 0) + ((8 - y3) * 1)) + 0).toNat ≤ n from by omega) (show 1 ≤ y2 from by omega) (show y2 ≤ 255 from by omega) (show 0 ≤ y3 from by omega) (show y3 ≤ 7 from by omega)
      ·
        exact hc52 y1 y2 y3 b (show (((((y2 + 0) * 11) + 0) + ((8 - y3) * 1)) + 0).toNat ≤ n from by omega) (show 1 ≤ y2 from by omega) (show y2 ≤ 255 from by omega) (show 0 ≤ y3 from by omega) (show y3 ≤ 7 from by omega)
    ·
      have h1093_ : jxw (y2 + (-1)) = y2 + (-1) := jxw_id (by omega) (by omega)
      exact ih9 y1 (jxw (y2 + (-1))) b (show ((((jxw (y2 + (-1))) + 0) * 11) + 10).toNat < n from by omega) (show 0 ≤ jxw (y2 + (-1)) from by omega) (show jxw (y2 + (-1)) ≤ 255 from by omega)
  have hc9 : ∀ (y1 y2 : Int) (b : Nat → Nat → Int), (((y2 + 0) * 11) + 10).toNat ≤ n → 0 ≤ y2 → y2 ≤ 255 → jt (jxX E d 44 9 [some (.inr (.inr (.inl 79))), some (.inl y1), some (.inl y2), none] [] (jxSH, a0, b)) (jQ_X2_tryReceiver x1 a0 b0) := by
    intro y1 y2 b hm hi0 hi1
    refine jt_eq (bq_X2_tryReceiver_9 E d y1 y2 a0 b) ?_
    refine jt_ite (fun c1094_ => ?_) (fun c1094_ => ?_)
    ·
      exact hc15 y1 y2 0 b (show (((((y2 + 0) * 11) + 0) + ((8 - 0) * 1)) + 0).toNat ≤ n from by omega) (show 1 ≤ y2 from by omega) (show y2 ≤ 255 from by omega) (show 0 ≤ 0 from by omega) (show 0 ≤ 8 from by omega)
    ·
      refine jt_bV (sp_X2_forbidAll E d (jd_le hd rfl) a0 b hv0) (fun a1095_ b1095_ h1095_ => ?_)
      subst h1095_
      exact jt_rV rfl
  exact ⟨hc52, hc45, hc15, hc9⟩
theorem sp_X2_tryReceiver (E : jxE) (d : Nat) (hd : Nat.ble 3 d = true) (x1 : Int) (a0 b0 : Nat → Nat → Int) (hv0 : iv a0) : jt (jxC E d 44 [.inr (.inr (.inl 79)), .inl x1] (jxSH, a0, b0)) (jQ_X2_tryReceiver x1 a0 b0) := by
  obtain ⟨d, rfl⟩ := jd_succ hd
  refine jt_eq (bq_X2_tryReceiver E d x1 a0 b0) ?_
  have h1096_ := iv_get hv0 (k := 79) (j := 3) (l := 0) (u := 8) rfl
  have h1097_ := jxshl1_b (a0 79 3)
  have h1098_ : jxw ((jxshl 1 (a0 79 3)) - 1) = (jxshl 1 (a0 79 3)) - 1 := jxw_id (by omega) (by omega)
  exact (cp_X2_tryReceiver_9 E d hd x1 a0 b0 hv0 _).2.2.2 x1 (jxw ((jxshl 1 (a0 79 3)) - 1)) b0 (Nat.le_refl _) (show 0 ≤ jxw ((jxshl 1 (a0 79 3)) - 1) from by omega) (show jxw ((jxshl 1 (a0 79 3)) - 1) ≤ 255 from by omega)
def jW_X11_give : List (Nat × Nat) := [(0, 9), (58, 8), (58, 13), (58, 14), (58, 15), (59, 9999), (60, 9999), (61, 9999), (62, 9999), (63, 9999), (64, 9999), (65, 9999), (70, 9999), (71, 9999), (72, 9999), (73, 9999), (74, 9999), (75, 9999), (77, 9999), (79, 3)]
abbrev jQ_X11_give (a0 b0 : Nat → Nat → Int) : List jxV → (Nat → Nat → Int) → (Nat → Nat → Int) → Prop := rI (fun r a b => (iv a) ∧ (jfr jW_X11_give a0 a) ∧ ((a0 0 9 = 0 → r = 0)))
theorem cp_X11_give_144 (E : jxE) (d : Nat) (hd : Nat.ble 8 (d + 1) = true) (a0 b0 : Nat → Nat → Int) (hv0 : iv a0) : ∀ n : Nat, (∀ (y1 y2 y3 : Int) (a b : Nat → Nat → Int), (((8 - y3) * 1) + 0).toNat ≤ n → iv a → jfr jW_X11_give a0 a → 1 ≤ y1 → y1 ≤ 8 → 0 ≤ y3 → y3 ≤ 7 → (a0 0 9 = 0 → y1 = 0) → (a0 0 9 = 0 → y2 = 0) → jt (jxX E d 168 179 [some (.inr (.inr (.inl 0))), some (.inl y1), some (.inl y2), some (.inl y3), none] [] (jxSH, a, b)) (jQ_X11_give a0 b0)) ∧ (∀ (y1 y2 y3 : Int) (a b : Nat → Nat → Int), (((8 - y3) * 1) + 0).toNat ≤ n → iv a → jfr jW_X11_give a0 a → 0 ≤ y1 → y1 ≤ 8 → 0 ≤ y3 → y3 ≤ 8 → (a0 0 9 = 0 → y1 = 0) → (a0 0 9 = 0 → y2 = 0) → jt (jxX E d 168 144 [some (.inr (.inr (.inl 0))), some (.inl y1), some (.inl y2), some (.inl y3), none] [] (jxSH, a, b)) (jQ_X11_give a0 b0)) := by
  refine jx_ind fun n ih => ?_
  have ih179 : ∀ (y1 y2 y3 : Int) (a b : Nat → Nat → Int), (((8 - y3) * 1) + 0).toNat < n → iv a → jfr jW_X11_give a0 a → 1 ≤ y1 → y1 ≤ 8 → 0 ≤ y3 → y3 ≤ 7 → (a0 0 9 = 0 → y1 = 0) → (a0 0 9 = 0 → y2 = 0) → jt (jxX E d 168 179 [some (.inr (.inr (.inl 0))), some (.inl y1), some (.inl y2), some (.inl y3), none] [] (jxSH, a, b)) (jQ_X11_give a0 b0) := fun y1 y2 y3 a b hlt i0 i1 i2 i3 i4 i5 i6 i7 => (ih _ hlt).1 y1 y2 y3 a b (Nat.le_refl _) i0 i1 i2 i3 i4 i5 i6 i7
  have ih144 : ∀ (y1 y2 y3 : Int) (a b : Nat → Nat → Int), (((8 - y3) * 1) + 0).toNat < n → iv a → jfr jW_X11_give a0 a → 0 ≤ y1 → y1 ≤ 8 → 0 ≤ y3 → y3 ≤ 8 → (a0 0 9 = 0 → y1 = 0) → (a0 0 9 = 0 → y2 = 0) → jt (jxX E d 168 144 [some (.inr (.inr (.inl 0))), some (.inl y1), some (.inl y2), some (.inl y3), none] [] (jxSH, a, b)) (jQ_X11_give a0 b0) := fun y1 y2 y3 a b hlt i0 i1 i2 i3 i4 i5 i6 i7 => (ih _ hlt).2 y1 y2 y3 a b (Nat.le_refl _) i0 i1 i2 i3 i4 i5 i6 i7
  have hc179 : ∀ (y1 y2 y3 : Int) (a b : Nat → Nat → Int), (((8 - y3) * 1) + 0).toNat ≤ n → iv a → jfr jW_X11_give a0 a → 1 ≤ y1 → y1 ≤ 8 → 0 ≤ y3 → y3 ≤ 7 → (a0 0 9 = 0 → y1 = 0) → (a0 0 9 = 0 → y2 = 0) → jt (jxX E d 168 179 [some (.inr (.inr (.inl 0))), some (.inl y1), some (.inl y2), some (.inl y3), none] [] (jxSH, a, b)) (jQ_X11_give a0 b0) := by
    intro y1 y2 y3 a b hm hv hf hi0 hi1 hi2 hi3 hi4 hi5
    refine jt_eq (bq_X11_give_179 E d y1 y2 y3 a b) ?_
    have h1099_ := iv_get hv0 (k := 0) (j := 9) (l := 0) (u := 8) rfl
    have h1100_ : jxw (y3 + 1) = y3 + 1 := jxw_id (by omega) (by omega)
    have h1101_ := jxw_im (y2 + 1)
    have h1102_ := jxw_rg (y2 + 1)
    exact ih144 y1 (jxw (y2 + 1)) (jxw (y3 + 1)) a b (show (((8 - (jxw (y3 + 1))) * 1) + 0).toNat < n from by omega) hv hf (show 0 ≤ y1 from by omega) (show y1 ≤ 8 from by omega) (show 0 ≤ jxw (y3 + 1) from by omega) (show jxw (y3 + 1) ≤ 8 from by omega) (show (a0 0 9 = 0 → y1 = 0) from by omega) (show (a0 0 9 = 0 → jxw (y2 + 1) = 0) from by omega)
  have hc144 : ∀ (y1 y2 y3 : Int) (a b : Nat → Nat → Int), (((8 - y3) * 1) + 0).toNat ≤ n → iv a → jfr jW_X11_give a0 a → 0 ≤ y1 → y1 ≤ 8 → 0 ≤ y3 → y3 ≤ 8 → (a0 0 9 = 0 → y1 = 0) → (a0 0 9 = 0 → y2 = 0) → jt (jxX E d 168 144 [some (.inr (.inr (.inl 0))), some (.inl y1), some (.inl y2), some (.inl y3), none] [] (jxSH, a, b)) (jQ_X11_give a0 b0) := by
    intro y1 y2 y3 a b hm hv hf hi0 hi1 hi2 hi3 hi4 hi5
    refine jt_eq (bq_X11_give_144 E d y1 y2 y3 a b) ?_
    have h1103_ := iv_get hv0 (k := 0) (j := 9) (l := 0) (u := 8) rfl
    refine jt_ite (fun c1104_ => ?_) (fun c1104_ => ?_)
    ·
      refine jt_eI (eq_X2_receiverOf E d (jd_le hd rfl) y3 a b) ?_
      refine jt_ite (fun c1105_ => ?_) (fun c1105_ => ?_)
      ·
        have h1106_ : jxw (y3 + 1) = y3 + 1 := jxw_id (by omega) (by omega)
        exact ih144 y1 y2 (jxw (y3 + 1)) a b (show (((8 - (jxw (y3 + 1))) * 1) + 0).toNat < n from by omega) hv hf (show 0 ≤ y1 from by omega) (show y1 ≤ 8 from by omega) (show 0 ≤ jxw (y3 + 1) from by omega) (show jxw (y3 + 1) ≤ 8 from by omega) (show (a0 0 9 = 0 → y1 = 0) from by omega) (show (a0 0 9 = 0 → y2 = 0) from by omega)
      ·
        refine jt_grd (by omega) ?_
        refine jt_bI (sp_X11_send E d (jd_le hd rfl) (a 77 (y3.toNat)) (f_X2_receiverOf a b y3) (-1) a b hv) (fun r1107_ a1107_ b1107_ h1107_ => ?_)
        obtain ⟨hv1107_, hf1107_, rfl⟩ := h1107_
        have hf1108_ : jfr jW_X11_give a0 a1107_ := jfr_tr hf hf1107_ rfl
        exact hc179 y1 y2 y3 a1107_ b (show (((8 - y3) * 1) + 0).toNat ≤ n from by omega) hv1107_ hf1108_ (show 1 ≤ y1 from by omega) (show y1 ≤ 8 from by omega) (show 0 ≤ y3 from by omega) (show y3 ≤ 7 from by omega) (show (a0 0 9 = 0 → y1 = 0) from by omega) (show (a0 0 9 = 0 → y2 = 0) from by omega)
    ·
      exact jt_rI ⟨hv, hf, (show (a0 0 9 = 0 → y2 = 0) from by omega)⟩
  exact ⟨hc179, hc144⟩
theorem cp_X11_give_51 (E : jxE) (d : Nat) (hd : Nat.ble 8 (d + 1) = true) (a0 b0 : Nat → Nat → Int) (hv0 : iv a0) : ∀ n : Nat, (∀ (y1 y2 y3 : Int) (a b : Nat → Nat → Int), (((((40 - y2) * 11) + 0) + ((8 - y3) * 1)) + 0).toNat ≤ n → iv a → jfr jW_X11_give a0 a → 1 ≤ y1 → y1 ≤ 8 → 0 ≤ y2 → y2 ≤ 39 → 0 ≤ y3 → y3 ≤ 7 → (a0 0 9 = 0 → y1 = 0) → jt (jxX E d 168 113 [some (.inr (.inr (.inl 0))), some (.inl y1), some (.inl y2), some (.inl y3), none] [] (jxSH, a, b)) (jQ_X11_give a0 b0)) ∧ (∀ (y1 y2 y3 : Int) (a b : Nat → Nat → Int), (((((40 - y2) * 11) + 0) + ((8 - y3) * 1)) + 0).toNat ≤ n → iv a → jfr jW_X11_give a0 a → 1 ≤ y1 → y1 ≤ 8 → 0 ≤ y2 → y2 ≤ 39 → 0 ≤ y3 → y3 ≤ 7 → (a0 0 9 = 0 → y1 = 0) → jt (jxX E d 168 89 [some (.inr (.inr (.inl 0))), some (.inl y1), some (.inl y2), some (.inl y3), none] [] (jxSH, a, b)) (jQ_X11_give a0 b0)) ∧ (∀ (y1 y2 y3 : Int) (a b : Nat → Nat → Int), (((((40 - y2) * 11) + 0) + ((8 - y3) * 1)) + 0).toNat ≤ n → iv a → jfr jW_X11_give a0 a → 0 ≤ y1 → y1 ≤ 8 → 0 ≤ y2 → y2 ≤ 39 → 0 ≤ y3 → y3 ≤ 8 → (a0 0 9 = 0 → y1 = 0) → jt (jxX E d 168 64 [some (.inr (.inr (.inl 0))), some (.inl y1), some (.inl y2), some (.inl y3), none] [] (jxSH, a, b)) (jQ_X11_give a0 b0)) ∧ (∀ (y1 y2 : Int) (a b : Nat → Nat → Int), (((40 - y2) * 11) + 10).toNat ≤ n → iv a → jfr jW_X11_give a0 a → 0 ≤ y1 → y1 ≤ 8 → 0 ≤ y2 → y2 ≤ 40 → (a0 0 9 = 0 → y1 = 0) → jt (jxX E d 168 51 [some (.inr (.inr (.inl 0))), some (.inl y1), some (.inl y2), none, none] [] (jxSH, a, b)) (jQ_X11_give a0 b0)) := by
  refine jx_ind fun n ih => ?_
  have ih113 : ∀ (y1 y2 y3 : Int) (a b : Nat → Nat → Int), (((((40 - y2) * 11) + 0) + ((8 - y3) * 1)) + 0).toNat < n → iv a → jfr jW_X11_give a0 a → 1 ≤ y1 → y1 ≤ 8 → 0 ≤ y2 → y2 ≤ 39 → 0 ≤ y3 → y3 ≤ 7 → (a0 0 9 = 0 → y1 = 0) → jt (jxX E d 168 113 [some (.inr (.inr (.inl 0))), some (.inl y1), some (.inl y2), some (.inl y3), none] [] (jxSH, a, b)) (jQ_X11_give a0 b0) := fun y1 y2 y3 a b hlt i0 i1 i2 i3 i4 i5 i6 i7 i8 => (ih _ hlt).1 y1 y2 y3 a b (Nat.le_refl _) i0 i1 i2 i3 i4 i5 i6 i7 i8
  have ih89 : ∀ (y1 y2 y3 : Int) (a b : Nat → Nat → Int), (((((40 - y2) * 11) + 0) + ((8 - y3) * 1)) + 0).toNat < n → iv a → jfr jW_X11_give a0 a → 1 ≤ y1 → y1 ≤ 8 → 0 ≤ y2 → y2 ≤ 39 → 0 ≤ y3 → y3 ≤ 7 → (a0 0 9 = 0 → y1 = 0) → jt (jxX E d 168 89 [some (.inr (.inr (.inl 0))), some (.inl y1), some (.inl y2), some (.inl y3), none] [] (jxSH, a, b)) (jQ_X11_give a0 b0) := fun y1 y2 y3 a b hlt i0 i1 i2 i3 i4 i5 i6 i7 i8 => (ih _ hlt).2.1 y1 y2 y3 a b (Nat.le_refl _) i0 i1 i2 i3 i4 i5 i6 i7 i8
  have ih64 : ∀ (y1 y2 y3 : Int) (a b : Nat → Nat → Int), (((((40 - y2) * 11) + 0) + ((8 - y3) * 1)) + 0).toNat < n → iv a → jfr jW_X11_give a0 a → 0 ≤ y1 → y1 ≤ 8 → 0 ≤ y2 → y2 ≤ 39 → 0 ≤ y3 → y3 ≤ 8 → (a0 0 9 = 0 → y1 = 0) → jt (jxX E d 168 64 [some (.inr (.inr (.inl 0))), some (.inl y1), some (.inl y2), some (.inl y3), none] [] (jxSH, a, b)) (jQ_X11_give a0 b0) := fun y1 y2 y3 a b hlt i0 i1 i2 i3 i4 i5 i6 i7 i8 => (ih _ hlt).2.2.1 y1 y2 y3 a b (Nat.le_refl _) i0 i1 i2 i3 i4 i5 i6 i7 i8
  have ih51 : ∀ (y1 y2 : Int) (a b : Nat → Nat → Int), (((40 - y2) * 11) + 10).toNat < n → iv a → jfr jW_X11_give a0 a → 0 ≤ y1 → y1 ≤ 8 → 0 ≤ y2 → y2 ≤ 40 → (a0 0 9 = 0 → y1 = 0) → jt (jxX E d 168 51 [some (.inr (.inr (.inl 0))), some (.inl y1), some (.inl y2), none, none] [] (jxSH, a, b)) (jQ_X11_give a0 b0) := fun y1 y2 a b hlt i0 i1 i2 i3 i4 i5 i6 => (ih _ hlt).2.2.2 y1 y2 a b (Nat.le_refl _) i0 i1 i2 i3 i4 i5 i6
  have hc113 : ∀ (y1 y2 y3 : Int) (a b : Nat → Nat → Int), (((((40 - y2) * 11) + 0) + ((8 - y3) * 1)) + 0).toNat ≤ n → iv a → jfr jW_X11_give a0 a → 1 ≤ y1 → y1 ≤ 8 → 0 ≤ y2 → y2 ≤ 39 → 0 ≤ y3 → y3 ≤ 7 → (a0 0 9 = 0 → y1 = 0) → jt (jxX E d 168 113 [some (.inr (.inr (.inl 0))), some (.inl y1), some (.inl y2), some (.inl y3), none] [] (jxSH, a, b)) (jQ_X11_give a0 b0) := by
    intro y1 y2 y3 a b hm hv hf hi0 hi1 hi2 hi3 hi4 hi5 hi6
    refine jt_eq (bq_X11_give_113 E d y1 y2 y3 a b) ?_
    have h1109_ := iv_get hv0 (k := 0) (j := 9) (l := 0) (u := 8) rfl
    have h1110_ : jxw (y3 + 1) = y3 + 1 := jxw_id (by omega) (by omega)
    exact ih64 y1 y2 (jxw (y3 + 1)) a b (show (((((40 - y2) * 11) + 0) + ((8 - (jxw (y3 + 1))) * 1)) + 0).toNat < n from by omega) hv hf (show 0 ≤ y1 from by omega) (show y1 ≤ 8 from by omega) (show 0 ≤ y2 from by omega) (show y2 ≤ 39 from by omega) (show 0 ≤ jxw (y3 + 1) from by omega) (show jxw (y3 + 1) ≤ 8 from by omega) (show (a0 0 9 = 0 → y1 = 0) from by omega)
  have hc89 : ∀ (y1 y2 y3 : Int) (a b : Nat → Nat → Int), (((((40 - y2) * 11) + 0) + ((8 - y3) * 1)) + 0).toNat ≤ n → iv a → jfr jW_X11_give a0 a → 1 ≤ y1 → y1 ≤ 8 → 0 ≤ y2 → y2 ≤ 39 → 0 ≤ y3 → y3 ≤ 7 → (a0 0 9 = 0 → y1 = 0) → jt (jxX E d 168 89 [some (.inr (.inr (.inl 0))), some (.inl y1), some (.inl y2), some (.inl y3), none] [] (jxSH, a, b)) (jQ_X11_give a0 b0) := by
    intro y1 y2 y3 a b hm hv hf hi0 hi1 hi2 hi3 hi4 hi5 hi6
    refine jt_eq (bq_X11_give_89 E d y1 y2 y3 a b) ?_
    have h1111_ := iv_get hv0 (k := 0) (j := 9) (l := 0) (u := 8) rfl
    refine jt_grd (by omega) ?_
    refine jt_bI (sp_X11_unhappy E d (jd_le hd rfl) (a 77 (y3.toNat)) y2 a b hv) (fun r1112_ a1112_ b1112_ h1112_ => ?_)
    obtain ⟨rfl, rfl⟩ := h1112_
    refine jt_eI (eq_X11_owed E d (jd_le hd rfl) y2 a b) ?_
    refine jt_bV (sp_X2_allow E d (jd_le hd rfl) y3 r1112_ (f_X11_owed a b y2) a b hv) (fun a1113_ b1113_ h1113_ => ?_)
    subst h1113_
    exact hc113 y1 y2 y3 a b1113_ (show (((((40 - y2) * 11) + 0) + ((8 - y3) * 1)) + 0).toNat ≤ n from by omega) hv hf (show 1 ≤ y1 from by omega) (show y1 ≤ 8 from by omega) (show 0 ≤ y2 from by omega) (show y2 ≤ 39 from by omega) (show 0 ≤ y3 from by omega) (show y3 ≤ 7 from by omega) (show (a0 0 9 = 0 → y1 = 0) from by omega)
  have hc64 : ∀ (y1 y2 y3 : Int) (a b : Nat → Nat → Int), (((((40 - y2) * 11) + 0) + ((8 - y3) * 1)) + 0).toNat ≤ n → iv a → jfr jW_X11_give a0 a → 0 ≤ y1 → y1 ≤ 8 → 0 ≤ y2 → y2 ≤ 39 → 0 ≤ y3 → y3 ≤ 8 → (a0 0 9 = 0 → y1 = 0) → jt (jxX E d 168 64 [some (.inr (.inr (.inl 0))), some (.inl y1), some (.inl y2), some (.inl y3), none] [] (jxSH, a, b)) (jQ_X11_give a0 b0) := by
    intro y1 y2 y3 a b hm hv hf hi0 hi1 hi2 hi3 hi4 hi5 hi6
    refine jt_eq (bq_X11_give_64 E d y1 y2 y3 a b) ?_
    have h1114_ := iv_get hv0 (k := 0) (j := 9) (l := 0) (u := 8) rfl
    refine jt_ite (fun c1115_ => ?_) (fun c1115_ => ?_)
    ·
      refine jt_grd (by omega) ?_
      refine jt_grd (by omega) ?_
      refine jt_bI (sp_X11_mayGet E d (jd_le hd rfl) (a 77 (y3.toNat)) y2 (b 78 (y3.toNat)) a b hv) (fun r1116_ a1116_ b1116_ h1116_ => ?_)
      obtain ⟨rfl, rfl, hq1116_0⟩ := h1116_
      refine jt_ite (fun c1117_ => ?_) (fun c1117_ => ?_)
      ·
        exact hc113 y1 y2 y3 a b (show (((((40 - y2) * 11) + 0) + ((8 - y3) * 1)) + 0).toNat ≤ n from by omega) hv hf (show 1 ≤ y1 from by omega) (show y1 ≤ 8 from by omega) (show 0 ≤ y2 from by omega) (show y2 ≤ 39 from by omega) (show 0 ≤ y3 from by omega) (show y3 ≤ 7 from by omega) (show (a0 0 9 = 0 → y1 = 0) from by omega)
      ·
        exact hc89 y1 y2 y3 a b (show (((((40 - y2) * 11) + 0) + ((8 - y3) * 1)) + 0).toNat ≤ n from by omega) hv hf (show 1 ≤ y1 from by omega) (show y1 ≤ 8 from by omega) (show 0 ≤ y2 from by omega) (show y2 ≤ 39 from by omega) (show 0 ≤ y3 from by omega) (show y3 ≤ 7 from by omega) (show (a0 0 9 = 0 → y1 = 0) from by omega)
    ·
      refine jt_bV (sp_X2_tryReceiver E d (jd_le hd rfl) y2 a b hv) (fun a1118_ b1118_ h1118_ => ?_)
      subst h1118_
      have h1119_ : jxw (y2 + 1) = y2 + 1 := jxw_id (by omega) (by omega)
      exact ih51 y1 (jxw (y2 + 1)) a b1118_ (show (((40 - (jxw (y2 + 1))) * 11) + 10).toNat < n from by omega) hv hf (show 0 ≤ y1 from by omega) (show y1 ≤ 8 from by omega) (show 0 ≤ jxw (y2 + 1) from by omega) (show jxw (y2 + 1) ≤ 40 from by omega) (show (a0 0 9 = 0 → y1 = 0) from by omega)
  have hc51 : ∀ (y1 y2 : Int) (a b : Nat → Nat → Int), (((40 - y2) * 11) + 10).toNat ≤ n → iv a → jfr jW_X11_give a0 a → 0 ≤ y1 → y1 ≤ 8 → 0 ≤ y2 → y2 ≤ 40 → (a0 0 9 = 0 → y1 = 0) → jt (jxX E d 168 51 [some (.inr (.inr (.inl 0))), some (.inl y1), some (.inl y2), none, none] [] (jxSH, a, b)) (jQ_X11_give a0 b0) := by
    intro y1 y2 a b hm hv hf hi0 hi1 hi2 hi3 hi4
    refine jt_eq (bq_X11_give_51 E d y1 y2 a b) ?_
    have h1120_ := iv_get hv0 (k := 0) (j := 9) (l := 0) (u := 8) rfl
    refine jt_eI (eq_X3_size E d (jd_le hd rfl) a b) ?_
    have h1121_ := f_X3_size_eq a b
    have h1122_ := iv_get hv (k := 4) (j := 6) (l := 0) (u := 40) rfl
    have h1123_ : a 4 6 = a0 4 6 := hf 4 6 rfl
    have h1124_ := iv_get hv0 (k := 4) (j := 6) (l := 0) (u := 40) rfl
    refine jt_ite (fun c1125_ => ?_) (fun c1125_ => ?_)
    ·
      exact hc64 y1 y2 0 a b (show (((((40 - y2) * 11) + 0) + ((8 - 0) * 1)) + 0).toNat ≤ n from by omega) hv hf (show 0 ≤ y1 from by omega) (show y1 ≤ 8 from by omega) (show 0 ≤ y2 from by omega) (show y2 ≤ 39 from by omega) (show 0 ≤ 0 from by omega) (show 0 ≤ 8 from by omega) (show (a0 0 9 = 0 → y1 = 0) from by omega)
    ·
      refine jt_bV (sp_X2_finish E d (jd_le hd rfl) a b hv) (fun a1126_ b1126_ h1126_ => ?_)
      subst h1126_
      exact (cp_X11_give_144 E d hd a0 b0 hv0 _).2 y1 0 0 a b1126_ (Nat.le_refl _) hv hf (show 0 ≤ y1 from by omega) (show y1 ≤ 8 from by omega) (show 0 ≤ 0 from by omega) (show 0 ≤ 8 from by omega) (show (a0 0 9 = 0 → y1 = 0) from by omega) (show (a0 0 9 = 0 → 0 = 0) from by omega)
  exact ⟨hc113, hc89, hc64, hc51⟩
theorem cp_X11_give_36 (E : jxE) (d : Nat) (hd : Nat.ble 8 (d + 1) = true) (a0 b0 : Nat → Nat → Int) (hv0 : iv a0) : ∀ (y1 : Int) (a b : Nat → Nat → Int), iv a → jfr jW_X11_give a0 a → 0 ≤ y1 → y1 ≤ 8 → (a0 0 9 = 0 → y1 = 0) → jt (jxX E d 168 36 [some (.inr (.inr (.inl 0))), some (.inl y1), none, none, none] [] (jxSH, a, b)) (jQ_X11_give a0 b0) := by
  intro y1 a b hv hf hi0 hi1 hi2
  refine jt_eq (bq_X11_give_36 E d y1 a b) ?_
  have h1127_ := iv_get hv0 (k := 0) (j := 9) (l := 0) (u := 8) rfl
  have hv1128_ : iv (jxu a 0 9 0) := iv_put hv (l := 0) (u := 8) rfl (by omega) (by omega)
  refine jt_bV (sp_X2_begin E d (jd_le hd rfl) y1 (jxu a 0 9 0) b hv1128_) (fun a1129_ b1129_ h1129_ => ?_)
  obtain ⟨hv1129_, hf1129_⟩ := h1129_
  have hf1130_ : jfr jW_X11_give a0 (jxu a 0 9 0) := jfr_put hf rfl
  have hf1131_ : jfr jW_X11_give a0 a1129_ := jfr_tr hf1130_ hf1129_ rfl
  exact (cp_X11_give_51 E d hd a0 b0 hv0 _).2.2.2 y1 0 a1129_ b1129_ (Nat.le_refl _) hv1129_ hf1131_ (show 0 ≤ y1 from by omega) (show y1 ≤ 8 from by omega) (show 0 ≤ 0 from by omega) (show 0 ≤ 40 from by omega) (show (a0 0 9 = 0 → y1 = 0) from by omega)
theorem sp_X11_give (E : jxE) (d : Nat) (hd : Nat.ble 8 d = true) (a0 b0 : Nat → Nat → Int) (hv0 : iv a0) : jt (jxC E d 168 [.inr (.inr (.inl 0))] (jxSH, a0, b0)) (jQ_X11_give a0 b0) := by
  obtain ⟨d, rfl⟩ := jd_succ hd
  refine jt_eq (bq_X11_give E d a0 b0) ?_
  refine jt_eI (eq_X0_hasRoom E d (jd_le hd rfl) (a0 0 9) a0 b0) ?_
  have h1132_ := iv_get hv0 (k := 0) (j := 9) (l := 0) (u := 8) rfl
  have h1133_ := f_X0_hasRoom_eq a0 b0 (a0 0 9)
  have h1134_ := iv_get hv0 (k := 58) (j := 8) (l := 0) (u := 300) rfl
  have h1135_ : jxw (300 - (a0 58 8)) = 300 - (a0 58 8) := jxw_id (by omega) (by omega)
  refine jt_ite (fun c1136_ => ?_) (fun c1136_ => ?_)
  ·
    exact jt_rI ⟨hv0, (jfr_rf _ _), (show (a0 0 9 = 0 → (-1) = 0) from by omega)⟩
  ·
    refine jt_bV (sp_X7_take_r58 E d (jd_le hd rfl) (a0 0 0) a0 b0 hv0) (fun a1137_ b1137_ h1137_ => ?_)
    obtain ⟨hv1137_, hf1137_, rfl⟩ := h1137_
    refine jt_bI (sp_X11_gatherAskers E d (jd_le hd rfl) a1137_ b0 hv1137_) (fun r1138_ a1138_ b1138_ h1138_ => ?_)
    obtain ⟨hv1138_, hf1138_, hq1138_0, hq1138_1, hq1138_2⟩ := h1138_
    have h1139_ := iv_get hv1137_ (k := 0) (j := 9) (l := 0) (u := 8) rfl
    have h1140_ : a1137_ 0 9 = a0 0 9 := hf1137_ 0 9 rfl
    have hf1141_ : jfr jW_X11_give a0 a1137_ := jfr_tr (jfr_rf _ _) hf1137_ rfl
    have hf1142_ : jfr jW_X11_give a0 a1138_ := jfr_tr hf1141_ hf1138_ rfl
    exact cp_X11_give_36 E d hd a0 b0 hv0 r1138_ a1138_ b1138_ hv1138_ hf1142_ (show 0 ≤ r1138_ from by omega) (show r1138_ ≤ 8 from by omega) (show (a0 0 9 = 0 → r1138_ = 0) from by omega)
def jW_X3_goAway : List (Nat × Nat) := [(10, 9999)]
abbrev jQ_X3_goAway (x1 : Int) (a0 b0 : Nat → Nat → Int) : List jxV → (Nat → Nat → Int) → (Nat → Nat → Int) → Prop := rV (fun a b => (iv a) ∧ (jfr jW_X3_goAway a0 a) ∧ (b0 = b) ∧ (0 ≤ x1 ∧ x1 < a0 4 6 ∧ x1 < 40 → UP (a0 10) (a 10) x1.toNat 0))
theorem sp_X3_goAway (E : jxE) (d : Nat) (hd : Nat.ble 2 d = true) (x1 : Int) (a0 b0 : Nat → Nat → Int) (hv0 : iv a0) : jt (jxC E d 55 [.inr (.inr (.inl 4)), .inl x1] (jxSH, a0, b0)) (jQ_X3_goAway x1 a0 b0) := by
  obtain ⟨d, rfl⟩ := jd_succ hd
  refine jt_eq (bq_X3_goAway E d x1 a0 b0) ?_
  refine jt_eI (eq_X3_has E d (jd_le hd rfl) x1 a0 b0) ?_
  have h1143_ := f_X3_has_eq a0 b0 x1
  have h1144_ := iv_get hv0 (k := 4) (j := 6) (l := 0) (u := 40) rfl
  refine jt_ite (fun c1145_ => ?_) (fun c1145_ => ?_)
  ·
    exact jt_rV ⟨hv0, (jfr_rf _ _), rfl, (by first | (intro h; exact absurd h (by omega)) | (intro _; exact UP_put (fun _ => rfl)))⟩
  ·
    refine jt_grd (by omega) ?_
    have hv1146_ : iv (jxu a0 10 (x1.toNat) 0) := iv_putf hv0 rfl
    have hf1147_ : jfr jW_X3_goAway a0 (jxu a0 10 (x1.toNat) 0) := jfr_put (jfr_rf _ _) rfl
    exact jt_rV ⟨hv1146_, hf1147_, rfl, (by first | (intro h; exact absurd h (by omega)) | (intro _; exact UP_put (fun _ => rfl)))⟩
def jW_X11_leave : List (Nat × Nat) := [(9, 9999), (10, 9999), (64, 9999), (87, 9999), (88, 9999), (89, 9999)]
abbrev jQ_X11_leave (x1 : Int) (a0 b0 : Nat → Nat → Int) : List jxV → (Nat → Nat → Int) → (Nat → Nat → Int) → Prop := rI (fun r a b => (iv a) ∧ (jfr jW_X11_leave a0 a) ∧ (b0 = b) ∧ ((a0 4 6 = 0 → r = 0 - 1)) ∧ (0 ≤ x1 ∧ x1 < a0 4 6 ∧ ¬ a0 10 x1.toNat = 0 → UP (a0 10) (a 10) x1.toNat 0) ∧ (x1 < 0 ∨ a0 4 6 ≤ x1 ∨ a0 10 x1.toNat = 0 → ∀ j, a 10 j = a0 10 j))
theorem cp_X11_leave_29 (E : jxE) (d : Nat) (hd : Nat.ble 5 (d + 1) = true) (x1 : Int) (a0 b0 : Nat → Nat → Int) (hv0 : iv a0) : ∀ n : Nat, (∀ (y1 y2 y3 : Int) (a : Nat → Nat → Int), (((20 - y3) * 1) + 0).toNat ≤ n → iv a → jfr jW_X11_leave a0 a → 0 ≤ y1 → y1 ≤ 39 → 0 ≤ y3 → y3 ≤ 19 → (UP (a0 10) (a 10) x1.toNat 0) → 1 ≤ a0 4 6 → ((0 ≤ x1 ∧ x1 < a0 4 6) ∧ ¬ a0 10 (x1.toNat) = 0) → jt (jxX E d 157 60 [some (.inr (.inr (.inl 0))), some (.inl y1), some (.inl y2), some (.inl y3)] [] (jxSH, a, b0)) (jQ_X11_leave x1 a0 b0)) ∧ (∀ (y1 y2 y3 : Int) (a : Nat → Nat → Int), (((20 - y3) * 1) + 0).toNat ≤ n → iv a → jfr jW_X11_leave a0 a → 0 ≤ y1 → y1 ≤ 39 → 0 ≤ y3 → y3 ≤ 20 → (UP (a0 10) (a 10) x1.toNat 0) → 1 ≤ a0 4 6 → ((0 ≤ x1 ∧ x1 < a0 4 6) ∧ ¬ a0 10 (x1.toNat) = 0) → jt (jxX E d 157 29 [some (.inr (.inr (.inl 0))), some (.inl y1), some (.inl y2), some (.inl y3)] [] (jxSH, a, b0)) (jQ_X11_leave x1 a0 b0)) := by
  refine jx_ind fun n ih => ?_
  have ih60 : ∀ (y1 y2 y3 : Int) (a : Nat → Nat → Int), (((20 - y3) * 1) + 0).toNat < n → iv a → jfr jW_X11_leave a0 a → 0 ≤ y1 → y1 ≤ 39 → 0 ≤ y3 → y3 ≤ 19 → (UP (a0 10) (a 10) x1.toNat 0) → 1 ≤ a0 4 6 → ((0 ≤ x1 ∧ x1 < a0 4 6) ∧ ¬ a0 10 (x1.toNat) = 0) → jt (jxX E d 157 60 [some (.inr (.inr (.inl 0))), some (.inl y1), some (.inl y2), some (.inl y3)] [] (jxSH, a, b0)) (jQ_X11_leave x1 a0 b0) := fun y1 y2 y3 a hlt i0 i1 i2 i3 i4 i5 i6 i7 i8 => (ih _ hlt).1 y1 y2 y3 a (Nat.le_refl _) i0 i1 i2 i3 i4 i5 i6 i7 i8
  have ih29 : ∀ (y1 y2 y3 : Int) (a : Nat → Nat → Int), (((20 - y3) * 1) + 0).toNat < n → iv a → jfr jW_X11_leave a0 a → 0 ≤ y1 → y1 ≤ 39 → 0 ≤ y3 → y3 ≤ 20 → (UP (a0 10) (a 10) x1.toNat 0) → 1 ≤ a0 4 6 → ((0 ≤ x1 ∧ x1 < a0 4 6) ∧ ¬ a0 10 (x1.toNat) = 0) → jt (jxX E d 157 29 [some (.inr (.inr (.inl 0))), some (.inl y1), some (.inl y2), some (.inl y3)] [] (jxSH, a, b0)) (jQ_X11_leave x1 a0 b0) := fun y1 y2 y3 a hlt i0 i1 i2 i3 i4 i5 i6 i7 i8 => (ih _ hlt).2 y1 y2 y3 a (Nat.le_refl _) i0 i1 i2 i3 i4 i5 i6 i7 i8
  have hc60 : ∀ (y1 y2 y3 : Int) (a : Nat → Nat → Int), (((20 - y3) * 1) + 0).toNat ≤ n → iv a → jfr jW_X11_leave a0 a → 0 ≤ y1 → y1 ≤ 39 → 0 ≤ y3 → y3 ≤ 19 → (UP (a0 10) (a 10) x1.toNat 0) → 1 ≤ a0 4 6 → ((0 ≤ x1 ∧ x1 < a0 4 6) ∧ ¬ a0 10 (x1.toNat) = 0) → jt (jxX E d 157 60 [some (.inr (.inr (.inl 0))), some (.inl y1), some (.inl y2), some (.inl y3)] [] (jxSH, a, b0)) (jQ_X11_leave x1 a0 b0) := by
    intro y1 y2 y3 a hm hv hf hi0 hi1 hi2 hi3 hu10 hi5 hi6
    refine jt_eq (bq_X11_leave_60 E d y1 y2 y3 a b0) ?_
    have h1148_ := iv_get hv0 (k := 4) (j := 6) (l := 0) (u := 40) rfl
    have h1149_ : jxw (y3 + 1) = y3 + 1 := jxw_id (by omega) (by omega)
    exact ih29 y1 y2 (jxw (y3 + 1)) a (show (((20 - (jxw (y3 + 1))) * 1) + 0).toNat < n from by omega) hv hf (show 0 ≤ y1 from by omega) (show y1 ≤ 39 from by omega) (show 0 ≤ jxw (y3 + 1) from by omega) (show jxw (y3 + 1) ≤ 20 from by omega) (UP_cr hu10 (fun j => rfl)) (show 1 ≤ a0 4 6 from by omega) (show ((0 ≤ x1 ∧ x1 < a0 4 6) ∧ ¬ a0 10 (x1.toNat) = 0) from by omega)
  have hc29 : ∀ (y1 y2 y3 : Int) (a : Nat → Nat → Int), (((20 - y3) * 1) + 0).toNat ≤ n → iv a → jfr jW_X11_leave a0 a → 0 ≤ y1 → y1 ≤ 39 → 0 ≤ y3 → y3 ≤ 20 → (UP (a0 10) (a 10) x1.toNat 0) → 1 ≤ a0 4 6 → ((0 ≤ x1 ∧ x1 < a0 4 6) ∧ ¬ a0 10 (x1.toNat) = 0) → jt (jxX E d 157 29 [some (.inr (.inr (.inl 0))), some (.inl y1), some (.inl y2), some (.inl y3)] [] (jxSH, a, b0)) (jQ_X11_leave x1 a0 b0) := by
    intro y1 y2 y3 a hm hv hf hi0 hi1 hi2 hi3 hu10 hi5 hi6
    refine jt_eq (bq_X11_leave_29 E d y1 y2 y3 a b0) ?_
    have h1150_ := iv_get hv0 (k := 4) (j := 6) (l := 0) (u := 40) rfl
    refine jt_eI (eq_X4_size E d (jd_le hd rfl) a b0) ?_
    have h1151_ := f_X4_size_eq a b0
    have h1152_ := iv_get hv (k := 83) (j := 6) (l := 0) (u := 20) rfl
    have h1153_ : a 83 6 = a0 83 6 := hf 83 6 rfl
    have h1154_ := iv_get hv0 (k := 83) (j := 6) (l := 0) (u := 20) rfl
    refine jt_ite (fun c1155_ => ?_) (fun c1155_ => ?_)
    ·
      refine jt_eI (eq_X4_memberOf E d (jd_le hd rfl) y3 a b0) ?_
      have h1156_ := f_X4_memberOf_eq a b0 y3
      have h1157_ := f_X11_entry_r84_eq a b0 (a 83 6) y3
      have h1158_ : a 84 (y3.toNat) = a0 84 (y3.toNat) := hf 84 (y3.toNat) rfl
      refine jt_ite (fun c1159_ => ?_) (fun c1159_ => ?_)
      ·
        refine jt_bI (sp_X11_withdraw E d (jd_le hd rfl) y3 a b0 hv) (fun r1160_ a1160_ b1160_ h1160_ => ?_)
        obtain ⟨hv1160_, hf1160_, rfl⟩ := h1160_
        have hf1161_ : jfr jW_X11_leave a0 a1160_ := jfr_tr hf hf1160_ rfl
        exact hc60 y1 (jxw (y2 + r1160_)) y3 a1160_ (show (((20 - y3) * 1) + 0).toNat ≤ n from by omega) hv1160_ hf1161_ (show 0 ≤ y1 from by omega) (show y1 ≤ 39 from by omega) (show 0 ≤ y3 from by omega) (show y3 ≤ 19 from by omega) (UP_cr hu10 (fun j => (hf1160_ 10 j rfl))) (show 1 ≤ a0 4 6 from by omega) (show ((0 ≤ x1 ∧ x1 < a0 4 6) ∧ ¬ a0 10 (x1.toNat) = 0) from by omega)
      ·
        exact hc60 y1 y2 y3 a (show (((20 - y3) * 1) + 0).toNat ≤ n from by omega) hv hf (show 0 ≤ y1 from by omega) (show y1 ≤ 39 from by omega) (show 0 ≤ y3 from by omega) (show y3 ≤ 19 from by omega) (UP_cr hu10 (fun j => rfl)) (show 1 ≤ a0 4 6 from by omega) (show ((0 ≤ x1 ∧ x1 < a0 4 6) ∧ ¬ a0 10 (x1.toNat) = 0) from by omega)
    ·
      exact jt_rI ⟨hv, hf, rfl, (show (a0 4 6 = 0 → y2 = 0 - 1) from by omega), (fun _ => (UP_cr hu10 (fun j => rfl))), (fun h => absurd h (by omega))⟩
  exact ⟨hc60, hc29⟩
theorem sp_X11_leave (E : jxE) (d : Nat) (hd : Nat.ble 5 d = true) (x1 : Int) (a0 b0 : Nat → Nat → Int) (hv0 : iv a0) : jt (jxC E d 157 [.inr (.inr (.inl 0)), .inl x1] (jxSH, a0, b0)) (jQ_X11_leave x1 a0 b0) := by
  obtain ⟨d, rfl⟩ := jd_succ hd
  refine jt_eq (bq_X11_leave E d x1 a0 b0) ?_
  refine jt_eI (eq_X3_isThere E d (jd_le hd rfl) x1 a0 b0) ?_
  have h1162_ := f_X3_isThere_eq a0 b0 x1
  have h1163_ := f_X3_has_eq a0 b0 x1
  have h1164_ := iv_get hv0 (k := 4) (j := 6) (l := 0) (u := 40) rfl
  refine jt_ite (fun c1165_ => ?_) (fun c1165_ => ?_)
  ·
    exact jt_rI ⟨hv0, (jfr_rf _ _), rfl, (show (a0 4 6 = 0 → (-1) = 0 - 1) from by omega), (fun h => absurd h (by omega)), (fun _ j => rfl)⟩
  ·
    refine jt_bV (sp_X3_goAway E d (jd_le hd rfl) x1 a0 b0 hv0) (fun a1166_ b1166_ h1166_ => ?_)
    obtain ⟨hv1166_, hf1166_, rfl, hq1166_0⟩ := h1166_
    refine jt_bI (sp_X11_cancelCardsTo E d (jd_le hd rfl) x1 a1166_ b0 hv1166_) (fun r1167_ a1167_ b1167_ h1167_ => ?_)
    obtain ⟨hv1167_, hf1167_, rfl⟩ := h1167_
    have hf1168_ : jfr jW_X11_leave a0 a1166_ := jfr_tr (jfr_rf _ _) hf1166_ rfl
    have hf1169_ : jfr jW_X11_leave a0 a1167_ := jfr_tr hf1168_ hf1167_ rfl
    exact (cp_X11_leave_29 E d hd x1 a0 b0 hv0 _).2 x1 r1167_ 0 a1167_ (Nat.le_refl _) hv1167_ hf1169_ (show 0 ≤ x1 from by omega) (show x1 ≤ 39 from by omega) (show 0 ≤ 0 from by omega) (show 0 ≤ 20 from by omega) (UP_cr (hq1166_0 (by omega)) (fun j => (hf1167_ 10 j rfl))) (show 1 ≤ a0 4 6 from by omega) (show ((0 ≤ x1 ∧ x1 < a0 4 6) ∧ ¬ a0 10 (x1.toNat) = 0) from by omega)
def jW_X11_list : List (Nat × Nat) := [(0, 9), (76, 9999)]
abbrev jQ_X11_list (x1 : Int) (a0 b0 : Nat → Nat → Int) : List jxV → (Nat → Nat → Int) → (Nat → Nat → Int) → Prop := rI (fun r a b => (iv a) ∧ (jfr jW_X11_list a0 a) ∧ (b0 = b) ∧ ((a0 4 6 = 0 → r = 0 - 1)))
theorem cp_X11_list_67 (E : jxE) (d : Nat) (hd : Nat.ble 2 (d + 1) = true) (x1 : Int) (a0 b0 : Nat → Nat → Int) (hv0 : iv a0) : ∀ (a : Nat → Nat → Int), iv a → jfr jW_X11_list a0 a → 1 ≤ a 0 9 → 1 ≤ a0 4 6 → jt (jxX E d 167 67 [some (.inr (.inr (.inl 0))), none, none] [] (jxSH, a, b0)) (jQ_X11_list x1 a0 b0) := by
  intro a hv hf hi0 hi1
  refine jt_eq (bq_X11_list_67 E d a b0) ?_
  have h1170_ := iv_get hv (k := 0) (j := 9) (l := 0) (u := 8) rfl
  have h1171_ := iv_get hv0 (k := 4) (j := 6) (l := 0) (u := 40) rfl
  exact jt_rI ⟨hv, hf, rfl, (show (a0 4 6 = 0 → a 0 9 = 0 - 1) from by omega)⟩
theorem cp_X11_list_24 (E : jxE) (d : Nat) (hd : Nat.ble 2 (d + 1) = true) (x1 : Int) (a0 b0 : Nat → Nat → Int) (hv0 : iv a0) : ∀ n : Nat, (∀ (y1 y2 : Int) (a : Nat → Nat → Int), (((7 - y2) * 1) + 0).toNat ≤ n → iv a → jfr jW_X11_list a0 a → 0 ≤ y1 → y1 ≤ 39 → 0 ≤ y2 → y2 ≤ 7 → a 0 9 ≤ 7 → 1 ≤ a0 4 6 → jt (jxX E d 167 24 [some (.inr (.inr (.inl 0))), some (.inl y1), some (.inl y2)] [] (jxSH, a, b0)) (jQ_X11_list x1 a0 b0)) := by
  refine jx_ind fun n ih => ?_
  have ih24 : ∀ (y1 y2 : Int) (a : Nat → Nat → Int), (((7 - y2) * 1) + 0).toNat < n → iv a → jfr jW_X11_list a0 a → 0 ≤ y1 → y1 ≤ 39 → 0 ≤ y2 → y2 ≤ 7 → a 0 9 ≤ 7 → 1 ≤ a0 4 6 → jt (jxX E d 167 24 [some (.inr (.inr (.inl 0))), some (.inl y1), some (.inl y2)] [] (jxSH, a, b0)) (jQ_X11_list x1 a0 b0) := fun y1 y2 a hlt i0 i1 i2 i3 i4 i5 i6 i7 => (ih _ hlt) y1 y2 a (Nat.le_refl _) i0 i1 i2 i3 i4 i5 i6 i7
  have hc24 : ∀ (y1 y2 : Int) (a : Nat → Nat → Int), (((7 - y2) * 1) + 0).toNat ≤ n → iv a → jfr jW_X11_list a0 a → 0 ≤ y1 → y1 ≤ 39 → 0 ≤ y2 → y2 ≤ 7 → a 0 9 ≤ 7 → 1 ≤ a0 4 6 → jt (jxX E d 167 24 [some (.inr (.inr (.inl 0))), some (.inl y1), some (.inl y2)] [] (jxSH, a, b0)) (jQ_X11_list x1 a0 b0) := by
    intro y1 y2 a hm hv hf hi0 hi1 hi2 hi3 hi4 hi5
    refine jt_eq (bq_X11_list_24 E d y1 y2 a b0) ?_
    have h1172_ := iv_get hv (k := 0) (j := 9) (l := 0) (u := 8) rfl
    have h1173_ := iv_get hv0 (k := 4) (j := 6) (l := 0) (u := 40) rfl
    refine jt_ite (fun c1174_ => ?_) (fun c1174_ => ?_)
    ·
      refine jt_grd (by omega) ?_
      refine jt_ite (fun c1175_ => ?_) (fun c1175_ => ?_)
      ·
        exact jt_rI ⟨hv, hf, rfl, (show (a0 4 6 = 0 → (-1) = 0 - 1) from by omega)⟩
      ·
        have h1176_ : jxw (y2 + 1) = y2 + 1 := jxw_id (by omega) (by omega)
        exact ih24 y1 (jxw (y2 + 1)) a (show (((7 - (jxw (y2 + 1))) * 1) + 0).toNat < n from by omega) hv hf (show 0 ≤ y1 from by omega) (show y1 ≤ 39 from by omega) (show 0 ≤ jxw (y2 + 1) from by omega) (show jxw (y2 + 1) ≤ 7 from by omega) (show a 0 9 ≤ 7 from by omega) (show 1 ≤ a0 4 6 from by omega)
    ·
      refine jt_grd (by omega) ?_
      have h1178_ : jxw ((a 0 9) + 1) = (a 0 9) + 1 := jxw_id (by omega) (by omega)
      have hv1177_ : iv (jxu a 0 9 (jxw ((a 0 9) + 1))) := iv_put hv (l := 0) (u := 8) rfl (by omega) (by omega)
      have hv1179_ : iv (jxu (jxu a 0 9 (jxw ((a 0 9) + 1))) 76 ((a 0 9).toNat) y1) := iv_putf hv1177_ rfl
      have hf1180_ : jfr jW_X11_list a0 (jxu a 0 9 (jxw ((a 0 9) + 1))) := jfr_put hf rfl
      have hf1181_ : jfr jW_X11_list a0 (jxu (jxu a 0 9 (jxw ((a 0 9) + 1))) 76 ((a 0 9).toNat) y1) := jfr_put hf1180_ rfl
      exact cp_X11_list_67 E d hd x1 a0 b0 hv0 (jxu (jxu a 0 9 (jxw ((a 0 9) + 1))) 76 ((a 0 9).toNat) y1) hv1179_ hf1181_ (show 1 ≤ jxw ((a 0 9) + 1) from by omega) (show 1 ≤ a0 4 6 from by omega)
  exact hc24
theorem sp_X11_list (E : jxE) (d : Nat) (hd : Nat.ble 2 d = true) (x1 : Int) (a0 b0 : Nat → Nat → Int) (hv0 : iv a0) : jt (jxC E d 167 [.inr (.inr (.inl 0)), .inl x1] (jxSH, a0, b0)) (jQ_X11_list x1 a0 b0) := by
  obtain ⟨d, rfl⟩ := jd_succ hd
  refine jt_eq (bq_X11_list E d x1 a0 b0) ?_
  refine jt_eI (eq_X3_has E d (jd_le hd rfl) x1 a0 b0) ?_
  have h1182_ := f_X3_has_eq a0 b0 x1
  have h1183_ := iv_get hv0 (k := 4) (j := 6) (l := 0) (u := 40) rfl
  refine jt_ite (fun c1184_ => ?_) (fun c1184_ => ?_)
  ·
    exact jt_rI ⟨hv0, (jfr_rf _ _), rfl, (show (a0 4 6 = 0 → (-1) = 0 - 1) from by omega)⟩
  ·
    have h1185_ := iv_get hv0 (k := 0) (j := 9) (l := 0) (u := 8) rfl
    refine jt_ite (fun c1186_ => ?_) (fun c1186_ => ?_)
    ·
      exact (cp_X11_list_24 E d hd x1 a0 b0 hv0 _) x1 0 a0 (Nat.le_refl _) hv0 (jfr_rf _ _) (show 0 ≤ x1 from by omega) (show x1 ≤ 39 from by omega) (show 0 ≤ 0 from by omega) (show 0 ≤ 7 from by omega) (show a0 0 9 ≤ 7 from by omega) (show 1 ≤ a0 4 6 from by omega)
    ·
      exact jt_rI ⟨hv0, (jfr_rf _ _), rfl, (show (a0 4 6 = 0 → (-1) = 0 - 1) from by omega)⟩
def jW_X11_may : List (Nat × Nat) := [(70, 9999), (71, 9999), (72, 9999), (73, 9999), (74, 9999), (75, 9999)]
abbrev jQ_X11_may (x1 x2 : Int) (a0 b0 : Nat → Nat → Int) : List jxV → (Nat → Nat → Int) → (Nat → Nat → Int) → Prop := rI (fun r a b => (iv a) ∧ (jfr jW_X11_may a0 a) ∧ (b0 = b) ∧ ((a0 4 6 = 0 → r = 0 - 1)))
theorem cp_X11_may_39 (E : jxE) (d : Nat) (hd : Nat.ble 8 (d + 1) = true) (x1 x2 : Int) (a0 b0 : Nat → Nat → Int) (hv0 : iv a0) : ∀ (y1 y2 : Int) (a : Nat → Nat → Int), iv a → jfr jW_X11_may a0 a → 0 ≤ y1 → y1 ≤ 39 → 0 ≤ y2 → y2 ≤ 39 → 1 ≤ a0 4 6 → jt (jxX E d 166 39 [some (.inr (.inr (.inl 0))), some (.inl y1), some (.inl y2)] [] (jxSH, a, b0)) (jQ_X11_may x1 x2 a0 b0) := by
  intro y1 y2 a hv hf hi0 hi1 hi2 hi3 hi4
  refine jt_eq (bq_X11_may_39 E d y1 y2 a b0) ?_
  have h1187_ := iv_get hv0 (k := 4) (j := 6) (l := 0) (u := 40) rfl
  refine jt_bJ (sp_X0_reachedBy E d (jd_le hd rfl) y1 a b0 hv) (fun r1188_ a1188_ b1188_ h1188_ => ?_)
  obtain ⟨rfl, rfl⟩ := h1188_
  refine jt_bI (sp_X11_mayGet E d (jd_le hd rfl) y1 y2 r1188_ a b0 hv) (fun r1189_ a1189_ b1189_ h1189_ => ?_)
  obtain ⟨rfl, rfl, hq1189_0⟩ := h1189_
  refine jt_ite (fun c1190_ => ?_) (fun c1190_ => ?_)
  ·
    exact jt_rI ⟨hv, hf, rfl, (show (a0 4 6 = 0 → 0 = 0 - 1) from by omega)⟩
  ·
    exact jt_rI ⟨hv, hf, rfl, (show (a0 4 6 = 0 → 1 = 0 - 1) from by omega)⟩
theorem sp_X11_may (E : jxE) (d : Nat) (hd : Nat.ble 8 d = true) (x1 x2 : Int) (a0 b0 : Nat → Nat → Int) (hv0 : iv a0) : jt (jxC E d 166 [.inr (.inr (.inl 0)), .inl x1, .inl x2] (jxSH, a0, b0)) (jQ_X11_may x1 x2 a0 b0) := by
  obtain ⟨d, rfl⟩ := jd_succ hd
  refine jt_eq (bq_X11_may E d x1 x2 a0 b0) ?_
  refine jt_eI (eq_X3_has E d (jd_le hd rfl) x1 a0 b0) ?_
  have h1191_ := f_X3_has_eq a0 b0 x1
  have h1192_ := iv_get hv0 (k := 4) (j := 6) (l := 0) (u := 40) rfl
  refine jt_ite (fun c1193_ => ?_) (fun c1193_ => ?_)
  ·
    exact jt_rI ⟨hv0, (jfr_rf _ _), rfl, (show (a0 4 6 = 0 → (-1) = 0 - 1) from by omega)⟩
  ·
    refine jt_eI (eq_X3_has E d (jd_le hd rfl) x2 a0 b0) ?_
    have h1194_ := f_X3_has_eq a0 b0 x2
    refine jt_ite (fun c1195_ => ?_) (fun c1195_ => ?_)
    ·
      exact jt_rI ⟨hv0, (jfr_rf _ _), rfl, (show (a0 4 6 = 0 → (-1) = 0 - 1) from by omega)⟩
    ·
      refine jt_bV (sp_X7_take_r58 E d (jd_le hd rfl) (a0 0 0) a0 b0 hv0) (fun a1196_ b1196_ h1196_ => ?_)
      obtain ⟨hv1196_, hf1196_, rfl⟩ := h1196_
      have hf1197_ : jfr jW_X11_may a0 a1196_ := jfr_tr (jfr_rf _ _) hf1196_ rfl
      exact cp_X11_may_39 E d hd x1 x2 a0 b0 hv0 x1 x2 a1196_ hv1196_ hf1197_ (show 0 ≤ x1 from by omega) (show x1 ≤ 39 from by omega) (show 0 ≤ x2 from by omega) (show x2 ≤ 39 from by omega) (show 1 ≤ a0 4 6 from by omega)
abbrev jQ_X11_meets (x1 x2 : Int) (a0 b0 : Nat → Nat → Int) : List jxV → (Nat → Nat → Int) → (Nat → Nat → Int) → Prop := rI (fun r a b => (a0 = a) ∧ (b0 = b) ∧ ((a0 4 6 = 0 → r = 0 - 1)))
theorem cp_X11_meets_45 (E : jxE) (d : Nat) (hd : Nat.ble 6 (d + 1) = true) (x1 x2 : Int) (a0 b0 : Nat → Nat → Int) (hv0 : iv a0) : 1 ≤ a0 4 6 → jt (jxX E d 163 45 [none, none, none] [] (jxSH, a0, b0)) (jQ_X11_meets x1 x2 a0 b0) := by
  intro hi0
  refine jt_eq (bq_X11_meets_45 E d a0 b0) ?_
  have h1198_ := iv_get hv0 (k := 4) (j := 6) (l := 0) (u := 40) rfl
  exact jt_rI ⟨rfl, rfl, (show (a0 4 6 = 0 → 1 = 0 - 1) from by omega)⟩
theorem cp_X11_meets_49 (E : jxE) (d : Nat) (hd : Nat.ble 6 (d + 1) = true) (x1 x2 : Int) (a0 b0 : Nat → Nat → Int) (hv0 : iv a0) : 1 ≤ a0 4 6 → jt (jxX E d 163 49 [none, none, none] [] (jxSH, a0, b0)) (jQ_X11_meets x1 x2 a0 b0) := by
  intro hi0
  refine jt_eq (bq_X11_meets_49 E d a0 b0) ?_
  have h1199_ := iv_get hv0 (k := 4) (j := 6) (l := 0) (u := 40) rfl
  exact jt_rI ⟨rfl, rfl, (show (a0 4 6 = 0 → 0 = 0 - 1) from by omega)⟩
theorem sp_X11_meets (E : jxE) (d : Nat) (hd : Nat.ble 6 d = true) (x1 x2 : Int) (a0 b0 : Nat → Nat → Int) (hv0 : iv a0) : jt (jxC E d 163 [.inr (.inr (.inl 0)), .inl x1, .inl x2] (jxSH, a0, b0)) (jQ_X11_meets x1 x2 a0 b0) := by
  obtain ⟨d, rfl⟩ := jd_succ hd
  refine jt_eq (bq_X11_meets E d x1 x2 a0 b0) ?_
  refine jt_eI (eq_X3_has E d (jd_le hd rfl) x1 a0 b0) ?_
  have h1200_ := f_X3_has_eq a0 b0 x1
  have h1201_ := iv_get hv0 (k := 4) (j := 6) (l := 0) (u := 40) rfl
  refine jt_ite (fun c1202_ => ?_) (fun c1202_ => ?_)
  ·
    exact jt_rI ⟨rfl, rfl, (show (a0 4 6 = 0 → (-1) = 0 - 1) from by omega)⟩
  ·
    refine jt_eI (eq_X3_has E d (jd_le hd rfl) x2 a0 b0) ?_
    have h1203_ := f_X3_has_eq a0 b0 x2
    refine jt_ite (fun c1204_ => ?_) (fun c1204_ => ?_)
    ·
      exact jt_rI ⟨rfl, rfl, (show (a0 4 6 = 0 → (-1) = 0 - 1) from by omega)⟩
    ·
      refine jt_ite (fun c1205_ => ?_) (fun c1205_ => ?_)
      ·
        exact jt_rI ⟨rfl, rfl, (show (a0 4 6 = 0 → (-1) = 0 - 1) from by omega)⟩
      ·
        refine jt_bI (sp_X10_isMet E d (jd_le hd rfl) x1 x2 (a0 0 0) a0 b0 hv0) (fun r1206_ a1206_ b1206_ h1206_ => ?_)
        obtain ⟨rfl, rfl, hq1206_0⟩ := h1206_
        refine jt_ite (fun c1207_ => ?_) (fun c1207_ => ?_)
        ·
          exact cp_X11_meets_49 E d hd x1 x2 a0 b0 hv0 (show 1 ≤ a0 4 6 from by omega)
        ·
          exact cp_X11_meets_45 E d hd x1 x2 a0 b0 hv0 (show 1 ≤ a0 4 6 from by omega)
def jW_X3_add : List (Nat × Nat) := [(4, 6), (5, 9999), (6, 9999), (7, 9999), (8, 9999), (10, 9999)]
abbrev jQ_X3_add (x1 x2 x3 x4 : Int) (a0 b0 : Nat → Nat → Int) : List jxV → (Nat → Nat → Int) → (Nat → Nat → Int) → Prop := rI (fun r a b => (iv a) ∧ (jfr jW_X3_add a0 a) ∧ (b0 = b) ∧ ((((a0 4 6 < 40 ∧ r = a0 4 6) ∧ a 4 6 = (a0 4 6) + 1) ∨ ((40 ≤ a0 4 6 ∧ r = 0 - 1) ∧ a 4 6 = a0 4 6))) ∧ (0 ≤ r → MAD a0 a 5 6 7 8 10 r.toNat x1 x2 x3 x4) ∧ (r < 0 → MSA a0 a 5 6 7 8 10))
theorem cp_X3_add_62 (E : jxE) (d : Nat) (hd : Nat.ble 1 (d + 1) = true) (x1 x2 x3 x4 : Int) (a0 b0 : Nat → Nat → Int) (hv0 : iv a0) : ∀ (a : Nat → Nat → Int), iv a → jfr jW_X3_add a0 a → a 4 6 ≤ 39 → a 4 6 = a0 4 6 → a 4 6 ≤ 39 → (MAD a0 a 5 6 7 8 10 (a0 4 6).toNat x1 x2 x3 x4) → jt (jxX E d 54 62 [some (.inr (.inr (.inl 4))), none, none, none, none] [] (jxSH, a, b0)) (jQ_X3_add x1 x2 x3 x4 a0 b0) := by
  intro a hv hf hi0 hi1 hi2 hmad
  refine jt_eq (bq_X3_add_62 E d a b0) ?_
  have h1208_ := iv_get hv (k := 4) (j := 6) (l := 0) (u := 40) rfl
  have h1209_ := iv_get hv0 (k := 4) (j := 6) (l := 0) (u := 40) rfl
  have h1211_ : jxw ((a 4 6) + 1) = (a 4 6) + 1 := jxw_id (by omega) (by omega)
  have hv1210_ : iv (jxu a 4 6 (jxw ((a 4 6) + 1))) := iv_put hv (l := 0) (u := 40) rfl (by omega) (by omega)
  have hf1212_ : jfr jW_X3_add a0 (jxu a 4 6 (jxw ((a 4 6) + 1))) := jfr_put hf rfl
  exact jt_rI ⟨hv1210_, hf1212_, rfl, (show (((a0 4 6 < 40 ∧ a 4 6 = a0 4 6) ∧ jxw ((a 4 6) + 1) = (a0 4 6) + 1) ∨ ((40 ≤ a0 4 6 ∧ a 4 6 = 0 - 1) ∧ jxw ((a 4 6) + 1) = a0 4 6)) from by omega), (by first | (intro h; exact absurd h (by decide)) | (intro _; rw [show (a 4 6).toNat = (a0 4 6).toNat from by omega]; exact hmad)), (by first | (intro _; exact MSA_rf _ _ _ _ _ _) | (intro h; exact absurd h (by omega)))⟩
theorem cp_X3_add_31 (E : jxE) (d : Nat) (hd : Nat.ble 1 (d + 1) = true) (x1 x2 x3 x4 : Int) (a0 b0 : Nat → Nat → Int) (hv0 : iv a0) : ∀ (y3 y4 : Int) (a : Nat → Nat → Int), iv a → jfr jW_X3_add a0 a → a 4 6 ≤ 39 → a 4 6 = a0 4 6 → a 4 6 ≤ 39 → (UP (a0 5) (a 5) (a0 4 6).toNat x1 ∧ UP (a0 6) (a 6) (a0 4 6).toNat x2) → (y3 = x3) → (y4 = x4) → ((∀ j, a 7 j = a0 7 j) ∧ (∀ j, a 8 j = a0 8 j) ∧ (∀ j, a 10 j = a0 10 j)) → jt (jxX E d 54 31 [some (.inr (.inr (.inl 4))), none, none, some (.inl y3), some (.inl y4)] [] (jxSH, a, b0)) (jQ_X3_add x1 x2 x3 x4 a0 b0) := by
  intro y3 y4 a hv hf hi0 hi1 hi2 hu hy3 hy4 hs
  refine jt_eq (bq_X3_add_31 E d y3 y4 a b0) ?_
  have h1213_ := iv_get hv (k := 4) (j := 6) (l := 0) (u := 40) rfl
  have h1214_ := iv_get hv0 (k := 4) (j := 6) (l := 0) (u := 40) rfl
  refine jt_grd (by omega) ?_
  refine jt_grd (by omega) ?_
  refine jt_grd (by omega) ?_
  have hv1215_ : iv (jxu a 7 ((a 4 6).toNat) y3) := iv_putf hv rfl
  have hv1216_ : iv (jxu (jxu a 7 ((a 4 6).toNat) y3) 8 ((a 4 6).toNat) y4) := iv_putf hv1215_ rfl
  have hv1217_ : iv (jxu (jxu (jxu a 7 ((a 4 6).toNat) y3) 8 ((a 4 6).toNat) y4) 10 ((a 4 6).toNat) 1) := iv_putf hv1216_ rfl
  have hf1218_ : jfr jW_X3_add a0 (jxu a 7 ((a 4 6).toNat) y3) := jfr_put hf rfl
  have hf1219_ : jfr jW_X3_add a0 (jxu (jxu a 7 ((a 4 6).toNat) y3) 8 ((a 4 6).toNat) y4) := jfr_put hf1218_ rfl
  have hf1220_ : jfr jW_X3_add a0 (jxu (jxu (jxu a 7 ((a 4 6).toNat) y3) 8 ((a 4 6).toNat) y4) 10 ((a 4 6).toNat) 1) := jfr_put hf1219_ rfl
  exact cp_X3_add_62 E d hd x1 x2 x3 x4 a0 b0 hv0 (jxu (jxu (jxu a 7 ((a 4 6).toNat) y3) 8 ((a 4 6).toNat) y4) 10 ((a 4 6).toNat) 1) hv1217_ hf1220_ (show a 4 6 ≤ 39 from by omega) (show a 4 6 = a0 4 6 from by omega) (show a 4 6 ≤ 39 from by omega) (by subst hy3; subst hy4; rw [show (a 4 6).toNat = (a0 4 6).toNat from by omega]; exact ⟨hu.1, hu.2, UP_put hs.1, UP_put hs.2.1, UP_put hs.2.2⟩)
theorem sp_X3_add (E : jxE) (d : Nat) (hd : Nat.ble 1 d = true) (x1 x2 x3 x4 : Int) (a0 b0 : Nat → Nat → Int) (hv0 : iv a0) : jt (jxC E d 54 [.inr (.inr (.inl 4)), .inl x1, .inl x2, .inl x3, .inl x4] (jxSH, a0, b0)) (jQ_X3_add x1 x2 x3 x4 a0 b0) := by
  obtain ⟨d, rfl⟩ := jd_succ hd
  refine jt_eq (bq_X3_add E d x1 x2 x3 x4 a0 b0) ?_
  have h1221_ := iv_get hv0 (k := 4) (j := 6) (l := 0) (u := 40) rfl
  refine jt_ite (fun c1222_ => ?_) (fun c1222_ => ?_)
  ·
    refine jt_grd (by omega) ?_
    refine jt_grd (by omega) ?_
    have hv1223_ : iv (jxu a0 5 ((a0 4 6).toNat) x1) := iv_putf hv0 rfl
    have hv1224_ : iv (jxu (jxu a0 5 ((a0 4 6).toNat) x1) 6 ((a0 4 6).toNat) x2) := iv_putf hv1223_ rfl
    have hf1225_ : jfr jW_X3_add a0 (jxu a0 5 ((a0 4 6).toNat) x1) := jfr_put (jfr_rf _ _) rfl
    have hf1226_ : jfr jW_X3_add a0 (jxu (jxu a0 5 ((a0 4 6).toNat) x1) 6 ((a0 4 6).toNat) x2) := jfr_put hf1225_ rfl
    exact cp_X3_add_31 E d hd x1 x2 x3 x4 a0 b0 hv0 x3 x4 (jxu (jxu a0 5 ((a0 4 6).toNat) x1) 6 ((a0 4 6).toNat) x2) hv1224_ hf1226_ (show a0 4 6 ≤ 39 from by omega) (show a0 4 6 = a0 4 6 from by omega) (show a0 4 6 ≤ 39 from by omega) ⟨UP_put (fun _ => rfl), UP_put (fun _ => rfl)⟩ (by first | rfl | assumption) (by first | rfl | assumption) ⟨fun _ => rfl, fun _ => rfl, fun _ => rfl⟩
  ·
    exact jt_rI ⟨hv0, (jfr_rf _ _), rfl, (show (((a0 4 6 < 40 ∧ (-1) = a0 4 6) ∧ a0 4 6 = (a0 4 6) + 1) ∨ ((40 ≤ a0 4 6 ∧ (-1) = 0 - 1) ∧ a0 4 6 = a0 4 6)) from by omega), (by first | (intro h; exact absurd h (by decide)) | (intro _; rw [show (a 4 6).toNat = (a0 4 6).toNat from by omega]; exact hmad)), (by first | (intro _; exact MSA_rf _ _ _ _ _ _) | (intro h; exact absurd h (by omega)))⟩
def jWeM : List (Nat × Nat) := []
def jW_X11_member : List (Nat × Nat) := [(4, 6), (5, 9999), (6, 9999), (7, 9999), (8, 9999), (10, 9999)]
abbrev jQ_X11_member (x1 x2 x3 : Int) (a0 b0 : Nat → Nat → Int) : List jxV → (Nat → Nat → Int) → (Nat → Nat → Int) → Prop := rI (fun r a b => (iv a) ∧ (jfr jW_X11_member a0 a) ∧ (b0 = b) ∧ ((((((((((0 ≤ x1 ∧ x1 ≤ 15) ∧ 0 ≤ x2) ∧ x2 ≤ 65535) ∧ 0 - 1 ≤ x3) ∧ x3 ≤ 19) ∧ a0 4 6 < 40) ∧ r = a0 4 6) ∧ a 4 6 = (a0 4 6) + 1) ∨ ((((((((x1 < 0 ∨ 15 < x1) ∨ x2 < 0) ∨ 65535 < x2) ∨ x3 < 0 - 1) ∨ 19 < x3) ∨ 40 ≤ a0 4 6) ∧ r = 0 - 1) ∧ a 4 6 = a0 4 6))) ∧ (0 ≤ r → MAD a0 a 5 6 7 8 10 r.toNat x1 x2 x3 (a0 0 0)) ∧ (r < 0 → MSA a0 a 5 6 7 8 10))
theorem cp_X11_member_32 (E : jxE) (d : Nat) (hd : Nat.ble 3 (d + 1) = true) (x1 x2 x3 : Int) (a0 b0 : Nat → Nat → Int) (hv0 : iv a0) : ∀ (y1 y2 y3 s0 : Int) (a : Nat → Nat → Int), iv a → jfr jW_X11_member a0 a → 0 ≤ s0 → s0 ≤ 1 → y1 = x1 → y2 = x2 → y3 = x3 → (((((((s0 = 1 ∧ 0 ≤ x1) ∧ x1 ≤ 15) ∧ 0 ≤ x2) ∧ x2 ≤ 65535) ∧ 0 - 1 ≤ x3) ∧ x3 ≤ 19) ∨ (s0 = 0 ∧ (((((x1 < 0 ∨ 15 < x1) ∨ x2 < 0) ∨ 65535 < x2) ∨ x3 < 0 - 1) ∨ 19 < x3))) → a 4 6 = a0 4 6 → (jfr jWeM a0 a) → jt (jxX E d 156 32 [some (.inr (.inr (.inl 0))), some (.inl y1), some (.inl y2), some (.inl y3), none] [.inl s0] (jxSH, a, b0)) (jQ_X11_member x1 x2 x3 a0 b0) := by
  intro y1 y2 y3 s0 a hv hf hi0 hi1 hi2 hi3 hi4 hi5 hi6 hfe
  refine jt_eq (bq_X11_member_32 E d y1 y2 y3 s0 a b0) ?_
  have h1227_ := iv_get hv (k := 4) (j := 6) (l := 0) (u := 40) rfl
  have h1228_ := iv_get hv0 (k := 4) (j := 6) (l := 0) (u := 40) rfl
  refine jt_ite (fun c1229_ => ?_) (fun c1229_ => ?_)
  ·
    exact jt_rI ⟨hv, hf, rfl, (show (((((((((0 ≤ x1 ∧ x1 ≤ 15) ∧ 0 ≤ x2) ∧ x2 ≤ 65535) ∧ 0 - 1 ≤ x3) ∧ x3 ≤ 19) ∧ a0 4 6 < 40) ∧ (-1) = a0 4 6) ∧ a 4 6 = (a0 4 6) + 1) ∨ ((((((((x1 < 0 ∨ 15 < x1) ∨ x2 < 0) ∨ 65535 < x2) ∨ x3 < 0 - 1) ∨ 19 < x3) ∨ 40 ≤ a0 4 6) ∧ (-1) = 0 - 1) ∧ a 4 6 = a0 4 6)) from by omega), (fun h => absurd h (by decide)), (fun _ => MSA_e hfe)⟩
  ·
    refine jt_bI (sp_X3_add E d (jd_le hd rfl) y1 y2 y3 (a 0 0) a b0 hv) (fun r1230_ a1230_ b1230_ h1230_ => ?_)
    obtain ⟨hv1230_, hf1230_, rfl, hq1230_0, hq1230_1, hq1230_2⟩ := h1230_
    have h1231_ := iv_get hv1230_ (k := 4) (j := 6) (l := 0) (u := 40) rfl
    have hf1232_ : jfr jW_X11_member a0 a1230_ := jfr_tr hf hf1230_ rfl
    exact jt_rI ⟨hv1230_, hf1232_, rfl, (show (((((((((0 ≤ x1 ∧ x1 ≤ 15) ∧ 0 ≤ x2) ∧ x2 ≤ 65535) ∧ 0 - 1 ≤ x3) ∧ x3 ≤ 19) ∧ a0 4 6 < 40) ∧ r1230_ = a0 4 6) ∧ a1230_ 4 6 = (a0 4 6) + 1) ∨ ((((((((x1 < 0 ∨ 15 < x1) ∨ x2 < 0) ∨ 65535 < x2) ∨ x3 < 0 - 1) ∨ 19 < x3) ∨ 40 ≤ a0 4 6) ∧ r1230_ = 0 - 1) ∧ a1230_ 4 6 = a0 4 6)) from by omega), (fun h => MAD_e hfe (by rw [show x1 = y1 from by omega, show x2 = y2 from by omega, show x3 = y3 from by omega, show a0 0 0 = a 0 0 from (hfe 0 0 rfl).symm]; exact hq1230_1 h)), (fun h => MSA_e2 hfe (hq1230_2 h))⟩
theorem cp_X11_member_31 (E : jxE) (d : Nat) (hd : Nat.ble 3 (d + 1) = true) (x1 x2 x3 : Int) (a0 b0 : Nat → Nat → Int) (hv0 : iv a0) : ∀ (y1 y2 y3 : Int) (a : Nat → Nat → Int), iv a → jfr jW_X11_member a0 a → y1 = x1 → y2 = x2 → y3 = x3 → (((((x1 < 0 ∨ 15 < x1) ∨ x2 < 0) ∨ 65535 < x2) ∨ x3 < 0 - 1) ∨ 19 < x3) → a 4 6 = a0 4 6 → (jfr jWeM a0 a) → jt (jxX E d 156 31 [some (.inr (.inr (.inl 0))), some (.inl y1), some (.inl y2), some (.inl y3), none] [] (jxSH, a, b0)) (jQ_X11_member x1 x2 x3 a0 b0) := by
  intro y1 y2 y3 a hv hf hi0 hi1 hi2 hi3 hi4 hfe
  refine jt_eq (bq_X11_member_31 E d y1 y2 y3 a b0) ?_
  have h1233_ := iv_get hv (k := 4) (j := 6) (l := 0) (u := 40) rfl
  have h1234_ := iv_get hv0 (k := 4) (j := 6) (l := 0) (u := 40) rfl
  exact cp_X11_member_32 E d hd x1 x2 x3 a0 b0 hv0 y1 y2 y3 0 a hv hf (show 0 ≤ 0 from by omega) (show 0 ≤ 1 from by omega) (show y1 = x1 from by omega) (show y2 = x2 from by omega) (show y3 = x3 from by omega) (show (((((((0 = 1 ∧ 0 ≤ x1) ∧ x1 ≤ 15) ∧ 0 ≤ x2) ∧ x2 ≤ 65535) ∧ 0 - 1 ≤ x3) ∧ x3 ≤ 19) ∨ (0 = 0 ∧ (((((x1 < 0 ∨ 15 < x1) ∨ x2 < 0) ∨ 65535 < x2) ∨ x3 < 0 - 1) ∨ 19 < x3))) from by omega) (show a 4 6 = a0 4 6 from by omega) hfe
theorem sp_X11_member (E : jxE) (d : Nat) (hd : Nat.ble 3 d = true) (x1 x2 x3 : Int) (a0 b0 : Nat → Nat → Int) (hv0 : iv a0) : jt (jxC E d 156 [.inr (.inr (.inl 0)), .inl x1, .inl x2, .inl x3] (jxSH, a0, b0)) (jQ_X11_member x1 x2 x3 a0 b0) := by
  obtain ⟨d, rfl⟩ := jd_succ hd
  refine jt_eq (bq_X11_member E d x1 x2 x3 a0 b0) ?_
  refine jt_eI (eq_X11_isLand E d (jd_le hd rfl) x1 a0 b0) ?_
  have h1235_ := f_X11_isLand_eq a0 b0 x1
  have h1236_ := f_X11_within_eq a0 b0 x1 0 15
  refine jt_ite (fun c1237_ => ?_) (fun c1237_ => ?_)
  ·
    have h1238_ := iv_get hv0 (k := 4) (j := 6) (l := 0) (u := 40) rfl
    exact cp_X11_member_31 E d hd x1 x2 x3 a0 b0 hv0 x1 x2 x3 a0 hv0 (jfr_rf _ _) (show x1 = x1 from by omega) (show x2 = x2 from by omega) (show x3 = x3 from by omega) (show (((((x1 < 0 ∨ 15 < x1) ∨ x2 < 0) ∨ 65535 < x2) ∨ x3 < 0 - 1) ∨ 19 < x3) from by omega) (show a0 4 6 = a0 4 6 from by omega) (jfr_rf _ _)
  ·
    refine jt_eI (eq_X11_within E d (jd_le hd rfl) x2 0 65535 a0 b0) ?_
    have h1239_ := f_X11_within_eq a0 b0 x2 0 65535
    refine jt_ite (fun c1240_ => ?_) (fun c1240_ => ?_)
    ·
      have h1241_ := iv_get hv0 (k := 4) (j := 6) (l := 0) (u := 40) rfl
      exact cp_X11_member_31 E d hd x1 x2 x3 a0 b0 hv0 x1 x2 x3 a0 hv0 (jfr_rf _ _) (show x1 = x1 from by omega) (show x2 = x2 from by omega) (show x3 = x3 from by omega) (show (((((x1 < 0 ∨ 15 < x1) ∨ x2 < 0) ∨ 65535 < x2) ∨ x3 < 0 - 1) ∨ 19 < x3) from by omega) (show a0 4 6 = a0 4 6 from by omega) (jfr_rf _ _)
    ·
      refine jt_eI (eq_X11_within E d (jd_le hd rfl) x3 (-1) 19 a0 b0) ?_
      have h1242_ := f_X11_within_eq a0 b0 x3 (-1) 19
      refine jt_ite (fun c1243_ => ?_) (fun c1243_ => ?_)
      ·
        have h1244_ := iv_get hv0 (k := 4) (j := 6) (l := 0) (u := 40) rfl
        exact cp_X11_member_31 E d hd x1 x2 x3 a0 b0 hv0 x1 x2 x3 a0 hv0 (jfr_rf _ _) (show x1 = x1 from by omega) (show x2 = x2 from by omega) (show x3 = x3 from by omega) (show (((((x1 < 0 ∨ 15 < x1) ∨ x2 < 0) ∨ 65535 < x2) ∨ x3 < 0 - 1) ∨ 19 < x3) from by omega) (show a0 4 6 = a0 4 6 from by omega) (jfr_rf _ _)
      ·
        have h1245_ := iv_get hv0 (k := 4) (j := 6) (l := 0) (u := 40) rfl
        exact cp_X11_member_32 E d hd x1 x2 x3 a0 b0 hv0 x1 x2 x3 1 a0 hv0 (jfr_rf _ _) (show 0 ≤ 1 from by omega) (show 1 ≤ 1 from by omega) (show x1 = x1 from by omega) (show x2 = x2 from by omega) (show x3 = x3 from by omega) (show (((((((1 = 1 ∧ 0 ≤ x1) ∧ x1 ≤ 15) ∧ 0 ≤ x2) ∧ x2 ≤ 65535) ∧ 0 - 1 ≤ x3) ∧ x3 ≤ 19) ∨ (1 = 0 ∧ (((((x1 < 0 ∨ 15 < x1) ∨ x2 < 0) ∨ 65535 < x2) ∨ x3 < 0 - 1) ∨ 19 < x3))) from by omega) (show a0 4 6 = a0 4 6 from by omega) (jfr_rf _ _)
def jW_X4_add : List (Nat × Nat) := [(83, 6), (84, 9999), (85, 9999), (86, 9999), (87, 9999), (88, 9999), (89, 9999)]
abbrev jQ_X4_add (x1 x2 x3 : Int) (a0 b0 : Nat → Nat → Int) : List jxV → (Nat → Nat → Int) → (Nat → Nat → Int) → Prop := rI (fun r a b => (iv a) ∧ (jfr jW_X4_add a0 a) ∧ (b0 = b) ∧ ((((a0 83 6 < 20 ∧ r = a0 83 6) ∧ a 83 6 = (a0 83 6) + 1) ∨ ((20 ≤ a0 83 6 ∧ r = 0 - 1) ∧ a 83 6 = a0 83 6))))
theorem cp_X4_add_61 (E : jxE) (d : Nat) (hd : Nat.ble 1 (d + 1) = true) (x1 x2 x3 : Int) (a0 b0 : Nat → Nat → Int) (hv0 : iv a0) : ∀ (a : Nat → Nat → Int), iv a → jfr jW_X4_add a0 a → a 83 6 ≤ 19 → a 83 6 = a0 83 6 → a 83 6 ≤ 19 → jt (jxX E d 66 61 [some (.inr (.inr (.inl 83))), none, none, none] [] (jxSH, a, b0)) (jQ_X4_add x1 x2 x3 a0 b0) := by
  intro a hv hf hi0 hi1 hi2
  refine jt_eq (bq_X4_add_61 E d a b0) ?_
  have h1246_ := iv_get hv (k := 83) (j := 6) (l := 0) (u := 20) rfl
  have h1247_ := iv_get hv0 (k := 83) (j := 6) (l := 0) (u := 20) rfl
  refine jt_grd (by omega) ?_
  have hv1248_ : iv (jxu a 89 ((a 83 6).toNat) (-1)) := iv_putf hv rfl
  have h1250_ : jxw ((a 83 6) + 1) = (a 83 6) + 1 := jxw_id (by omega) (by omega)
  have hv1249_ : iv (jxu (jxu a 89 ((a 83 6).toNat) (-1)) 83 6 (jxw ((a 83 6) + 1))) := iv_put hv1248_ (l := 0) (u := 20) rfl (by omega) (by omega)
  have hf1251_ : jfr jW_X4_add a0 (jxu a 89 ((a 83 6).toNat) (-1)) := jfr_put hf rfl
  have hf1252_ : jfr jW_X4_add a0 (jxu (jxu a 89 ((a 83 6).toNat) (-1)) 83 6 (jxw ((a 83 6) + 1))) := jfr_put hf1251_ rfl
  exact jt_rI ⟨hv1249_, hf1252_, rfl, (show (((a0 83 6 < 20 ∧ a 83 6 = a0 83 6) ∧ jxw ((a 83 6) + 1) = (a0 83 6) + 1) ∨ ((20 ≤ a0 83 6 ∧ a 83 6 = 0 - 1) ∧ jxw ((a 83 6) + 1) = a0 83 6)) from by omega)⟩
theorem cp_X4_add_31 (E : jxE) (d : Nat) (hd : Nat.ble 1 (d + 1) = true) (x1 x2 x3 : Int) (a0 b0 : Nat → Nat → Int) (hv0 : iv a0) : ∀ (y3 : Int) (a : Nat → Nat → Int), iv a → jfr jW_X4_add a0 a → a 83 6 ≤ 19 → a 83 6 = a0 83 6 → a 83 6 ≤ 19 → jt (jxX E d 66 31 [some (.inr (.inr (.inl 83))), none, none, some (.inl y3)] [] (jxSH, a, b0)) (jQ_X4_add x1 x2 x3 a0 b0) := by
  intro y3 a hv hf hi0 hi1 hi2
  refine jt_eq (bq_X4_add_31 E d y3 a b0) ?_
  have h1253_ := iv_get hv (k := 83) (j := 6) (l := 0) (u := 20) rfl
  have h1254_ := iv_get hv0 (k := 83) (j := 6) (l := 0) (u := 20) rfl
  refine jt_grd (by omega) ?_
  refine jt_grd (by omega) ?_
  refine jt_grd (by omega) ?_
  have hv1255_ : iv (jxu a 86 ((a 83 6).toNat) y3) := iv_putf hv rfl
  have hv1256_ : iv (jxu (jxu a 86 ((a 83 6).toNat) y3) 87 ((a 83 6).toNat) 0) := iv_putf hv1255_ rfl
  have hv1257_ : iv (jxu (jxu (jxu a 86 ((a 83 6).toNat) y3) 87 ((a 83 6).toNat) 0) 88 ((a 83 6).toNat) (-1)) := iv_putf hv1256_ rfl
  have hf1258_ : jfr jW_X4_add a0 (jxu a 86 ((a 83 6).toNat) y3) := jfr_put hf rfl
  have hf1259_ : jfr jW_X4_add a0 (jxu (jxu a 86 ((a 83 6).toNat) y3) 87 ((a 83 6).toNat) 0) := jfr_put hf1258_ rfl
  have hf1260_ : jfr jW_X4_add a0 (jxu (jxu (jxu a 86 ((a 83 6).toNat) y3) 87 ((a 83 6).toNat) 0) 88 ((a 83 6).toNat) (-1)) := jfr_put hf1259_ rfl
  exact cp_X4_add_61 E d hd x1 x2 x3 a0 b0 hv0 (jxu (jxu (jxu a 86 ((a 83 6).toNat) y3) 87 ((a 83 6).toNat) 0) 88 ((a 83 6).toNat) (-1)) hv1257_ hf1260_ (show a 83 6 ≤ 19 from by omega) (show a 83 6 = a0 83 6 from by omega) (show a 83 6 ≤ 19 from by omega)
theorem sp_X4_add (E : jxE) (d : Nat) (hd : Nat.ble 1 d = true) (x1 x2 x3 : Int) (a0 b0 : Nat → Nat → Int) (hv0 : iv a0) : jt (jxC E d 66 [.inr (.inr (.inl 83)), .inl x1, .inl x2, .inl x3] (jxSH, a0, b0)) (jQ_X4_add x1 x2 x3 a0 b0) := by
  obtain ⟨d, rfl⟩ := jd_succ hd
  refine jt_eq (bq_X4_add E d x1 x2 x3 a0 b0) ?_
  have h1261_ := iv_get hv0 (k := 83) (j := 6) (l := 0) (u := 20) rfl
  refine jt_ite (fun c1262_ => ?_) (fun c1262_ => ?_)
  ·
    refine jt_grd (by omega) ?_
    refine jt_grd (by omega) ?_
    have hv1263_ : iv (jxu a0 84 ((a0 83 6).toNat) x1) := iv_putf hv0 rfl
    have hv1264_ : iv (jxu (jxu a0 84 ((a0 83 6).toNat) x1) 85 ((a0 83 6).toNat) x2) := iv_putf hv1263_ rfl
    have hf1265_ : jfr jW_X4_add a0 (jxu a0 84 ((a0 83 6).toNat) x1) := jfr_put (jfr_rf _ _) rfl
    have hf1266_ : jfr jW_X4_add a0 (jxu (jxu a0 84 ((a0 83 6).toNat) x1) 85 ((a0 83 6).toNat) x2) := jfr_put hf1265_ rfl
    exact cp_X4_add_31 E d hd x1 x2 x3 a0 b0 hv0 x3 (jxu (jxu a0 84 ((a0 83 6).toNat) x1) 85 ((a0 83 6).toNat) x2) hv1264_ hf1266_ (show a0 83 6 ≤ 19 from by omega) (show a0 83 6 = a0 83 6 from by omega) (show a0 83 6 ≤ 19 from by omega)
  ·
    exact jt_rI ⟨hv0, (jfr_rf _ _), rfl, (show (((a0 83 6 < 20 ∧ (-1) = a0 83 6) ∧ a0 83 6 = (a0 83 6) + 1) ∨ ((20 ≤ a0 83 6 ∧ (-1) = 0 - 1) ∧ a0 83 6 = a0 83 6)) from by omega)⟩
def jW_X11_offer : List (Nat × Nat) := [(83, 6), (84, 9999), (85, 9999), (86, 9999), (87, 9999), (88, 9999), (89, 9999)]
abbrev jQ_X11_offer (x1 x2 x3 : Int) (a0 b0 : Nat → Nat → Int) : List jxV → (Nat → Nat → Int) → (Nat → Nat → Int) → Prop := rI (fun r a b => (iv a) ∧ (jfr jW_X11_offer a0 a) ∧ (b0 = b) ∧ ((a0 4 6 = 0 → r = 0 - 1)) ∧ (((((((((0 ≤ x1 ∧ x1 < a0 4 6) ∧ ¬ a0 10 (x1.toNat) = 0) ∧ 0 ≤ x2) ∧ x2 ≤ 31) ∧ a0 83 6 < 20) ∧ r = a0 83 6) ∧ a 83 6 = (a0 83 6) + 1) ∨ (((((((x1 < 0 ∨ a0 4 6 ≤ x1) ∨ a0 10 (x1.toNat) = 0) ∨ x2 < 0) ∨ 31 < x2) ∨ 20 ≤ a0 83 6) ∧ r = 0 - 1) ∧ a 83 6 = a0 83 6))))
theorem sp_X11_offer (E : jxE) (d : Nat) (hd : Nat.ble 3 d = true) (x1 x2 x3 : Int) (a0 b0 : Nat → Nat → Int) (hv0 : iv a0) : jt (jxC E d 184 [.inr (.inr (.inl 0)), .inl x1, .inl x2, .inl x3] (jxSH, a0, b0)) (jQ_X11_offer x1 x2 x3 a0 b0) := by
  obtain ⟨d, rfl⟩ := jd_succ hd
  refine jt_eq (bq_X11_offer E d x1 x2 x3 a0 b0) ?_
  refine jt_eI (eq_X3_isThere E d (jd_le hd rfl) x1 a0 b0) ?_
  have h1267_ := f_X3_isThere_eq a0 b0 x1
  have h1268_ := f_X3_has_eq a0 b0 x1
  have h1269_ := iv_get hv0 (k := 4) (j := 6) (l := 0) (u := 40) rfl
  refine jt_ite (fun c1270_ => ?_) (fun c1270_ => ?_)
  ·
    have h1271_ := iv_get hv0 (k := 83) (j := 6) (l := 0) (u := 20) rfl
    exact jt_rI ⟨hv0, (jfr_rf _ _), rfl, (show (a0 4 6 = 0 → (-1) = 0 - 1) from by omega), (show ((((((((0 ≤ x1 ∧ x1 < a0 4 6) ∧ ¬ a0 10 (x1.toNat) = 0) ∧ 0 ≤ x2) ∧ x2 ≤ 31) ∧ a0 83 6 < 20) ∧ (-1) = a0 83 6) ∧ a0 83 6 = (a0 83 6) + 1) ∨ (((((((x1 < 0 ∨ a0 4 6 ≤ x1) ∨ a0 10 (x1.toNat) = 0) ∨ x2 < 0) ∨ 31 < x2) ∨ 20 ≤ a0 83 6) ∧ (-1) = 0 - 1) ∧ a0 83 6 = a0 83 6)) from by omega)⟩
  ·
    refine jt_eI (eq_X11_within E d (jd_le hd rfl) x2 0 31 a0 b0) ?_
    have h1272_ := f_X11_within_eq a0 b0 x2 0 31
    refine jt_ite (fun c1273_ => ?_) (fun c1273_ => ?_)
    ·
      have h1274_ := iv_get hv0 (k := 83) (j := 6) (l := 0) (u := 20) rfl
      exact jt_rI ⟨hv0, (jfr_rf _ _), rfl, (show (a0 4 6 = 0 → (-1) = 0 - 1) from by omega), (show ((((((((0 ≤ x1 ∧ x1 < a0 4 6) ∧ ¬ a0 10 (x1.toNat) = 0) ∧ 0 ≤ x2) ∧ x2 ≤ 31) ∧ a0 83 6 < 20) ∧ (-1) = a0 83 6) ∧ a0 83 6 = (a0 83 6) + 1) ∨ (((((((x1 < 0 ∨ a0 4 6 ≤ x1) ∨ a0 10 (x1.toNat) = 0) ∨ x2 < 0) ∨ 31 < x2) ∨ 20 ≤ a0 83 6) ∧ (-1) = 0 - 1) ∧ a0 83 6 = a0 83 6)) from by omega)⟩
    ·
      refine jt_bI (sp_X4_add E d (jd_le hd rfl) x1 x2 x3 a0 b0 hv0) (fun r1275_ a1275_ b1275_ h1275_ => ?_)
      obtain ⟨hv1275_, hf1275_, rfl, hq1275_0⟩ := h1275_
      have h1276_ := iv_get hv0 (k := 83) (j := 6) (l := 0) (u := 20) rfl
      have h1277_ := iv_get hv1275_ (k := 83) (j := 6) (l := 0) (u := 20) rfl
      have hf1278_ : jfr jW_X11_offer a0 a1275_ := jfr_tr (jfr_rf _ _) hf1275_ rfl
      exact jt_rI ⟨hv1275_, hf1278_, rfl, (show (a0 4 6 = 0 → r1275_ = 0 - 1) from by omega), (show ((((((((0 ≤ x1 ∧ x1 < a0 4 6) ∧ ¬ a0 10 (x1.toNat) = 0) ∧ 0 ≤ x2) ∧ x2 ≤ 31) ∧ a0 83 6 < 20) ∧ r1275_ = a0 83 6) ∧ a1275_ 83 6 = (a0 83 6) + 1) ∨ (((((((x1 < 0 ∨ a0 4 6 ≤ x1) ∨ a0 10 (x1.toNat) = 0) ∨ x2 < 0) ∨ 31 < x2) ∨ 20 ≤ a0 83 6) ∧ r1275_ = 0 - 1) ∧ a1275_ 83 6 = a0 83 6)) from by omega)⟩
abbrev jQ_X1_dearestStamp (a0 b0 : Nat → Nat → Int) : List jxV → (Nat → Nat → Int) → (Nat → Nat → Int) → Prop := rI (fun r a b => (a0 = a) ∧ (b0 = b))
theorem cp_X1_dearestStamp_4 (E : jxE) (d : Nat) (hd : Nat.ble 2 (d + 1) = true) (a0 b0 : Nat → Nat → Int) (hv0 : iv a0) : ∀ n : Nat, (∀ (y1 y2 : Int), (((8 - y2) * 1) + 0).toNat ≤ n → 0 ≤ y1 → 0 ≤ y2 → y2 ≤ 7 → jt (jxX E d 34 30 [some (.inr (.inr (.inl 141))), some (.inl y1), some (.inl y2)] [] (jxSH, a0, b0)) (jQ_X1_dearestStamp a0 b0)) ∧ (∀ (y1 y2 : Int), (((8 - y2) * 1) + 0).toNat ≤ n → 0 ≤ y1 → 0 ≤ y2 → y2 ≤ 8 → jt (jxX E d 34 4 [some (.inr (.inr (.inl 141))), some (.inl y1), some (.inl y2)] [] (jxSH, a0, b0)) (jQ_X1_dearestStamp a0 b0)) := by
  refine jx_ind fun n ih => ?_
  have ih30 : ∀ (y1 y2 : Int), (((8 - y2) * 1) + 0).toNat < n → 0 ≤ y1 → 0 ≤ y2 → y2 ≤ 7 → jt (jxX E d 34 30 [some (.inr (.inr (.inl 141))), some (.inl y1), some (.inl y2)] [] (jxSH, a0, b0)) (jQ_X1_dearestStamp a0 b0) := fun y1 y2 hlt i0 i1 i2 => (ih _ hlt).1 y1 y2 (Nat.le_refl _) i0 i1 i2
  have ih4 : ∀ (y1 y2 : Int), (((8 - y2) * 1) + 0).toNat < n → 0 ≤ y1 → 0 ≤ y2 → y2 ≤ 8 → jt (jxX E d 34 4 [some (.inr (.inr (.inl 141))), some (.inl y1), some (.inl y2)] [] (jxSH, a0, b0)) (jQ_X1_dearestStamp a0 b0) := fun y1 y2 hlt i0 i1 i2 => (ih _ hlt).2 y1 y2 (Nat.le_refl _) i0 i1 i2
  have hc30 : ∀ (y1 y2 : Int), (((8 - y2) * 1) + 0).toNat ≤ n → 0 ≤ y1 → 0 ≤ y2 → y2 ≤ 7 → jt (jxX E d 34 30 [some (.inr (.inr (.inl 141))), some (.inl y1), some (.inl y2)] [] (jxSH, a0, b0)) (jQ_X1_dearestStamp a0 b0) := by
    intro y1 y2 hm hi0 hi1 hi2
    refine jt_eq (bq_X1_dearestStamp_30 E d y1 y2 a0 b0) ?_
    have h1279_ : jxw (y2 + 1) = y2 + 1 := jxw_id (by omega) (by omega)
    exact ih4 y1 (jxw (y2 + 1)) (show (((8 - (jxw (y2 + 1))) * 1) + 0).toNat < n from by omega) (show 0 ≤ y1 from by omega) (show 0 ≤ jxw (y2 + 1) from by omega) (show jxw (y2 + 1) ≤ 8 from by omega)
  have hc4 : ∀ (y1 y2 : Int), (((8 - y2) * 1) + 0).toNat ≤ n → 0 ≤ y1 → 0 ≤ y2 → y2 ≤ 8 → jt (jxX E d 34 4 [some (.inr (.inr (.inl 141))), some (.inl y1), some (.inl y2)] [] (jxSH, a0, b0)) (jQ_X1_dearestStamp a0 b0) := by
    intro y1 y2 hm hi0 hi1 hi2
    refine jt_eq (bq_X1_dearestStamp_4 E d y1 y2 a0 b0) ?_
    refine jt_ite (fun c1280_ => ?_) (fun c1280_ => ?_)
    ·
      refine jt_grd (by omega) ?_
      refine jt_ite (fun c1281_ => ?_) (fun c1281_ => ?_)
      ·
        refine jt_grd (by omega) ?_
        refine jt_eI (eq_J9_max_7cf53 E d (jd_le hd rfl) y1 (a0 142 (y2.toNat)) a0 b0) ?_
        have h1282_ := f_J9_max_7cf53_eq a0 b0 y1 (a0 142 (y2.toNat))
        exact hc30 (f_J9_max_7cf53 a0 b0 y1 (a0 142 (y2.toNat))) y2 (show (((8 - y2) * 1) + 0).toNat ≤ n from by omega) (show 0 ≤ f_J9_max_7cf53 a0 b0 y1 (a0 142 (y2.toNat)) from by omega) (show 0 ≤ y2 from by omega) (show y2 ≤ 7 from by omega)
      ·
        exact hc30 y1 y2 (show (((8 - y2) * 1) + 0).toNat ≤ n from by omega) (show 0 ≤ y1 from by omega) (show 0 ≤ y2 from by omega) (show y2 ≤ 7 from by omega)
    ·
      exact jt_rI ⟨rfl, rfl⟩
  exact ⟨hc30, hc4⟩
theorem sp_X1_dearestStamp (E : jxE) (d : Nat) (hd : Nat.ble 2 d = true) (a0 b0 : Nat → Nat → Int) (hv0 : iv a0) : jt (jxC E d 34 [.inr (.inr (.inl 141))] (jxSH, a0, b0)) (jQ_X1_dearestStamp a0 b0) := by
  obtain ⟨d, rfl⟩ := jd_succ hd
  refine jt_eq (bq_X1_dearestStamp E d a0 b0) ?_
  exact (cp_X1_dearestStamp_4 E d hd a0 b0 hv0 _).2 0 0 (Nat.le_refl _) (show 0 ≤ 0 from by omega) (show 0 ≤ 0 from by omega) (show 0 ≤ 8 from by omega)
abbrev jQ_X1_tryBundle (x1 x2 x3 : Int) (a0 b0 : Nat → Nat → Int) : List jxV → (Nat → Nat → Int) → (Nat → Nat → Int) → Prop := rV (fun a b => (a0 = a))
theorem cp_X1_tryBundle_34 (E : jxE) (d : Nat) (hd : Nat.ble 2 (d + 1) = true) (x1 x2 x3 : Int) (a0 b0 : Nat → Nat → Int) (hv0 : iv a0) (hp0 : 0 ≤ x1) (hp1 : x1 ≤ 7) : ∀ n : Nat, (∀ (y4 y5 y7 : Int) (b : Nat → Nat → Int), ((y7 * 1) + 0).toNat ≤ n → 1 ≤ y4 → y4 ≤ 1399 → 1 ≤ y7 → y7 ≤ 1399 → 0 < y4 → y4 ≤ y7 → jt (jxX E d 37 93 [some (.inr (.inr (.inl 141))), none, none, none, some (.inl y4), some (.inr (.inl y5)), none, some (.inl y7)] [] (jxSH, a0, b)) (jQ_X1_tryBundle x1 x2 x3 a0 b0)) ∧ (∀ (y4 y5 y7 : Int) (b : Nat → Nat → Int), ((y7 * 1) + 0).toNat ≤ n → 1 ≤ y4 → y4 ≤ 1399 → 1 ≤ y7 → y7 ≤ 1399 → 0 < y4 → y4 ≤ y7 → jt (jxX E d 37 63 [some (.inr (.inr (.inl 141))), none, none, none, some (.inl y4), some (.inr (.inl y5)), none, some (.inl y7)] [] (jxSH, a0, b)) (jQ_X1_tryBundle x1 x2 x3 a0 b0)) ∧ (∀ (y4 y5 y7 : Int) (b : Nat → Nat → Int), ((y7 * 1) + 0).toNat ≤ n → y7 ≤ 1399 → jt (jxX E d 37 34 [some (.inr (.inr (.inl 141))), none, none, none, some (.inl y4), some (.inr (.inl y5)), none, some (.inl y7)] [] (jxSH, a0, b)) (jQ_X1_tryBundle x1 x2 x3 a0 b0)) := by
  refine jx_ind fun n ih => ?_
  have ih93 : ∀ (y4 y5 y7 : Int) (b : Nat → Nat → Int), ((y7 * 1) + 0).toNat < n → 1 ≤ y4 → y4 ≤ 1399 → 1 ≤ y7 → y7 ≤ 1399 → 0 < y4 → y4 ≤ y7 → jt (jxX E d 37 93 [some (.inr (.inr (.inl 141))), none, none, none, some (.inl y4), some (.inr (.inl y5)), none, some (.inl y7)] [] (jxSH, a0, b)) (jQ_X1_tryBundle x1 x2 x3 a0 b0) := fun y4 y5 y7 b hlt i0 i1 i2 i3 i4 i5 => (ih _ hlt).1 y4 y5 y7 b (Nat.le_refl _) i0 i1 i2 i3 i4 i5
  have ih63 : ∀ (y4 y5 y7 : Int) (b : Nat → Nat → Int), ((y7 * 1) + 0).toNat < n → 1 ≤ y4 → y4 ≤ 1399 → 1 ≤ y7 → y7 ≤ 1399 → 0 < y4 → y4 ≤ y7 → jt (jxX E d 37 63 [some (.inr (.inr (.inl 141))), none, none, none, some (.inl y4), some (.inr (.inl y5)), none, some (.inl y7)] [] (jxSH, a0, b)) (jQ_X1_tryBundle x1 x2 x3 a0 b0) := fun y4 y5 y7 b hlt i0 i1 i2 i3 i4 i5 => (ih _ hlt).2.1 y4 y5 y7 b (Nat.le_refl _) i0 i1 i2 i3 i4 i5
  have ih34 : ∀ (y4 y5 y7 : Int) (b : Nat → Nat → Int), ((y7 * 1) + 0).toNat < n → y7 ≤ 1399 → jt (jxX E d 37 34 [some (.inr (.inr (.inl 141))), none, none, none, some (.inl y4), some (.inr (.inl y5)), none, some (.inl y7)] [] (jxSH, a0, b)) (jQ_X1_tryBundle x1 x2 x3 a0 b0) := fun y4 y5 y7 b hlt i0 => (ih _ hlt).2.2 y4 y5 y7 b (Nat.le_refl _) i0
  have hc93 : ∀ (y4 y5 y7 : Int) (b : Nat → Nat → Int), ((y7 * 1) + 0).toNat ≤ n → 1 ≤ y4 → y4 ≤ 1399 → 1 ≤ y7 → y7 ≤ 1399 → 0 < y4 → y4 ≤ y7 → jt (jxX E d 37 93 [some (.inr (.inr (.inl 141))), none, none, none, some (.inl y4), some (.inr (.inl y5)), none, some (.inl y7)] [] (jxSH, a0, b)) (jQ_X1_tryBundle x1 x2 x3 a0 b0) := by
    intro y4 y5 y7 b hm hi0 hi1 hi2 hi3 hi4 hi5
    refine jt_eq (bq_X1_tryBundle_93 E d y4 y5 y7 a0 b) ?_
    have h1283_ : jxw (y7 + (-1)) = y7 + (-1) := jxw_id (by omega) (by omega)
    exact ih34 y4 y5 (jxw (y7 + (-1))) b (show (((jxw (y7 + (-1))) * 1) + 0).toNat < n from by omega) (show jxw (y7 + (-1)) ≤ 1399 from by omega)
  have hc63 : ∀ (y4 y5 y7 : Int) (b : Nat → Nat → Int), ((y7 * 1) + 0).toNat ≤ n → 1 ≤ y4 → y4 ≤ 1399 → 1 ≤ y7 → y7 ≤ 1399 → 0 < y4 → y4 ≤ y7 → jt (jxX E d 37 63 [some (.inr (.inr (.inl 141))), none, none, none, some (.inl y4), some (.inr (.inl y5)), none, some (.inl y7)] [] (jxSH, a0, b)) (jQ_X1_tryBundle x1 x2 x3 a0 b0) := by
    intro y4 y5 y7 b hm hi0 hi1 hi2 hi3 hi4 hi5
    refine jt_eq (bq_X1_tryBundle_63 E d y4 y5 y7 a0 b) ?_
    refine jt_grd (by omega) ?_
    have h1284_ : jxw (y7 - y4) = y7 - y4 := jxw_id (by omega) (by omega)
    refine jt_grd (by omega) ?_
    refine jt_eJ (eq_J9_min_f86c9 E d (jd_le hd rfl) (b 145 (y7.toNat)) (jxwl ((b 145 ((jxw (y7 - y4)).toNat)) + y5)) a0 b) ?_
    refine jt_grd (by omega) ?_
    exact hc93 y4 y5 y7 (jxu b 145 (y7.toNat) (f_J9_min_f86c9 a0 b (b 145 (y7.toNat)) (jxwl ((b 145 ((jxw (y7 - y4)).toNat)) + y5)))) (show ((y7 * 1) + 0).toNat ≤ n from by omega) (show 1 ≤ y4 from by omega) (show y4 ≤ 1399 from by omega) (show 1 ≤ y7 from by omega) (show y7 ≤ 1399 from by omega) (show 0 < y4 from by omega) (show y4 ≤ y7 from by omega)
  have hc34 : ∀ (y4 y5 y7 : Int) (b : Nat → Nat → Int), ((y7 * 1) + 0).toNat ≤ n → y7 ≤ 1399 → jt (jxX E d 37 34 [some (.inr (.inr (.inl 141))), none, none, none, some (.inl y4), some (.inr (.inl y5)), none, some (.inl y7)] [] (jxSH, a0, b)) (jQ_X1_tryBundle x1 x2 x3 a0 b0) := by
    intro y4 y5 y7 b hm hi0
    refine jt_eq (bq_X1_tryBundle_34 E d y4 y5 y7 a0 b) ?_
    refine jt_ite (fun c1285_ => ?_) (fun c1285_ => ?_)
    ·
      refine jt_ite (fun c1286_ => ?_) (fun c1286_ => ?_)
      ·
        exact jt_rV rfl
      ·
        have h1287_ : jxw (y7 - y4) = y7 - y4 := jxw_id (by omega) (by omega)
        refine jt_grd (by omega) ?_
        have h1288_ := jxlcmp_b (b 145 ((jxw (y7 - y4)).toNat)) 4611686018427387904
        refine jt_ite (fun c1289_ => ?_) (fun c1289_ => ?_)
        ·
          exact hc93 y4 y5 y7 b (show ((y7 * 1) + 0).toNat ≤ n from by omega) (show 1 ≤ y4 from by omega) (show y4 ≤ 1399 from by omega) (show 1 ≤ y7 from by omega) (show y7 ≤ 1399 from by omega) (show 0 < y4 from by omega) (show y4 ≤ y7 from by omega)
        ·
          exact hc63 y4 y5 y7 b (show ((y7 * 1) + 0).toNat ≤ n from by omega) (show 1 ≤ y4 from by omega) (show y4 ≤ 1399 from by omega) (show 1 ≤ y7 from by omega) (show y7 ≤ 1399 from by omega) (show 0 < y4 from by omega) (show y4 ≤ y7 from by omega)
    ·
      exact jt_rV rfl
  exact ⟨hc93, hc63, hc34⟩
theorem cp_X1_tryBundle_25 (E : jxE) (d : Nat) (hd : Nat.ble 2 (d + 1) = true) (x1 x2 x3 : Int) (a0 b0 : Nat → Nat → Int) (hv0 : iv a0) (hp0 : 0 ≤ x1) (hp1 : x1 ≤ 7) : ∀ (y3 y4 y5 : Int) (b : Nat → Nat → Int), jt (jxX E d 37 25 [some (.inr (.inr (.inl 141))), none, none, some (.inl y3), some (.inl y4), some (.inr (.inl y5)), none, none] [] (jxSH, a0, b)) (jQ_X1_tryBundle x1 x2 x3 a0 b0) := by
  intro y3 y4 y5 b
  refine jt_eq (bq_X1_tryBundle_25 E d y3 y4 y5 a0 b) ?_
  refine jt_eI (eq_J9_min_7cf53 E d (jd_le hd rfl) y3 1399 a0 b) ?_
  have h1290_ := f_J9_min_7cf53_eq a0 b y3 1399
  exact (cp_X1_tryBundle_34 E d hd x1 x2 x3 a0 b0 hv0 hp0 hp1 _).2.2 y4 y5 (f_J9_min_7cf53 a0 b y3 1399) b (Nat.le_refl _) (show f_J9_min_7cf53 a0 b y3 1399 ≤ 1399 from by omega)
theorem sp_X1_tryBundle (E : jxE) (d : Nat) (hd : Nat.ble 2 d = true) (x1 x2 x3 : Int) (a0 b0 : Nat → Nat → Int) (hv0 : iv a0) (hp0 : 0 ≤ x1) (hp1 : x1 ≤ 7) : jt (jxC E d 37 [.inr (.inr (.inl 141)), .inl x1, .inl x2, .inl x3] (jxSH, a0, b0)) (jQ_X1_tryBundle x1 x2 x3 a0 b0) := by
  obtain ⟨d, rfl⟩ := jd_succ hd
  refine jt_eq (bq_X1_tryBundle E d x1 x2 x3 a0 b0) ?_
  refine jt_grd (by omega) ?_
  refine jt_eI (eq_X1_shiftOf E d (jd_le hd rfl) x1 a0 b0) ?_
  exact cp_X1_tryBundle_25 E d hd x1 x2 x3 a0 b0 hv0 hp0 hp1 x3 (jxw (x2 * (a0 142 (x1.toNat)))) (jxwl (x2 * (jxwl (281474976710656 - (jxshll 1 (f_X1_shiftOf a0 b0 x1)))))) b0
abbrev jQ_X1_tryKind (x1 x2 : Int) (a0 b0 : Nat → Nat → Int) : List jxV → (Nat → Nat → Int) → (Nat → Nat → Int) → Prop := rV (fun a b => (a0 = a))
theorem cp_X1_tryKind_10 (E : jxE) (d : Nat) (hd : Nat.ble 3 (d + 1) = true) (x1 x2 : Int) (a0 b0 : Nat → Nat → Int) (hv0 : iv a0) (hp0 : 0 ≤ x1) (hp1 : x1 ≤ 7) : ∀ n : Nat, (∀ (y1 y2 y3 y4 y5 : Int) (b : Nat → Nat → Int), (((100 - y4) * 1) + 0).toNat ≤ n → 0 ≤ y1 → y1 ≤ 7 → 1 ≤ y3 → 1 ≤ y4 → y4 ≤ 50 → 1 ≤ y5 → y5 ≤ 50 → jt (jxX E d 36 37 [some (.inr (.inr (.inl 141))), some (.inl y1), some (.inl y2), some (.inl y3), some (.inl y4), some (.inl y5)] [] (jxSH, a0, b)) (jQ_X1_tryKind x1 x2 a0 b0)) ∧ (∀ (y1 y2 y3 y4 : Int) (b : Nat → Nat → Int), (((100 - y4) * 1) + 0).toNat ≤ n → 0 ≤ y1 → y1 ≤ 7 → 1 ≤ y4 → y4 ≤ 100 → jt (jxX E d 36 10 [some (.inr (.inr (.inl 141))), some (.inl y1), some (.inl y2), some (.inl y3), some (.inl y4), none] [] (jxSH, a0, b)) (jQ_X1_tryKind x1 x2 a0 b0)) := by
  refine jx_ind fun n ih => ?_
  have ih37 : ∀ (y1 y2 y3 y4 y5 : Int) (b : Nat → Nat → Int), (((100 - y4) * 1) + 0).toNat < n → 0 ≤ y1 → y1 ≤ 7 → 1 ≤ y3 → 1 ≤ y4 → y4 ≤ 50 → 1 ≤ y5 → y5 ≤ 50 → jt (jxX E d 36 37 [some (.inr (.inr (.inl 141))), some (.inl y1), some (.inl y2), some (.inl y3), some (.inl y4), some (.inl y5)] [] (jxSH, a0, b)) (jQ_X1_tryKind x1 x2 a0 b0) := fun y1 y2 y3 y4 y5 b hlt i0 i1 i2 i3 i4 i5 i6 => (ih _ hlt).1 y1 y2 y3 y4 y5 b (Nat.le_refl _) i0 i1 i2 i3 i4 i5 i6
  have ih10 : ∀ (y1 y2 y3 y4 : Int) (b : Nat → Nat → Int), (((100 - y4) * 1) + 0).toNat < n → 0 ≤ y1 → y1 ≤ 7 → 1 ≤ y4 → y4 ≤ 100 → jt (jxX E d 36 10 [some (.inr (.inr (.inl 141))), some (.inl y1), some (.inl y2), some (.inl y3), some (.inl y4), none] [] (jxSH, a0, b)) (jQ_X1_tryKind x1 x2 a0 b0) := fun y1 y2 y3 y4 b hlt i0 i1 i2 i3 => (ih _ hlt).2 y1 y2 y3 y4 b (Nat.le_refl _) i0 i1 i2 i3
  have hc37 : ∀ (y1 y2 y3 y4 y5 : Int) (b : Nat → Nat → Int), (((100 - y4) * 1) + 0).toNat ≤ n → 0 ≤ y1 → y1 ≤ 7 → 1 ≤ y3 → 1 ≤ y4 → y4 ≤ 50 → 1 ≤ y5 → y5 ≤ 50 → jt (jxX E d 36 37 [some (.inr (.inr (.inl 141))), some (.inl y1), some (.inl y2), some (.inl y3), some (.inl y4), some (.inl y5)] [] (jxSH, a0, b)) (jQ_X1_tryKind x1 x2 a0 b0) := by
    intro y1 y2 y3 y4 y5 b hm hi0 hi1 hi2 hi3 hi4 hi5 hi6
    refine jt_eq (bq_X1_tryKind_37 E d y1 y2 y3 y4 y5 a0 b) ?_
    have h1291_ : jxw (y4 * 2) = y4 * 2 := jxw_id (by omega) (by omega)
    exact ih10 y1 y2 (jxw (y3 - y5)) (jxw (y4 * 2)) b (show (((100 - (jxw (y4 * 2))) * 1) + 0).toNat < n from by omega) (show 0 ≤ y1 from by omega) (show y1 ≤ 7 from by omega) (show 1 ≤ jxw (y4 * 2) from by omega) (show jxw (y4 * 2) ≤ 100 from by omega)
  have hc10 : ∀ (y1 y2 y3 y4 : Int) (b : Nat → Nat → Int), (((100 - y4) * 1) + 0).toNat ≤ n → 0 ≤ y1 → y1 ≤ 7 → 1 ≤ y4 → y4 ≤ 100 → jt (jxX E d 36 10 [some (.inr (.inr (.inl 141))), some (.inl y1), some (.inl y2), some (.inl y3), some (.inl y4), none] [] (jxSH, a0, b)) (jQ_X1_tryKind x1 x2 a0 b0) := by
    intro y1 y2 y3 y4 b hm hi0 hi1 hi2 hi3
    refine jt_eq (bq_X1_tryKind_10 E d y1 y2 y3 y4 a0 b) ?_
    refine jt_ite (fun c1292_ => ?_) (fun c1292_ => ?_)
    ·
      refine jt_ite (fun c1293_ => ?_) (fun c1293_ => ?_)
      ·
        exact jt_rV rfl
      ·
        refine jt_eI (eq_J9_min_7cf53 E d (jd_le hd rfl) y4 y3 a0 b) ?_
        refine jt_bV (sp_X1_tryBundle E d (jd_le hd rfl) y1 (f_J9_min_7cf53 a0 b y4 y3) y2 a0 b hv0 (show 0 ≤ y1 from by omega) (show y1 ≤ 7 from by omega)) (fun a1294_ b1294_ h1294_ => ?_)
        subst h1294_
        have h1295_ := f_J9_min_7cf53_eq a0 b y4 y3
        exact hc37 y1 y2 y3 y4 (f_J9_min_7cf53 a0 b y4 y3) b1294_ (show (((100 - y4) * 1) + 0).toNat ≤ n from by omega) (show 0 ≤ y1 from by omega) (show y1 ≤ 7 from by omega) (show 1 ≤ y3 from by omega) (show 1 ≤ y4 from by omega) (show y4 ≤ 50 from by omega) (show 1 ≤ f_J9_min_7cf53 a0 b y4 y3 from by omega) (show f_J9_min_7cf53 a0 b y4 y3 ≤ 50 from by omega)
    ·
      exact jt_rV rfl
  exact ⟨hc37, hc10⟩
theorem sp_X1_tryKind (E : jxE) (d : Nat) (hd : Nat.ble 3 d = true) (x1 x2 : Int) (a0 b0 : Nat → Nat → Int) (hv0 : iv a0) (hp0 : 0 ≤ x1) (hp1 : x1 ≤ 7) : jt (jxC E d 36 [.inr (.inr (.inl 141)), .inl x1, .inl x2] (jxSH, a0, b0)) (jQ_X1_tryKind x1 x2 a0 b0) := by
  obtain ⟨d, rfl⟩ := jd_succ hd
  refine jt_eq (bq_X1_tryKind E d x1 x2 a0 b0) ?_
  refine jt_grd (by omega) ?_
  exact (cp_X1_tryKind_10 E d hd x1 x2 a0 b0 hv0 hp0 hp1 _).2 x1 x2 (a0 143 (x1.toNat)) 1 b0 (Nat.le_refl _) (show 0 ≤ x1 from by omega) (show x1 ≤ 7 from by omega) (show 1 ≤ 1 from by omega) (show 1 ≤ 100 from by omega)
abbrev jQ_X1_findBestWays (x1 : Int) (a0 b0 : Nat → Nat → Int) : List jxV → (Nat → Nat → Int) → (Nat → Nat → Int) → Prop := rV (fun a b => (a0 = a))
theorem cp_X1_findBestWays_38 (E : jxE) (d : Nat) (hd : Nat.ble 4 (d + 1) = true) (x1 : Int) (a0 b0 : Nat → Nat → Int) (hv0 : iv a0) : ∀ n : Nat, (∀ (y1 y2 : Int) (b : Nat → Nat → Int), (((8 - y2) * 1) + 0).toNat ≤ n → 0 ≤ y2 → y2 ≤ 8 → jt (jxX E d 35 38 [some (.inr (.inr (.inl 141))), some (.inl y1), some (.inl y2)] [] (jxSH, a0, b)) (jQ_X1_findBestWays x1 a0 b0)) := by
  refine jx_ind fun n ih => ?_
  have ih38 : ∀ (y1 y2 : Int) (b : Nat → Nat → Int), (((8 - y2) * 1) + 0).toNat < n → 0 ≤ y2 → y2 ≤ 8 → jt (jxX E d 35 38 [some (.inr (.inr (.inl 141))), some (.inl y1), some (.inl y2)] [] (jxSH, a0, b)) (jQ_X1_findBestWays x1 a0 b0) := fun y1 y2 b hlt i0 i1 => (ih _ hlt) y1 y2 b (Nat.le_refl _) i0 i1
  have hc38 : ∀ (y1 y2 : Int) (b : Nat → Nat → Int), (((8 - y2) * 1) + 0).toNat ≤ n → 0 ≤ y2 → y2 ≤ 8 → jt (jxX E d 35 38 [some (.inr (.inr (.inl 141))), some (.inl y1), some (.inl y2)] [] (jxSH, a0, b)) (jQ_X1_findBestWays x1 a0 b0) := by
    intro y1 y2 b hm hi0 hi1
    refine jt_eq (bq_X1_findBestWays_38 E d y1 y2 a0 b) ?_
    refine jt_ite (fun c1296_ => ?_) (fun c1296_ => ?_)
    ·
      refine jt_bV (sp_X1_tryKind E d (jd_le hd rfl) y2 y1 a0 b hv0 (show 0 ≤ y2 from by omega) (show y2 ≤ 7 from by omega)) (fun a1297_ b1297_ h1297_ => ?_)
      subst h1297_
      have h1298_ : jxw (y2 + 1) = y2 + 1 := jxw_id (by omega) (by omega)
      exact ih38 y1 (jxw (y2 + 1)) b1297_ (show (((8 - (jxw (y2 + 1))) * 1) + 0).toNat < n from by omega) (show 0 ≤ jxw (y2 + 1) from by omega) (show jxw (y2 + 1) ≤ 8 from by omega)
    ·
      exact jt_rV rfl
  exact hc38
theorem cp_X1_findBestWays_29 (E : jxE) (d : Nat) (hd : Nat.ble 4 (d + 1) = true) (x1 : Int) (a0 b0 : Nat → Nat → Int) (hv0 : iv a0) : ∀ (y1 : Int) (b : Nat → Nat → Int), jt (jxX E d 35 29 [some (.inr (.inr (.inl 141))), some (.inl y1), none] [] (jxSH, a0, b)) (jQ_X1_findBestWays x1 a0 b0) := by
  intro y1 b
  refine jt_eq (bq_X1_findBestWays_29 E d y1 a0 b) ?_
  exact (cp_X1_findBestWays_38 E d hd x1 a0 b0 hv0 _) y1 0 (jxu b 145 0 0) (Nat.le_refl _) (show 0 ≤ 0 from by omega) (show 0 ≤ 8 from by omega)
theorem cp_X1_findBestWays_2 (E : jxE) (d : Nat) (hd : Nat.ble 4 (d + 1) = true) (x1 : Int) (a0 b0 : Nat → Nat → Int) (hv0 : iv a0) : ∀ n : Nat, (∀ (y1 y2 : Int) (b : Nat → Nat → Int), (((1400 - y2) * 1) + 0).toNat ≤ n → 1 ≤ y2 → y2 ≤ 1400 → jt (jxX E d 35 2 [some (.inr (.inr (.inl 141))), some (.inl y1), some (.inl y2)] [] (jxSH, a0, b)) (jQ_X1_findBestWays x1 a0 b0)) := by
  refine jx_ind fun n ih => ?_
  have ih2 : ∀ (y1 y2 : Int) (b : Nat → Nat → Int), (((1400 - y2) * 1) + 0).toNat < n → 1 ≤ y2 → y2 ≤ 1400 → jt (jxX E d 35 2 [some (.inr (.inr (.inl 141))), some (.inl y1), some (.inl y2)] [] (jxSH, a0, b)) (jQ_X1_findBestWays x1 a0 b0) := fun y1 y2 b hlt i0 i1 => (ih _ hlt) y1 y2 b (Nat.le_refl _) i0 i1
  have hc2 : ∀ (y1 y2 : Int) (b : Nat → Nat → Int), (((1400 - y2) * 1) + 0).toNat ≤ n → 1 ≤ y2 → y2 ≤ 1400 → jt (jxX E d 35 2 [some (.inr (.inr (.inl 141))), some (.inl y1), some (.inl y2)] [] (jxSH, a0, b)) (jQ_X1_findBestWays x1 a0 b0) := by
    intro y1 y2 b hm hi0 hi1
    refine jt_eq (bq_X1_findBestWays_2 E d y1 y2 a0 b) ?_
    refine jt_ite (fun c1299_ => ?_) (fun c1299_ => ?_)
    ·
      exact cp_X1_findBestWays_29 E d hd x1 a0 b0 hv0 y1 b
    ·
      refine jt_ite (fun c1300_ => ?_) (fun c1300_ => ?_)
      ·
        refine jt_grd (by omega) ?_
        have h1301_ : jxw (y2 + 1) = y2 + 1 := jxw_id (by omega) (by omega)
        exact ih2 y1 (jxw (y2 + 1)) (jxu b 145 (y2.toNat) 4611686018427387904) (show (((1400 - (jxw (y2 + 1))) * 1) + 0).toNat < n from by omega) (show 1 ≤ jxw (y2 + 1) from by omega) (show jxw (y2 + 1) ≤ 1400 from by omega)
      ·
        exact cp_X1_findBestWays_29 E d hd x1 a0 b0 hv0 y1 b
  exact hc2
theorem sp_X1_findBestWays (E : jxE) (d : Nat) (hd : Nat.ble 4 d = true) (x1 : Int) (a0 b0 : Nat → Nat → Int) (hv0 : iv a0) : jt (jxC E d 35 [.inr (.inr (.inl 141)), .inl x1] (jxSH, a0, b0)) (jQ_X1_findBestWays x1 a0 b0) := by
  obtain ⟨d, rfl⟩ := jd_succ hd
  refine jt_eq (bq_X1_findBestWays E d x1 a0 b0) ?_
  exact (cp_X1_findBestWays_2 E d hd x1 a0 b0 hv0 _) x1 1 b0 (Nat.le_refl _) (show 1 ≤ 1 from by omega) (show 1 ≤ 1400 from by omega)
def jW_X1_takeOut : List (Nat × Nat) := [(143, 9999), (144, 9999)]
abbrev jQ_X1_takeOut (x1 : Int) (a0 b0 : Nat → Nat → Int) : List jxV → (Nat → Nat → Int) → (Nat → Nat → Int) → Prop := rV (fun a b => (iv a) ∧ (jfr jW_X1_takeOut a0 a) ∧ (b0 = b))
theorem cp_X1_takeOut_22 (E : jxE) (d : Nat) (hd : Nat.ble 2 (d + 1) = true) (x1 : Int) (a0 b0 : Nat → Nat → Int) (hv0 : iv a0) : ∀ n : Nat, (∀ (y5 y7 : Int) (a : Nat → Nat → Int), (((8 - y7) * 1) + 0).toNat ≤ n → iv a → jfr jW_X1_takeOut a0 a → 0 ≤ y7 → y7 ≤ 7 → jt (jxX E d 38 48 [some (.inr (.inr (.inl 141))), none, none, none, none, some (.inr (.inl y5)), none, some (.inl y7)] [] (jxSH, a, b0)) (jQ_X1_takeOut x1 a0 b0)) ∧ (∀ (y5 y7 : Int) (a : Nat → Nat → Int), (((8 - y7) * 1) + 0).toNat ≤ n → iv a → jfr jW_X1_takeOut a0 a → 0 ≤ y7 → y7 ≤ 8 → jt (jxX E d 38 22 [some (.inr (.inr (.inl 141))), none, none, none, none, some (.inr (.inl y5)), none, some (.inl y7)] [] (jxSH, a, b0)) (jQ_X1_takeOut x1 a0 b0)) := by
  refine jx_ind fun n ih => ?_
  have ih48 : ∀ (y5 y7 : Int) (a : Nat → Nat → Int), (((8 - y7) * 1) + 0).toNat < n → iv a → jfr jW_X1_takeOut a0 a → 0 ≤ y7 → y7 ≤ 7 → jt (jxX E d 38 48 [some (.inr (.inr (.inl 141))), none, none, none, none, some (.inr (.inl y5)), none, some (.inl y7)] [] (jxSH, a, b0)) (jQ_X1_takeOut x1 a0 b0) := fun y5 y7 a hlt i0 i1 i2 i3 => (ih _ hlt).1 y5 y7 a (Nat.le_refl _) i0 i1 i2 i3
  have ih22 : ∀ (y5 y7 : Int) (a : Nat → Nat → Int), (((8 - y7) * 1) + 0).toNat < n → iv a → jfr jW_X1_takeOut a0 a → 0 ≤ y7 → y7 ≤ 8 → jt (jxX E d 38 22 [some (.inr (.inr (.inl 141))), none, none, none, none, some (.inr (.inl y5)), none, some (.inl y7)] [] (jxSH, a, b0)) (jQ_X1_takeOut x1 a0 b0) := fun y5 y7 a hlt i0 i1 i2 i3 => (ih _ hlt).2 y5 y7 a (Nat.le_refl _) i0 i1 i2 i3
  have hc48 : ∀ (y5 y7 : Int) (a : Nat → Nat → Int), (((8 - y7) * 1) + 0).toNat ≤ n → iv a → jfr jW_X1_takeOut a0 a → 0 ≤ y7 → y7 ≤ 7 → jt (jxX E d 38 48 [some (.inr (.inr (.inl 141))), none, none, none, none, some (.inr (.inl y5)), none, some (.inl y7)] [] (jxSH, a, b0)) (jQ_X1_takeOut x1 a0 b0) := by
    intro y5 y7 a hm hv hf hi0 hi1
    refine jt_eq (bq_X1_takeOut_48 E d y5 y7 a b0) ?_
    refine jt_grd (by omega) ?_
    refine jt_grd (by omega) ?_
    refine jt_grd (by omega) ?_
    have hv1302_ : iv (jxu a 143 (y7.toNat) (jxw ((a 143 (y7.toNat)) - (a 144 (y7.toNat))))) := iv_putf hv rfl
    have hf1303_ : jfr jW_X1_takeOut a0 (jxu a 143 (y7.toNat) (jxw ((a 143 (y7.toNat)) - (a 144 (y7.toNat))))) := jfr_put hf rfl
    have h1304_ : jxw (y7 + 1) = y7 + 1 := jxw_id (by omega) (by omega)
    exact ih22 y5 (jxw (y7 + 1)) (jxu a 143 (y7.toNat) (jxw ((a 143 (y7.toNat)) - (a 144 (y7.toNat))))) (show (((8 - (jxw (y7 + 1))) * 1) + 0).toNat < n from by omega) hv1302_ hf1303_ (show 0 ≤ jxw (y7 + 1) from by omega) (show jxw (y7 + 1) ≤ 8 from by omega)
  have hc22 : ∀ (y5 y7 : Int) (a : Nat → Nat → Int), (((8 - y7) * 1) + 0).toNat ≤ n → iv a → jfr jW_X1_takeOut a0 a → 0 ≤ y7 → y7 ≤ 8 → jt (jxX E d 38 22 [some (.inr (.inr (.inl 141))), none, none, none, none, some (.inr (.inl y5)), none, some (.inl y7)] [] (jxSH, a, b0)) (jQ_X1_takeOut x1 a0 b0) := by
    intro y5 y7 a hm hv hf hi0 hi1
    refine jt_eq (bq_X1_takeOut_22 E d y5 y7 a b0) ?_
    refine jt_ite (fun c1305_ => ?_) (fun c1305_ => ?_)
    ·
      refine jt_eI (eq_X1_shiftOf E d (jd_le hd rfl) y7 a b0) ?_
      refine jt_grd (by omega) ?_
      have hv1306_ : iv (jxu a 144 (y7.toNat) (jxand (jxw (jxshrl y5 (f_X1_shiftOf a b0 y7))) 63)) := iv_putf hv rfl
      have hf1307_ : jfr jW_X1_takeOut a0 (jxu a 144 (y7.toNat) (jxand (jxw (jxshrl y5 (f_X1_shiftOf a b0 y7))) 63)) := jfr_put hf rfl
      exact hc48 y5 y7 (jxu a 144 (y7.toNat) (jxand (jxw (jxshrl y5 (f_X1_shiftOf a b0 y7))) 63)) (show (((8 - y7) * 1) + 0).toNat ≤ n from by omega) hv1306_ hf1307_ (show 0 ≤ y7 from by omega) (show y7 ≤ 7 from by omega)
    ·
      exact jt_rV ⟨hv, hf, rfl⟩
  exact ⟨hc48, hc22⟩
theorem cp_X1_takeOut_19 (E : jxE) (d : Nat) (hd : Nat.ble 2 (d + 1) = true) (x1 : Int) (a0 b0 : Nat → Nat → Int) (hv0 : iv a0) : ∀ (y5 : Int) (a : Nat → Nat → Int), iv a → jfr jW_X1_takeOut a0 a → jt (jxX E d 38 19 [some (.inr (.inr (.inl 141))), none, none, none, none, some (.inr (.inl y5)), none, none] [] (jxSH, a, b0)) (jQ_X1_takeOut x1 a0 b0) := by
  intro y5 a hv hf
  refine jt_eq (bq_X1_takeOut_19 E d y5 a b0) ?_
  exact (cp_X1_takeOut_22 E d hd x1 a0 b0 hv0 _).2 y5 0 a (Nat.le_refl _) hv hf (show 0 ≤ 0 from by omega) (show 0 ≤ 8 from by omega)
theorem sp_X1_takeOut (E : jxE) (d : Nat) (hd : Nat.ble 2 d = true) (x1 : Int) (a0 b0 : Nat → Nat → Int) (hv0 : iv a0) : jt (jxC E d 38 [.inr (.inr (.inl 141)), .inr (.inl x1)] (jxSH, a0, b0)) (jQ_X1_takeOut x1 a0 b0) := by
  obtain ⟨d, rfl⟩ := jd_succ hd
  refine jt_eq (bq_X1_takeOut E d x1 a0 b0) ?_
  exact cp_X1_takeOut_19 E d hd x1 a0 b0 hv0 (jxwl ((jxshll (jxshrl (jxwl ((jxwl (x1 + 281474976710656)) - 1)) 48) 48) - x1)) a0 hv0 (jfr_rf _ _)
def jW_X1_payAtLeast : List (Nat × Nat) := [(143, 9999), (144, 9999)]
abbrev jQ_X1_payAtLeast (x1 : Int) (a0 b0 : Nat → Nat → Int) : List jxV → (Nat → Nat → Int) → (Nat → Nat → Int) → Prop := rI (fun r a b => (iv a) ∧ (jfr jW_X1_payAtLeast a0 a))
theorem cp_X1_payAtLeast_54 (E : jxE) (d : Nat) (hd : Nat.ble 5 (d + 1) = true) (x1 : Int) (a0 b0 : Nat → Nat → Int) (hv0 : iv a0) : ∀ (y3 : Int) (a b : Nat → Nat → Int), iv a → jfr jW_X1_payAtLeast a0 a → 0 ≤ y3 → y3 ≤ 1399 → jt (jxX E d 33 54 [none, none, none, some (.inl y3)] [] (jxSH, a, b)) (jQ_X1_payAtLeast x1 a0 b0) := by
  intro y3 a b hv hf hi0 hi1
  refine jt_eq (bq_X1_payAtLeast_54 E d y3 a b) ?_
  exact jt_rI ⟨hv, hf⟩
theorem cp_X1_payAtLeast_26 (E : jxE) (d : Nat) (hd : Nat.ble 5 (d + 1) = true) (x1 : Int) (a0 b0 : Nat → Nat → Int) (hv0 : iv a0) : ∀ n : Nat, (∀ (y2 y3 : Int) (a b : Nat → Nat → Int), (((1400 - y3) * 1) + 0).toNat ≤ n → iv a → jfr jW_X1_payAtLeast a0 a → y2 ≤ 1399 → 0 ≤ y3 → jt (jxX E d 33 26 [some (.inr (.inr (.inl 141))), none, some (.inl y2), some (.inl y3)] [] (jxSH, a, b)) (jQ_X1_payAtLeast x1 a0 b0)) := by
  refine jx_ind fun n ih => ?_
  have ih26 : ∀ (y2 y3 : Int) (a b : Nat → Nat → Int), (((1400 - y3) * 1) + 0).toNat < n → iv a → jfr jW_X1_payAtLeast a0 a → y2 ≤ 1399 → 0 ≤ y3 → jt (jxX E d 33 26 [some (.inr (.inr (.inl 141))), none, some (.inl y2), some (.inl y3)] [] (jxSH, a, b)) (jQ_X1_payAtLeast x1 a0 b0) := fun y2 y3 a b hlt i0 i1 i2 i3 => (ih _ hlt) y2 y3 a b (Nat.le_refl _) i0 i1 i2 i3
  have hc26 : ∀ (y2 y3 : Int) (a b : Nat → Nat → Int), (((1400 - y3) * 1) + 0).toNat ≤ n → iv a → jfr jW_X1_payAtLeast a0 a → y2 ≤ 1399 → 0 ≤ y3 → jt (jxX E d 33 26 [some (.inr (.inr (.inl 141))), none, some (.inl y2), some (.inl y3)] [] (jxSH, a, b)) (jQ_X1_payAtLeast x1 a0 b0) := by
    intro y2 y3 a b hm hv hf hi0 hi1
    refine jt_eq (bq_X1_payAtLeast_26 E d y2 y3 a b) ?_
    refine jt_ite (fun c1308_ => ?_) (fun c1308_ => ?_)
    ·
      exact jt_rI ⟨hv, hf⟩
    ·
      refine jt_grd (by omega) ?_
      have h1309_ := jxlcmp_b (b 145 (y3.toNat)) 4611686018427387904
      refine jt_ite (fun c1310_ => ?_) (fun c1310_ => ?_)
      ·
        have h1311_ : jxw (y3 + 1) = y3 + 1 := jxw_id (by omega) (by omega)
        exact ih26 y2 (jxw (y3 + 1)) a b (show (((1400 - (jxw (y3 + 1))) * 1) + 0).toNat < n from by omega) hv hf (show y2 ≤ 1399 from by omega) (show 0 ≤ jxw (y3 + 1) from by omega)
      ·
        refine jt_grd (by omega) ?_
        refine jt_bV (sp_X1_takeOut E d (jd_le hd rfl) (b 145 (y3.toNat)) a b hv) (fun a1312_ b1312_ h1312_ => ?_)
        obtain ⟨hv1312_, hf1312_, rfl⟩ := h1312_
        have hf1313_ : jfr jW_X1_payAtLeast a0 a1312_ := jfr_tr hf hf1312_ rfl
        exact cp_X1_payAtLeast_54 E d hd x1 a0 b0 hv0 y3 a1312_ b hv1312_ hf1313_ (show 0 ≤ y3 from by omega) (show y3 ≤ 1399 from by omega)
  exact hc26
theorem sp_X1_payAtLeast (E : jxE) (d : Nat) (hd : Nat.ble 5 d = true) (x1 : Int) (a0 b0 : Nat → Nat → Int) (hv0 : iv a0) : jt (jxC E d 33 [.inr (.inr (.inl 141)), .inl x1] (jxSH, a0, b0)) (jQ_X1_payAtLeast x1 a0 b0) := by
  obtain ⟨d, rfl⟩ := jd_succ hd
  refine jt_eq (bq_X1_payAtLeast E d x1 a0 b0) ?_
  refine jt_bI (sp_X1_dearestStamp E d (jd_le hd rfl) a0 b0 hv0) (fun r1314_ a1314_ b1314_ h1314_ => ?_)
  obtain ⟨rfl, rfl⟩ := h1314_
  refine jt_eI (eq_J9_min_7cf53 E d (jd_le hd rfl) (jxw ((jxw (x1 + r1314_)) - 1)) 1399 a0 b0) ?_
  refine jt_bV (sp_X1_findBestWays E d (jd_le hd rfl) (f_J9_min_7cf53 a0 b0 (jxw ((jxw (x1 + r1314_)) - 1)) 1399) a0 b0 hv0) (fun a1315_ b1315_ h1315_ => ?_)
  subst h1315_
  refine jt_eI (eq_J9_max_7cf53 E d (jd_le hd rfl) x1 0 a0 b1315_) ?_
  have h1316_ := jxw_im (x1 + r1314_)
  have h1317_ := jxw_rg (x1 + r1314_)
  have h1318_ := jxw_im ((jxw (x1 + r1314_)) - 1)
  have h1319_ := jxw_rg ((jxw (x1 + r1314_)) - 1)
  have h1320_ := f_J9_min_7cf53_eq a0 b0 (jxw ((jxw (x1 + r1314_)) - 1)) 1399
  have h1321_ := f_J9_max_7cf53_eq a0 b1315_ x1 0
  exact (cp_X1_payAtLeast_26 E d hd x1 a0 b0 hv0 _) (f_J9_min_7cf53 a0 b0 (jxw ((jxw (x1 + r1314_)) - 1)) 1399) (f_J9_max_7cf53 a0 b1315_ x1 0) a0 b1315_ (Nat.le_refl _) hv0 (jfr_rf _ _) (show f_J9_min_7cf53 a0 b0 (jxw ((jxw (x1 + r1314_)) - 1)) 1399 ≤ 1399 from by omega) (show 0 ≤ f_J9_max_7cf53 a0 b1315_ x1 0 from by omega)
abbrev jQ_X9_holdingOn (x1 : Int) (a0 b0 : Nat → Nat → Int) : List jxV → (Nat → Nat → Int) → (Nat → Nat → Int) → Prop := rI (fun r a b => (a0 = a) ∧ (b0 = b) ∧ ((a0 105 5 = 0 → r = 0 - 1)) ∧ (r = HO (a0 106) x1 (a0 105 5).toNat))
theorem cp_X9_holdingOn_4 (E : jxE) (d : Nat) (hd : Nat.ble 1 (d + 1) = true) (x1 : Int) (a0 b0 : Nat → Nat → Int) (hv0 : iv a0) : ∀ n : Nat, (∀ (y1 y2 y3 : Int), (((10 - y3) * 1) + 0).toNat ≤ n → 0 - 1 ≤ y2 → y2 ≤ 9 → 0 ≤ y3 → y3 ≤ 9 → 1 ≤ a0 105 5 → (y1 = x1) → y3 < a0 105 5 → (y2 = HO (a0 106) x1 (y3.toNat + 1)) → jt (jxX E d 139 44 [some (.inr (.inr (.inl 105))), some (.inl y1), some (.inl y2), some (.inl y3)] [] (jxSH, a0, b0)) (jQ_X9_holdingOn x1 a0 b0)) ∧ (∀ (y1 y3 : Int), (((10 - y3) * 1) + 0).toNat ≤ n → 0 ≤ y3 → y3 ≤ 9 → 1 ≤ a0 105 5 → (y1 = x1) → y3 < a0 105 5 → (HO (a0 106) x1 (y3.toNat + 1) = y3) → jt (jxX E d 139 42 [some (.inr (.inr (.inl 105))), some (.inl y1), none, some (.inl y3)] [] (jxSH, a0, b0)) (jQ_X9_holdingOn x1 a0 b0)) ∧ (∀ (y1 y2 y3 : Int), (((10 - y3) * 1) + 0).toNat ≤ n → 0 - 1 ≤ y2 → y2 ≤ 9 → 0 ≤ y3 → y3 ≤ 10 → (a0 105 5 = 0 → y2 = 0 - 1) → (y1 = x1) → y3 ≤ a0 105 5 → (y2 = HO (a0 106) x1 y3.toNat) → jt (jxX E d 139 4 [some (.inr (.inr (.inl 105))), some (.inl y1), some (.inl y2), some (.inl y3)] [] (jxSH, a0, b0)) (jQ_X9_holdingOn x1 a0 b0)) := by
  refine jx_ind fun n ih => ?_
  have ih44 : ∀ (y1 y2 y3 : Int), (((10 - y3) * 1) + 0).toNat < n → 0 - 1 ≤ y2 → y2 ≤ 9 → 0 ≤ y3 → y3 ≤ 9 → 1 ≤ a0 105 5 → (y1 = x1) → y3 < a0 105 5 → (y2 = HO (a0 106) x1 (y3.toNat + 1)) → jt (jxX E d 139 44 [some (.inr (.inr (.inl 105))), some (.inl y1), some (.inl y2), some (.inl y3)] [] (jxSH, a0, b0)) (jQ_X9_holdingOn x1 a0 b0) := fun y1 y2 y3 hlt i0 i1 i2 i3 i4 i5 i6 i7 => (ih _ hlt).1 y1 y2 y3 (Nat.le_refl _) i0 i1 i2 i3 i4 i5 i6 i7
  have ih42 : ∀ (y1 y3 : Int), (((10 - y3) * 1) + 0).toNat < n → 0 ≤ y3 → y3 ≤ 9 → 1 ≤ a0 105 5 → (y1 = x1) → y3 < a0 105 5 → (HO (a0 106) x1 (y3.toNat + 1) = y3) → jt (jxX E d 139 42 [some (.inr (.inr (.inl 105))), some (.inl y1), none, some (.inl y3)] [] (jxSH, a0, b0)) (jQ_X9_holdingOn x1 a0 b0) := fun y1 y3 hlt i0 i1 i2 i3 i4 i5 => (ih _ hlt).2.1 y1 y3 (Nat.le_refl _) i0 i1 i2 i3 i4 i5
  have ih4 : ∀ (y1 y2 y3 : Int), (((10 - y3) * 1) + 0).toNat < n → 0 - 1 ≤ y2 → y2 ≤ 9 → 0 ≤ y3 → y3 ≤ 10 → (a0 105 5 = 0 → y2 = 0 - 1) → (y1 = x1) → y3 ≤ a0 105 5 → (y2 = HO (a0 106) x1 y3.toNat) → jt (jxX E d 139 4 [some (.inr (.inr (.inl 105))), some (.inl y1), some (.inl y2), some (.inl y3)] [] (jxSH, a0, b0)) (jQ_X9_holdingOn x1 a0 b0) := fun y1 y2 y3 hlt i0 i1 i2 i3 i4 i5 i6 i7 => (ih _ hlt).2.2 y1 y2 y3 (Nat.le_refl _) i0 i1 i2 i3 i4 i5 i6 i7
  have hc44 : ∀ (y1 y2 y3 : Int), (((10 - y3) * 1) + 0).toNat ≤ n → 0 - 1 ≤ y2 → y2 ≤ 9 → 0 ≤ y3 → y3 ≤ 9 → 1 ≤ a0 105 5 → (y1 = x1) → y3 < a0 105 5 → (y2 = HO (a0 106) x1 (y3.toNat + 1)) → jt (jxX E d 139 44 [some (.inr (.inr (.inl 105))), some (.inl y1), some (.inl y2), some (.inl y3)] [] (jxSH, a0, b0)) (jQ_X9_holdingOn x1 a0 b0) := by
    intro y1 y2 y3 hm hi0 hi1 hi2 hi3 hi4 hy1 hi6 hho
    refine jt_eq (bq_X9_holdingOn_44 E d y1 y2 y3 a0 b0) ?_
    have h1322_ := iv_get hv0 (k := 105) (j := 5) (l := 0) (u := 10) rfl
    have h1323_ : jxw (y3 + 1) = y3 + 1 := jxw_id (by omega) (by omega)
    exact ih4 y1 y2 (jxw (y3 + 1)) (show (((10 - (jxw (y3 + 1))) * 1) + 0).toNat < n from by omega) (show 0 - 1 ≤ y2 from by omega) (show y2 ≤ 9 from by omega) (show 0 ≤ jxw (y3 + 1) from by omega) (show jxw (y3 + 1) ≤ 10 from by omega) (show (a0 105 5 = 0 → y2 = 0 - 1) from by omega) (by first | rfl | assumption) (show jxw (y3 + 1) ≤ a0 105 5 from by omega) (by first | rfl | (rw [show (jxw (y3 + 1)).toNat = y3.toNat + 1 from by omega]; exact hho))
  have hc42 : ∀ (y1 y3 : Int), (((10 - y3) * 1) + 0).toNat ≤ n → 0 ≤ y3 → y3 ≤ 9 → 1 ≤ a0 105 5 → (y1 = x1) → y3 < a0 105 5 → (HO (a0 106) x1 (y3.toNat + 1) = y3) → jt (jxX E d 139 42 [some (.inr (.inr (.inl 105))), some (.inl y1), none, some (.inl y3)] [] (jxSH, a0, b0)) (jQ_X9_holdingOn x1 a0 b0) := by
    intro y1 y3 hm hi0 hi1 hi2 hy1 hi4 hh
    refine jt_eq (bq_X9_holdingOn_42 E d y1 y3 a0 b0) ?_
    have h1324_ := iv_get hv0 (k := 105) (j := 5) (l := 0) (u := 10) rfl
    exact hc44 y1 y3 y3 (show (((10 - y3) * 1) + 0).toNat ≤ n from by omega) (show 0 - 1 ≤ y3 from by omega) (show y3 ≤ 9 from by omega) (show 0 ≤ y3 from by omega) (show y3 ≤ 9 from by omega) (show 1 ≤ a0 105 5 from by omega) (by first | rfl | assumption) (show y3 < a0 105 5 from by omega) (by first | (rw [HO_s2 (Or.inl (by rw [← hy1]; omega))]; exact hho) | (rw [HO_s2 (Or.inr ⟨by rw [← hho]; omega, by rw [← hho]; omega⟩)]; exact hho) | exact hh.symm)
  have hc4 : ∀ (y1 y2 y3 : Int), (((10 - y3) * 1) + 0).toNat ≤ n → 0 - 1 ≤ y2 → y2 ≤ 9 → 0 ≤ y3 → y3 ≤ 10 → (a0 105 5 = 0 → y2 = 0 - 1) → (y1 = x1) → y3 ≤ a0 105 5 → (y2 = HO (a0 106) x1 y3.toNat) → jt (jxX E d 139 4 [some (.inr (.inr (.inl 105))), some (.inl y1), some (.inl y2), some (.inl y3)] [] (jxSH, a0, b0)) (jQ_X9_holdingOn x1 a0 b0) := by
    intro y1 y2 y3 hm hi0 hi1 hi2 hi3 hi4 hy1 hi6 hho
    refine jt_eq (bq_X9_holdingOn_4 E d y1 y2 y3 a0 b0) ?_
    have h1325_ := iv_get hv0 (k := 105) (j := 5) (l := 0) (u := 10) rfl
    refine jt_ite (fun c1326_ => ?_) (fun c1326_ => ?_)
    ·
      refine jt_grd (by omega) ?_
      refine jt_ite (fun c1327_ => ?_) (fun c1327_ => ?_)
      ·
        exact hc44 y1 y2 y3 (show (((10 - y3) * 1) + 0).toNat ≤ n from by omega) (show 0 - 1 ≤ y2 from by omega) (show y2 ≤ 9 from by omega) (show 0 ≤ y3 from by omega) (show y3 ≤ 9 from by omega) (show 1 ≤ a0 105 5 from by omega) (by first | rfl | assumption) (show y3 < a0 105 5 from by omega) (by first | (rw [HO_s2 (Or.inl (by rw [← hy1]; omega))]; exact hho) | (rw [HO_s2 (Or.inr ⟨by rw [← hho]; omega, by rw [← hho]; omega⟩)]; exact hho) | exact hh.symm)
      ·
        refine jt_ite (fun c1328_ => ?_) (fun c1328_ => ?_)
        ·
          exact hc42 y1 y3 (show (((10 - y3) * 1) + 0).toNat ≤ n from by omega) (show 0 ≤ y3 from by omega) (show y3 ≤ 9 from by omega) (show 1 ≤ a0 105 5 from by omega) (by first | rfl | assumption) (show y3 < a0 105 5 from by omega) (by have e := HO_s1 (f := a0 106) (d := x1) (m := y3.toNat) (by rw [← hy1]; omega) (by rw [← hho]; first | (left; omega) | (right; omega)); rw [e]; omega)
        ·
          refine jt_grd (by omega) ?_
          refine jt_grd (by omega) ?_
          refine jt_ite (fun c1329_ => ?_) (fun c1329_ => ?_)
          ·
            exact hc44 y1 y2 y3 (show (((10 - y3) * 1) + 0).toNat ≤ n from by omega) (show 0 - 1 ≤ y2 from by omega) (show y2 ≤ 9 from by omega) (show 0 ≤ y3 from by omega) (show y3 ≤ 9 from by omega) (show 1 ≤ a0 105 5 from by omega) (by first | rfl | assumption) (show y3 < a0 105 5 from by omega) (by first | (rw [HO_s2 (Or.inl (by rw [← hy1]; omega))]; exact hho) | (rw [HO_s2 (Or.inr ⟨by rw [← hho]; omega, by rw [← hho]; omega⟩)]; exact hho) | exact hh.symm)
          ·
            exact hc42 y1 y3 (show (((10 - y3) * 1) + 0).toNat ≤ n from by omega) (show 0 ≤ y3 from by omega) (show y3 ≤ 9 from by omega) (show 1 ≤ a0 105 5 from by omega) (by first | rfl | assumption) (show y3 < a0 105 5 from by omega) (by have e := HO_s1 (f := a0 106) (d := x1) (m := y3.toNat) (by rw [← hy1]; omega) (by rw [← hho]; first | (left; omega) | (right; omega)); rw [e]; omega)
    ·
      exact jt_rI ⟨rfl, rfl, (show (a0 105 5 = 0 → y2 = 0 - 1) from by omega), (by rw [show (a0 105 5).toNat = y3.toNat from by omega]; exact hho)⟩
  exact ⟨hc44, hc42, hc4⟩
theorem sp_X9_holdingOn (E : jxE) (d : Nat) (hd : Nat.ble 1 d = true) (x1 : Int) (a0 b0 : Nat → Nat → Int) (hv0 : iv a0) : jt (jxC E d 139 [.inr (.inr (.inl 105)), .inl x1] (jxSH, a0, b0)) (jQ_X9_holdingOn x1 a0 b0) := by
  obtain ⟨d, rfl⟩ := jd_succ hd
  refine jt_eq (bq_X9_holdingOn E d x1 a0 b0) ?_
  have h1330_ := iv_get hv0 (k := 105) (j := 5) (l := 0) (u := 10) rfl
  exact (cp_X9_holdingOn_4 E d hd x1 a0 b0 hv0 _).2.2 x1 (-1) 0 (Nat.le_refl _) (show 0 - 1 ≤ (-1) from by omega) (show (-1) ≤ 9 from by omega) (show 0 ≤ 0 from by omega) (show 0 ≤ 10 from by omega) (show (a0 105 5 = 0 → (-1) = 0 - 1) from by omega) (by first | rfl | assumption) (show 0 ≤ a0 105 5 from by omega) (by first | rfl | (rw [show (jxw (y3 + 1)).toNat = y3.toNat + 1 from by omega]; exact hho))
abbrev jQ_X9_coinsFor (x1 x2 x3 : Int) (a0 b0 : Nat → Nat → Int) : List jxV → (Nat → Nat → Int) → (Nat → Nat → Int) → Prop := rI (fun r a b => (a0 = a) ∧ (b0 = b) ∧ ((a0 105 5 = 0 → r = 0 - 1)) ∧ (r = (if HO (a0 106) x3 (a0 105 5).toNat < 0 then -1 else CO (fun c => a0 108 ((HO (a0 106) x3 (a0 105 5).toNat).toNat * 12 + c)) (fun c => a0 119 ((HO (a0 106) x3 (a0 105 5).toNat).toNat * 12 + c)) (fun c => a0 130 ((HO (a0 106) x3 (a0 105 5).toNat).toNat * 12 + c)) (a0 107 (HO (a0 106) x3 (a0 105 5).toNat).toNat).toNat x1 x2 0)))
theorem cp_X9_coinsFor_26 (E : jxE) (d : Nat) (hd : Nat.ble 2 (d + 1) = true) (x1 x2 x3 : Int) (a0 b0 : Nat → Nat → Int) (hv0 : iv a0) : ∀ n : Nat, (∀ (y1 y2 y4 y5 : Int), (((12 - y5) * 1) + 0).toNat ≤ n → 0 ≤ y4 → y4 ≤ 9 → 0 ≤ y5 → y5 ≤ 11 → (y1 = x1) → (y2 = x2) → (y4 = HO (a0 106) x3 (a0 105 5).toNat) → 0 ≤ y5 → y5 < a0 107 (y4.toNat) → (CO (fun c => a0 108 ((HO (a0 106) x3 (a0 105 5).toNat).toNat * 12 + c)) (fun c => a0 119 ((HO (a0 106) x3 (a0 105 5).toNat).toNat * 12 + c)) (fun c => a0 130 ((HO (a0 106) x3 (a0 105 5).toNat).toNat * 12 + c)) (a0 107 (HO (a0 106) x3 (a0 105 5).toNat).toNat).toNat x1 x2 (y5.toNat + 1) = CO (fun c => a0 108 ((HO (a0 106) x3 (a0 105 5).toNat).toNat * 12 + c)) (fun c => a0 119 ((HO (a0 106) x3 (a0 105 5).toNat).toNat * 12 + c)) (fun c => a0 130 ((HO (a0 106) x3 (a0 105 5).toNat).toNat * 12 + c)) (a0 107 (HO (a0 106) x3 (a0 105 5).toNat).toNat).toNat x1 x2 0) → 1 ≤ a0 105 5 → jt (jxX E d 138 84 [some (.inr (.inr (.inl 105))), some (.inl y1), some (.inl y2), none, some (.inl y4), some (.inl y5)] [] (jxSH, a0, b0)) (jQ_X9_coinsFor x1 x2 x3 a0 b0)) ∧ (∀ (y1 y2 y4 y5 : Int), (((12 - y5) * 1) + 0).toNat ≤ n → 0 ≤ y1 → y1 ≤ 999 → 0 ≤ y4 → y4 ≤ 9 → 0 ≤ y5 → y5 ≤ 11 → (y1 = x1) → (y2 = x2) → (y4 = HO (a0 106) x3 (a0 105 5).toNat) → 0 ≤ y5 → y5 < a0 107 (y4.toNat) → (CO (fun c => a0 108 ((HO (a0 106) x3 (a0 105 5).toNat).toNat * 12 + c)) (fun c => a0 119 ((HO (a0 106) x3 (a0 105 5).toNat).toNat * 12 + c)) (fun c => a0 130 ((HO (a0 106) x3 (a0 105 5).toNat).toNat * 12 + c)) (a0 107 (HO (a0 106) x3 (a0 105 5).toNat).toNat).toNat x1 x2 y5.toNat = CO (fun c => a0 108 ((HO (a0 106) x3 (a0 105 5).toNat).toNat * 12 + c)) (fun c => a0 119 ((HO (a0 106) x3 (a0 105 5).toNat).toNat * 12 + c)) (fun c => a0 130 ((HO (a0 106) x3 (a0 105 5).toNat).toNat * 12 + c)) (a0 107 (HO (a0 106) x3 (a0 105 5).toNat).toNat).toNat x1 x2 0) → (a0 108 (y4.toNat * 12 + y5.toNat) = x1) → 1 ≤ a0 105 5 → jt (jxX E d 138 59 [some (.inr (.inr (.inl 105))), some (.inl y1), some (.inl y2), none, some (.inl y4), some (.inl y5)] [] (jxSH, a0, b0)) (jQ_X9_coinsFor x1 x2 x3 a0 b0)) ∧ (∀ (y1 y2 y4 y5 : Int), (((12 - y5) * 1) + 0).toNat ≤ n → 0 ≤ y4 → y4 ≤ 9 → 0 ≤ y5 → y5 ≤ 12 → (y1 = x1) → (y2 = x2) → (y4 = HO (a0 106) x3 (a0 105 5).toNat) → 0 ≤ y5 → (CO (fun c => a0 108 ((HO (a0 106) x3 (a0 105 5).toNat).toNat * 12 + c)) (fun c => a0 119 ((HO (a0 106) x3 (a0 105 5).toNat).toNat * 12 + c)) (fun c => a0 130 ((HO (a0 106) x3 (a0 105 5).toNat).toNat * 12 + c)) (a0 107 (HO (a0 106) x3 (a0 105 5).toNat).toNat).toNat x1 x2 y5.toNat = CO (fun c => a0 108 ((HO (a0 106) x3 (a0 105 5).toNat).toNat * 12 + c)) (fun c => a0 119 ((HO (a0 106) x3 (a0 105 5).toNat).toNat * 12 + c)) (fun c => a0 130 ((HO (a0 106) x3 (a0 105 5).toNat).toNat * 12 + c)) (a0 107 (HO (a0 106) x3 (a0 105 5).toNat).toNat).toNat x1 x2 0) → 1 ≤ a0 105 5 → jt (jxX E d 138 26 [some (.inr (.inr (.inl 105))), some (.inl y1), some (.inl y2), none, some (.inl y4), some (.inl y5)] [] (jxSH, a0, b0)) (jQ_X9_coinsFor x1 x2 x3 a0 b0)) := by
  refine jx_ind fun n ih => ?_
  have ih84 : ∀ (y1 y2 y4 y5 : Int), (((12 - y5) * 1) + 0).toNat < n → 0 ≤ y4 → y4 ≤ 9 → 0 ≤ y5 → y5 ≤ 11 → (y1 = x1) → (y2 = x2) → (y4 = HO (a0 106) x3 (a0 105 5).toNat) → 0 ≤ y5 → y5 < a0 107 (y4.toNat) → (CO (fun c => a0 108 ((HO (a0 106) x3 (a0 105 5).toNat).toNat * 12 + c)) (fun c => a0 119 ((HO (a0 106) x3 (a0 105 5).toNat).toNat * 12 + c)) (fun c => a0 130 ((HO (a0 106) x3 (a0 105 5).toNat).toNat * 12 + c)) (a0 107 (HO (a0 106) x3 (a0 105 5).toNat).toNat).toNat x1 x2 (y5.toNat + 1) = CO (fun c => a0 108 ((HO (a0 106) x3 (a0 105 5).toNat).toNat * 12 + c)) (fun c => a0 119 ((HO (a0 106) x3 (a0 105 5).toNat).toNat * 12 + c)) (fun c => a0 130 ((HO (a0 106) x3 (a0 105 5).toNat).toNat * 12 + c)) (a0 107 (HO (a0 106) x3 (a0 105 5).toNat).toNat).toNat x1 x2 0) → 1 ≤ a0 105 5 → jt (jxX E d 138 84 [some (.inr (.inr (.inl 105))), some (.inl y1), some (.inl y2), none, some (.inl y4), some (.inl y5)] [] (jxSH, a0, b0)) (jQ_X9_coinsFor x1 x2 x3 a0 b0) := fun y1 y2 y4 y5 hlt i0 i1 i2 i3 i4 i5 i6 i7 i8 i9 i10 => (ih _ hlt).1 y1 y2 y4 y5 (Nat.le_refl _) i0 i1 i2 i3 i4 i5 i6 i7 i8 i9 i10
  have ih59 : ∀ (y1 y2 y4 y5 : Int), (((12 - y5) * 1) + 0).toNat < n → 0 ≤ y1 → y1 ≤ 999 → 0 ≤ y4 → y4 ≤ 9 → 0 ≤ y5 → y5 ≤ 11 → (y1 = x1) → (y2 = x2) → (y4 = HO (a0 106) x3 (a0 105 5).toNat) → 0 ≤ y5 → y5 < a0 107 (y4.toNat) → (CO (fun c => a0 108 ((HO (a0 106) x3 (a0 105 5).toNat).toNat * 12 + c)) (fun c => a0 119 ((HO (a0 106) x3 (a0 105 5).toNat).toNat * 12 + c)) (fun c => a0 130 ((HO (a0 106) x3 (a0 105 5).toNat).toNat * 12 + c)) (a0 107 (HO (a0 106) x3 (a0 105 5).toNat).toNat).toNat x1 x2 y5.toNat = CO (fun c => a0 108 ((HO (a0 106) x3 (a0 105 5).toNat).toNat * 12 + c)) (fun c => a0 119 ((HO (a0 106) x3 (a0 105 5).toNat).toNat * 12 + c)) (fun c => a0 130 ((HO (a0 106) x3 (a0 105 5).toNat).toNat * 12 + c)) (a0 107 (HO (a0 106) x3 (a0 105 5).toNat).toNat).toNat x1 x2 0) → (a0 108 (y4.toNat * 12 + y5.toNat) = x1) → 1 ≤ a0 105 5 → jt (jxX E d 138 59 [some (.inr (.inr (.inl 105))), some (.inl y1), some (.inl y2), none, some (.inl y4), some (.inl y5)] [] (jxSH, a0, b0)) (jQ_X9_coinsFor x1 x2 x3 a0 b0) := fun y1 y2 y4 y5 hlt i0 i1 i2 i3 i4 i5 i6 i7 i8 i9 i10 i11 i12 i13 => (ih _ hlt).2.1 y1 y2 y4 y5 (Nat.le_refl _) i0 i1 i2 i3 i4 i5 i6 i7 i8 i9 i10 i11 i12 i13
  have ih26 : ∀ (y1 y2 y4 y5 : Int), (((12 - y5) * 1) + 0).toNat < n → 0 ≤ y4 → y4 ≤ 9 → 0 ≤ y5 → y5 ≤ 12 → (y1 = x1) → (y2 = x2) → (y4 = HO (a0 106) x3 (a0 105 5).toNat) → 0 ≤ y5 → (CO (fun c => a0 108 ((HO (a0 106) x3 (a0 105 5).toNat).toNat * 12 + c)) (fun c => a0 119 ((HO (a0 106) x3 (a0 105 5).toNat).toNat * 12 + c)) (fun c => a0 130 ((HO (a0 106) x3 (a0 105 5).toNat).toNat * 12 + c)) (a0 107 (HO (a0 106) x3 (a0 105 5).toNat).toNat).toNat x1 x2 y5.toNat = CO (fun c => a0 108 ((HO (a0 106) x3 (a0 105 5).toNat).toNat * 12 + c)) (fun c => a0 119 ((HO (a0 106) x3 (a0 105 5).toNat).toNat * 12 + c)) (fun c => a0 130 ((HO (a0 106) x3 (a0 105 5).toNat).toNat * 12 + c)) (a0 107 (HO (a0 106) x3 (a0 105 5).toNat).toNat).toNat x1 x2 0) → 1 ≤ a0 105 5 → jt (jxX E d 138 26 [some (.inr (.inr (.inl 105))), some (.inl y1), some (.inl y2), none, some (.inl y4), some (.inl y5)] [] (jxSH, a0, b0)) (jQ_X9_coinsFor x1 x2 x3 a0 b0) := fun y1 y2 y4 y5 hlt i0 i1 i2 i3 i4 i5 i6 i7 i8 i9 => (ih _ hlt).2.2 y1 y2 y4 y5 (Nat.le_refl _) i0 i1 i2 i3 i4 i5 i6 i7 i8 i9
  have hc84 : ∀ (y1 y2 y4 y5 : Int), (((12 - y5) * 1) + 0).toNat ≤ n → 0 ≤ y4 → y4 ≤ 9 → 0 ≤ y5 → y5 ≤ 11 → (y1 = x1) → (y2 = x2) → (y4 = HO (a0 106) x3 (a0 105 5).toNat) → 0 ≤ y5 → y5 < a0 107 (y4.toNat) → (CO (fun c => a0 108 ((HO (a0 106) x3 (a0 105 5).toNat).toNat * 12 + c)) (fun c => a0 119 ((HO (a0 106) x3 (a0 105 5).toNat).toNat * 12 + c)) (fun c => a0 130 ((HO (a0 106) x3 (a0 105 5).toNat).toNat * 12 + c)) (a0 107 (HO (a0 106) x3 (a0 105 5).toNat).toNat).toNat x1 x2 (y5.toNat + 1) = CO (fun c => a0 108 ((HO (a0 106) x3 (a0 105 5).toNat).toNat * 12 + c)) (fun c => a0 119 ((HO (a0 106) x3 (a0 105 5).toNat).toNat * 12 + c)) (fun c => a0 130 ((HO (a0 106) x3 (a0 105 5).toNat).toNat * 12 + c)) (a0 107 (HO (a0 106) x3 (a0 105 5).toNat).toNat).toNat x1 x2 0) → 1 ≤ a0 105 5 → jt (jxX E d 138 84 [some (.inr (.inr (.inl 105))), some (.inl y1), some (.inl y2), none, some (.inl y4), some (.inl y5)] [] (jxSH, a0, b0)) (jQ_X9_coinsFor x1 x2 x3 a0 b0) := by
    intro y1 y2 y4 y5 hm hi0 hi1 hi2 hi3 hy1 hy2 hhy hi7 hi8 hco hi10
    refine jt_eq (bq_X9_coinsFor_84 E d y1 y2 y4 y5 a0 b0) ?_
    have h1331_ := iv_get hv0 (k := 107) (j := y4.toNat) (l := 0) (u := 12) rfl
    have h1332_ := iv_get hv0 (k := 105) (j := 5) (l := 0) (u := 10) rfl
    have h1333_ : jxw (y5 + 1) = y5 + 1 := jxw_id (by omega) (by omega)
    exact ih26 y1 y2 y4 (jxw (y5 + 1)) (show (((12 - (jxw (y5 + 1))) * 1) + 0).toNat < n from by omega) (show 0 ≤ y4 from by omega) (show y4 ≤ 9 from by omega) (show 0 ≤ jxw (y5 + 1) from by omega) (show jxw (y5 + 1) ≤ 12 from by omega) (by first | rfl | assumption) (by first | rfl | assumption) (by first | exact hhy | exact hq0_1) (show 0 ≤ jxw (y5 + 1) from by omega) (by first | rfl | (rw [show (jxw (y5 + 1)).toNat = y5.toNat + 1 from by omega]; exact hco)) (show 1 ≤ a0 105 5 from by omega)
  have hc59 : ∀ (y1 y2 y4 y5 : Int), (((12 - y5) * 1) + 0).toNat ≤ n → 0 ≤ y1 → y1 ≤ 999 → 0 ≤ y4 → y4 ≤ 9 → 0 ≤ y5 → y5 ≤ 11 → (y1 = x1) → (y2 = x2) → (y4 = HO (a0 106) x3 (a0 105 5).toNat) → 0 ≤ y5 → y5 < a0 107 (y4.toNat) → (CO (fun c => a0 108 ((HO (a0 106) x3 (a0 105 5).toNat).toNat * 12 + c)) (fun c => a0 119 ((HO (a0 106) x3 (a0 105 5).toNat).toNat * 12 + c)) (fun c => a0 130 ((HO (a0 106) x3 (a0 105 5).toNat).toNat * 12 + c)) (a0 107 (HO (a0 106) x3 (a0 105 5).toNat).toNat).toNat x1 x2 y5.toNat = CO (fun c => a0 108 ((HO (a0 106) x3 (a0 105 5).toNat).toNat * 12 + c)) (fun c => a0 119 ((HO (a0 106) x3 (a0 105 5).toNat).toNat * 12 + c)) (fun c => a0 130 ((HO (a0 106) x3 (a0 105 5).toNat).toNat * 12 + c)) (a0 107 (HO (a0 106) x3 (a0 105 5).toNat).toNat).toNat x1 x2 0) → (a0 108 (y4.toNat * 12 + y5.toNat) = x1) → 1 ≤ a0 105 5 → jt (jxX E d 138 59 [some (.inr (.inr (.inl 105))), some (.inl y1), some (.inl y2), none, some (.inl y4), some (.inl y5)] [] (jxSH, a0, b0)) (jQ_X9_coinsFor x1 x2 x3 a0 b0) := by
    intro y1 y2 y4 y5 hm hi0 hi1 hi2 hi3 hi4 hi5 hy1 hy2 hhy hi9 hi10 hco hz hi13
    refine jt_eq (bq_X9_coinsFor_59 E d y1 y2 y4 y5 a0 b0) ?_
    have h1334_ := iv_get hv0 (k := 107) (j := y4.toNat) (l := 0) (u := 12) rfl
    have h1335_ := iv_get hv0 (k := 105) (j := 5) (l := 0) (u := 10) rfl
    refine jt_grd (by omega) ?_
    refine jt_grd (by omega) ?_
    refine jt_grd (by omega) ?_
    have h1336_ := iv_get hv0 (k := 119) (j := (y4.toNat) * 12 + (y5.toNat)) (l := 0) (u := 999) rfl
    refine jt_ite (fun c1337_ => ?_) (fun c1337_ => ?_)
    ·
      exact hc84 y1 y2 y4 y5 (show (((12 - y5) * 1) + 0).toNat ≤ n from by omega) (show 0 ≤ y4 from by omega) (show y4 ≤ 9 from by omega) (show 0 ≤ y5 from by omega) (show y5 ≤ 11 from by omega) (by first | rfl | assumption) (by first | rfl | assumption) (by first | exact hhy | exact hq0_1) (show 0 ≤ y5 from by omega) (show y5 < a0 107 (y4.toNat) from by omega) (by rw [← hco]; rw [← hhy]; refine (CO_on (by omega) ?_).symm; first | (left; rw [← hy1]; assumption) | (right; rw [← hy2]; assumption)) (show 1 ≤ a0 105 5 from by omega)
    ·
      refine jt_grd (by omega) ?_
      refine jt_grd (by omega) ?_
      refine jt_grd (by omega) ?_
      have h1338_ := iv_get hv0 (k := 130) (j := (y4.toNat) * 12 + (y5.toNat)) (l := 0) (u := 999) rfl
      exact jt_rI ⟨rfl, rfl, (show (a0 105 5 = 0 → a0 130 ((y4.toNat) * 12 + (y5.toNat)) = 0 - 1) from by omega), (by first | exact absurd (by omega : False) id | (rw [← hhy, if_neg (by omega)]; have h := hco; rw [← hhy] at h; rw [← h]; first | (rw [CO_end (by omega)]) | exact (CO_hit (z := fun c => a0 108 (y4.toNat * 12 + c)) (g := fun c => a0 119 (y4.toNat * 12 + c)) (k := fun c => a0 130 (y4.toNat * 12 + c)) (c := y5.toNat) (by omega) hz (by show x2 ≤ a0 119 (y4.toNat * 12 + y5.toNat); omega)).symm))⟩
  have hc26 : ∀ (y1 y2 y4 y5 : Int), (((12 - y5) * 1) + 0).toNat ≤ n → 0 ≤ y4 → y4 ≤ 9 → 0 ≤ y5 → y5 ≤ 12 → (y1 = x1) → (y2 = x2) → (y4 = HO (a0 106) x3 (a0 105 5).toNat) → 0 ≤ y5 → (CO (fun c => a0 108 ((HO (a0 106) x3 (a0 105 5).toNat).toNat * 12 + c)) (fun c => a0 119 ((HO (a0 106) x3 (a0 105 5).toNat).toNat * 12 + c)) (fun c => a0 130 ((HO (a0 106) x3 (a0 105 5).toNat).toNat * 12 + c)) (a0 107 (HO (a0 106) x3 (a0 105 5).toNat).toNat).toNat x1 x2 y5.toNat = CO (fun c => a0 108 ((HO (a0 106) x3 (a0 105 5).toNat).toNat * 12 + c)) (fun c => a0 119 ((HO (a0 106) x3 (a0 105 5).toNat).toNat * 12 + c)) (fun c => a0 130 ((HO (a0 106) x3 (a0 105 5).toNat).toNat * 12 + c)) (a0 107 (HO (a0 106) x3 (a0 105 5).toNat).toNat).toNat x1 x2 0) → 1 ≤ a0 105 5 → jt (jxX E d 138 26 [some (.inr (.inr (.inl 105))), some (.inl y1), some (.inl y2), none, some (.inl y4), some (.inl y5)] [] (jxSH, a0, b0)) (jQ_X9_coinsFor x1 x2 x3 a0 b0) := by
    intro y1 y2 y4 y5 hm hi0 hi1 hi2 hi3 hy1 hy2 hhy hi7 hco hi9
    refine jt_eq (bq_X9_coinsFor_26 E d y1 y2 y4 y5 a0 b0) ?_
    have h1339_ := iv_get hv0 (k := 105) (j := 5) (l := 0) (u := 10) rfl
    refine jt_grd (by omega) ?_
    have h1340_ := iv_get hv0 (k := 107) (j := y4.toNat) (l := 0) (u := 12) rfl
    refine jt_ite (fun c1341_ => ?_) (fun c1341_ => ?_)
    ·
      refine jt_ite (fun c1342_ => ?_) (fun c1342_ => ?_)
      ·
        refine jt_grd (by omega) ?_
        refine jt_grd (by omega) ?_
        refine jt_grd (by omega) ?_
        have h1343_ := iv_get hv0 (k := 108) (j := (y4.toNat) * 12 + (y5.toNat)) (l := 0) (u := 999) rfl
        refine jt_ite (fun c1344_ => ?_) (fun c1344_ => ?_)
        ·
          exact hc59 y1 y2 y4 y5 (show (((12 - y5) * 1) + 0).toNat ≤ n from by omega) (show 0 ≤ y1 from by omega) (show y1 ≤ 999 from by omega) (show 0 ≤ y4 from by omega) (show y4 ≤ 9 from by omega) (show 0 ≤ y5 from by omega) (show y5 ≤ 11 from by omega) (by first | rfl | assumption) (by first | rfl | assumption) (by first | exact hhy | exact hq0_1) (show 0 ≤ y5 from by omega) (show y5 < a0 107 (y4.toNat) from by omega) hco (by rw [← hy1]; assumption) (show 1 ≤ a0 105 5 from by omega)
        ·
          exact hc84 y1 y2 y4 y5 (show (((12 - y5) * 1) + 0).toNat ≤ n from by omega) (show 0 ≤ y4 from by omega) (show y4 ≤ 9 from by omega) (show 0 ≤ y5 from by omega) (show y5 ≤ 11 from by omega) (by first | rfl | assumption) (by first | rfl | assumption) (by first | exact hhy | exact hq0_1) (show 0 ≤ y5 from by omega) (show y5 < a0 107 (y4.toNat) from by omega) (by rw [← hco]; rw [← hhy]; refine (CO_on (by omega) ?_).symm; first | (left; rw [← hy1]; assumption) | (right; rw [← hy2]; assumption)) (show 1 ≤ a0 105 5 from by omega)
      ·
        exact jt_rI ⟨rfl, rfl, (show (a0 105 5 = 0 → (-1) = 0 - 1) from by omega), (by first | exact absurd (by omega : False) id | (rw [← hhy, if_neg (by omega)]; have h := hco; rw [← hhy] at h; rw [← h]; first | (rw [CO_end (by omega)]) | exact (CO_hit (z := fun c => a0 108 (y4.toNat * 12 + c)) (g := fun c => a0 119 (y4.toNat * 12 + c)) (k := fun c => a0 130 (y4.toNat * 12 + c)) (c := y5.toNat) (by omega) hz (by show x2 ≤ a0 119 (y4.toNat * 12 + y5.toNat); omega)).symm))⟩
    ·
      exact jt_rI ⟨rfl, rfl, (show (a0 105 5 = 0 → (-1) = 0 - 1) from by omega), (by first | exact absurd (by omega : False) id | (rw [← hhy, if_neg (by omega)]; have h := hco; rw [← hhy] at h; rw [← h]; first | (rw [CO_end (by omega)]) | exact (CO_hit (z := fun c => a0 108 (y4.toNat * 12 + c)) (g := fun c => a0 119 (y4.toNat * 12 + c)) (k := fun c => a0 130 (y4.toNat * 12 + c)) (c := y5.toNat) (by omega) hz (by show x2 ≤ a0 119 (y4.toNat * 12 + y5.toNat); omega)).symm))⟩
  exact ⟨hc84, hc59, hc26⟩
theorem sp_X9_coinsFor (E : jxE) (d : Nat) (hd : Nat.ble 2 d = true) (x1 x2 x3 : Int) (a0 b0 : Nat → Nat → Int) (hv0 : iv a0) : jt (jxC E d 138 [.inr (.inr (.inl 105)), .inl x1, .inl x2, .inl x3] (jxSH, a0, b0)) (jQ_X9_coinsFor x1 x2 x3 a0 b0) := by
  obtain ⟨d, rfl⟩ := jd_succ hd
  refine jt_eq (bq_X9_coinsFor E d x1 x2 x3 a0 b0) ?_
  refine jt_bI (sp_X9_holdingOn E d (jd_le hd rfl) x3 a0 b0 hv0) (fun r1345_ a1345_ b1345_ h1345_ => ?_)
  obtain ⟨rfl, rfl, hq1345_0, hq1345_1⟩ := h1345_
  have h1346_ := iv_get hv0 (k := 105) (j := 5) (l := 0) (u := 10) rfl
  refine jt_ite (fun c1347_ => ?_) (fun c1347_ => ?_)
  ·
    exact jt_rI ⟨rfl, rfl, (show (a0 105 5 = 0 → (-1) = 0 - 1) from by omega), (by first | (rw [← hq1345_1, if_pos (by omega)]) | exact absurd (by have q := HO_bd (a0 106) x3 (a0 105 5).toNat; rw [← hq1345_1] at q; omega : False) id)⟩
  ·
    refine jt_ite (fun c1348_ => ?_) (fun c1348_ => ?_)
    ·
      exact (cp_X9_coinsFor_26 E d hd x1 x2 x3 a0 b0 hv0 _).2.2 x1 x2 r1345_ 0 (Nat.le_refl _) (show 0 ≤ r1345_ from by omega) (show r1345_ ≤ 9 from by omega) (show 0 ≤ 0 from by omega) (show 0 ≤ 12 from by omega) (by first | rfl | assumption) (by first | rfl | assumption) (by first | exact hhy | exact hq1345_1) (show 0 ≤ 0 from by omega) (by first | rfl | (rw [show (jxw (y5 + 1)).toNat = y5.toNat + 1 from by omega]; exact hco)) (show 1 ≤ a0 105 5 from by omega)
    ·
      exact jt_rI ⟨rfl, rfl, (show (a0 105 5 = 0 → (-1) = 0 - 1) from by omega), (by first | (rw [← hq1345_1, if_pos (by omega)]) | exact absurd (by have q := HO_bd (a0 106) x3 (a0 105 5).toNat; rw [← hq1345_1] at q; omega : False) id)⟩
def jW_X11_pay : List (Nat × Nat) := [(143, 9999), (144, 9999)]
abbrev jQ_X11_pay (x1 x2 : Int) (a0 b0 : Nat → Nat → Int) : List jxV → (Nat → Nat → Int) → (Nat → Nat → Int) → Prop := rI (fun r a b => (iv a) ∧ (jfr jW_X11_pay a0 a) ∧ ((a0 58 8 = 0 → r = 0 - 1)))
theorem cp_X11_pay_78 (E : jxE) (d : Nat) (hd : Nat.ble 6 (d + 1) = true) (x1 x2 : Int) (a0 b0 : Nat → Nat → Int) (hv0 : iv a0) : ∀ (y5 : Int) (a b : Nat → Nat → Int), iv a → jfr jW_X11_pay a0 a → 1 ≤ a0 58 8 → jt (jxX E d 194 78 [some (.inr (.inr (.inl 0))), none, none, none, none, some (.inl y5), none] [] (jxSH, a, b)) (jQ_X11_pay x1 x2 a0 b0) := by
  intro y5 a b hv hf hi0
  refine jt_eq (bq_X11_pay_78 E d y5 a b) ?_
  have h1349_ := iv_get hv0 (k := 58) (j := 8) (l := 0) (u := 300) rfl
  refine jt_ite (fun c1350_ => ?_) (fun c1350_ => ?_)
  ·
    exact jt_rI ⟨hv, hf, (show (a0 58 8 = 0 → (-2) = 0 - 1) from by omega)⟩
  ·
    refine jt_bI (sp_X1_payAtLeast E d (jd_le hd rfl) y5 a b hv) (fun r1351_ a1351_ b1351_ h1351_ => ?_)
    obtain ⟨hv1351_, hf1351_⟩ := h1351_
    refine jt_ite (fun c1352_ => ?_) (fun c1352_ => ?_)
    ·
      have hf1353_ : jfr jW_X11_pay a0 a1351_ := jfr_tr hf hf1351_ rfl
      exact jt_rI ⟨hv1351_, hf1353_, (show (a0 58 8 = 0 → (-3) = 0 - 1) from by omega)⟩
    ·
      have hf1354_ : jfr jW_X11_pay a0 a1351_ := jfr_tr hf hf1351_ rfl
      exact jt_rI ⟨hv1351_, hf1354_, (show (a0 58 8 = 0 → r1351_ = 0 - 1) from by omega)⟩
theorem cp_X11_pay_40 (E : jxE) (d : Nat) (hd : Nat.ble 6 (d + 1) = true) (x1 x2 : Int) (a0 b0 : Nat → Nat → Int) (hv0 : iv a0) : ∀ (y1 y2 y3 : Int) (a b : Nat → Nat → Int), iv a → jfr jW_X11_pay a0 a → 0 ≤ y1 → y1 ≤ 299 → 1 ≤ y2 → y2 ≤ 500 → 1 ≤ a0 58 8 → jt (jxX E d 194 40 [some (.inr (.inr (.inl 0))), some (.inl y1), some (.inl y2), some (.inl y3), none, none, none] [] (jxSH, a, b)) (jQ_X11_pay x1 x2 a0 b0) := by
  intro y1 y2 y3 a b hv hf hi0 hi1 hi2 hi3 hi4
  refine jt_eq (bq_X11_pay_40 E d y1 y2 y3 a b) ?_
  have h1355_ := iv_get hv0 (k := 58) (j := 8) (l := 0) (u := 300) rfl
  refine jt_eI (eq_X0_toOf E d (jd_le hd rfl) y1 a b) ?_
  refine jt_eI (eq_X3_landOf E d (jd_le hd rfl) (f_X0_toOf a b y1) a b) ?_
  refine jt_eI (eq_X11_zone E d (jd_le hd rfl) y3 (f_X3_landOf a b (f_X0_toOf a b y1)) a b) ?_
  refine jt_bI (sp_X9_coinsFor E d (jd_le hd rfl) (f_X11_zone a b y3 (f_X3_landOf a b (f_X0_toOf a b y1))) y2 (a 0 0) a b hv) (fun r1356_ a1356_ b1356_ h1356_ => ?_)
  obtain ⟨rfl, rfl, hq1356_0, hq1356_1⟩ := h1356_
  have h1357_ := iv_get hv (k := 105) (j := 5) (l := 0) (u := 10) rfl
  have h1358_ : a 105 5 = a0 105 5 := hf 105 5 rfl
  have h1359_ := iv_get hv0 (k := 105) (j := 5) (l := 0) (u := 10) rfl
  exact cp_X11_pay_78 E d hd x1 x2 a0 b0 hv0 r1356_ a b hv hf (show 1 ≤ a0 58 8 from by omega)
theorem sp_X11_pay (E : jxE) (d : Nat) (hd : Nat.ble 6 d = true) (x1 x2 : Int) (a0 b0 : Nat → Nat → Int) (hv0 : iv a0) : jt (jxC E d 194 [.inr (.inr (.inl 0)), .inl x1, .inl x2] (jxSH, a0, b0)) (jQ_X11_pay x1 x2 a0 b0) := by
  obtain ⟨d, rfl⟩ := jd_succ hd
  refine jt_eq (bq_X11_pay E d x1 x2 a0 b0) ?_
  refine jt_eI (eq_X0_has E d (jd_le hd rfl) x1 a0 b0) ?_
  have h1360_ := f_X0_has_eq a0 b0 x1
  have h1361_ := iv_get hv0 (k := 58) (j := 8) (l := 0) (u := 300) rfl
  refine jt_ite (fun c1362_ => ?_) (fun c1362_ => ?_)
  ·
    exact jt_rI ⟨hv0, (jfr_rf _ _), (show (a0 58 8 = 0 → (-1) = 0 - 1) from by omega)⟩
  ·
    refine jt_eI (eq_X11_within E d (jd_le hd rfl) x2 1 500 a0 b0) ?_
    have h1363_ := f_X11_within_eq a0 b0 x2 1 500
    refine jt_ite (fun c1364_ => ?_) (fun c1364_ => ?_)
    ·
      exact jt_rI ⟨hv0, (jfr_rf _ _), (show (a0 58 8 = 0 → (-1) = 0 - 1) from by omega)⟩
    ·
      refine jt_eI (eq_X0_fromOf E d (jd_le hd rfl) x1 a0 b0) ?_
      refine jt_eI (eq_X3_landOf E d (jd_le hd rfl) (f_X0_fromOf a0 b0 x1) a0 b0) ?_
      exact cp_X11_pay_40 E d hd x1 x2 a0 b0 hv0 x1 x2 (f_X3_landOf a0 b0 (f_X0_fromOf a0 b0 x1)) a0 b0 hv0 (jfr_rf _ _) (show 0 ≤ x1 from by omega) (show x1 ≤ 299 from by omega) (show 1 ≤ x2 from by omega) (show x2 ≤ 500 from by omega) (show 1 ≤ a0 58 8 from by omega)
abbrev jQ_X11_price (x1 x2 x3 x4 : Int) (a0 b0 : Nat → Nat → Int) : List jxV → (Nat → Nat → Int) → (Nat → Nat → Int) → Prop := rI (fun r a b => (a0 = a) ∧ (b0 = b) ∧ ((a0 105 5 = 0 → (((((((((0 ≤ x1 ∧ x1 ≤ 15) ∧ 0 ≤ x2) ∧ x2 ≤ 15) ∧ 1 ≤ x3) ∧ x3 ≤ 500) ∧ 0 ≤ x4) ∧ x4 ≤ 1999) ∧ r = 0 - 2) ∨ ((((((((x1 < 0 ∨ 15 < x1) ∨ x2 < 0) ∨ 15 < x2) ∨ x3 < 1) ∨ 500 < x3) ∨ x4 < 0) ∨ 1999 < x4) ∧ r = 0 - 1)))) ∧ (0 ≤ x1 ∧ x1 ≤ 15 ∧ 0 ≤ x2 ∧ x2 ≤ 15 ∧ 1 ≤ x3 ∧ x3 ≤ 500 ∧ 0 ≤ x4 ∧ x4 ≤ 1999 → r = PR1 a0 (ZN x1 x2 (a0 1 (16 * x1 + x2).toNat)) x3 x4) ∧ (((((((((x1 < 0 ∨ 15 < x1) ∨ x2 < 0) ∨ 15 < x2) ∨ x3 < 1) ∨ 500 < x3) ∨ x4 < 0) ∨ 1999 < x4) → r = 0 - 1)))
theorem cp_X11_price_33 (E : jxE) (d : Nat) (hd : Nat.ble 4 (d + 1) = true) (x1 x2 x3 x4 : Int) (a0 b0 : Nat → Nat → Int) (hv0 : iv a0) : (((((((x1 < 0 ∨ 15 < x1) ∨ x2 < 0) ∨ 15 < x2) ∨ x3 < 1) ∨ 500 < x3) ∨ x4 < 0) ∨ 1999 < x4) → jt (jxX E d 192 33 [none, none, none, none, none, none] [] (jxSH, a0, b0)) (jQ_X11_price x1 x2 x3 x4 a0 b0) := by
  intro hi0
  refine jt_eq (bq_X11_price_33 E d a0 b0) ?_
  have h1365_ := iv_get hv0 (k := 105) (j := 5) (l := 0) (u := 10) rfl
  exact jt_rI ⟨rfl, rfl, (show (a0 105 5 = 0 → (((((((((0 ≤ x1 ∧ x1 ≤ 15) ∧ 0 ≤ x2) ∧ x2 ≤ 15) ∧ 1 ≤ x3) ∧ x3 ≤ 500) ∧ 0 ≤ x4) ∧ x4 ≤ 1999) ∧ (-1) = 0 - 2) ∨ ((((((((x1 < 0 ∨ 15 < x1) ∨ x2 < 0) ∨ 15 < x2) ∨ x3 < 1) ∨ 500 < x3) ∨ x4 < 0) ∨ 1999 < x4) ∧ (-1) = 0 - 1))) from by omega), (fun h => absurd h (by omega)), (show ((((((((x1 < 0 ∨ 15 < x1) ∨ x2 < 0) ∨ 15 < x2) ∨ x3 < 1) ∨ 500 < x3) ∨ x4 < 0) ∨ 1999 < x4) → (-1) = 0 - 1) from by omega)⟩
theorem cp_X11_price_35 (E : jxE) (d : Nat) (hd : Nat.ble 4 (d + 1) = true) (x1 x2 x3 x4 : Int) (a0 b0 : Nat → Nat → Int) (hv0 : iv a0) : ∀ (y1 y2 y3 y4 : Int), 0 ≤ y1 → y1 ≤ 15 → 0 ≤ y2 → y2 ≤ 15 → 1 ≤ y3 → y3 ≤ 500 → 0 ≤ y4 → y4 ≤ 1999 → (((((((0 ≤ x1 ∧ x1 ≤ 15) ∧ 0 ≤ x2) ∧ x2 ≤ 15) ∧ 1 ≤ x3) ∧ x3 ≤ 500) ∧ 0 ≤ x4) ∧ x4 ≤ 1999) → (y1 = x1) → (y2 = x2) → (y3 = x3) → (y4 = x4) → jt (jxX E d 192 35 [some (.inr (.inr (.inl 0))), some (.inl y1), some (.inl y2), some (.inl y3), some (.inl y4), none] [] (jxSH, a0, b0)) (jQ_X11_price x1 x2 x3 x4 a0 b0) := by
  intro y1 y2 y3 y4 hi0 hi1 hi2 hi3 hi4 hi5 hi6 hi7 hi8 hy1 hy2 hy3 hy4
  refine jt_eq (bq_X11_price_35 E d y1 y2 y3 y4 a0 b0) ?_
  refine jt_eI (eq_X11_zone E d (jd_le hd rfl) y1 y2 a0 b0) ?_
  refine jt_bI (sp_X9_coinsFor E d (jd_le hd rfl) (f_X11_zone a0 b0 y1 y2) y3 y4 a0 b0 hv0) (fun r1366_ a1366_ b1366_ h1366_ => ?_)
  obtain ⟨rfl, rfl, hq1366_0, hq1366_1⟩ := h1366_
  have h1367_ := iv_get hv0 (k := 105) (j := 5) (l := 0) (u := 10) rfl
  refine jt_ite (fun c1368_ => ?_) (fun c1368_ => ?_)
  ·
    exact jt_rI ⟨rfl, rfl, (show (a0 105 5 = 0 → (((((((((0 ≤ x1 ∧ x1 ≤ 15) ∧ 0 ≤ x2) ∧ x2 ≤ 15) ∧ 1 ≤ x3) ∧ x3 ≤ 500) ∧ 0 ≤ x4) ∧ x4 ≤ 1999) ∧ (-2) = 0 - 2) ∨ ((((((((x1 < 0 ∨ 15 < x1) ∨ x2 < 0) ∨ 15 < x2) ∨ x3 < 1) ∨ 500 < x3) ∨ x4 < 0) ∨ 1999 < x4) ∧ (-2) = 0 - 1))) from by omega), (fun _ => by have e := hq1366_1; rw [zn11 a0 b0 y1 y2 (by omega) (by omega), hy1, hy2, hy3, hy4] at e; unfold PR1 PRC; by_cases h0 : HO (a0 106) x4 (a0 105 5).toNat < 0 <;> first | (rw [if_pos h0] at e; first | exact absurd e (by assumption) | (rw [if_pos h0])) | (rw [if_neg h0] at e ⊢; rw [← e]; first | (rw [if_pos (by assumption)]) | (rw [if_neg (by assumption)]))), (show ((((((((x1 < 0 ∨ 15 < x1) ∨ x2 < 0) ∨ 15 < x2) ∨ x3 < 1) ∨ 500 < x3) ∨ x4 < 0) ∨ 1999 < x4) → (-2) = 0 - 1) from by omega)⟩
  ·
    exact jt_rI ⟨rfl, rfl, (show (a0 105 5 = 0 → (((((((((0 ≤ x1 ∧ x1 ≤ 15) ∧ 0 ≤ x2) ∧ x2 ≤ 15) ∧ 1 ≤ x3) ∧ x3 ≤ 500) ∧ 0 ≤ x4) ∧ x4 ≤ 1999) ∧ r1366_ = 0 - 2) ∨ ((((((((x1 < 0 ∨ 15 < x1) ∨ x2 < 0) ∨ 15 < x2) ∨ x3 < 1) ∨ 500 < x3) ∨ x4 < 0) ∨ 1999 < x4) ∧ r1366_ = 0 - 1))) from by omega), (fun _ => by have e := hq1366_1; rw [zn11 a0 b0 y1 y2 (by omega) (by omega), hy1, hy2, hy3, hy4] at e; unfold PR1 PRC; by_cases h0 : HO (a0 106) x4 (a0 105 5).toNat < 0 <;> first | (rw [if_pos h0] at e; first | exact absurd e (by assumption) | (rw [if_pos h0])) | (rw [if_neg h0] at e ⊢; rw [← e]; first | (rw [if_pos (by assumption)]) | (rw [if_neg (by assumption)]))), (show ((((((((x1 < 0 ∨ 15 < x1) ∨ x2 < 0) ∨ 15 < x2) ∨ x3 < 1) ∨ 500 < x3) ∨ x4 < 0) ∨ 1999 < x4) → r1366_ = 0 - 1) from by omega)⟩
theorem sp_X11_price (E : jxE) (d : Nat) (hd : Nat.ble 4 d = true) (x1 x2 x3 x4 : Int) (a0 b0 : Nat → Nat → Int) (hv0 : iv a0) : jt (jxC E d 192 [.inr (.inr (.inl 0)), .inl x1, .inl x2, .inl x3, .inl x4] (jxSH, a0, b0)) (jQ_X11_price x1 x2 x3 x4 a0 b0) := by
  obtain ⟨d, rfl⟩ := jd_succ hd
  refine jt_eq (bq_X11_price E d x1 x2 x3 x4 a0 b0) ?_
  refine jt_eI (eq_X11_isLand E d (jd_le hd rfl) x1 a0 b0) ?_
  have h1369_ := f_X11_isLand_eq a0 b0 x1
  have h1370_ := f_X11_within_eq a0 b0 x1 0 15
  refine jt_ite (fun c1371_ => ?_) (fun c1371_ => ?_)
  ·
    exact cp_X11_price_33 E d hd x1 x2 x3 x4 a0 b0 hv0 (show (((((((x1 < 0 ∨ 15 < x1) ∨ x2 < 0) ∨ 15 < x2) ∨ x3 < 1) ∨ 500 < x3) ∨ x4 < 0) ∨ 1999 < x4) from by omega)
  ·
    refine jt_eI (eq_X11_isLand E d (jd_le hd rfl) x2 a0 b0) ?_
    have h1372_ := f_X11_isLand_eq a0 b0 x2
    have h1373_ := f_X11_within_eq a0 b0 x2 0 15
    refine jt_ite (fun c1374_ => ?_) (fun c1374_ => ?_)
    ·
      exact cp_X11_price_33 E d hd x1 x2 x3 x4 a0 b0 hv0 (show (((((((x1 < 0 ∨ 15 < x1) ∨ x2 < 0) ∨ 15 < x2) ∨ x3 < 1) ∨ 500 < x3) ∨ x4 < 0) ∨ 1999 < x4) from by omega)
    ·
      refine jt_eI (eq_X11_within E d (jd_le hd rfl) x3 1 500 a0 b0) ?_
      have h1375_ := f_X11_within_eq a0 b0 x3 1 500
      refine jt_ite (fun c1376_ => ?_) (fun c1376_ => ?_)
      ·
        exact cp_X11_price_33 E d hd x1 x2 x3 x4 a0 b0 hv0 (show (((((((x1 < 0 ∨ 15 < x1) ∨ x2 < 0) ∨ 15 < x2) ∨ x3 < 1) ∨ 500 < x3) ∨ x4 < 0) ∨ 1999 < x4) from by omega)
      ·
        refine jt_eI (eq_X11_isDay E d (jd_le hd rfl) x4 a0 b0) ?_
        have h1377_ := f_X11_isDay_eq a0 b0 x4
        have h1378_ := f_X11_within_eq a0 b0 x4 0 1999
        refine jt_ite (fun c1379_ => ?_) (fun c1379_ => ?_)
        ·
          exact cp_X11_price_33 E d hd x1 x2 x3 x4 a0 b0 hv0 (show (((((((x1 < 0 ∨ 15 < x1) ∨ x2 < 0) ∨ 15 < x2) ∨ x3 < 1) ∨ 500 < x3) ∨ x4 < 0) ∨ 1999 < x4) from by omega)
        ·
          exact cp_X11_price_35 E d hd x1 x2 x3 x4 a0 b0 hv0 x1 x2 x3 x4 (show 0 ≤ x1 from by omega) (show x1 ≤ 15 from by omega) (show 0 ≤ x2 from by omega) (show x2 ≤ 15 from by omega) (show 1 ≤ x3 from by omega) (show x3 ≤ 500 from by omega) (show 0 ≤ x4 from by omega) (show x4 ≤ 1999 from by omega) (show (((((((0 ≤ x1 ∧ x1 ≤ 15) ∧ 0 ≤ x2) ∧ x2 ≤ 15) ∧ 1 ≤ x3) ∧ x3 ≤ 500) ∧ 0 ≤ x4) ∧ x4 ≤ 1999) from by omega) (by first | rfl | assumption) (by first | rfl | assumption) (by first | rfl | assumption) (by first | rfl | assumption)
abbrev jQ_X9_lastGrams (x1 : Int) (a0 b0 : Nat → Nat → Int) : List jxV → (Nat → Nat → Int) → (Nat → Nat → Int) → Prop := rI (fun r a b => (a0 = a) ∧ (b0 = b) ∧ (r = LG (fun c => a0 108 ((a0 105 5).toNat * 12 + c)) (fun c => a0 119 ((a0 105 5).toNat * 12 + c)) x1 (a0 107 (a0 105 5).toNat).toNat))
theorem cp_X9_lastGrams_4 (E : jxE) (d : Nat) (hd : Nat.ble 1 (d + 1) = true) (x1 : Int) (a0 b0 : Nat → Nat → Int) (hv0 : iv a0) (hp0 : a0 105 5 ≤ 9) : ∀ n : Nat, (∀ (y1 y2 y3 : Int), (((12 - y3) * 1) + 0).toNat ≤ n → 0 ≤ y2 → y2 ≤ 999 → 0 ≤ y3 → y3 ≤ 11 → (y1 = x1) → y3 < a0 107 ((a0 105 5).toNat) → (y2 = LG (fun c => a0 108 ((a0 105 5).toNat * 12 + c)) (fun c => a0 119 ((a0 105 5).toNat * 12 + c)) x1 (y3.toNat + 1)) → jt (jxX E d 137 44 [some (.inr (.inr (.inl 105))), some (.inl y1), some (.inl y2), some (.inl y3)] [] (jxSH, a0, b0)) (jQ_X9_lastGrams x1 a0 b0)) ∧ (∀ (y1 y3 : Int), (((12 - y3) * 1) + 0).toNat ≤ n → 0 ≤ y1 → y1 ≤ 999 → 0 ≤ y3 → y3 ≤ 11 → (y1 = x1) → y3 < a0 107 ((a0 105 5).toNat) → (a0 108 ((a0 105 5).toNat * 12 + y3.toNat) = x1) → jt (jxX E d 137 32 [some (.inr (.inr (.inl 105))), some (.inl y1), none, some (.inl y3)] [] (jxSH, a0, b0)) (jQ_X9_lastGrams x1 a0 b0)) ∧ (∀ (y1 y2 y3 : Int), (((12 - y3) * 1) + 0).toNat ≤ n → 0 ≤ y2 → y2 ≤ 999 → 0 ≤ y3 → y3 ≤ 12 → (y1 = x1) → y3 ≤ a0 107 ((a0 105 5).toNat) → (y2 = LG (fun c => a0 108 ((a0 105 5).toNat * 12 + c)) (fun c => a0 119 ((a0 105 5).toNat * 12 + c)) x1 y3.toNat) → jt (jxX E d 137 4 [some (.inr (.inr (.inl 105))), some (.inl y1), some (.inl y2), some (.inl y3)] [] (jxSH, a0, b0)) (jQ_X9_lastGrams x1 a0 b0)) := by
  refine jx_ind fun n ih => ?_
  have ih44 : ∀ (y1 y2 y3 : Int), (((12 - y3) * 1) + 0).toNat < n → 0 ≤ y2 → y2 ≤ 999 → 0 ≤ y3 → y3 ≤ 11 → (y1 = x1) → y3 < a0 107 ((a0 105 5).toNat) → (y2 = LG (fun c => a0 108 ((a0 105 5).toNat * 12 + c)) (fun c => a0 119 ((a0 105 5).toNat * 12 + c)) x1 (y3.toNat + 1)) → jt (jxX E d 137 44 [some (.inr (.inr (.inl 105))), some (.inl y1), some (.inl y2), some (.inl y3)] [] (jxSH, a0, b0)) (jQ_X9_lastGrams x1 a0 b0) := fun y1 y2 y3 hlt i0 i1 i2 i3 i4 i5 i6 => (ih _ hlt).1 y1 y2 y3 (Nat.le_refl _) i0 i1 i2 i3 i4 i5 i6
  have ih32 : ∀ (y1 y3 : Int), (((12 - y3) * 1) + 0).toNat < n → 0 ≤ y1 → y1 ≤ 999 → 0 ≤ y3 → y3 ≤ 11 → (y1 = x1) → y3 < a0 107 ((a0 105 5).toNat) → (a0 108 ((a0 105 5).toNat * 12 + y3.toNat) = x1) → jt (jxX E d 137 32 [some (.inr (.inr (.inl 105))), some (.inl y1), none, some (.inl y3)] [] (jxSH, a0, b0)) (jQ_X9_lastGrams x1 a0 b0) := fun y1 y3 hlt i0 i1 i2 i3 i4 i5 i6 => (ih _ hlt).2.1 y1 y3 (Nat.le_refl _) i0 i1 i2 i3 i4 i5 i6
  have ih4 : ∀ (y1 y2 y3 : Int), (((12 - y3) * 1) + 0).toNat < n → 0 ≤ y2 → y2 ≤ 999 → 0 ≤ y3 → y3 ≤ 12 → (y1 = x1) → y3 ≤ a0 107 ((a0 105 5).toNat) → (y2 = LG (fun c => a0 108 ((a0 105 5).toNat * 12 + c)) (fun c => a0 119 ((a0 105 5).toNat * 12 + c)) x1 y3.toNat) → jt (jxX E d 137 4 [some (.inr (.inr (.inl 105))), some (.inl y1), some (.inl y2), some (.inl y3)] [] (jxSH, a0, b0)) (jQ_X9_lastGrams x1 a0 b0) := fun y1 y2 y3 hlt i0 i1 i2 i3 i4 i5 i6 => (ih _ hlt).2.2 y1 y2 y3 (Nat.le_refl _) i0 i1 i2 i3 i4 i5 i6
  have hc44 : ∀ (y1 y2 y3 : Int), (((12 - y3) * 1) + 0).toNat ≤ n → 0 ≤ y2 → y2 ≤ 999 → 0 ≤ y3 → y3 ≤ 11 → (y1 = x1) → y3 < a0 107 ((a0 105 5).toNat) → (y2 = LG (fun c => a0 108 ((a0 105 5).toNat * 12 + c)) (fun c => a0 119 ((a0 105 5).toNat * 12 + c)) x1 (y3.toNat + 1)) → jt (jxX E d 137 44 [some (.inr (.inr (.inl 105))), some (.inl y1), some (.inl y2), some (.inl y3)] [] (jxSH, a0, b0)) (jQ_X9_lastGrams x1 a0 b0) := by
    intro y1 y2 y3 hm hi0 hi1 hi2 hi3 hy1 hi5 hlg
    refine jt_eq (bq_X9_lastGrams_44 E d y1 y2 y3 a0 b0) ?_
    have h1380_ := iv_get hv0 (k := 105) (j := 5) (l := 0) (u := 10) rfl
    have h1381_ := iv_get hv0 (k := 107) (j := (a0 105 5).toNat) (l := 0) (u := 12) rfl
    have h1382_ : jxw (y3 + 1) = y3 + 1 := jxw_id (by omega) (by omega)
    exact ih4 y1 y2 (jxw (y3 + 1)) (show (((12 - (jxw (y3 + 1))) * 1) + 0).toNat < n from by omega) (show 0 ≤ y2 from by omega) (show y2 ≤ 999 from by omega) (show 0 ≤ jxw (y3 + 1) from by omega) (show jxw (y3 + 1) ≤ 12 from by omega) (by first | rfl | assumption) (show jxw (y3 + 1) ≤ a0 107 ((a0 105 5).toNat) from by omega) (by first | rfl | (rw [show (jxw (y3 + 1)).toNat = y3.toNat + 1 from by omega]; exact hlg))
  have hc32 : ∀ (y1 y3 : Int), (((12 - y3) * 1) + 0).toNat ≤ n → 0 ≤ y1 → y1 ≤ 999 → 0 ≤ y3 → y3 ≤ 11 → (y1 = x1) → y3 < a0 107 ((a0 105 5).toNat) → (a0 108 ((a0 105 5).toNat * 12 + y3.toNat) = x1) → jt (jxX E d 137 32 [some (.inr (.inr (.inl 105))), some (.inl y1), none, some (.inl y3)] [] (jxSH, a0, b0)) (jQ_X9_lastGrams x1 a0 b0) := by
    intro y1 y3 hm hi0 hi1 hi2 hi3 hy1 hi5 hz
    refine jt_eq (bq_X9_lastGrams_32 E d y1 y3 a0 b0) ?_
    have h1383_ := iv_get hv0 (k := 105) (j := 5) (l := 0) (u := 10) rfl
    have h1384_ := iv_get hv0 (k := 107) (j := (a0 105 5).toNat) (l := 0) (u := 12) rfl
    refine jt_grd (by omega) ?_
    refine jt_grd (by omega) ?_
    refine jt_grd (by omega) ?_
    have h1385_ := iv_get hv0 (k := 119) (j := ((a0 105 5).toNat) * 12 + (y3.toNat)) (l := 0) (u := 999) rfl
    exact hc44 y1 (a0 119 (((a0 105 5).toNat) * 12 + (y3.toNat))) y3 (show (((12 - y3) * 1) + 0).toNat ≤ n from by omega) (show 0 ≤ a0 119 (((a0 105 5).toNat) * 12 + (y3.toNat)) from by omega) (show a0 119 (((a0 105 5).toNat) * 12 + (y3.toNat)) ≤ 999 from by omega) (show 0 ≤ y3 from by omega) (show y3 ≤ 11 from by omega) (by first | rfl | assumption) (show y3 < a0 107 ((a0 105 5).toNat) from by omega) (by first | exact (LG_s1 (z := fun c => a0 108 ((a0 105 5).toNat * 12 + c)) (g := fun c => a0 119 ((a0 105 5).toNat * 12 + c)) (m := y3.toNat) hz).symm | (rw [LG_s2 (by rw [← hy1]; assumption)]; exact hlg))
  have hc4 : ∀ (y1 y2 y3 : Int), (((12 - y3) * 1) + 0).toNat ≤ n → 0 ≤ y2 → y2 ≤ 999 → 0 ≤ y3 → y3 ≤ 12 → (y1 = x1) → y3 ≤ a0 107 ((a0 105 5).toNat) → (y2 = LG (fun c => a0 108 ((a0 105 5).toNat * 12 + c)) (fun c => a0 119 ((a0 105 5).toNat * 12 + c)) x1 y3.toNat) → jt (jxX E d 137 4 [some (.inr (.inr (.inl 105))), some (.inl y1), some (.inl y2), some (.inl y3)] [] (jxSH, a0, b0)) (jQ_X9_lastGrams x1 a0 b0) := by
    intro y1 y2 y3 hm hi0 hi1 hi2 hi3 hy1 hi5 hlg
    refine jt_eq (bq_X9_lastGrams_4 E d y1 y2 y3 a0 b0) ?_
    have h1386_ := iv_get hv0 (k := 105) (j := 5) (l := 0) (u := 10) rfl
    have h1387_ := iv_get hv0 (k := 107) (j := (a0 105 5).toNat) (l := 0) (u := 12) rfl
    refine jt_grd (by omega) ?_
    refine jt_ite (fun c1388_ => ?_) (fun c1388_ => ?_)
    ·
      refine jt_grd (by omega) ?_
      refine jt_grd (by omega) ?_
      refine jt_grd (by omega) ?_
      have h1389_ := iv_get hv0 (k := 108) (j := ((a0 105 5).toNat) * 12 + (y3.toNat)) (l := 0) (u := 999) rfl
      refine jt_ite (fun c1390_ => ?_) (fun c1390_ => ?_)
      ·
        exact hc32 y1 y3 (show (((12 - y3) * 1) + 0).toNat ≤ n from by omega) (show 0 ≤ y1 from by omega) (show y1 ≤ 999 from by omega) (show 0 ≤ y3 from by omega) (show y3 ≤ 11 from by omega) (by first | rfl | assumption) (show y3 < a0 107 ((a0 105 5).toNat) from by omega) (by rw [← hy1]; assumption)
      ·
        exact hc44 y1 y2 y3 (show (((12 - y3) * 1) + 0).toNat ≤ n from by omega) (show 0 ≤ y2 from by omega) (show y2 ≤ 999 from by omega) (show 0 ≤ y3 from by omega) (show y3 ≤ 11 from by omega) (by first | rfl | assumption) (show y3 < a0 107 ((a0 105 5).toNat) from by omega) (by first | exact (LG_s1 (z := fun c => a0 108 ((a0 105 5).toNat * 12 + c)) (g := fun c => a0 119 ((a0 105 5).toNat * 12 + c)) (m := y3.toNat) hz).symm | (rw [LG_s2 (by rw [← hy1]; assumption)]; exact hlg))
    ·
      exact jt_rI ⟨rfl, rfl, (by rw [show (a0 107 (a0 105 5).toNat).toNat = y3.toNat from by omega]; exact hlg)⟩
  exact ⟨hc44, hc32, hc4⟩
theorem sp_X9_lastGrams (E : jxE) (d : Nat) (hd : Nat.ble 1 d = true) (x1 : Int) (a0 b0 : Nat → Nat → Int) (hv0 : iv a0) (hp0 : a0 105 5 ≤ 9) : jt (jxC E d 137 [.inr (.inr (.inl 105)), .inl x1] (jxSH, a0, b0)) (jQ_X9_lastGrams x1 a0 b0) := by
  obtain ⟨d, rfl⟩ := jd_succ hd
  refine jt_eq (bq_X9_lastGrams E d x1 a0 b0) ?_
  have h1391_ := iv_get hv0 (k := 105) (j := 5) (l := 0) (u := 10) rfl
  have h1392_ := iv_get hv0 (k := 107) (j := (a0 105 5).toNat) (l := 0) (u := 12) rfl
  exact (cp_X9_lastGrams_4 E d hd x1 a0 b0 hv0 hp0 _).2.2 x1 0 0 (Nat.le_refl _) (show 0 ≤ 0 from by omega) (show 0 ≤ 999 from by omega) (show 0 ≤ 0 from by omega) (show 0 ≤ 12 from by omega) (by first | rfl | assumption) (show 0 ≤ a0 107 ((a0 105 5).toNat) from by omega) (by first | rfl | (rw [show (jxw (y3 + 1)).toNat = y3.toNat + 1 from by omega]; exact hlg))
def jW_X9_readClause_r2 : List (Nat × Nat) := [(2, 2), (2, 3), (107, 9999), (108, 9999), (119, 9999), (130, 9999)]
abbrev jQ_X9_readClause_r2 (a0 b0 : Nat → Nat → Int) : List jxV → (Nat → Nat → Int) → (Nat → Nat → Int) → Prop := rV (fun a b => (iv a) ∧ (jfr jW_X9_readClause_r2 a0 a) ∧ (b0 = b) ∧ ((((a0 2 1 = 0 ∧ a0 2 2 = 0) ∧ a0 2 3 = 0) → (a 2 3 = 1 ∧ a 2 2 = 0))) ∧ (a 2 3 = CF (a0 3) (a0 2 1).toNat (a0 2 2).toNat (a0 107 (a0 105 5).toNat) (LSa a0)) ∧ ((RCU a0 a (a0 105 5).toNat ((a0 105 5).toNat * 12 + (a0 107 (a0 105 5).toNat).toNat) (NV (a0 3) (a0 2 1).toNat (C1 (a0 3) (a0 2 1).toNat (a0 2 2).toNat)) (NV (a0 3) (a0 2 1).toNat (C2 (a0 3) (a0 2 1).toNat (a0 2 2).toNat)) (NV (a0 3) (a0 2 1).toNat (C3 (a0 3) (a0 2 1).toNat (a0 2 2).toNat)) ((a0 107 (a0 105 5).toNat) + 1)) ∨ (RCS a0 a ∧ ¬ CF (a0 3) (a0 2 1).toNat (a0 2 2).toNat (a0 107 (a0 105 5).toNat) (LSa a0) = 0)) ∧ (CF (a0 3) (a0 2 1).toNat (a0 2 2).toNat (a0 107 (a0 105 5).toNat) (LSa a0) = 0 → a 2 2 = ((C4 (a0 3) (a0 2 1).toNat (a0 2 2).toNat) : Int)))
theorem cp_X9_readClause_r2_35 (E : jxE) (d : Nat) (hd : Nat.ble 6 (d + 1) = true) (a0 b0 : Nat → Nat → Int) (hv0 : iv a0) (hp0 : a0 105 5 ≤ 9) (hp1 : a0 2 3 = 0) : ∀ (y2 : Int) (a : Nat → Nat → Int), iv a → jfr jW_X9_readClause_r2 a0 a → 0 ≤ y2 → y2 ≤ 200 → a 105 5 ≤ 9 → (TW (a0 3) (a0 2 1).toNat (a0 2 2).toNat 15) → (12 ≤ (a0 107 (a0 105 5).toNat)) → (y2 = a0 2 2) → a 2 3 = 0 → (∀ j, a 108 j = a0 108 j) → (∀ j, a 119 j = a0 119 j) → (∀ j, a 130 j = a0 130 j) → (∀ j, a 107 j = a0 107 j) → 1 ≤ a0 2 1 → jt (jxX E d 136 35 [none, some (.inr (.inr (.inl 2))), some (.inl y2), none, none] [] (jxSH, a, b0)) (jQ_X9_readClause_r2 a0 b0) := by
  intro y2 a hv hf hi0 hi1 hi2 htw h12 hy2 hi6 hs108 hs119 hs130 hs107 hi11
  refine jt_eq (bq_X9_readClause_r2_35 E d y2 a b0) ?_
  have h1393_ := iv_get hv (k := 105) (j := 5) (l := 0) (u := 10) rfl
  have h1394_ : a 105 5 = a0 105 5 := hf 105 5 rfl
  have h1395_ := iv_get hv0 (k := 105) (j := 5) (l := 0) (u := 10) rfl
  have h1396_ := iv_get hv0 (k := 2) (j := 1) (l := 0) (u := 200) rfl
  have h3 : a 3 = a0 3 := funext fun j => hf 3 j rfl
  have h21 := hf 2 1 rfl
  refine jt_bV (sp_X8_noteFault E d (jd_le hd rfl) y2 2 a b0 hv) (fun a1397_ b1397_ h1397_ => ?_)
  obtain ⟨hv1397_, hf1397_, rfl, hq1397_0, hq1397_1⟩ := h1397_
  have hf1398_ : jfr jW_X9_readClause_r2 a0 a1397_ := jfr_tr hf hf1397_ rfl
  have h1399_ := iv_get hv0 (k := 2) (j := 2) (l := 0) (u := 200) rfl
  have h1400_ := iv_get hv1397_ (k := 2) (j := 2) (l := 0) (u := 200) rfl
  have h1401_ : a1397_ 2 2 = a 2 2 := hf1397_ 2 2 rfl
  have h1402_ := iv_get hv (k := 2) (j := 2) (l := 0) (u := 200) rfl
  exact jt_rV ⟨hv1397_, hf1398_, rfl, (show (((a0 2 1 = 0 ∧ a0 2 2 = 0) ∧ a0 2 3 = 0) → (a1397_ 2 3 = 1 ∧ a1397_ 2 2 = 0)) from by omega), (by rw [CF_12 htw h12]; omega), (Or.inr ⟨fun j => ⟨((hf1397_ 108 j rfl)).trans (hs108 j), ((hf1397_ 119 j rfl)).trans (hs119 j), ((hf1397_ 130 j rfl)).trans (hs130 j), ((hf1397_ 107 j rfl)).trans (hs107 j)⟩, (by rw [CF_12 htw h12]; omega)⟩), (fun h => absurd h (by rw [CF_12 htw h12]; omega))⟩
theorem cp_X9_readClause_r2_152 (E : jxE) (d : Nat) (hd : Nat.ble 6 (d + 1) = true) (a0 b0 : Nat → Nat → Int) (hv0 : iv a0) (hp0 : a0 105 5 ≤ 9) (hp1 : a0 2 3 = 0) : ∀ (a : Nat → Nat → Int), iv a → jfr jW_X9_readClause_r2 a0 a → a 105 5 ≤ 9 → (a 2 3 = CF (a0 3) (a0 2 1).toNat (a0 2 2).toNat (a0 107 (a0 105 5).toNat) (LSa a0)) → (a 2 2 = ((C4 (a0 3) (a0 2 1).toNat (a0 2 2).toNat) : Int)) → (RCU a0 a (a0 105 5).toNat ((a0 105 5).toNat * 12 + (a0 107 (a0 105 5).toNat).toNat) (NV (a0 3) (a0 2 1).toNat (C1 (a0 3) (a0 2 1).toNat (a0 2 2).toNat)) (NV (a0 3) (a0 2 1).toNat (C2 (a0 3) (a0 2 1).toNat (a0 2 2).toNat)) (NV (a0 3) (a0 2 1).toNat (C3 (a0 3) (a0 2 1).toNat (a0 2 2).toNat)) ((a0 107 (a0 105 5).toNat) + 1)) → 1 ≤ a0 2 1 → jt (jxX E d 136 152 [none, none, none, none, none] [] (jxSH, a, b0)) (jQ_X9_readClause_r2 a0 b0) := by
  intro a hv hf hi0 hcf hat hru hi4
  refine jt_eq (bq_X9_readClause_r2_152 E d a b0) ?_
  have h1403_ := iv_get hv (k := 105) (j := 5) (l := 0) (u := 10) rfl
  have h1404_ : a 105 5 = a0 105 5 := hf 105 5 rfl
  have h1405_ := iv_get hv0 (k := 105) (j := 5) (l := 0) (u := 10) rfl
  have h1406_ := iv_get hv0 (k := 2) (j := 1) (l := 0) (u := 200) rfl
  have h3 : a 3 = a0 3 := funext fun j => hf 3 j rfl
  have h21 := hf 2 1 rfl
  have h1407_ := iv_get hv0 (k := 2) (j := 2) (l := 0) (u := 200) rfl
  have h1408_ := iv_get hv (k := 2) (j := 2) (l := 0) (u := 200) rfl
  exact jt_rV ⟨hv, hf, rfl, (show (((a0 2 1 = 0 ∧ a0 2 2 = 0) ∧ a0 2 3 = 0) → (a 2 3 = 1 ∧ a 2 2 = 0)) from by omega), hcf, (Or.inl hru), (fun _ => hat)⟩
theorem cp_X9_readClause_r2_120 (E : jxE) (d : Nat) (hd : Nat.ble 6 (d + 1) = true) (a0 b0 : Nat → Nat → Int) (hv0 : iv a0) (hp0 : a0 105 5 ≤ 9) (hp1 : a0 2 3 = 0) : ∀ (y3 : Int) (a : Nat → Nat → Int), iv a → jfr jW_X9_readClause_r2 a0 a → 0 ≤ y3 → y3 ≤ 11 → a 105 5 ≤ 9 → (TW (a0 3) (a0 2 1).toNat (a0 2 2).toNat 15) → (y3 = (a0 107 (a0 105 5).toNat)) → y3 ≤ 11 → (UP (a0 108) (a 108) ((a0 105 5).toNat * 12 + (a0 107 (a0 105 5).toNat).toNat) (NV (a0 3) (a0 2 1).toNat (C1 (a0 3) (a0 2 1).toNat (a0 2 2).toNat))) → (UP (a0 119) (a 119) ((a0 105 5).toNat * 12 + (a0 107 (a0 105 5).toNat).toNat) (NV (a0 3) (a0 2 1).toNat (C2 (a0 3) (a0 2 1).toNat (a0 2 2).toNat))) → (∀ j, a 130 j = a0 130 j) → (∀ j, a 107 j = a0 107 j) → (a 2 2 = ((C3 (a0 3) (a0 2 1).toNat (a0 2 2).toNat) : Int)) → (a 2 3 = (if ¬ NF (a0 3) (a0 2 1).toNat (C1 (a0 3) (a0 2 1).toNat (a0 2 2).toNat) 0 3 = 0 then NF (a0 3) (a0 2 1).toNat (C1 (a0 3) (a0 2 1).toNat (a0 2 2).toNat) 0 3 else NF (a0 3) (a0 2 1).toNat (C2 (a0 3) (a0 2 1).toNat (a0 2 2).toNat) (LSa a0 + 1) 500)) → y3 = a 107 ((a0 105 5).toNat) → 1 ≤ a0 2 1 → jt (jxX E d 136 120 [some (.inr (.inr (.inl 105))), some (.inr (.inr (.inl 2))), none, some (.inl y3), none] [] (jxSH, a, b0)) (jQ_X9_readClause_r2 a0 b0) := by
  intro y3 a hv hf hi0 hi1 hi2 htw hy3 hi5 hu108 hu119 hs130 hs107 hat hft2 hi12 hi13
  refine jt_eq (bq_X9_readClause_r2_120 E d y3 a b0) ?_
  have h1409_ := iv_get hv (k := 105) (j := 5) (l := 0) (u := 10) rfl
  have h1410_ : a 105 5 = a0 105 5 := hf 105 5 rfl
  have h1411_ := iv_get hv0 (k := 105) (j := 5) (l := 0) (u := 10) rfl
  have h1412_ := iv_get hv (k := 107) (j := (a0 105 5).toNat) (l := 0) (u := 12) rfl
  have h1413_ := iv_get hv0 (k := 2) (j := 1) (l := 0) (u := 200) rfl
  have h3 : a 3 = a0 3 := funext fun j => hf 3 j rfl
  have h21 := hf 2 1 rfl
  have hP : (a 2 2).toNat = (C3 (a0 3) (a0 2 1).toNat (a0 2 2).toNat) := by rw [hat]; exact Int.toNat_natCast _
  have hi : (a 105 5).toNat * 12 + y3.toNat = ((a0 105 5).toNat * 12 + (a0 107 (a0 105 5).toNat).toNat) := by rw [hf 105 5 rfl, hy3]
  refine jt_grd (by omega) ?_
  refine jt_bI (sp_X8_takeNumber E d (jd_le hd rfl) 1 900 a b0 hv) (fun r1414_ a1414_ b1414_ h1414_ => ?_)
  obtain ⟨hv1414_, hf1414_, rfl, hq1414_0, hq1414_1, hq1414_2, hq1414_3⟩ := h1414_
  refine jt_grd (by omega) ?_
  refine jt_grd (by omega) ?_
  have h1415_ := iv_get hv1414_ (k := 105) (j := 5) (l := 0) (u := 10) rfl
  have h1416_ : a1414_ 105 5 = a 105 5 := hf1414_ 105 5 rfl
  refine jt_grd (by omega) ?_
  refine jt_grd (by omega) ?_
  have hv1417_ : iv (jxu a1414_ 130 (((a 105 5).toNat) * 12 + (y3.toNat)) r1414_) := iv_put hv1414_ (l := 0) (u := 999) rfl (by omega) (by omega)
  have h1419_ : a1414_ 107 ((a1414_ 105 5).toNat) = a1414_ 107 ((a0 105 5).toNat) := by rw [show a1414_ 105 5 = a0 105 5 from by omega]
  have h1420_ := iv_get hv1414_ (k := 107) (j := (a0 105 5).toNat) (l := 0) (u := 12) rfl
  have h1421_ : a1414_ 107 ((a0 105 5).toNat) = a 107 ((a0 105 5).toNat) := hf1414_ 107 ((a0 105 5).toNat) rfl
  have h1422_ := iv_get hv1414_ (k := 107) (j := (a1414_ 105 5).toNat) (l := 0) (u := 12) rfl
  have h1423_ : a1414_ 107 ((a1414_ 105 5).toNat) = a 107 ((a1414_ 105 5).toNat) := hf1414_ 107 ((a1414_ 105 5).toNat) rfl
  have h1424_ : a 107 ((a1414_ 105 5).toNat) = a 107 ((a0 105 5).toNat) := by rw [show a1414_ 105 5 = a0 105 5 from by omega]
  have h1425_ := iv_get hv (k := 107) (j := (a1414_ 105 5).toNat) (l := 0) (u := 12) rfl
  have h1426_ : jxw ((a1414_ 107 ((a1414_ 105 5).toNat)) + 1) = (a1414_ 107 ((a1414_ 105 5).toNat)) + 1 := jxw_id (by omega) (by omega)
  have hv1418_ : iv (jxu (jxu a1414_ 130 (((a 105 5).toNat) * 12 + (y3.toNat)) r1414_) 107 ((a1414_ 105 5).toNat) (jxw ((a1414_ 107 ((a1414_ 105 5).toNat)) + 1))) := iv_put hv1417_ (l := 0) (u := 12) rfl (by omega) (by omega)
  have hf1427_ : jfr jW_X9_readClause_r2 a0 a1414_ := jfr_tr hf hf1414_ rfl
  have hf1428_ : jfr jW_X9_readClause_r2 a0 (jxu a1414_ 130 (((a 105 5).toNat) * 12 + (y3.toNat)) r1414_) := jfr_put hf1427_ rfl
  have hf1429_ : jfr jW_X9_readClause_r2 a0 (jxu (jxu a1414_ 130 (((a 105 5).toNat) * 12 + (y3.toNat)) r1414_) 107 ((a1414_ 105 5).toNat) (jxw ((a1414_ 107 ((a1414_ 105 5).toNat)) + 1))) := jfr_put hf1428_ rfl
  exact cp_X9_readClause_r2_152 E d hd a0 b0 hv0 hp0 hp1 (jxu (jxu a1414_ 130 (((a 105 5).toNat) * 12 + (y3.toNat)) r1414_) 107 ((a1414_ 105 5).toNat) (jxw ((a1414_ 107 ((a1414_ 105 5).toNat)) + 1))) hv1418_ hf1429_ (show a1414_ 105 5 ≤ 9 from by omega) (by have e0 := hq1414_0; have e1 := hq1414_1; have e2 := hq1414_2; rw [h3, h21, hP] at e0 e1 e2; rw [CF_go htw (by rw [← hy3]; omega), ← CF_split, ← hft2]; exact e2) (by have e0 := hq1414_0; have e1 := hq1414_1; have e2 := hq1414_2; rw [h3, h21, hP] at e0 e1 e2; exact e1) (by have e0 := hq1414_0; have e1 := hq1414_1; have e2 := hq1414_2; rw [h3, h21, hP] at e0 e1 e2; have hs7 : a1414_ 105 5 = a0 105 5 := (hf1414_ 105 5 rfl).trans (hf 105 5 rfl); refine ⟨UP_cr hu108 (fun j => hf1414_ 108 j rfl), UP_cr hu119 (fun j => hf1414_ 119 j rfl), ?_, ?_⟩ <;> first | (rw [← hi, ← e0]; exact UP_put (fun j => (hf1414_ 130 j rfl).trans (hs130 j))) | (rw [show (a0 107 (a0 105 5).toNat) + 1 = jxw ((a1414_ 107 ((a1414_ 105 5).toNat)) + 1) from (by rw [hs7, hf1414_ 107 _ rfl, hs107, ← hy3, jxw_id (by omega) (by omega)]), ← hs7]; exact UP_put (fun j => (hf1414_ 107 j rfl).trans (hs107 j)))) (show 1 ≤ a0 2 1 from by omega)
theorem cp_X9_readClause_r2_113 (E : jxE) (d : Nat) (hd : Nat.ble 6 (d + 1) = true) (a0 b0 : Nat → Nat → Int) (hv0 : iv a0) (hp0 : a0 105 5 ≤ 9) (hp1 : a0 2 3 = 0) : ∀ (y3 y4 : Int) (a : Nat → Nat → Int), iv a → jfr jW_X9_readClause_r2 a0 a → 0 ≤ y3 → y3 ≤ 11 → 0 ≤ y4 → y4 ≤ 200 → a 105 5 ≤ 9 → (TW (a0 3) (a0 2 1).toNat (a0 2 2).toNat 15) → (y3 = (a0 107 (a0 105 5).toNat)) → y3 ≤ 11 → (UP (a0 108) (a 108) ((a0 105 5).toNat * 12 + (a0 107 (a0 105 5).toNat).toNat) (NV (a0 3) (a0 2 1).toNat (C1 (a0 3) (a0 2 1).toNat (a0 2 2).toNat))) → (UP (a0 119) (a 119) ((a0 105 5).toNat * 12 + (a0 107 (a0 105 5).toNat).toNat) (NV (a0 3) (a0 2 1).toNat (C2 (a0 3) (a0 2 1).toNat (a0 2 2).toNat))) → (∀ j, a 130 j = a0 130 j) → (∀ j, a 107 j = a0 107 j) → (a 2 2 = ((C3 (a0 3) (a0 2 1).toNat (a0 2 2).toNat) : Int)) → (y4 = ((C2 (a0 3) (a0 2 1).toNat (a0 2 2).toNat) : Int)) → (a 2 3 = (if NF (a0 3) (a0 2 1).toNat (C1 (a0 3) (a0 2 1).toNat (a0 2 2).toNat) 0 3 = 0 then NF (a0 3) (a0 2 1).toNat (C2 (a0 3) (a0 2 1).toNat (a0 2 2).toNat) 1 500 else NF (a0 3) (a0 2 1).toNat (C1 (a0 3) (a0 2 1).toNat (a0 2 2).toNat) 0 3)) → (NV (a0 3) (a0 2 1).toNat (C2 (a0 3) (a0 2 1).toNat (a0 2 2).toNat) ≤ LSa a0) → y3 = a 107 ((a0 105 5).toNat) → 1 ≤ a0 2 1 → jt (jxX E d 136 113 [some (.inr (.inr (.inl 105))), some (.inr (.inr (.inl 2))), none, some (.inl y3), some (.inl y4)] [] (jxSH, a, b0)) (jQ_X9_readClause_r2 a0 b0) := by
  intro y3 y4 a hv hf hi0 hi1 hi2 hi3 hi4 htw hy3 hi7 hu108 hu119 hs130 hs107 hat hy4 hft hle hi16 hi17
  refine jt_eq (bq_X9_readClause_r2_113 E d y3 y4 a b0) ?_
  have h1430_ := iv_get hv (k := 105) (j := 5) (l := 0) (u := 10) rfl
  have h1431_ : a 105 5 = a0 105 5 := hf 105 5 rfl
  have h1432_ := iv_get hv0 (k := 105) (j := 5) (l := 0) (u := 10) rfl
  have h1433_ := iv_get hv (k := 107) (j := (a0 105 5).toNat) (l := 0) (u := 12) rfl
  have h1434_ := iv_get hv0 (k := 2) (j := 1) (l := 0) (u := 200) rfl
  have h3 : a 3 = a0 3 := funext fun j => hf 3 j rfl
  have h21 := hf 2 1 rfl
  refine jt_bV (sp_X8_noteFault E d (jd_le hd rfl) y4 1 a b0 hv) (fun a1435_ b1435_ h1435_ => ?_)
  obtain ⟨hv1435_, hf1435_, rfl, hq1435_0, hq1435_1⟩ := h1435_
  have hf1436_ : jfr jW_X9_readClause_r2 a0 a1435_ := jfr_tr hf hf1435_ rfl
  have h1437_ := iv_get hv1435_ (k := 105) (j := 5) (l := 0) (u := 10) rfl
  have h1438_ : a1435_ 105 5 = a 105 5 := hf1435_ 105 5 rfl
  have h1439_ := iv_get hv1435_ (k := 107) (j := (a0 105 5).toNat) (l := 0) (u := 12) rfl
  have h1440_ : a1435_ 107 ((a0 105 5).toNat) = a 107 ((a0 105 5).toNat) := hf1435_ 107 ((a0 105 5).toNat) rfl
  exact cp_X9_readClause_r2_120 E d hd a0 b0 hv0 hp0 hp1 y3 a1435_ hv1435_ hf1436_ (show 0 ≤ y3 from by omega) (show y3 ≤ 11 from by omega) (show a1435_ 105 5 ≤ 9 from by omega) (by first | exact htw | exact (hq1435_3 (by omega)).2.1) (by first | exact hy3 | (rw [hf1435_ 107 _ rfl, hf1435_ 105 5 rfl])) (show y3 ≤ 11 from by omega) (UP_cr hu108 (fun j => (hf1435_ 108 j rfl))) (UP_cr hu119 (fun j => (hf1435_ 119 j rfl))) (fun j => ((hf1435_ 130 j rfl)).trans (hs130 j)) (fun j => ((hf1435_ 107 j rfl)).trans (hs107 j)) (by rw [hf1435_ 2 2 rfl]; exact hat) (by have hb := LSa_bd hv0; have n1 := NF_pos (a0 3) (a0 2 1).toNat (C1 (a0 3) (a0 2 1).toNat (a0 2 2).toNat) 0 3; have n2 := NF_pos (a0 3) (a0 2 1).toNat (C2 (a0 3) (a0 2 1).toNat (a0 2 2).toNat) 1 500; rw [NF_two hb.1, if_pos hle]; have p0 := hq1435_0; have p1 := hq1435_1; rw [hft] at p0 p1; split at p0 <;> split <;> (try split) <;> omega) (show y3 = a1435_ 107 ((a0 105 5).toNat) from by omega) (show 1 ≤ a0 2 1 from by omega)
theorem cp_X9_readClause_r2_65 (E : jxE) (d : Nat) (hd : Nat.ble 6 (d + 1) = true) (a0 b0 : Nat → Nat → Int) (hv0 : iv a0) (hp0 : a0 105 5 ≤ 9) (hp1 : a0 2 3 = 0) : ∀ (y3 y4 : Int) (a : Nat → Nat → Int), iv a → jfr jW_X9_readClause_r2 a0 a → 0 ≤ y3 → y3 ≤ 11 → 0 ≤ y4 → y4 ≤ 200 → a 105 5 ≤ 9 → (TW (a0 3) (a0 2 1).toNat (a0 2 2).toNat 15) → (y3 = (a0 107 (a0 105 5).toNat)) → y3 ≤ 11 → (y4 = ((C2 (a0 3) (a0 2 1).toNat (a0 2 2).toNat) : Int)) → (a 2 2 = ((C2 (a0 3) (a0 2 1).toNat (a0 2 2).toNat) : Int)) → (UP (a0 108) (a 108) ((a0 105 5).toNat * 12 + (a0 107 (a0 105 5).toNat).toNat) (NV (a0 3) (a0 2 1).toNat (C1 (a0 3) (a0 2 1).toNat (a0 2 2).toNat))) → (a 2 3 = NF (a0 3) (a0 2 1).toNat (C1 (a0 3) (a0 2 1).toNat (a0 2 2).toNat) 0 3) → (∀ j, a 119 j = a0 119 j) → (∀ j, a 130 j = a0 130 j) → (∀ j, a 107 j = a0 107 j) → y3 = a 107 ((a0 105 5).toNat) → 1 ≤ a0 2 1 → jt (jxX E d 136 65 [some (.inr (.inr (.inl 105))), some (.inr (.inr (.inl 2))), none, some (.inl y3), some (.inl y4)] [] (jxSH, a, b0)) (jQ_X9_readClause_r2 a0 b0) := by
  intro y3 y4 a hv hf hi0 hi1 hi2 hi3 hi4 htw hy3 hi7 hy4 hat hu108 hft hs119 hs130 hs107 hi15 hi16
  refine jt_eq (bq_X9_readClause_r2_65 E d y3 y4 a b0) ?_
  have h1441_ := iv_get hv (k := 105) (j := 5) (l := 0) (u := 10) rfl
  have h1442_ : a 105 5 = a0 105 5 := hf 105 5 rfl
  have h1443_ := iv_get hv0 (k := 105) (j := 5) (l := 0) (u := 10) rfl
  have h1444_ := iv_get hv (k := 107) (j := (a0 105 5).toNat) (l := 0) (u := 12) rfl
  have h1445_ := iv_get hv0 (k := 2) (j := 1) (l := 0) (u := 200) rfl
  have h3 : a 3 = a0 3 := funext fun j => hf 3 j rfl
  have h21 := hf 2 1 rfl
  have hP : (a 2 2).toNat = (C2 (a0 3) (a0 2 1).toNat (a0 2 2).toNat) := by rw [hat]; exact Int.toNat_natCast _
  have hi : (a 105 5).toNat * 12 + y3.toNat = ((a0 105 5).toNat * 12 + (a0 107 (a0 105 5).toNat).toNat) := by rw [hf 105 5 rfl, hy3]
  refine jt_grd (by omega) ?_
  refine jt_bI (sp_X8_takeNumber E d (jd_le hd rfl) 1 500 a b0 hv) (fun r1446_ a1446_ b1446_ h1446_ => ?_)
  obtain ⟨hv1446_, hf1446_, rfl, hq1446_0, hq1446_1, hq1446_2, hq1446_3⟩ := h1446_
  refine jt_grd (by omega) ?_
  refine jt_grd (by omega) ?_
  have h1447_ := iv_get hv1446_ (k := 105) (j := 5) (l := 0) (u := 10) rfl
  have h1448_ : a1446_ 105 5 = a 105 5 := hf1446_ 105 5 rfl
  refine jt_grd (by omega) ?_
  refine jt_grd (by omega) ?_
  refine jt_grd (by omega) ?_
  refine jt_grd (by omega) ?_
  refine jt_grd (by omega) ?_
  refine jt_grd (by omega) ?_
  have hv1449_ : iv (jxu a1446_ 119 (((a 105 5).toNat) * 12 + (y3.toNat)) r1446_) := iv_put hv1446_ (l := 0) (u := 999) rfl (by omega) (by omega)
  refine jt_bI (sp_X9_lastGrams E d (jd_le hd rfl) (a1446_ 108 (((a1446_ 105 5).toNat) * 12 + (y3.toNat))) (jxu a1446_ 119 (((a 105 5).toNat) * 12 + (y3.toNat)) r1446_) b0 hv1449_ (show a1446_ 105 5 ≤ 9 from by omega)) (fun r1450_ a1450_ b1450_ h1450_ => ?_)
  obtain ⟨he1450_, rfl, hq1450_0⟩ := h1450_
  have hv1450_ : iv a1450_ := he1450_ ▸ hv1449_
  have hf1450_ : jfr [] (jxu a1446_ 119 (((a 105 5).toNat) * 12 + (y3.toNat)) r1446_) a1450_ := jfr_eq he1450_
  have h1451_ := iv_get hv1449_ (k := 119) (j := ((a1446_ 105 5).toNat) * 12 + (y3.toNat)) (l := 0) (u := 999) rfl
  have h1452_ := jxu_sp a1446_ 119 (((a 105 5).toNat) * 12 + (y3.toNat)) r1446_ (((a1446_ 105 5).toNat) * 12 + (y3.toNat))
  have h1453_ := iv_get hv1446_ (k := 119) (j := ((a1446_ 105 5).toNat) * 12 + (y3.toNat)) (l := 0) (u := 999) rfl
  have h1454_ : a1446_ 119 (((a1446_ 105 5).toNat) * 12 + (y3.toNat)) = a 119 (((a1446_ 105 5).toNat) * 12 + (y3.toNat)) := hf1446_ 119 (((a1446_ 105 5).toNat) * 12 + (y3.toNat)) rfl
  have h1455_ := iv_get hv (k := 119) (j := ((a1446_ 105 5).toNat) * 12 + (y3.toNat)) (l := 0) (u := 999) rfl
  refine jt_ite (fun c1456_ => ?_) (fun c1456_ => ?_)
  ·
    have hf1457_ : jfr jW_X9_readClause_r2 a0 a1446_ := jfr_tr hf hf1446_ rfl
    have hf1458_ : jfr jW_X9_readClause_r2 a0 (jxu a1446_ 119 (((a 105 5).toNat) * 12 + (y3.toNat)) r1446_) := jfr_put hf1457_ rfl
    have hf1459_ : jfr jW_X9_readClause_r2 a0 a1450_ := jfr_tr hf1458_ hf1450_ rfl
    have h1460_ := iv_get hv1450_ (k := 105) (j := 5) (l := 0) (u := 10) rfl
    have h1461_ : a1450_ 105 5 = a1446_ 105 5 := hf1450_ 105 5 rfl
    have h1462_ := iv_get hv1450_ (k := 107) (j := (a0 105 5).toNat) (l := 0) (u := 12) rfl
    have h1463_ : a1450_ 107 ((a0 105 5).toNat) = a1446_ 107 ((a0 105 5).toNat) := hf1450_ 107 ((a0 105 5).toNat) rfl
    have h1464_ := iv_get hv1446_ (k := 107) (j := (a0 105 5).toNat) (l := 0) (u := 12) rfl
    have h1465_ : a1446_ 107 ((a0 105 5).toNat) = a 107 ((a0 105 5).toNat) := hf1446_ 107 ((a0 105 5).toNat) rfl
    exact cp_X9_readClause_r2_120 E d hd a0 b0 hv0 hp0 hp1 y3 a1450_ hv1450_ hf1459_ (show 0 ≤ y3 from by omega) (show y3 ≤ 11 from by omega) (show a1450_ 105 5 ≤ 9 from by omega) (by first | exact htw | exact (hq1450_3 (by omega)).2.1) (by first | exact hy3 | (rw [hf1450_ 107 _ rfl, hf1450_ 105 5 rfl])) (show y3 ≤ 11 from by omega) (UP_cr hu108 (fun j => ((hf1450_ 108 j rfl).trans (hf1446_ 108 j rfl)))) (by have e0 := hq1446_0; have e1 := hq1446_1; have e2 := hq1446_2; rw [h3, h21, hP] at e0 e1 e2; rw [← hi, ← e0]; exact UP_cr (UP_put (fun j => (hf1446_ 119 j rfl).trans (hs119 j))) (fun j => hf1450_ 119 j rfl)) (fun j => (((hf1450_ 130 j rfl).trans (hf1446_ 130 j rfl))).trans (hs130 j)) (fun j => (((hf1450_ 107 j rfl).trans (hf1446_ 107 j rfl))).trans (hs107 j)) (by have e0 := hq1446_0; have e1 := hq1446_1; have e2 := hq1446_2; rw [h3, h21, hP] at e0 e1 e2; exact (hf1450_ 2 2 rfl).trans e1) (by have e0 := hq1446_0; have e1 := hq1446_1; have e2 := hq1446_2; rw [h3, h21, hP] at e0 e1 e2; have hl := hq1450_0; have hU8 : UP (a0 108) (a1446_ 108) ((a0 105 5).toNat * 12 + (a0 107 (a0 105 5).toNat).toNat) _ := UP_cr hu108 (fun j => hf1446_ 108 j rfl); have hU9 : UP (a0 119) (jxu a1446_ 119 ((a0 105 5).toNat * 12 + (a0 107 (a0 105 5).toNat).toNat) r1446_ 119) ((a0 105 5).toNat * 12 + (a0 107 (a0 105 5).toNat).toNat) r1446_ := UP_put (fun j => (hf1446_ 119 j rfl).trans (hs119 j)); have hlr : r1450_ = LSa a0 := (by rw [hl]; show LG (fun c => a1446_ 108 ((a1446_ 105 5).toNat * 12 + c)) (fun c => jxu a1446_ 119 ((a 105 5).toNat * 12 + y3.toNat) r1446_ 119 ((a1446_ 105 5).toNat * 12 + c)) (a1446_ 108 ((a1446_ 105 5).toNat * 12 + y3.toNat)) (a1446_ 107 (a1446_ 105 5).toNat).toNat = _; rw [hf1446_ 105 5 rfl, hi, hf1446_ 107 _ rfl, hs107, hf 105 5 rfl, LG_keep hU8 hU9, hU8 _, if_pos rfl]; rfl); have hb := LSa_bd hv0; rw [NF_two_ok hb.1 (by rw [← hlr, ← e0]; omega)]; rw [hft] at e2; rw [hf1450_ 2 3 rfl]; show a1446_ 2 3 = _; rw [e2]; split <;> (try split) <;> (try split) <;> first | rfl | omega) (show y3 = a1450_ 107 ((a0 105 5).toNat) from by omega) (show 1 ≤ a0 2 1 from by omega)
  ·
    have hf1466_ : jfr jW_X9_readClause_r2 a0 a1446_ := jfr_tr hf hf1446_ rfl
    have hf1467_ : jfr jW_X9_readClause_r2 a0 (jxu a1446_ 119 (((a 105 5).toNat) * 12 + (y3.toNat)) r1446_) := jfr_put hf1466_ rfl
    have hf1468_ : jfr jW_X9_readClause_r2 a0 a1450_ := jfr_tr hf1467_ hf1450_ rfl
    have h1469_ := iv_get hv1450_ (k := 105) (j := 5) (l := 0) (u := 10) rfl
    have h1470_ : a1450_ 105 5 = a1446_ 105 5 := hf1450_ 105 5 rfl
    have h1471_ := iv_get hv1450_ (k := 107) (j := (a0 105 5).toNat) (l := 0) (u := 12) rfl
    have h1472_ : a1450_ 107 ((a0 105 5).toNat) = a1446_ 107 ((a0 105 5).toNat) := hf1450_ 107 ((a0 105 5).toNat) rfl
    have h1473_ := iv_get hv1446_ (k := 107) (j := (a0 105 5).toNat) (l := 0) (u := 12) rfl
    have h1474_ : a1446_ 107 ((a0 105 5).toNat) = a 107 ((a0 105 5).toNat) := hf1446_ 107 ((a0 105 5).toNat) rfl
    exact cp_X9_readClause_r2_113 E d hd a0 b0 hv0 hp0 hp1 y3 y4 a1450_ hv1450_ hf1468_ (show 0 ≤ y3 from by omega) (show y3 ≤ 11 from by omega) (show 0 ≤ y4 from by omega) (show y4 ≤ 200 from by omega) (show a1450_ 105 5 ≤ 9 from by omega) (by first | exact htw | exact (hq1450_3 (by omega)).2.1) (by first | exact hy3 | (rw [hf1450_ 107 _ rfl, hf1450_ 105 5 rfl])) (show y3 ≤ 11 from by omega) (UP_cr hu108 (fun j => ((hf1450_ 108 j rfl).trans (hf1446_ 108 j rfl)))) (by have e0 := hq1446_0; have e1 := hq1446_1; have e2 := hq1446_2; rw [h3, h21, hP] at e0 e1 e2; rw [← hi, ← e0]; exact UP_cr (UP_put (fun j => (hf1446_ 119 j rfl).trans (hs119 j))) (fun j => hf1450_ 119 j rfl)) (fun j => (((hf1450_ 130 j rfl).trans (hf1446_ 130 j rfl))).trans (hs130 j)) (fun j => (((hf1450_ 107 j rfl).trans (hf1446_ 107 j rfl))).trans (hs107 j)) (by have e0 := hq1446_0; have e1 := hq1446_1; have e2 := hq1446_2; rw [h3, h21, hP] at e0 e1 e2; exact (hf1450_ 2 2 rfl).trans e1) hy4 (by have e0 := hq1446_0; have e1 := hq1446_1; have e2 := hq1446_2; rw [h3, h21, hP] at e0 e1 e2; rw [hft] at e2; exact (hf1450_ 2 3 rfl).trans e2) (by have e0 := hq1446_0; have e1 := hq1446_1; have e2 := hq1446_2; rw [h3, h21, hP] at e0 e1 e2; have hl := hq1450_0; have hU8 : UP (a0 108) (a1446_ 108) ((a0 105 5).toNat * 12 + (a0 107 (a0 105 5).toNat).toNat) _ := UP_cr hu108 (fun j => hf1446_ 108 j rfl); have hU9 : UP (a0 119) (jxu a1446_ 119 ((a0 105 5).toNat * 12 + (a0 107 (a0 105 5).toNat).toNat) r1446_ 119) ((a0 105 5).toNat * 12 + (a0 107 (a0 105 5).toNat).toNat) r1446_ := UP_put (fun j => (hf1446_ 119 j rfl).trans (hs119 j)); have hlr : r1450_ = LSa a0 := (by rw [hl]; show LG (fun c => a1446_ 108 ((a1446_ 105 5).toNat * 12 + c)) (fun c => jxu a1446_ 119 ((a 105 5).toNat * 12 + y3.toNat) r1446_ 119 ((a1446_ 105 5).toNat * 12 + c)) (a1446_ 108 ((a1446_ 105 5).toNat * 12 + y3.toNat)) (a1446_ 107 (a1446_ 105 5).toNat).toNat = _; rw [hf1446_ 105 5 rfl, hi, hf1446_ 107 _ rfl, hs107, hf 105 5 rfl, LG_keep hU8 hU9, hU8 _, if_pos rfl]; rfl); rw [← hlr, ← e0]; omega) (show y3 = a1450_ 107 ((a0 105 5).toNat) from by omega) (show 1 ≤ a0 2 1 from by omega)
theorem cp_X9_readClause_r2_42 (E : jxE) (d : Nat) (hd : Nat.ble 6 (d + 1) = true) (a0 b0 : Nat → Nat → Int) (hv0 : iv a0) (hp0 : a0 105 5 ≤ 9) (hp1 : a0 2 3 = 0) : ∀ (y3 : Int) (a : Nat → Nat → Int), iv a → jfr jW_X9_readClause_r2 a0 a → 0 ≤ y3 → y3 ≤ 11 → a 105 5 ≤ 9 → (TW (a0 3) (a0 2 1).toNat (a0 2 2).toNat 15) → (y3 = (a0 107 (a0 105 5).toNat)) → y3 ≤ 11 → (a 2 2 = ((C1 (a0 3) (a0 2 1).toNat (a0 2 2).toNat) : Int)) → a 2 3 = 0 → (∀ j, a 108 j = a0 108 j) → (∀ j, a 119 j = a0 119 j) → (∀ j, a 130 j = a0 130 j) → (∀ j, a 107 j = a0 107 j) → y3 = a 107 ((a0 105 5).toNat) → 1 ≤ a0 2 1 → jt (jxX E d 136 42 [some (.inr (.inr (.inl 105))), some (.inr (.inr (.inl 2))), none, some (.inl y3), none] [] (jxSH, a, b0)) (jQ_X9_readClause_r2 a0 b0) := by
  intro y3 a hv hf hi0 hi1 hi2 htw hy3 hi5 hat hi7 hs108 hs119 hs130 hs107 hi12 hi13
  refine jt_eq (bq_X9_readClause_r2_42 E d y3 a b0) ?_
  have h1475_ := iv_get hv (k := 105) (j := 5) (l := 0) (u := 10) rfl
  have h1476_ : a 105 5 = a0 105 5 := hf 105 5 rfl
  have h1477_ := iv_get hv0 (k := 105) (j := 5) (l := 0) (u := 10) rfl
  have h1478_ := iv_get hv (k := 107) (j := (a0 105 5).toNat) (l := 0) (u := 12) rfl
  have h1479_ := iv_get hv0 (k := 2) (j := 1) (l := 0) (u := 200) rfl
  have h3 : a 3 = a0 3 := funext fun j => hf 3 j rfl
  have h21 := hf 2 1 rfl
  have hP : (a 2 2).toNat = (C1 (a0 3) (a0 2 1).toNat (a0 2 2).toNat) := by rw [hat]; exact Int.toNat_natCast _
  have hi : (a 105 5).toNat * 12 + y3.toNat = ((a0 105 5).toNat * 12 + (a0 107 (a0 105 5).toNat).toNat) := by rw [hf 105 5 rfl, hy3]
  refine jt_grd (by omega) ?_
  refine jt_bI (sp_X8_takeNumber E d (jd_le hd rfl) 0 3 a b0 hv) (fun r1480_ a1480_ b1480_ h1480_ => ?_)
  obtain ⟨hv1480_, hf1480_, rfl, hq1480_0, hq1480_1, hq1480_2, hq1480_3⟩ := h1480_
  refine jt_grd (by omega) ?_
  refine jt_grd (by omega) ?_
  refine jt_eI (eq_X8_place E d (jd_le hd rfl) (jxu a1480_ 108 (((a 105 5).toNat) * 12 + (y3.toNat)) r1480_) b0) ?_
  have hv1481_ : iv (jxu a1480_ 108 (((a 105 5).toNat) * 12 + (y3.toNat)) r1480_) := iv_put hv1480_ (l := 0) (u := 999) rfl (by omega) (by omega)
  have hf1482_ : jfr jW_X9_readClause_r2 a0 a1480_ := jfr_tr hf hf1480_ rfl
  have hf1483_ : jfr jW_X9_readClause_r2 a0 (jxu a1480_ 108 (((a 105 5).toNat) * 12 + (y3.toNat)) r1480_) := jfr_put hf1482_ rfl
  have h1484_ : f_X8_place (jxu a1480_ 108 (((a 105 5).toNat) * 12 + (y3.toNat)) r1480_) b0 = (a1480_ 2 2) := f_X8_place_eq (jxu a1480_ 108 (((a 105 5).toNat) * 12 + (y3.toNat)) r1480_) b0
  have h1485_ := iv_get hv1480_ (k := 2) (j := 2) (l := 0) (u := 200) rfl
  have h1486_ := iv_get hv1480_ (k := 105) (j := 5) (l := 0) (u := 10) rfl
  have h1487_ : a1480_ 105 5 = a 105 5 := hf1480_ 105 5 rfl
  have h1488_ := iv_get hv1480_ (k := 107) (j := (a0 105 5).toNat) (l := 0) (u := 12) rfl
  have h1489_ : a1480_ 107 ((a0 105 5).toNat) = a 107 ((a0 105 5).toNat) := hf1480_ 107 ((a0 105 5).toNat) rfl
  exact cp_X9_readClause_r2_65 E d hd a0 b0 hv0 hp0 hp1 y3 (f_X8_place (jxu a1480_ 108 (((a 105 5).toNat) * 12 + (y3.toNat)) r1480_) b0) (jxu a1480_ 108 (((a 105 5).toNat) * 12 + (y3.toNat)) r1480_) hv1481_ hf1483_ (show 0 ≤ y3 from by omega) (show y3 ≤ 11 from by omega) (show 0 ≤ f_X8_place (jxu a1480_ 108 (((a 105 5).toNat) * 12 + (y3.toNat)) r1480_) b0 from by omega) (show f_X8_place (jxu a1480_ 108 (((a 105 5).toNat) * 12 + (y3.toNat)) r1480_) b0 ≤ 200 from by omega) (show a1480_ 105 5 ≤ 9 from by omega) (by first | exact htw | exact (hq1480_3 (by omega)).2.1) (by first | exact hy3 | (rw [hf1480_ 107 _ rfl, hf1480_ 105 5 rfl])) (show y3 ≤ 11 from by omega) (by have e0 := hq1480_0; have e1 := hq1480_1; have e2 := hq1480_2; rw [h3, h21, hP] at e0 e1 e2; exact e1) (by have e0 := hq1480_0; have e1 := hq1480_1; have e2 := hq1480_2; rw [h3, h21, hP] at e0 e1 e2; exact e1) (by have e0 := hq1480_0; have e1 := hq1480_1; have e2 := hq1480_2; rw [h3, h21, hP] at e0 e1 e2; rw [← hi, ← e0]; exact UP_put (fun j => (hf1480_ 108 j rfl).trans (hs108 j))) (by have e0 := hq1480_0; have e1 := hq1480_1; have e2 := hq1480_2; rw [h3, h21, hP] at e0 e1 e2; rw [if_pos (by omega)] at e2; exact e2) (fun j => ((hf1480_ 119 j rfl)).trans (hs119 j)) (fun j => ((hf1480_ 130 j rfl)).trans (hs130 j)) (fun j => ((hf1480_ 107 j rfl)).trans (hs107 j)) (show y3 = a1480_ 107 ((a0 105 5).toNat) from by omega) (show 1 ≤ a0 2 1 from by omega)
theorem sp_X9_readClause_r2 (E : jxE) (d : Nat) (hd : Nat.ble 6 d = true) (a0 b0 : Nat → Nat → Int) (hv0 : iv a0) (hp0 : a0 105 5 ≤ 9) (hp1 : a0 2 3 = 0) : jt (jxC E d 136 [.inr (.inr (.inl 105)), .inr (.inr (.inl 2))] (jxSH, a0, b0)) (jQ_X9_readClause_r2 a0 b0) := by
  obtain ⟨d, rfl⟩ := jd_succ hd
  refine jt_eq (bq_X9_readClause_r2 E d a0 b0) ?_
  have h1490_ := iv_get hv0 (k := 105) (j := 5) (l := 0) (u := 10) rfl
  refine jt_eI (eq_X8_place E d (jd_le hd rfl) a0 b0) ?_
  refine jt_bI (sp_X8_takesWord_r1015 E d (jd_le hd rfl) a0 b0 hv0) (fun r1491_ a1491_ b1491_ h1491_ => ?_)
  obtain ⟨hv1491_, hf1491_, rfl, hq1491_0, hq1491_1, hq1491_2, hq1491_3, hq1491_4⟩ := h1491_
  have h1492_ := iv_get hv0 (k := 2) (j := 1) (l := 0) (u := 200) rfl
  have h1493_ := iv_get hv0 (k := 2) (j := 2) (l := 0) (u := 200) rfl
  have h1494_ := iv_get hv1491_ (k := 2) (j := 2) (l := 0) (u := 200) rfl
  refine jt_ite (fun c1495_ => ?_) (fun c1495_ => ?_)
  ·
    refine jt_bV (sp_X8_noteCannotStand E d (jd_le hd rfl) a1491_ b0 hv1491_) (fun a1496_ b1496_ h1496_ => ?_)
    obtain ⟨hv1496_, hf1496_, rfl, hq1496_0, hq1496_1⟩ := h1496_
    have h1497_ : a1491_ 2 3 = a0 2 3 := hf1491_ 2 3 rfl
    have hf1498_ : jfr jW_X9_readClause_r2 a0 a1491_ := jfr_tr (jfr_rf _ _) hf1491_ rfl
    have hf1499_ : jfr jW_X9_readClause_r2 a0 a1496_ := jfr_tr hf1498_ hf1496_ rfl
    have h1500_ := iv_get hv1496_ (k := 2) (j := 2) (l := 0) (u := 200) rfl
    have h1501_ : a1496_ 2 2 = a1491_ 2 2 := hf1496_ 2 2 rfl
    exact jt_rV ⟨hv1496_, hf1499_, rfl, (show (((a0 2 1 = 0 ∧ a0 2 2 = 0) ∧ a0 2 3 = 0) → (a1496_ 2 3 = 1 ∧ a1496_ 2 2 = 0)) from by omega), (by rw [CF_no ((hq1491_4 (by omega)).resolve_left (fun h => h (by omega)))]; omega), (Or.inr ⟨fun j => ⟨((hf1496_ 108 j rfl).trans (hf1491_ 108 j rfl)), ((hf1496_ 119 j rfl).trans (hf1491_ 119 j rfl)), ((hf1496_ 130 j rfl).trans (hf1491_ 130 j rfl)), ((hf1496_ 107 j rfl).trans (hf1491_ 107 j rfl))⟩, (by rw [CF_no ((hq1491_4 (by omega)).resolve_left (fun h => h (by omega)))]; omega)⟩), (fun h => absurd h (by rw [CF_no ((hq1491_4 (by omega)).resolve_left (fun h => h (by omega)))]; omega))⟩
  ·
    have h1502_ := iv_get hv1491_ (k := 105) (j := 5) (l := 0) (u := 10) rfl
    have h1503_ : a1491_ 105 5 = a0 105 5 := hf1491_ 105 5 rfl
    refine jt_grd (by omega) ?_
    have h1504_ : a1491_ 107 ((a1491_ 105 5).toNat) = a1491_ 107 ((a0 105 5).toNat) := by rw [show a1491_ 105 5 = a0 105 5 from by omega]
    have h1505_ := iv_get hv1491_ (k := 107) (j := (a0 105 5).toNat) (l := 0) (u := 12) rfl
    have h1506_ : a1491_ 107 ((a0 105 5).toNat) = a0 107 ((a0 105 5).toNat) := hf1491_ 107 ((a0 105 5).toNat) rfl
    have h1507_ := iv_get hv0 (k := 107) (j := (a0 105 5).toNat) (l := 0) (u := 12) rfl
    have h1508_ := iv_get hv1491_ (k := 107) (j := (a1491_ 105 5).toNat) (l := 0) (u := 12) rfl
    have h1509_ : a1491_ 107 ((a1491_ 105 5).toNat) = a0 107 ((a1491_ 105 5).toNat) := hf1491_ 107 ((a1491_ 105 5).toNat) rfl
    have h1510_ : a0 107 ((a1491_ 105 5).toNat) = a0 107 ((a0 105 5).toNat) := by rw [show a1491_ 105 5 = a0 105 5 from by omega]
    have h1511_ := iv_get hv0 (k := 107) (j := (a1491_ 105 5).toNat) (l := 0) (u := 12) rfl
    refine jt_ite (fun c1512_ => ?_) (fun c1512_ => ?_)
    ·
      have hf1513_ : jfr jW_X9_readClause_r2 a0 a1491_ := jfr_tr (jfr_rf _ _) hf1491_ rfl
      have h1514_ : a1491_ 2 3 = a0 2 3 := hf1491_ 2 3 rfl
      exact cp_X9_readClause_r2_42 E d hd a0 b0 hv0 hp0 hp1 (a1491_ 107 ((a1491_ 105 5).toNat)) a1491_ hv1491_ hf1513_ (show 0 ≤ a1491_ 107 ((a1491_ 105 5).toNat) from by omega) (show a1491_ 107 ((a1491_ 105 5).toNat) ≤ 11 from by omega) (show a1491_ 105 5 ≤ 9 from by omega) (by first | exact htw | exact (hq1491_3 (by omega)).2.1) (by first | exact hy3 | (rw [hf1491_ 107 _ rfl, hf1491_ 105 5 rfl])) (show a1491_ 107 ((a1491_ 105 5).toNat) ≤ 11 from by omega) ((hq1491_3 (by omega)).2.2) (show a1491_ 2 3 = 0 from by omega) (fun j => (hf1491_ 108 j rfl)) (fun j => (hf1491_ 119 j rfl)) (fun j => (hf1491_ 130 j rfl)) (fun j => (hf1491_ 107 j rfl)) (show a1491_ 107 ((a1491_ 105 5).toNat) = a1491_ 107 ((a0 105 5).toNat) from by omega) (show 1 ≤ a0 2 1 from by omega)
    ·
      have hf1515_ : jfr jW_X9_readClause_r2 a0 a1491_ := jfr_tr (jfr_rf _ _) hf1491_ rfl
      have h1516_ := f_X8_place_eq a0 b0
      have h1517_ : a1491_ 2 3 = a0 2 3 := hf1491_ 2 3 rfl
      exact cp_X9_readClause_r2_35 E d hd a0 b0 hv0 hp0 hp1 (f_X8_place a0 b0) a1491_ hv1491_ hf1515_ (show 0 ≤ f_X8_place a0 b0 from by omega) (show f_X8_place a0 b0 ≤ 200 from by omega) (show a1491_ 105 5 ≤ 9 from by omega) (by first | exact htw | exact (hq1491_3 (by omega)).2.1) (by have e := hf1491_ 107 ((a1491_ 105 5).toNat) rfl; rw [hf1491_ 105 5 rfl] at *; omega) (by rfl) (show a1491_ 2 3 = 0 from by omega) (fun j => (hf1491_ 108 j rfl)) (fun j => (hf1491_ 119 j rfl)) (fun j => (hf1491_ 130 j rfl)) (fun j => (hf1491_ 107 j rfl)) (show 1 ≤ a0 2 1 from by omega)
def jW_X9_read_r2 : List (Nat × Nat) := [(2, 2), (2, 3), (105, 5), (106, 9999), (107, 9999), (108, 9999), (119, 9999), (130, 9999)]
abbrev jQ_X9_read_r2 (x2 : Int) (a0 b0 : Nat → Nat → Int) : List jxV → (Nat → Nat → Int) → (Nat → Nat → Int) → Prop := rI (fun r a b => (iv a) ∧ (jfr jW_X9_read_r2 a0 a) ∧ (b0 = b) ∧ (((a0 2 1 = 0 ∧ a0 105 5 ≤ 9) → r = 0 - 3)) ∧ (a0 105 5 ≤ 9 → RTR (a0 3) (a0 2 1).toNat r) ∧ (a0 105 5 ≤ 9 → (1 ≤ r ∧ a 105 5 = a0 105 5 + 1) ∨ (r < 0 ∧ a 105 5 = a0 105 5)) ∧ (KPR a0 a (a0 105 5).toNat) ∧ (1 ≤ r → RWS a (a0 3) (a0 2 1).toNat (a0 105 5).toNat r.toNat ∧ a 107 (a0 105 5).toNat = r ∧ UP (a0 106) (a 106) (a0 105 5).toNat x2) ∧ (r < 0 → ∀ j, a 106 j = a0 106 j))
theorem cp_X9_read_r2_70 (E : jxE) (d : Nat) (hd : Nat.ble 7 (d + 1) = true) (x2 : Int) (a0 b0 : Nat → Nat → Int) (hv0 : iv a0) : ∀ (y2 : Int) (a : Nat → Nat → Int), iv a → jfr jW_X9_read_r2 a0 a → a 105 5 ≤ 9 → (a0 2 1 = 0 → (a 2 2 = 0 ∧ a 2 3 = 1)) → a 105 5 = a0 105 5 → a 105 5 ≤ 9 → (KPR a0 a (a0 105 5).toNat) → (RD7 a0 a (a0 105 5).toNat) → (y2 = x2) → (∀ j, a 106 j = a0 106 j) → jt (jxX E d 135 70 [some (.inr (.inr (.inl 105))), some (.inr (.inr (.inl 2))), some (.inl y2), none, none] [] (jxSH, a, b0)) (jQ_X9_read_r2 x2 a0 b0) := by
  intro y2 a hv hf hi0 hi1 hi2 hi3 hkp hrd hy2 hs106
  refine jt_eq (bq_X9_read_r2_70 E d y2 a b0) ?_
  have h1518_ := iv_get hv (k := 105) (j := 5) (l := 0) (u := 10) rfl
  have h1519_ := iv_get hv0 (k := 2) (j := 1) (l := 0) (u := 200) rfl
  have h1520_ := iv_get hv (k := 2) (j := 2) (l := 0) (u := 200) rfl
  have h1521_ := iv_get hv0 (k := 105) (j := 5) (l := 0) (u := 10) rfl
  have h3 : a 3 = a0 3 := funext fun j => hf 3 j rfl
  have h21 := hf 2 1 rfl
  have h105 : True := trivial
  refine jt_eI (eq_X8_isFaulty E d (jd_le hd rfl) a b0) ?_
  have h1522_ := f_X8_isFaulty_eq a b0
  refine jt_ite (fun c1523_ => ?_) (fun c1523_ => ?_)
  ·
    refine jt_grd (by omega) ?_
    refine jt_grd (by omega) ?_
    have hv1524_ : iv (jxu a 106 ((a 105 5).toNat) y2) := iv_putf hv rfl
    have h1526_ : jxw ((a 105 5) + 1) = (a 105 5) + 1 := jxw_id (by omega) (by omega)
    have hv1525_ : iv (jxu (jxu a 106 ((a 105 5).toNat) y2) 105 5 (jxw ((a 105 5) + 1))) := iv_put hv1524_ (l := 0) (u := 10) rfl (by omega) (by omega)
    have hf1527_ : jfr jW_X9_read_r2 a0 (jxu a 106 ((a 105 5).toNat) y2) := jfr_put hf rfl
    have hf1528_ : jfr jW_X9_read_r2 a0 (jxu (jxu a 106 ((a 105 5).toNat) y2) 105 5 (jxw ((a 105 5) + 1))) := jfr_put hf1527_ rfl
    have h1529_ := iv_get hv (k := 107) (j := (a 105 5).toNat) (l := 0) (u := 12) rfl
    exact jt_rI ⟨hv1525_, hf1528_, rfl, (show ((a0 2 1 = 0 ∧ a0 105 5 ≤ 9) → a 107 ((a 105 5).toNat) = 0 - 3) from by omega), (fun _ => by have e5 : (a 105 5).toNat = (a0 105 5).toNat := (by rw [show a 105 5 = a0 105 5 from by omega]); rw [e5]; exact (hrd.1 (by omega)).1), (fun _ => Or.inl ⟨by have q := (hrd.1 (by omega)).2.1; have e5 : (a 105 5).toNat = (a0 105 5).toNat := (by rw [show a 105 5 = a0 105 5 from by omega]); rw [e5]; exact q, show jxw ((a 105 5) + 1) = _ from by omega⟩), hkp, (fun _ => by have e5 : (a 105 5).toNat = (a0 105 5).toNat := (by rw [show a 105 5 = a0 105 5 from by omega]); rw [e5]; exact ⟨(hrd.1 (by omega)).2.2, rfl, by rw [← hy2, ← e5]; exact UP_put (fun j => hs106 j)⟩), (fun h => absurd h (by have q := (hrd.1 (by omega)).2.1; have e5 : (a 105 5).toNat = (a0 105 5).toNat := (by rw [show a 105 5 = a0 105 5 from by omega]); rw [← e5] at q; omega))⟩
  ·
    refine jt_eI (eq_X8_answerOfFault E d (jd_le hd rfl) a b0) ?_
    have h1530_ := f_X8_answerOfFault_eq a b0
    have h1531_ := jxw_im ((-2) - (a 2 3))
    have h1532_ := jxw_rg ((-2) - (a 2 3))
    exact jt_rI ⟨hv, hf, rfl, (show ((a0 2 1 = 0 ∧ a0 105 5 ≤ 9) → f_X8_answerOfFault a b0 = 0 - 3) from by omega), (fun _ => by have e5 : (a 105 5).toNat = (a0 105 5).toNat := (by rw [show a 105 5 = a0 105 5 from by omega]); have q := (hrd.2 (by omega)).1; have q2 := RTR_bd q (tn200 hv0); have q3 := (hrd.2 (by omega)).2; rw [show f_X8_answerOfFault a b0 = -2 - a 2 3 from by omega]; exact q), (fun _ => Or.inr ⟨by have q := (hrd.2 (by omega)).2; have q2 := RTR_bd (hrd.2 (by omega)).1 (tn200 hv0); omega, by omega⟩), hkp, (fun h => absurd h (by have q := (hrd.2 (by omega)).2; have q2 := RTR_bd (hrd.2 (by omega)).1 (tn200 hv0); omega)), (fun _ => hs106)⟩
theorem cp_X9_read_r2_59 (E : jxE) (d : Nat) (hd : Nat.ble 7 (d + 1) = true) (x2 : Int) (a0 b0 : Nat → Nat → Int) (hv0 : iv a0) : ∀ (y2 : Int) (a : Nat → Nat → Int), iv a → jfr jW_X9_read_r2 a0 a → a 105 5 ≤ 9 → (a0 2 1 = 0 → (a 2 2 = 0 ∧ a 2 3 = 1)) → a 105 5 = a0 105 5 → a 105 5 ≤ 9 → (KPR a0 a (a0 105 5).toNat) → (RDE a0 a (a0 105 5).toNat) → (y2 = x2) → (∀ j, a 106 j = a0 106 j) → jt (jxX E d 135 59 [some (.inr (.inr (.inl 105))), some (.inr (.inr (.inl 2))), some (.inl y2), none, none] [] (jxSH, a, b0)) (jQ_X9_read_r2 x2 a0 b0) := by
  intro y2 a hv hf hi0 hi1 hi2 hi3 hkp hre hy2 hs106
  refine jt_eq (bq_X9_read_r2_59 E d y2 a b0) ?_
  have h1533_ := iv_get hv (k := 105) (j := 5) (l := 0) (u := 10) rfl
  have h1534_ := iv_get hv0 (k := 2) (j := 1) (l := 0) (u := 200) rfl
  have h1535_ := iv_get hv (k := 2) (j := 2) (l := 0) (u := 200) rfl
  have h1536_ := iv_get hv0 (k := 105) (j := 5) (l := 0) (u := 10) rfl
  have h3 : a 3 = a0 3 := funext fun j => hf 3 j rfl
  have h21 := hf 2 1 rfl
  have h105 : True := trivial
  refine jt_eI (eq_X8_isAtEnd E d (jd_le hd rfl) a b0) ?_
  have h1537_ := f_X8_isAtEnd_eq a b0
  have h1538_ := iv_get hv (k := 2) (j := 1) (l := 0) (u := 200) rfl
  have h1539_ : a 2 1 = a0 2 1 := hf 2 1 rfl
  refine jt_ite (fun c1540_ => ?_) (fun c1540_ => ?_)
  ·
    refine jt_bV (sp_X8_noteCannotStand E d (jd_le hd rfl) a b0 hv) (fun a1541_ b1541_ h1541_ => ?_)
    obtain ⟨hv1541_, hf1541_, rfl, hq1541_0, hq1541_1⟩ := h1541_
    have hf1542_ : jfr jW_X9_read_r2 a0 a1541_ := jfr_tr hf hf1541_ rfl
    have h1543_ := iv_get hv1541_ (k := 105) (j := 5) (l := 0) (u := 10) rfl
    have h1544_ : a1541_ 105 5 = a 105 5 := hf1541_ 105 5 rfl
    have h1545_ := iv_get hv1541_ (k := 2) (j := 2) (l := 0) (u := 200) rfl
    have h1546_ : a1541_ 2 2 = a 2 2 := hf1541_ 2 2 rfl
    exact cp_X9_read_r2_70 E d hd x2 a0 b0 hv0 y2 a1541_ hv1541_ hf1542_ (show a1541_ 105 5 ≤ 9 from by omega) (show (a0 2 1 = 0 → (a1541_ 2 2 = 0 ∧ a1541_ 2 3 = 1)) from by omega) (show a1541_ 105 5 = a0 105 5 from by omega) (show a1541_ 105 5 ≤ 9 from by omega) (KPR_cl hkp (fun j => ⟨(hf1541_ 108 j rfl), (hf1541_ 119 j rfl), (hf1541_ 130 j rfl), (hf1541_ 107 j rfl)⟩)) (RD_end2 hre (hf 2 1 rfl) (by omega) (by omega) hq1541_0 hq1541_1) (by first | rfl | assumption) (fun j => ((hf1541_ 106 j rfl)).trans (hs106 j))
  ·
    exact cp_X9_read_r2_70 E d hd x2 a0 b0 hv0 y2 a hv hf (show a 105 5 ≤ 9 from by omega) (show (a0 2 1 = 0 → (a 2 2 = 0 ∧ a 2 3 = 1)) from by omega) (show a 105 5 = a0 105 5 from by omega) (show a 105 5 ≤ 9 from by omega) (KPR_cl hkp (fun j => ⟨rfl, rfl, rfl, rfl⟩)) (RD_end1 hre (hf 2 1 rfl) (by omega)) (by first | rfl | assumption) (fun j => (rfl).trans (hs106 j))
theorem cp_X9_read_r2_30 (E : jxE) (d : Nat) (hd : Nat.ble 7 (d + 1) = true) (x2 : Int) (a0 b0 : Nat → Nat → Int) (hv0 : iv a0) : ∀ n : Nat, (∀ (y2 y3 y4 : Int) (a : Nat → Nat → Int), (((13 - y4) * 1) + 0).toNat ≤ n → iv a → jfr jW_X9_read_r2 a0 a → 0 ≤ y3 → y3 ≤ 1 → 0 ≤ y4 → y4 ≤ 13 → a 105 5 ≤ 9 → (a0 2 1 = 0 → ((((a 2 2 = 0 ∧ y4 = 0) ∧ ¬ y3 = 0) ∧ a 2 3 = 0) ∨ ((a 2 2 = 0 ∧ y3 = 0) ∧ a 2 3 = 1))) → a 105 5 = a0 105 5 → a 105 5 ≤ 9 → (KPR a0 a (a0 105 5).toNat) → (¬ y3 = 0 → RDL a0 a (a0 105 5).toNat y4) → (y3 = 0 → RDE a0 a (a0 105 5).toNat) → (y2 = x2) → (∀ j, a 106 j = a0 106 j) → jt (jxX E d 135 30 [some (.inr (.inr (.inl 105))), some (.inr (.inr (.inl 2))), some (.inl y2), some (.inl y3), some (.inl y4)] [] (jxSH, a, b0)) (jQ_X9_read_r2 x2 a0 b0)) := by
  refine jx_ind fun n ih => ?_
  have ih30 : ∀ (y2 y3 y4 : Int) (a : Nat → Nat → Int), (((13 - y4) * 1) + 0).toNat < n → iv a → jfr jW_X9_read_r2 a0 a → 0 ≤ y3 → y3 ≤ 1 → 0 ≤ y4 → y4 ≤ 13 → a 105 5 ≤ 9 → (a0 2 1 = 0 → ((((a 2 2 = 0 ∧ y4 = 0) ∧ ¬ y3 = 0) ∧ a 2 3 = 0) ∨ ((a 2 2 = 0 ∧ y3 = 0) ∧ a 2 3 = 1))) → a 105 5 = a0 105 5 → a 105 5 ≤ 9 → (KPR a0 a (a0 105 5).toNat) → (¬ y3 = 0 → RDL a0 a (a0 105 5).toNat y4) → (y3 = 0 → RDE a0 a (a0 105 5).toNat) → (y2 = x2) → (∀ j, a 106 j = a0 106 j) → jt (jxX E d 135 30 [some (.inr (.inr (.inl 105))), some (.inr (.inr (.inl 2))), some (.inl y2), some (.inl y3), some (.inl y4)] [] (jxSH, a, b0)) (jQ_X9_read_r2 x2 a0 b0) := fun y2 y3 y4 a hlt i0 i1 i2 i3 i4 i5 i6 i7 i8 i9 i10 i11 i12 i13 i14 => (ih _ hlt) y2 y3 y4 a (Nat.le_refl _) i0 i1 i2 i3 i4 i5 i6 i7 i8 i9 i10 i11 i12 i13 i14
  have hc30 : ∀ (y2 y3 y4 : Int) (a : Nat → Nat → Int), (((13 - y4) * 1) + 0).toNat ≤ n → iv a → jfr jW_X9_read_r2 a0 a → 0 ≤ y3 → y3 ≤ 1 → 0 ≤ y4 → y4 ≤ 13 → a 105 5 ≤ 9 → (a0 2 1 = 0 → ((((a 2 2 = 0 ∧ y4 = 0) ∧ ¬ y3 = 0) ∧ a 2 3 = 0) ∨ ((a 2 2 = 0 ∧ y3 = 0) ∧ a 2 3 = 1))) → a 105 5 = a0 105 5 → a 105 5 ≤ 9 → (KPR a0 a (a0 105 5).toNat) → (¬ y3 = 0 → RDL a0 a (a0 105 5).toNat y4) → (y3 = 0 → RDE a0 a (a0 105 5).toNat) → (y2 = x2) → (∀ j, a 106 j = a0 106 j) → jt (jxX E d 135 30 [some (.inr (.inr (.inl 105))), some (.inr (.inr (.inl 2))), some (.inl y2), some (.inl y3), some (.inl y4)] [] (jxSH, a, b0)) (jQ_X9_read_r2 x2 a0 b0) := by
    intro y2 y3 y4 a hm hv hf hi0 hi1 hi2 hi3 hi4 hi5 hi6 hi7 hkp hrl hre hy2 hs106
    refine jt_eq (bq_X9_read_r2_30 E d y2 y3 y4 a b0) ?_
    have h1547_ := iv_get hv (k := 105) (j := 5) (l := 0) (u := 10) rfl
    have h1548_ := iv_get hv0 (k := 2) (j := 1) (l := 0) (u := 200) rfl
    have h1549_ := iv_get hv (k := 2) (j := 2) (l := 0) (u := 200) rfl
    have h1550_ := iv_get hv0 (k := 105) (j := 5) (l := 0) (u := 10) rfl
    have h3 : a 3 = a0 3 := funext fun j => hf 3 j rfl
    have h21 := hf 2 1 rfl
    have h105 : True := trivial
    have hf0 : ¬ y3 = 0 → a 2 3 = 0 := fun h => (hrl h).1
    have hbig : ¬ y3 = 0 → y4 ≤ 12 := fun h => by rcases Int.lt_or_le 12 y4 with q | q <;> first | exact (RDL_big (hrl h) q).elim | exact q
    refine jt_ite (fun c1551_ => ?_) (fun c1551_ => ?_)
    ·
      exact cp_X9_read_r2_59 E d hd x2 a0 b0 hv0 y2 a hv hf (show a 105 5 ≤ 9 from by omega) (show (a0 2 1 = 0 → (a 2 2 = 0 ∧ a 2 3 = 1)) from by omega) (show a 105 5 = a0 105 5 from by omega) (show a 105 5 ≤ 9 from by omega) (KPR_cl hkp (fun j => ⟨rfl, rfl, rfl, rfl⟩)) (by first | exact hre (by omega) | exact absurd (by omega : False) id) (by first | rfl | assumption) (fun j => (rfl).trans (hs106 j))
    ·
      refine jt_ite (fun c1552_ => ?_) (fun c1552_ => ?_)
      ·
        exact cp_X9_read_r2_59 E d hd x2 a0 b0 hv0 y2 a hv hf (show a 105 5 ≤ 9 from by omega) (show (a0 2 1 = 0 → (a 2 2 = 0 ∧ a 2 3 = 1)) from by omega) (show a 105 5 = a0 105 5 from by omega) (show a 105 5 ≤ 9 from by omega) (KPR_cl hkp (fun j => ⟨rfl, rfl, rfl, rfl⟩)) (by first | exact hre (by omega) | exact absurd (by omega : False) id) (by first | rfl | assumption) (fun j => (rfl).trans (hs106 j))
      ·
        refine jt_bV (sp_X9_readClause_r2 E d (jd_le hd rfl) a b0 hv (show a 105 5 ≤ 9 from by omega) (show a 2 3 = 0 from by omega)) (fun a1553_ b1553_ h1553_ => ?_)
        obtain ⟨hv1553_, hf1553_, rfl, hq1553_0, hq1553_1, hq1553_2, hq1553_3⟩ := h1553_
        have h1554_ := iv_get hv (k := 2) (j := 1) (l := 0) (u := 200) rfl
        have h1555_ : a 2 1 = a0 2 1 := hf 2 1 rfl
        have h1556_ := iv_get hv1553_ (k := 2) (j := 2) (l := 0) (u := 200) rfl
        refine jt_bI (sp_X8_takesSign E d (jd_le hd rfl) 59 a1553_ b0 hv1553_) (fun r1557_ a1557_ b1557_ h1557_ => ?_)
        obtain ⟨hv1557_, hf1557_, rfl, hq1557_0, hq1557_1, hq1557_2, hq1557_3, hq1557_4⟩ := h1557_
        have h1558_ := iv_get hv1553_ (k := 2) (j := 1) (l := 0) (u := 200) rfl
        have h1559_ : a1553_ 2 1 = a 2 1 := hf1553_ 2 1 rfl
        have h1560_ := iv_get hv1557_ (k := 2) (j := 2) (l := 0) (u := 200) rfl
        have hstep := RD_step (s := (a0 105 5).toNat) (i := y4) (r := r1557_) (by omega) (hrl (by omega)) hkp h3 (hf 2 1 rfl) (by rw [show a 105 5 = a0 105 5 from by omega]) hq1553_1 hq1553_2 hq1553_3 (funext fun j => hf1553_ 3 j rfl) (hf1553_ 2 1 rfl) hq1557_2 hq1557_3 hq1557_4 (hf1557_ 2 3 rfl) (fun j => ⟨hf1557_ 108 j rfl, hf1557_ 119 j rfl, hf1557_ 130 j rfl, hf1557_ 107 j rfl⟩) (by omega)
        have hf1561_ : jfr jW_X9_read_r2 a0 a1553_ := jfr_tr hf hf1553_ rfl
        have hf1562_ : jfr jW_X9_read_r2 a0 a1557_ := jfr_tr hf1561_ hf1557_ rfl
        have h1563_ : jxw (y4 + 1) = y4 + 1 := jxw_id (by omega) (by omega)
        have h1564_ := iv_get hv1557_ (k := 105) (j := 5) (l := 0) (u := 10) rfl
        have h1565_ : a1557_ 105 5 = a1553_ 105 5 := hf1557_ 105 5 rfl
        have h1566_ := iv_get hv1553_ (k := 105) (j := 5) (l := 0) (u := 10) rfl
        have h1567_ : a1553_ 105 5 = a 105 5 := hf1553_ 105 5 rfl
        have h1568_ : a1557_ 2 3 = a1553_ 2 3 := hf1557_ 2 3 rfl
        exact ih30 y2 r1557_ (jxw (y4 + 1)) a1557_ (show (((13 - (jxw (y4 + 1))) * 1) + 0).toNat < n from by omega) hv1557_ hf1562_ (show 0 ≤ r1557_ from by omega) (show r1557_ ≤ 1 from by omega) (show 0 ≤ jxw (y4 + 1) from by omega) (show jxw (y4 + 1) ≤ 13 from by omega) (show a1557_ 105 5 ≤ 9 from by omega) (show (a0 2 1 = 0 → ((((a1557_ 2 2 = 0 ∧ jxw (y4 + 1) = 0) ∧ ¬ r1557_ = 0) ∧ a1557_ 2 3 = 0) ∨ ((a1557_ 2 2 = 0 ∧ r1557_ = 0) ∧ a1557_ 2 3 = 1))) from by omega) (show a1557_ 105 5 = a0 105 5 from by omega) (show a1557_ 105 5 ≤ 9 from by omega) (hstep).2.2 (by first | exact (fun _ => hrl) | (rw [show jxw (y4 + 1) = y4 + 1 from by omega]; exact hstep.1)) (by first | exact (fun h => absurd h (by omega)) | exact hstep.2.1) (by first | rfl | assumption) (fun j => (((hf1557_ 106 j rfl).trans (hf1553_ 106 j rfl))).trans (hs106 j))
  exact hc30
theorem cp_X9_read_r2_27 (E : jxE) (d : Nat) (hd : Nat.ble 7 (d + 1) = true) (x2 : Int) (a0 b0 : Nat → Nat → Int) (hv0 : iv a0) : ∀ (y2 y3 : Int) (a : Nat → Nat → Int), iv a → jfr jW_X9_read_r2 a0 a → 1 ≤ y3 → y3 ≤ 1 → a 105 5 ≤ 9 → (a0 2 1 = 0 → (a 2 2 = 0 ∧ a 2 3 = 0)) → y3 = 1 → a 105 5 = a0 105 5 → a 105 5 ≤ 9 → (KPR a0 a (a0 105 5).toNat) → (RDL a0 a (a0 105 5).toNat 0) → (y2 = x2) → (∀ j, a 106 j = a0 106 j) → jt (jxX E d 135 27 [some (.inr (.inr (.inl 105))), some (.inr (.inr (.inl 2))), some (.inl y2), some (.inl y3), none] [] (jxSH, a, b0)) (jQ_X9_read_r2 x2 a0 b0) := by
  intro y2 y3 a hv hf hi0 hi1 hi2 hi3 hi4 hi5 hi6 hkp hrl hy2 hs106
  refine jt_eq (bq_X9_read_r2_27 E d y2 y3 a b0) ?_
  have h1569_ := iv_get hv (k := 105) (j := 5) (l := 0) (u := 10) rfl
  have h1570_ := iv_get hv0 (k := 2) (j := 1) (l := 0) (u := 200) rfl
  have h1571_ := iv_get hv (k := 2) (j := 2) (l := 0) (u := 200) rfl
  have h1572_ := iv_get hv0 (k := 105) (j := 5) (l := 0) (u := 10) rfl
  have h3 : a 3 = a0 3 := funext fun j => hf 3 j rfl
  have h21 := hf 2 1 rfl
  have h105 : True := trivial
  exact (cp_X9_read_r2_30 E d hd x2 a0 b0 hv0 _) y2 y3 0 a (Nat.le_refl _) hv hf (show 0 ≤ y3 from by omega) (show y3 ≤ 1 from by omega) (show 0 ≤ 0 from by omega) (show 0 ≤ 13 from by omega) (show a 105 5 ≤ 9 from by omega) (show (a0 2 1 = 0 → ((((a 2 2 = 0 ∧ 0 = 0) ∧ ¬ y3 = 0) ∧ a 2 3 = 0) ∨ ((a 2 2 = 0 ∧ y3 = 0) ∧ a 2 3 = 1))) from by omega) (show a 105 5 = a0 105 5 from by omega) (show a 105 5 ≤ 9 from by omega) (KPR_cl hkp (fun j => ⟨rfl, rfl, rfl, rfl⟩)) (by first | exact (fun _ => hrl) | (rw [show jxw (y4 + 1) = y4 + 1 from by omega]; exact hstep.1)) (by first | exact (fun h => absurd h (by omega)) | exact hstep.2.1) (by first | rfl | assumption) (fun j => (rfl).trans (hs106 j))
theorem sp_X9_read_r2 (E : jxE) (d : Nat) (hd : Nat.ble 7 d = true) (x2 : Int) (a0 b0 : Nat → Nat → Int) (hv0 : iv a0) : jt (jxC E d 135 [.inr (.inr (.inl 105)), .inr (.inr (.inl 2)), .inl x2] (jxSH, a0, b0)) (jQ_X9_read_r2 x2 a0 b0) := by
  obtain ⟨d, rfl⟩ := jd_succ hd
  refine jt_eq (bq_X9_read_r2 E d x2 a0 b0) ?_
  have h1573_ := iv_get hv0 (k := 105) (j := 5) (l := 0) (u := 10) rfl
  refine jt_ite (fun c1574_ => ?_) (fun c1574_ => ?_)
  ·
    refine jt_grd (by omega) ?_
    have hv1575_ : iv (jxu a0 107 ((a0 105 5).toNat) 0) := iv_put hv0 (l := 0) (u := 12) rfl (by omega) (by omega)
    refine jt_bV (sp_X8_startReading E d (jd_le hd rfl) (jxu a0 107 ((a0 105 5).toNat) 0) b0 hv1575_) (fun a1576_ b1576_ h1576_ => ?_)
    obtain ⟨hv1576_, hf1576_, rfl, hq1576_0, hq1576_1, hq1576_2⟩ := h1576_
    have h1577_ : a1576_ 2 3 = 0 := hq1576_0
    have h1578_ := iv_get hv0 (k := 2) (j := 1) (l := 0) (u := 200) rfl
    have h1579_ := iv_get hv1576_ (k := 2) (j := 2) (l := 0) (u := 200) rfl
    have h1580_ : (a0 2 1 = 0 → a1576_ 2 2 = 0) := hq1576_1
    have hf1581_ : jfr jW_X9_read_r2 a0 (jxu a0 107 ((a0 105 5).toNat) 0) := jfr_put (jfr_rf _ _) rfl
    have hf1582_ : jfr jW_X9_read_r2 a0 a1576_ := jfr_tr hf1581_ hf1576_ rfl
    have h1583_ := iv_get hv1576_ (k := 105) (j := 5) (l := 0) (u := 10) rfl
    have h1584_ : a1576_ 105 5 = a0 105 5 := hf1576_ 105 5 rfl
    exact cp_X9_read_r2_27 E d hd x2 a0 b0 hv0 x2 1 a1576_ hv1576_ hf1582_ (show 1 ≤ 1 from by omega) (show 1 ≤ 1 from by omega) (show a1576_ 105 5 ≤ 9 from by omega) (show (a0 2 1 = 0 → (a1576_ 2 2 = 0 ∧ a1576_ 2 3 = 0)) from by omega) (show 1 = 1 from by omega) (show a1576_ 105 5 = a0 105 5 from by omega) (show a1576_ 105 5 ≤ 9 from by omega) ⟨fun j hj => ((hf1576_ 107 j rfl)).trans (show jxu a0 107 (a0 105 5).toNat 0 107 j = a0 107 j from by simp only [jxu]; simp; omega), fun j _ => ⟨(hf1576_ 108 j rfl), (hf1576_ 119 j rfl), (hf1576_ 130 j rfl)⟩⟩ (by refine ⟨?_, ?_, ?_, fun k hk => absurd hk (Nat.not_lt_zero _), fun k hk => absurd hk (Nat.not_lt_zero _)⟩ <;> first | omega | exact hq1576_2 | (rw [hf1576_ 107 _ rfl]; simp [jxu])) (by first | rfl | assumption) (fun j => (hf1576_ 106 j rfl))
  ·
    have h1585_ := iv_get hv0 (k := 2) (j := 1) (l := 0) (u := 200) rfl
    exact jt_rI ⟨hv0, (jfr_rf _ _), rfl, (show ((a0 2 1 = 0 ∧ a0 105 5 ≤ 9) → (-1) = 0 - 3) from by omega), (fun h => absurd h (by omega)), (fun h => absurd h (by omega)), ⟨fun _ _ => rfl, fun _ _ => ⟨rfl, rfl, rfl⟩⟩, (fun h => absurd h (by decide)), (fun _ _ => rfl)⟩
def jW_X11_rates : List (Nat × Nat) := [(2, 1), (2, 2), (2, 3), (105, 5), (106, 9999), (107, 9999), (108, 9999), (119, 9999), (130, 9999)]
abbrev jQ_X11_rates (x1 : Int) (a0 b0 : Nat → Nat → Int) : List jxV → (Nat → Nat → Int) → (Nat → Nat → Int) → Prop := rI (fun r a b => (iv a) ∧ (jfr jW_X11_rates a0 a) ∧ (b0 = b) ∧ (((a0 2 1 = 0 ∧ a0 105 5 = 0) → (((0 ≤ x1 ∧ x1 ≤ 1999) ∧ r = 0 - 3) ∨ ((x1 < 0 ∨ 1999 < x1) ∧ r = 0 - 1)))) ∧ ((((0 ≤ x1 ∧ x1 ≤ 1999) ∧ a0 105 5 ≤ 9) → a 2 1 = 0)) ∧ ((((x1 < 0 ∨ 1999 < x1) ∨ 9 < a0 105 5) → ((r = 0 - 1 ∧ a 2 1 = a0 2 1) ∧ a 105 5 = a0 105 5))) ∧ (0 ≤ x1 ∧ x1 ≤ 1999 ∧ a0 105 5 ≤ 9 → RTR (a0 3) (a0 2 1).toNat r ∧ ((1 ≤ r ∧ a 105 5 = a0 105 5 + 1) ∨ (r < 0 ∧ a 105 5 = a0 105 5))) ∧ (KPR a0 a (a0 105 5).toNat ∧ (1 ≤ r → RWS a (a0 3) (a0 2 1).toNat (a0 105 5).toNat r.toNat ∧ a 107 (a0 105 5).toNat = r ∧ UP (a0 106) (a 106) (a0 105 5).toNat x1) ∧ (r < 0 → ∀ j, a 106 j = a0 106 j)))
theorem cp_X11_rates_32 (E : jxE) (d : Nat) (hd : Nat.ble 8 (d + 1) = true) (x1 : Int) (a0 b0 : Nat → Nat → Int) (hv0 : iv a0) : ∀ (y2 : Int) (a : Nat → Nat → Int), iv a → jfr jW_X11_rates a0 a → ((a0 2 1 = 0 ∧ a0 105 5 = 0) → ((0 ≤ x1 ∧ x1 ≤ 1999) ∧ y2 = 0 - 3)) → ((0 ≤ x1 ∧ x1 ≤ 1999) ∧ a0 105 5 ≤ 9) → (RTR (a0 3) (a0 2 1).toNat y2 ∧ ((1 ≤ y2 ∧ a 105 5 = a0 105 5 + 1) ∨ (y2 < 0 ∧ a 105 5 = a0 105 5))) → (KPR a0 a (a0 105 5).toNat ∧ (1 ≤ y2 → RWS a (a0 3) (a0 2 1).toNat (a0 105 5).toNat y2.toNat ∧ a 107 (a0 105 5).toNat = y2 ∧ UP (a0 106) (a 106) (a0 105 5).toNat x1) ∧ (y2 < 0 → ∀ j, a 106 j = a0 106 j)) → jt (jxX E d 191 32 [some (.inr (.inr (.inl 0))), none, some (.inl y2)] [] (jxSH, a, b0)) (jQ_X11_rates x1 a0 b0) := by
  intro y2 a hv hf hi0 hi1 hrt hrw
  refine jt_eq (bq_X11_rates_32 E d y2 a b0) ?_
  have h1586_ := iv_get hv0 (k := 2) (j := 1) (l := 0) (u := 200) rfl
  have h1587_ := iv_get hv0 (k := 105) (j := 5) (l := 0) (u := 10) rfl
  refine jt_bV (sp_X8_cut E d (jd_le hd rfl) 0 a b0 hv) (fun a1588_ b1588_ h1588_ => ?_)
  obtain ⟨hv1588_, hf1588_, rfl, hq1588_0⟩ := h1588_
  have h1589_ := iv_get hv (k := 2) (j := 1) (l := 0) (u := 200) rfl
  have h1590_ := iv_get hv1588_ (k := 2) (j := 1) (l := 0) (u := 200) rfl
  have hf1591_ : jfr jW_X11_rates a0 a1588_ := jfr_tr hf hf1588_ rfl
  have h1592_ := iv_get hv1588_ (k := 105) (j := 5) (l := 0) (u := 10) rfl
  have h1593_ : a1588_ 105 5 = a 105 5 := hf1588_ 105 5 rfl
  have h1594_ := iv_get hv (k := 105) (j := 5) (l := 0) (u := 10) rfl
  exact jt_rI ⟨hv1588_, hf1591_, rfl, (show ((a0 2 1 = 0 ∧ a0 105 5 = 0) → (((0 ≤ x1 ∧ x1 ≤ 1999) ∧ y2 = 0 - 3) ∨ ((x1 < 0 ∨ 1999 < x1) ∧ y2 = 0 - 1))) from by omega), (show (((0 ≤ x1 ∧ x1 ≤ 1999) ∧ a0 105 5 ≤ 9) → a1588_ 2 1 = 0) from by omega), (show (((x1 < 0 ∨ 1999 < x1) ∨ 9 < a0 105 5) → ((y2 = 0 - 1 ∧ a1588_ 2 1 = a0 2 1) ∧ a1588_ 105 5 = a0 105 5)) from by omega), (fun _ => by rw [hf1588_ 105 5 rfl]; exact hrt), ⟨KPR_cl hrw.1 (fun j => ⟨hf1588_ 108 j rfl, hf1588_ 119 j rfl, hf1588_ 130 j rfl, hf1588_ 107 j rfl⟩), fun q => ⟨fun k hk => by rw [hf1588_ 108 _ rfl, hf1588_ 119 _ rfl, hf1588_ 130 _ rfl]; exact (hrw.2.1 q).1 k hk, (hf1588_ 107 _ rfl).trans (hrw.2.1 q).2.1, UP_cr (hrw.2.1 q).2.2 (fun j => hf1588_ 106 j rfl)⟩, fun q j => (hf1588_ 106 j rfl).trans (hrw.2.2 q j)⟩⟩
theorem sp_X11_rates (E : jxE) (d : Nat) (hd : Nat.ble 8 d = true) (x1 : Int) (a0 b0 : Nat → Nat → Int) (hv0 : iv a0) : jt (jxC E d 191 [.inr (.inr (.inl 0)), .inl x1] (jxSH, a0, b0)) (jQ_X11_rates x1 a0 b0) := by
  obtain ⟨d, rfl⟩ := jd_succ hd
  refine jt_eq (bq_X11_rates E d x1 a0 b0) ?_
  refine jt_eI (eq_X11_isDay E d (jd_le hd rfl) x1 a0 b0) ?_
  have h1595_ := f_X11_isDay_eq a0 b0 x1
  have h1596_ := f_X11_within_eq a0 b0 x1 0 1999
  refine jt_ite (fun c1597_ => ?_) (fun c1597_ => ?_)
  ·
    have h1598_ := iv_get hv0 (k := 2) (j := 1) (l := 0) (u := 200) rfl
    have h1599_ := iv_get hv0 (k := 105) (j := 5) (l := 0) (u := 10) rfl
    exact jt_rI ⟨hv0, (jfr_rf _ _), rfl, (show ((a0 2 1 = 0 ∧ a0 105 5 = 0) → (((0 ≤ x1 ∧ x1 ≤ 1999) ∧ (-1) = 0 - 3) ∨ ((x1 < 0 ∨ 1999 < x1) ∧ (-1) = 0 - 1))) from by omega), (show (((0 ≤ x1 ∧ x1 ≤ 1999) ∧ a0 105 5 ≤ 9) → a0 2 1 = 0) from by omega), (show (((x1 < 0 ∨ 1999 < x1) ∨ 9 < a0 105 5) → (((-1) = 0 - 1 ∧ a0 2 1 = a0 2 1) ∧ a0 105 5 = a0 105 5)) from by omega), (fun h => absurd h (by omega)), ⟨⟨fun _ _ => rfl, fun _ _ => ⟨rfl, rfl, rfl⟩⟩, fun h => absurd h (by decide), fun _ _ => rfl⟩⟩
  ·
    refine jt_eI (eq_X9_hasRoom E d (jd_le hd rfl) a0 b0) ?_
    have h1600_ := f_X9_hasRoom_eq a0 b0
    have h1601_ := iv_get hv0 (k := 105) (j := 5) (l := 0) (u := 10) rfl
    refine jt_ite (fun c1602_ => ?_) (fun c1602_ => ?_)
    ·
      have h1603_ := iv_get hv0 (k := 2) (j := 1) (l := 0) (u := 200) rfl
      exact jt_rI ⟨hv0, (jfr_rf _ _), rfl, (show ((a0 2 1 = 0 ∧ a0 105 5 = 0) → (((0 ≤ x1 ∧ x1 ≤ 1999) ∧ (-1) = 0 - 3) ∨ ((x1 < 0 ∨ 1999 < x1) ∧ (-1) = 0 - 1))) from by omega), (show (((0 ≤ x1 ∧ x1 ≤ 1999) ∧ a0 105 5 ≤ 9) → a0 2 1 = 0) from by omega), (show (((x1 < 0 ∨ 1999 < x1) ∨ 9 < a0 105 5) → (((-1) = 0 - 1 ∧ a0 2 1 = a0 2 1) ∧ a0 105 5 = a0 105 5)) from by omega), (fun h => absurd h (by omega)), ⟨⟨fun _ _ => rfl, fun _ _ => ⟨rfl, rfl, rfl⟩⟩, fun h => absurd h (by decide), fun _ _ => rfl⟩⟩
    ·
      refine jt_bI (sp_X9_read_r2 E d (jd_le hd rfl) x1 a0 b0 hv0) (fun r1604_ a1604_ b1604_ h1604_ => ?_)
      obtain ⟨hv1604_, hf1604_, rfl, hq1604_0, hq1604_1, hq1604_2, hq1604_3, hq1604_4, hq1604_5⟩ := h1604_
      have h1605_ := iv_get hv0 (k := 2) (j := 1) (l := 0) (u := 200) rfl
      have hf1606_ : jfr jW_X11_rates a0 a1604_ := jfr_tr (jfr_rf _ _) hf1604_ rfl
      exact cp_X11_rates_32 E d hd x1 a0 b0 hv0 r1604_ a1604_ hv1604_ hf1606_ (show ((a0 2 1 = 0 ∧ a0 105 5 = 0) → ((0 ≤ x1 ∧ x1 ≤ 1999) ∧ r1604_ = 0 - 3)) from by omega) (show ((0 ≤ x1 ∧ x1 ≤ 1999) ∧ a0 105 5 ≤ 9) from by omega) ⟨hq1604_1 (by omega), hq1604_2 (by omega)⟩ ⟨hq1604_3, hq1604_4, hq1604_5⟩
def jW_X5_linkSeats : List (Nat × Nat) := [(92, 9999), (93, 9999)]
abbrev jQ_X5_linkSeats (a0 b0 : Nat → Nat → Int) : List jxV → (Nat → Nat → Int) → (Nat → Nat → Int) → Prop := rV (fun a b => (iv a) ∧ (jfr jW_X5_linkSeats a0 a) ∧ (b0 = b))
theorem cp_X5_linkSeats_2 (E : jxE) (d : Nat) (hd : Nat.ble 3 (d + 1) = true) (a0 b0 : Nat → Nat → Int) (hv0 : iv a0) : ∀ n : Nat, (∀ (y1 y2 : Int) (a : Nat → Nat → Int), (((((12 - y1) * 15) + 0) + ((12 - y2) * 1)) + 0).toNat ≤ n → iv a → jfr jW_X5_linkSeats a0 a → 0 ≤ y1 → y1 ≤ 11 → 0 ≤ y2 → y2 ≤ 11 → 1 ≤ a 90 3 → jt (jxX E d 84 130 [some (.inr (.inr (.inl 90))), some (.inl y1), some (.inl y2)] [] (jxSH, a, b0)) (jQ_X5_linkSeats a0 b0)) ∧ (∀ (y1 y2 : Int) (a : Nat → Nat → Int), (((((12 - y1) * 15) + 0) + ((12 - y2) * 1)) + 0).toNat ≤ n → iv a → jfr jW_X5_linkSeats a0 a → 0 ≤ y1 → y1 ≤ 11 → 0 ≤ y2 → y2 ≤ 11 → 1 ≤ a 90 3 → jt (jxX E d 84 70 [some (.inr (.inr (.inl 90))), some (.inl y1), some (.inl y2)] [] (jxSH, a, b0)) (jQ_X5_linkSeats a0 b0)) ∧ (∀ (y1 y2 : Int) (a : Nat → Nat → Int), (((((12 - y1) * 15) + 0) + ((12 - y2) * 1)) + 0).toNat ≤ n → iv a → jfr jW_X5_linkSeats a0 a → 0 ≤ y1 → y1 ≤ 11 → 0 ≤ y2 → y2 ≤ 11 → 1 ≤ a 90 3 → jt (jxX E d 84 118 [some (.inr (.inr (.inl 90))), some (.inl y1), some (.inl y2)] [] (jxSH, a, b0)) (jQ_X5_linkSeats a0 b0)) ∧ (∀ (y1 y2 : Int) (a : Nat → Nat → Int), (((((12 - y1) * 15) + 0) + ((12 - y2) * 1)) + 0).toNat ≤ n → iv a → jfr jW_X5_linkSeats a0 a → 0 ≤ y1 → y1 ≤ 11 → 0 ≤ y2 → y2 ≤ 11 → 1 ≤ a 90 3 → jt (jxX E d 84 85 [some (.inr (.inr (.inl 90))), some (.inl y1), some (.inl y2)] [] (jxSH, a, b0)) (jQ_X5_linkSeats a0 b0)) ∧ (∀ (y1 y2 : Int) (a : Nat → Nat → Int), (((((12 - y1) * 15) + 0) + ((12 - y2) * 1)) + 0).toNat ≤ n → iv a → jfr jW_X5_linkSeats a0 a → 0 ≤ y1 → y1 ≤ 11 → 0 ≤ y2 → y2 ≤ 12 → 1 ≤ a 90 3 → jt (jxX E d 84 26 [some (.inr (.inr (.inl 90))), some (.inl y1), some (.inl y2)] [] (jxSH, a, b0)) (jQ_X5_linkSeats a0 b0)) ∧ (∀ (y1 : Int) (a : Nat → Nat → Int), (((12 - y1) * 15) + 14).toNat ≤ n → iv a → jfr jW_X5_linkSeats a0 a → 0 ≤ y1 → y1 ≤ 11 → 1 ≤ a 90 3 → jt (jxX E d 84 24 [some (.inr (.inr (.inl 90))), some (.inl y1), none] [] (jxSH, a, b0)) (jQ_X5_linkSeats a0 b0)) ∧ (∀ (y1 : Int) (a : Nat → Nat → Int), (((12 - y1) * 15) + 14).toNat ≤ n → iv a → jfr jW_X5_linkSeats a0 a → 0 ≤ y1 → y1 ≤ 12 → jt (jxX E d 84 2 [some (.inr (.inr (.inl 90))), some (.inl y1), none] [] (jxSH, a, b0)) (jQ_X5_linkSeats a0 b0)) := by
  refine jx_ind fun n ih => ?_
  have ih130 : ∀ (y1 y2 : Int) (a : Nat → Nat → Int), (((((12 - y1) * 15) + 0) + ((12 - y2) * 1)) + 0).toNat < n → iv a → jfr jW_X5_linkSeats a0 a → 0 ≤ y1 → y1 ≤ 11 → 0 ≤ y2 → y2 ≤ 11 → 1 ≤ a 90 3 → jt (jxX E d 84 130 [some (.inr (.inr (.inl 90))), some (.inl y1), some (.inl y2)] [] (jxSH, a, b0)) (jQ_X5_linkSeats a0 b0) := fun y1 y2 a hlt i0 i1 i2 i3 i4 i5 i6 => (ih _ hlt).1 y1 y2 a (Nat.le_refl _) i0 i1 i2 i3 i4 i5 i6
  have ih70 : ∀ (y1 y2 : Int) (a : Nat → Nat → Int), (((((12 - y1) * 15) + 0) + ((12 - y2) * 1)) + 0).toNat < n → iv a → jfr jW_X5_linkSeats a0 a → 0 ≤ y1 → y1 ≤ 11 → 0 ≤ y2 → y2 ≤ 11 → 1 ≤ a 90 3 → jt (jxX E d 84 70 [some (.inr (.inr (.inl 90))), some (.inl y1), some (.inl y2)] [] (jxSH, a, b0)) (jQ_X5_linkSeats a0 b0) := fun y1 y2 a hlt i0 i1 i2 i3 i4 i5 i6 => (ih _ hlt).2.1 y1 y2 a (Nat.le_refl _) i0 i1 i2 i3 i4 i5 i6
  have ih118 : ∀ (y1 y2 : Int) (a : Nat → Nat → Int), (((((12 - y1) * 15) + 0) + ((12 - y2) * 1)) + 0).toNat < n → iv a → jfr jW_X5_linkSeats a0 a → 0 ≤ y1 → y1 ≤ 11 → 0 ≤ y2 → y2 ≤ 11 → 1 ≤ a 90 3 → jt (jxX E d 84 118 [some (.inr (.inr (.inl 90))), some (.inl y1), some (.inl y2)] [] (jxSH, a, b0)) (jQ_X5_linkSeats a0 b0) := fun y1 y2 a hlt i0 i1 i2 i3 i4 i5 i6 => (ih _ hlt).2.2.1 y1 y2 a (Nat.le_refl _) i0 i1 i2 i3 i4 i5 i6
  have ih85 : ∀ (y1 y2 : Int) (a : Nat → Nat → Int), (((((12 - y1) * 15) + 0) + ((12 - y2) * 1)) + 0).toNat < n → iv a → jfr jW_X5_linkSeats a0 a → 0 ≤ y1 → y1 ≤ 11 → 0 ≤ y2 → y2 ≤ 11 → 1 ≤ a 90 3 → jt (jxX E d 84 85 [some (.inr (.inr (.inl 90))), some (.inl y1), some (.inl y2)] [] (jxSH, a, b0)) (jQ_X5_linkSeats a0 b0) := fun y1 y2 a hlt i0 i1 i2 i3 i4 i5 i6 => (ih _ hlt).2.2.2.1 y1 y2 a (Nat.le_refl _) i0 i1 i2 i3 i4 i5 i6
  have ih26 : ∀ (y1 y2 : Int) (a : Nat → Nat → Int), (((((12 - y1) * 15) + 0) + ((12 - y2) * 1)) + 0).toNat < n → iv a → jfr jW_X5_linkSeats a0 a → 0 ≤ y1 → y1 ≤ 11 → 0 ≤ y2 → y2 ≤ 12 → 1 ≤ a 90 3 → jt (jxX E d 84 26 [some (.inr (.inr (.inl 90))), some (.inl y1), some (.inl y2)] [] (jxSH, a, b0)) (jQ_X5_linkSeats a0 b0) := fun y1 y2 a hlt i0 i1 i2 i3 i4 i5 i6 => (ih _ hlt).2.2.2.2.1 y1 y2 a (Nat.le_refl _) i0 i1 i2 i3 i4 i5 i6
  have ih24 : ∀ (y1 : Int) (a : Nat → Nat → Int), (((12 - y1) * 15) + 14).toNat < n → iv a → jfr jW_X5_linkSeats a0 a → 0 ≤ y1 → y1 ≤ 11 → 1 ≤ a 90 3 → jt (jxX E d 84 24 [some (.inr (.inr (.inl 90))), some (.inl y1), none] [] (jxSH, a, b0)) (jQ_X5_linkSeats a0 b0) := fun y1 a hlt i0 i1 i2 i3 i4 => (ih _ hlt).2.2.2.2.2.1 y1 a (Nat.le_refl _) i0 i1 i2 i3 i4
  have ih2 : ∀ (y1 : Int) (a : Nat → Nat → Int), (((12 - y1) * 15) + 14).toNat < n → iv a → jfr jW_X5_linkSeats a0 a → 0 ≤ y1 → y1 ≤ 12 → jt (jxX E d 84 2 [some (.inr (.inr (.inl 90))), some (.inl y1), none] [] (jxSH, a, b0)) (jQ_X5_linkSeats a0 b0) := fun y1 a hlt i0 i1 i2 i3 => (ih _ hlt).2.2.2.2.2.2 y1 a (Nat.le_refl _) i0 i1 i2 i3
  have hc130 : ∀ (y1 y2 : Int) (a : Nat → Nat → Int), (((((12 - y1) * 15) + 0) + ((12 - y2) * 1)) + 0).toNat ≤ n → iv a → jfr jW_X5_linkSeats a0 a → 0 ≤ y1 → y1 ≤ 11 → 0 ≤ y2 → y2 ≤ 11 → 1 ≤ a 90 3 → jt (jxX E d 84 130 [some (.inr (.inr (.inl 90))), some (.inl y1), some (.inl y2)] [] (jxSH, a, b0)) (jQ_X5_linkSeats a0 b0) := by
    intro y1 y2 a hm hv hf hi0 hi1 hi2 hi3 hi4
    refine jt_eq (bq_X5_linkSeats_130 E d y1 y2 a b0) ?_
    have h1607_ := iv_get hv (k := 90) (j := 3) (l := 0) (u := 12) rfl
    have h1608_ : a 90 3 = a0 90 3 := hf 90 3 rfl
    have h1609_ := iv_get hv0 (k := 90) (j := 3) (l := 0) (u := 12) rfl
    have h1610_ : jxw (y2 + 1) = y2 + 1 := jxw_id (by omega) (by omega)
    exact ih26 y1 (jxw (y2 + 1)) a (show (((((12 - y1) * 15) + 0) + ((12 - (jxw (y2 + 1))) * 1)) + 0).toNat < n from by omega) hv hf (show 0 ≤ y1 from by omega) (show y1 ≤ 11 from by omega) (show 0 ≤ jxw (y2 + 1) from by omega) (show jxw (y2 + 1) ≤ 12 from by omega) (show 1 ≤ a 90 3 from by omega)
  have hc70 : ∀ (y1 y2 : Int) (a : Nat → Nat → Int), (((((12 - y1) * 15) + 0) + ((12 - y2) * 1)) + 0).toNat ≤ n → iv a → jfr jW_X5_linkSeats a0 a → 0 ≤ y1 → y1 ≤ 11 → 0 ≤ y2 → y2 ≤ 11 → 1 ≤ a 90 3 → jt (jxX E d 84 70 [some (.inr (.inr (.inl 90))), some (.inl y1), some (.inl y2)] [] (jxSH, a, b0)) (jQ_X5_linkSeats a0 b0) := by
    intro y1 y2 a hm hv hf hi0 hi1 hi2 hi3 hi4
    refine jt_eq (bq_X5_linkSeats_70 E d y1 y2 a b0) ?_
    have h1611_ := iv_get hv (k := 90) (j := 3) (l := 0) (u := 12) rfl
    have h1612_ : a 90 3 = a0 90 3 := hf 90 3 rfl
    have h1613_ := iv_get hv0 (k := 90) (j := 3) (l := 0) (u := 12) rfl
    refine jt_grd (by omega) ?_
    refine jt_grd (by omega) ?_
    have hv1614_ : iv (jxu a 93 (y1.toNat) (jxor (a 93 (y1.toNat)) (jxshl 1 y2))) := iv_putf hv rfl
    have hf1615_ : jfr jW_X5_linkSeats a0 (jxu a 93 (y1.toNat) (jxor (a 93 (y1.toNat)) (jxshl 1 y2))) := jfr_put hf rfl
    exact hc130 y1 y2 (jxu a 93 (y1.toNat) (jxor (a 93 (y1.toNat)) (jxshl 1 y2))) (show (((((12 - y1) * 15) + 0) + ((12 - y2) * 1)) + 0).toNat ≤ n from by omega) hv1614_ hf1615_ (show 0 ≤ y1 from by omega) (show y1 ≤ 11 from by omega) (show 0 ≤ y2 from by omega) (show y2 ≤ 11 from by omega) (show 1 ≤ a 90 3 from by omega)
  have hc118 : ∀ (y1 y2 : Int) (a : Nat → Nat → Int), (((((12 - y1) * 15) + 0) + ((12 - y2) * 1)) + 0).toNat ≤ n → iv a → jfr jW_X5_linkSeats a0 a → 0 ≤ y1 → y1 ≤ 11 → 0 ≤ y2 → y2 ≤ 11 → 1 ≤ a 90 3 → jt (jxX E d 84 118 [some (.inr (.inr (.inl 90))), some (.inl y1), some (.inl y2)] [] (jxSH, a, b0)) (jQ_X5_linkSeats a0 b0) := by
    intro y1 y2 a hm hv hf hi0 hi1 hi2 hi3 hi4
    refine jt_eq (bq_X5_linkSeats_118 E d y1 y2 a b0) ?_
    have h1616_ := iv_get hv (k := 90) (j := 3) (l := 0) (u := 12) rfl
    have h1617_ : a 90 3 = a0 90 3 := hf 90 3 rfl
    have h1618_ := iv_get hv0 (k := 90) (j := 3) (l := 0) (u := 12) rfl
    refine jt_grd (by omega) ?_
    refine jt_grd (by omega) ?_
    have hv1619_ : iv (jxu a 92 (y1.toNat) (jxor (a 92 (y1.toNat)) (jxshl 1 y2))) := iv_putf hv rfl
    have hf1620_ : jfr jW_X5_linkSeats a0 (jxu a 92 (y1.toNat) (jxor (a 92 (y1.toNat)) (jxshl 1 y2))) := jfr_put hf rfl
    exact hc130 y1 y2 (jxu a 92 (y1.toNat) (jxor (a 92 (y1.toNat)) (jxshl 1 y2))) (show (((((12 - y1) * 15) + 0) + ((12 - y2) * 1)) + 0).toNat ≤ n from by omega) hv1619_ hf1620_ (show 0 ≤ y1 from by omega) (show y1 ≤ 11 from by omega) (show 0 ≤ y2 from by omega) (show y2 ≤ 11 from by omega) (show 1 ≤ a 90 3 from by omega)
  have hc85 : ∀ (y1 y2 : Int) (a : Nat → Nat → Int), (((((12 - y1) * 15) + 0) + ((12 - y2) * 1)) + 0).toNat ≤ n → iv a → jfr jW_X5_linkSeats a0 a → 0 ≤ y1 → y1 ≤ 11 → 0 ≤ y2 → y2 ≤ 11 → 1 ≤ a 90 3 → jt (jxX E d 84 85 [some (.inr (.inr (.inl 90))), some (.inl y1), some (.inl y2)] [] (jxSH, a, b0)) (jQ_X5_linkSeats a0 b0) := by
    intro y1 y2 a hm hv hf hi0 hi1 hi2 hi3 hi4
    refine jt_eq (bq_X5_linkSeats_85 E d y1 y2 a b0) ?_
    have h1621_ := iv_get hv (k := 90) (j := 3) (l := 0) (u := 12) rfl
    have h1622_ : a 90 3 = a0 90 3 := hf 90 3 rfl
    have h1623_ := iv_get hv0 (k := 90) (j := 3) (l := 0) (u := 12) rfl
    refine jt_grd (by omega) ?_
    refine jt_eI (eq_X4_wantsOf E d (jd_le hd rfl) (a 91 (y2.toNat)) a b0) ?_
    refine jt_grd (by omega) ?_
    refine jt_eI (eq_X4_kindOf E d (jd_le hd rfl) (a 91 (y1.toNat)) a b0) ?_
    have h1624_ : a 91 (y2.toNat) = a0 91 (y2.toNat) := hf 91 (y2.toNat) rfl
    have h1625_ := f_X4_wantsOf_eq a b0 (a 91 (y2.toNat))
    have h1626_ := f_X4_has_eq a b0 (a 91 (y2.toNat))
    have h1627_ := iv_get hv (k := 83) (j := 6) (l := 0) (u := 20) rfl
    have h1628_ : a 83 6 = a0 83 6 := hf 83 6 rfl
    have h1629_ := iv_get hv0 (k := 83) (j := 6) (l := 0) (u := 20) rfl
    have h1630_ : a 86 ((a 91 (y2.toNat)).toNat) = a0 86 ((a 91 (y2.toNat)).toNat) := hf 86 ((a 91 (y2.toNat)).toNat) rfl
    have h1631_ : a 91 (y1.toNat) = a0 91 (y1.toNat) := hf 91 (y1.toNat) rfl
    have h1632_ := f_X4_kindOf_eq a b0 (a 91 (y1.toNat))
    have h1633_ := f_X11_entry_r85_eq a b0 (a 83 6) (a 91 (y1.toNat))
    have h1634_ : a 85 ((a 91 (y1.toNat)).toNat) = a0 85 ((a 91 (y1.toNat)).toNat) := hf 85 ((a 91 (y1.toNat)).toNat) rfl
    have h1635_ := jxshr_b (f_X4_wantsOf a b0 (a 91 (y2.toNat))) (f_X4_kindOf a b0 (a 91 (y1.toNat)))
    have h1636_ := jxand_r (jxshr (f_X4_wantsOf a b0 (a 91 (y2.toNat))) (f_X4_kindOf a b0 (a 91 (y1.toNat)))) 1 (by decide) (by decide)
    refine jt_ite (fun c1637_ => ?_) (fun c1637_ => ?_)
    ·
      exact hc118 y1 y2 a (show (((((12 - y1) * 15) + 0) + ((12 - y2) * 1)) + 0).toNat ≤ n from by omega) hv hf (show 0 ≤ y1 from by omega) (show y1 ≤ 11 from by omega) (show 0 ≤ y2 from by omega) (show y2 ≤ 11 from by omega) (show 1 ≤ a 90 3 from by omega)
    ·
      exact hc130 y1 y2 a (show (((((12 - y1) * 15) + 0) + ((12 - y2) * 1)) + 0).toNat ≤ n from by omega) hv hf (show 0 ≤ y1 from by omega) (show y1 ≤ 11 from by omega) (show 0 ≤ y2 from by omega) (show y2 ≤ 11 from by omega) (show 1 ≤ a 90 3 from by omega)
  have hc26 : ∀ (y1 y2 : Int) (a : Nat → Nat → Int), (((((12 - y1) * 15) + 0) + ((12 - y2) * 1)) + 0).toNat ≤ n → iv a → jfr jW_X5_linkSeats a0 a → 0 ≤ y1 → y1 ≤ 11 → 0 ≤ y2 → y2 ≤ 12 → 1 ≤ a 90 3 → jt (jxX E d 84 26 [some (.inr (.inr (.inl 90))), some (.inl y1), some (.inl y2)] [] (jxSH, a, b0)) (jQ_X5_linkSeats a0 b0) := by
    intro y1 y2 a hm hv hf hi0 hi1 hi2 hi3 hi4
    refine jt_eq (bq_X5_linkSeats_26 E d y1 y2 a b0) ?_
    have h1638_ := iv_get hv (k := 90) (j := 3) (l := 0) (u := 12) rfl
    have h1639_ : a 90 3 = a0 90 3 := hf 90 3 rfl
    have h1640_ := iv_get hv0 (k := 90) (j := 3) (l := 0) (u := 12) rfl
    refine jt_ite (fun c1641_ => ?_) (fun c1641_ => ?_)
    ·
      refine jt_grd (by omega) ?_
      refine jt_eI (eq_X4_memberOf E d (jd_le hd rfl) (a 91 (y1.toNat)) a b0) ?_
      refine jt_grd (by omega) ?_
      refine jt_eI (eq_X4_memberOf E d (jd_le hd rfl) (a 91 (y2.toNat)) a b0) ?_
      refine jt_eI (eq_X3_areKin E d (jd_le hd rfl) (f_X4_memberOf a b0 (a 91 (y1.toNat))) (f_X4_memberOf a b0 (a 91 (y2.toNat))) a b0) ?_
      have h1642_ : a 91 (y1.toNat) = a0 91 (y1.toNat) := hf 91 (y1.toNat) rfl
      have h1643_ := f_X4_memberOf_eq a b0 (a 91 (y1.toNat))
      have h1644_ := iv_get hv (k := 83) (j := 6) (l := 0) (u := 20) rfl
      have h1645_ : a 83 6 = a0 83 6 := hf 83 6 rfl
      have h1646_ := iv_get hv0 (k := 83) (j := 6) (l := 0) (u := 20) rfl
      have h1647_ := f_X11_entry_r84_eq a b0 (a 83 6) (a 91 (y1.toNat))
      have h1648_ : a 84 ((a 91 (y1.toNat)).toNat) = a0 84 ((a 91 (y1.toNat)).toNat) := hf 84 ((a 91 (y1.toNat)).toNat) rfl
      have h1649_ : a 91 (y2.toNat) = a0 91 (y2.toNat) := hf 91 (y2.toNat) rfl
      have h1650_ := f_X4_memberOf_eq a b0 (a 91 (y2.toNat))
      have h1651_ := f_X11_entry_r84_eq a b0 (a 83 6) (a 91 (y2.toNat))
      have h1652_ : a 84 ((a 91 (y2.toNat)).toNat) = a0 84 ((a 91 (y2.toNat)).toNat) := hf 84 ((a 91 (y2.toNat)).toNat) rfl
      have h1653_ := f_X3_areKin_bool a b0 (f_X4_memberOf a b0 (a 91 (y1.toNat))) (f_X4_memberOf a b0 (a 91 (y2.toNat)))
      refine jt_ite (fun c1654_ => ?_) (fun c1654_ => ?_)
      ·
        exact hc85 y1 y2 a (show (((((12 - y1) * 15) + 0) + ((12 - y2) * 1)) + 0).toNat ≤ n from by omega) hv hf (show 0 ≤ y1 from by omega) (show y1 ≤ 11 from by omega) (show 0 ≤ y2 from by omega) (show y2 ≤ 11 from by omega) (show 1 ≤ a 90 3 from by omega)
      ·
        exact hc70 y1 y2 a (show (((((12 - y1) * 15) + 0) + ((12 - y2) * 1)) + 0).toNat ≤ n from by omega) hv hf (show 0 ≤ y1 from by omega) (show y1 ≤ 11 from by omega) (show 0 ≤ y2 from by omega) (show y2 ≤ 11 from by omega) (show 1 ≤ a 90 3 from by omega)
    ·
      have h1655_ : jxw (y1 + 1) = y1 + 1 := jxw_id (by omega) (by omega)
      exact ih2 (jxw (y1 + 1)) a (show (((12 - (jxw (y1 + 1))) * 15) + 14).toNat < n from by omega) hv hf (show 0 ≤ jxw (y1 + 1) from by omega) (show jxw (y1 + 1) ≤ 12 from by omega)
  have hc24 : ∀ (y1 : Int) (a : Nat → Nat → Int), (((12 - y1) * 15) + 14).toNat ≤ n → iv a → jfr jW_X5_linkSeats a0 a → 0 ≤ y1 → y1 ≤ 11 → 1 ≤ a 90 3 → jt (jxX E d 84 24 [some (.inr (.inr (.inl 90))), some (.inl y1), none] [] (jxSH, a, b0)) (jQ_X5_linkSeats a0 b0) := by
    intro y1 a hm hv hf hi0 hi1 hi2
    refine jt_eq (bq_X5_linkSeats_24 E d y1 a b0) ?_
    have h1656_ := iv_get hv (k := 90) (j := 3) (l := 0) (u := 12) rfl
    have h1657_ : a 90 3 = a0 90 3 := hf 90 3 rfl
    have h1658_ := iv_get hv0 (k := 90) (j := 3) (l := 0) (u := 12) rfl
    exact hc26 y1 0 a (show (((((12 - y1) * 15) + 0) + ((12 - 0) * 1)) + 0).toNat ≤ n from by omega) hv hf (show 0 ≤ y1 from by omega) (show y1 ≤ 11 from by omega) (show 0 ≤ 0 from by omega) (show 0 ≤ 12 from by omega) (show 1 ≤ a 90 3 from by omega)
  have hc2 : ∀ (y1 : Int) (a : Nat → Nat → Int), (((12 - y1) * 15) + 14).toNat ≤ n → iv a → jfr jW_X5_linkSeats a0 a → 0 ≤ y1 → y1 ≤ 12 → jt (jxX E d 84 2 [some (.inr (.inr (.inl 90))), some (.inl y1), none] [] (jxSH, a, b0)) (jQ_X5_linkSeats a0 b0) := by
    intro y1 a hm hv hf hi0 hi1
    refine jt_eq (bq_X5_linkSeats_2 E d y1 a b0) ?_
    have h1659_ := iv_get hv (k := 90) (j := 3) (l := 0) (u := 12) rfl
    have h1660_ : a 90 3 = a0 90 3 := hf 90 3 rfl
    have h1661_ := iv_get hv0 (k := 90) (j := 3) (l := 0) (u := 12) rfl
    refine jt_ite (fun c1662_ => ?_) (fun c1662_ => ?_)
    ·
      refine jt_grd (by omega) ?_
      refine jt_grd (by omega) ?_
      have hv1663_ : iv (jxu a 92 (y1.toNat) 0) := iv_putf hv rfl
      have hv1664_ : iv (jxu (jxu a 92 (y1.toNat) 0) 93 (y1.toNat) 0) := iv_putf hv1663_ rfl
      have hf1665_ : jfr jW_X5_linkSeats a0 (jxu a 92 (y1.toNat) 0) := jfr_put hf rfl
      have hf1666_ : jfr jW_X5_linkSeats a0 (jxu (jxu a 92 (y1.toNat) 0) 93 (y1.toNat) 0) := jfr_put hf1665_ rfl
      exact hc24 y1 (jxu (jxu a 92 (y1.toNat) 0) 93 (y1.toNat) 0) (show (((12 - y1) * 15) + 14).toNat ≤ n from by omega) hv1664_ hf1666_ (show 0 ≤ y1 from by omega) (show y1 ≤ 11 from by omega) (show 1 ≤ a 90 3 from by omega)
    ·
      exact jt_rV ⟨hv, hf, rfl⟩
  exact ⟨hc130, hc70, hc118, hc85, hc26, hc24, hc2⟩
theorem sp_X5_linkSeats (E : jxE) (d : Nat) (hd : Nat.ble 3 d = true) (a0 b0 : Nat → Nat → Int) (hv0 : iv a0) : jt (jxC E d 84 [.inr (.inr (.inl 90))] (jxSH, a0, b0)) (jQ_X5_linkSeats a0 b0) := by
  obtain ⟨d, rfl⟩ := jd_succ hd
  refine jt_eq (bq_X5_linkSeats E d a0 b0) ?_
  exact (cp_X5_linkSeats_2 E d hd a0 b0 hv0 _).2.2.2.2.2.2 0 a0 (Nat.le_refl _) hv0 (jfr_rf _ _) (show 0 ≤ 0 from by omega) (show 0 ≤ 12 from by omega)
def jW_X5_seatOpenOffers : List (Nat × Nat) := [(90, 3), (91, 9999)]
abbrev jQ_X5_seatOpenOffers (a0 b0 : Nat → Nat → Int) : List jxV → (Nat → Nat → Int) → (Nat → Nat → Int) → Prop := rV (fun a b => (iv a) ∧ (jfr jW_X5_seatOpenOffers a0 a) ∧ (b0 = b) ∧ ((a0 83 6 = 0 → a 90 3 = 0)))
theorem cp_X5_seatOpenOffers_7 (E : jxE) (d : Nat) (hd : Nat.ble 3 (d + 1) = true) (a0 b0 : Nat → Nat → Int) (hv0 : iv a0) : ∀ n : Nat, (∀ (y1 : Int) (a : Nat → Nat → Int), (((20 - y1) * 1) + 0).toNat ≤ n → iv a → jfr jW_X5_seatOpenOffers a0 a → 0 ≤ y1 → y1 ≤ 19 → 1 ≤ a0 83 6 → jt (jxX E d 83 55 [some (.inr (.inr (.inl 90))), some (.inl y1)] [] (jxSH, a, b0)) (jQ_X5_seatOpenOffers a0 b0)) ∧ (∀ (y1 : Int) (a : Nat → Nat → Int), (((20 - y1) * 1) + 0).toNat ≤ n → iv a → jfr jW_X5_seatOpenOffers a0 a → 0 ≤ y1 → y1 ≤ 19 → a 90 3 ≤ 11 → 1 ≤ a0 83 6 → jt (jxX E d 83 38 [some (.inr (.inr (.inl 90))), some (.inl y1)] [] (jxSH, a, b0)) (jQ_X5_seatOpenOffers a0 b0)) ∧ (∀ (y1 : Int) (a : Nat → Nat → Int), (((20 - y1) * 1) + 0).toNat ≤ n → iv a → jfr jW_X5_seatOpenOffers a0 a → 0 ≤ y1 → y1 ≤ 20 → (a0 83 6 = 0 → a 90 3 = 0) → jt (jxX E d 83 7 [some (.inr (.inr (.inl 90))), some (.inl y1)] [] (jxSH, a, b0)) (jQ_X5_seatOpenOffers a0 b0)) := by
  refine jx_ind fun n ih => ?_
  have ih55 : ∀ (y1 : Int) (a : Nat → Nat → Int), (((20 - y1) * 1) + 0).toNat < n → iv a → jfr jW_X5_seatOpenOffers a0 a → 0 ≤ y1 → y1 ≤ 19 → 1 ≤ a0 83 6 → jt (jxX E d 83 55 [some (.inr (.inr (.inl 90))), some (.inl y1)] [] (jxSH, a, b0)) (jQ_X5_seatOpenOffers a0 b0) := fun y1 a hlt i0 i1 i2 i3 i4 => (ih _ hlt).1 y1 a (Nat.le_refl _) i0 i1 i2 i3 i4
  have ih38 : ∀ (y1 : Int) (a : Nat → Nat → Int), (((20 - y1) * 1) + 0).toNat < n → iv a → jfr jW_X5_seatOpenOffers a0 a → 0 ≤ y1 → y1 ≤ 19 → a 90 3 ≤ 11 → 1 ≤ a0 83 6 → jt (jxX E d 83 38 [some (.inr (.inr (.inl 90))), some (.inl y1)] [] (jxSH, a, b0)) (jQ_X5_seatOpenOffers a0 b0) := fun y1 a hlt i0 i1 i2 i3 i4 i5 => (ih _ hlt).2.1 y1 a (Nat.le_refl _) i0 i1 i2 i3 i4 i5
  have ih7 : ∀ (y1 : Int) (a : Nat → Nat → Int), (((20 - y1) * 1) + 0).toNat < n → iv a → jfr jW_X5_seatOpenOffers a0 a → 0 ≤ y1 → y1 ≤ 20 → (a0 83 6 = 0 → a 90 3 = 0) → jt (jxX E d 83 7 [some (.inr (.inr (.inl 90))), some (.inl y1)] [] (jxSH, a, b0)) (jQ_X5_seatOpenOffers a0 b0) := fun y1 a hlt i0 i1 i2 i3 i4 => (ih _ hlt).2.2 y1 a (Nat.le_refl _) i0 i1 i2 i3 i4
  have hc55 : ∀ (y1 : Int) (a : Nat → Nat → Int), (((20 - y1) * 1) + 0).toNat ≤ n → iv a → jfr jW_X5_seatOpenOffers a0 a → 0 ≤ y1 → y1 ≤ 19 → 1 ≤ a0 83 6 → jt (jxX E d 83 55 [some (.inr (.inr (.inl 90))), some (.inl y1)] [] (jxSH, a, b0)) (jQ_X5_seatOpenOffers a0 b0) := by
    intro y1 a hm hv hf hi0 hi1 hi2
    refine jt_eq (bq_X5_seatOpenOffers_55 E d y1 a b0) ?_
    have h1667_ := iv_get hv0 (k := 83) (j := 6) (l := 0) (u := 20) rfl
    have h1668_ : jxw (y1 + 1) = y1 + 1 := jxw_id (by omega) (by omega)
    have h1669_ := iv_get hv (k := 90) (j := 3) (l := 0) (u := 12) rfl
    exact ih7 (jxw (y1 + 1)) a (show (((20 - (jxw (y1 + 1))) * 1) + 0).toNat < n from by omega) hv hf (show 0 ≤ jxw (y1 + 1) from by omega) (show jxw (y1 + 1) ≤ 20 from by omega) (show (a0 83 6 = 0 → a 90 3 = 0) from by omega)
  have hc38 : ∀ (y1 : Int) (a : Nat → Nat → Int), (((20 - y1) * 1) + 0).toNat ≤ n → iv a → jfr jW_X5_seatOpenOffers a0 a → 0 ≤ y1 → y1 ≤ 19 → a 90 3 ≤ 11 → 1 ≤ a0 83 6 → jt (jxX E d 83 38 [some (.inr (.inr (.inl 90))), some (.inl y1)] [] (jxSH, a, b0)) (jQ_X5_seatOpenOffers a0 b0) := by
    intro y1 a hm hv hf hi0 hi1 hi2 hi3
    refine jt_eq (bq_X5_seatOpenOffers_38 E d y1 a b0) ?_
    have h1670_ := iv_get hv (k := 90) (j := 3) (l := 0) (u := 12) rfl
    have h1671_ := iv_get hv0 (k := 83) (j := 6) (l := 0) (u := 20) rfl
    refine jt_grd (by omega) ?_
    have h1673_ : jxw ((a 90 3) + 1) = (a 90 3) + 1 := jxw_id (by omega) (by omega)
    have hv1672_ : iv (jxu a 90 3 (jxw ((a 90 3) + 1))) := iv_put hv (l := 0) (u := 12) rfl (by omega) (by omega)
    have hv1674_ : iv (jxu (jxu a 90 3 (jxw ((a 90 3) + 1))) 91 ((a 90 3).toNat) y1) := iv_putf hv1672_ rfl
    have hf1675_ : jfr jW_X5_seatOpenOffers a0 (jxu a 90 3 (jxw ((a 90 3) + 1))) := jfr_put hf rfl
    have hf1676_ : jfr jW_X5_seatOpenOffers a0 (jxu (jxu a 90 3 (jxw ((a 90 3) + 1))) 91 ((a 90 3).toNat) y1) := jfr_put hf1675_ rfl
    exact hc55 y1 (jxu (jxu a 90 3 (jxw ((a 90 3) + 1))) 91 ((a 90 3).toNat) y1) (show (((20 - y1) * 1) + 0).toNat ≤ n from by omega) hv1674_ hf1676_ (show 0 ≤ y1 from by omega) (show y1 ≤ 19 from by omega) (show 1 ≤ a0 83 6 from by omega)
  have hc7 : ∀ (y1 : Int) (a : Nat → Nat → Int), (((20 - y1) * 1) + 0).toNat ≤ n → iv a → jfr jW_X5_seatOpenOffers a0 a → 0 ≤ y1 → y1 ≤ 20 → (a0 83 6 = 0 → a 90 3 = 0) → jt (jxX E d 83 7 [some (.inr (.inr (.inl 90))), some (.inl y1)] [] (jxSH, a, b0)) (jQ_X5_seatOpenOffers a0 b0) := by
    intro y1 a hm hv hf hi0 hi1 hi2
    refine jt_eq (bq_X5_seatOpenOffers_7 E d y1 a b0) ?_
    have h1677_ := iv_get hv0 (k := 83) (j := 6) (l := 0) (u := 20) rfl
    have h1678_ := iv_get hv (k := 90) (j := 3) (l := 0) (u := 12) rfl
    refine jt_eI (eq_X4_size E d (jd_le hd rfl) a b0) ?_
    have h1679_ := f_X4_size_eq a b0
    have h1680_ := iv_get hv (k := 83) (j := 6) (l := 0) (u := 20) rfl
    have h1681_ : a 83 6 = a0 83 6 := hf 83 6 rfl
    refine jt_ite (fun c1682_ => ?_) (fun c1682_ => ?_)
    ·
      refine jt_ite (fun c1683_ => ?_) (fun c1683_ => ?_)
      ·
        refine jt_eI (eq_X4_isOpen E d (jd_le hd rfl) y1 a b0) ?_
        have h1684_ := f_X4_isOpen_eq a b0 y1
        have h1685_ := f_X4_has_eq a b0 y1
        have h1686_ : a 87 (y1.toNat) = a0 87 (y1.toNat) := hf 87 (y1.toNat) rfl
        refine jt_ite (fun c1687_ => ?_) (fun c1687_ => ?_)
        ·
          exact hc55 y1 a (show (((20 - y1) * 1) + 0).toNat ≤ n from by omega) hv hf (show 0 ≤ y1 from by omega) (show y1 ≤ 19 from by omega) (show 1 ≤ a0 83 6 from by omega)
        ·
          exact hc38 y1 a (show (((20 - y1) * 1) + 0).toNat ≤ n from by omega) hv hf (show 0 ≤ y1 from by omega) (show y1 ≤ 19 from by omega) (show a 90 3 ≤ 11 from by omega) (show 1 ≤ a0 83 6 from by omega)
      ·
        exact jt_rV ⟨hv, hf, rfl, (show (a0 83 6 = 0 → a 90 3 = 0) from by omega)⟩
    ·
      exact jt_rV ⟨hv, hf, rfl, (show (a0 83 6 = 0 → a 90 3 = 0) from by omega)⟩
  exact ⟨hc55, hc38, hc7⟩
theorem sp_X5_seatOpenOffers (E : jxE) (d : Nat) (hd : Nat.ble 3 d = true) (a0 b0 : Nat → Nat → Int) (hv0 : iv a0) : jt (jxC E d 83 [.inr (.inr (.inl 90))] (jxSH, a0, b0)) (jQ_X5_seatOpenOffers a0 b0) := by
  obtain ⟨d, rfl⟩ := jd_succ hd
  refine jt_eq (bq_X5_seatOpenOffers E d a0 b0) ?_
  have hv1688_ : iv (jxu a0 90 3 0) := iv_put hv0 (l := 0) (u := 12) rfl (by omega) (by omega)
  have hf1689_ : jfr jW_X5_seatOpenOffers a0 (jxu a0 90 3 0) := jfr_put (jfr_rf _ _) rfl
  have h1690_ := iv_get hv0 (k := 83) (j := 6) (l := 0) (u := 20) rfl
  exact (cp_X5_seatOpenOffers_7 E d hd a0 b0 hv0 _).2.2 0 (jxu a0 90 3 0) (Nat.le_refl _) hv1688_ hf1689_ (show 0 ≤ 0 from by omega) (show 0 ≤ 20 from by omega) (show (a0 83 6 = 0 → 0 = 0) from by omega)
def jW_X5_keepRing : List (Nat × Nat) := [(90, 12), (97, 9999), (104, 9999)]
abbrev jQ_X5_keepRing (x1 : Int) (a0 b0 : Nat → Nat → Int) : List jxV → (Nat → Nat → Int) → (Nat → Nat → Int) → Prop := rI (fun r a b => (iv a) ∧ (jfr jW_X5_keepRing a0 a) ∧ (b0 = b) ∧ (0 ≤ r) ∧ (r ≤ 4095))
theorem cp_X5_keepRing_88 (E : jxE) (d : Nat) (hd : Nat.ble 1 (d + 1) = true) (x1 : Int) (a0 b0 : Nat → Nat → Int) (hv0 : iv a0) (hp0 : 1 ≤ x1) (hp1 : x1 ≤ 5) : ∀ (y2 : Int) (a : Nat → Nat → Int), iv a → jfr jW_X5_keepRing a0 a → 0 ≤ y2 → y2 ≤ 4095 → 1 ≤ a 90 12 → jt (jxX E d 96 88 [none, none, some (.inl y2), none] [] (jxSH, a, b0)) (jQ_X5_keepRing x1 a0 b0) := by
  intro y2 a hv hf hi0 hi1 hi2
  refine jt_eq (bq_X5_keepRing_88 E d y2 a b0) ?_
  have h1691_ := iv_get hv (k := 90) (j := 12) (l := 0) (u := 6) rfl
  exact jt_rI ⟨hv, hf, rfl, (show 0 ≤ y2 from by omega), (show y2 ≤ 4095 from by omega)⟩
theorem cp_X5_keepRing_62 (E : jxE) (d : Nat) (hd : Nat.ble 1 (d + 1) = true) (x1 : Int) (a0 b0 : Nat → Nat → Int) (hv0 : iv a0) (hp0 : 1 ≤ x1) (hp1 : x1 ≤ 5) : ∀ (y1 y2 : Int) (a : Nat → Nat → Int), iv a → jfr jW_X5_keepRing a0 a → 1 ≤ y1 → y1 ≤ 5 → 0 ≤ y2 → y2 ≤ 4095 → jt (jxX E d 96 62 [some (.inr (.inr (.inl 90))), some (.inl y1), some (.inl y2), none] [] (jxSH, a, b0)) (jQ_X5_keepRing x1 a0 b0) := by
  intro y1 y2 a hv hf hi0 hi1 hi2 hi3
  refine jt_eq (bq_X5_keepRing_62 E d y1 y2 a b0) ?_
  have h1692_ := iv_get hv (k := 90) (j := 12) (l := 0) (u := 6) rfl
  refine jt_ite (fun c1693_ => ?_) (fun c1693_ => ?_)
  ·
    refine jt_grd (by omega) ?_
    have h1695_ : jxw ((a 90 12) + 1) = (a 90 12) + 1 := jxw_id (by omega) (by omega)
    have hv1694_ : iv (jxu a 90 12 (jxw ((a 90 12) + 1))) := iv_put hv (l := 0) (u := 6) rfl (by omega) (by omega)
    have hv1696_ : iv (jxu (jxu a 90 12 (jxw ((a 90 12) + 1))) 104 ((a 90 12).toNat) y1) := iv_put hv1694_ (l := 0) (u := 5) rfl (by omega) (by omega)
    have hf1697_ : jfr jW_X5_keepRing a0 (jxu a 90 12 (jxw ((a 90 12) + 1))) := jfr_put hf rfl
    have hf1698_ : jfr jW_X5_keepRing a0 (jxu (jxu a 90 12 (jxw ((a 90 12) + 1))) 104 ((a 90 12).toNat) y1) := jfr_put hf1697_ rfl
    exact cp_X5_keepRing_88 E d hd x1 a0 b0 hv0 hp0 hp1 y2 (jxu (jxu a 90 12 (jxw ((a 90 12) + 1))) 104 ((a 90 12).toNat) y1) hv1696_ hf1698_ (show 0 ≤ y2 from by omega) (show y2 ≤ 4095 from by omega) (show 1 ≤ jxw ((a 90 12) + 1) from by omega)
  ·
    exact cp_X5_keepRing_88 E d hd x1 a0 b0 hv0 hp0 hp1 y2 a hv hf (show 0 ≤ y2 from by omega) (show y2 ≤ 4095 from by omega) (show 1 ≤ a 90 12 from by omega)
theorem cp_X5_keepRing_4 (E : jxE) (d : Nat) (hd : Nat.ble 1 (d + 1) = true) (x1 : Int) (a0 b0 : Nat → Nat → Int) (hv0 : iv a0) (hp0 : 1 ≤ x1) (hp1 : x1 ≤ 5) : ∀ n : Nat, (∀ (y1 y2 y3 : Int) (a : Nat → Nat → Int), (((5 - y3) * 1) + 0).toNat ≤ n → iv a → jfr jW_X5_keepRing a0 a → 1 ≤ y1 → y1 ≤ 5 → 0 ≤ y2 → y2 ≤ 4095 → 0 ≤ y3 → y3 ≤ 4 → jt (jxX E d 96 56 [some (.inr (.inr (.inl 90))), some (.inl y1), some (.inl y2), some (.inl y3)] [] (jxSH, a, b0)) (jQ_X5_keepRing x1 a0 b0)) ∧ (∀ (y1 y2 y3 : Int) (a : Nat → Nat → Int), (((5 - y3) * 1) + 0).toNat ≤ n → iv a → jfr jW_X5_keepRing a0 a → 1 ≤ y1 → y1 ≤ 5 → 0 ≤ y2 → y2 ≤ 4095 → 0 ≤ y3 → y3 ≤ 4 → jt (jxX E d 96 25 [some (.inr (.inr (.inl 90))), some (.inl y1), some (.inl y2), some (.inl y3)] [] (jxSH, a, b0)) (jQ_X5_keepRing x1 a0 b0)) ∧ (∀ (y1 y2 y3 : Int) (a : Nat → Nat → Int), (((5 - y3) * 1) + 0).toNat ≤ n → iv a → jfr jW_X5_keepRing a0 a → 1 ≤ y1 → y1 ≤ 5 → 0 ≤ y2 → y2 ≤ 4095 → 0 ≤ y3 → y3 ≤ 5 → jt (jxX E d 96 4 [some (.inr (.inr (.inl 90))), some (.inl y1), some (.inl y2), some (.inl y3)] [] (jxSH, a, b0)) (jQ_X5_keepRing x1 a0 b0)) := by
  refine jx_ind fun n ih => ?_
  have ih56 : ∀ (y1 y2 y3 : Int) (a : Nat → Nat → Int), (((5 - y3) * 1) + 0).toNat < n → iv a → jfr jW_X5_keepRing a0 a → 1 ≤ y1 → y1 ≤ 5 → 0 ≤ y2 → y2 ≤ 4095 → 0 ≤ y3 → y3 ≤ 4 → jt (jxX E d 96 56 [some (.inr (.inr (.inl 90))), some (.inl y1), some (.inl y2), some (.inl y3)] [] (jxSH, a, b0)) (jQ_X5_keepRing x1 a0 b0) := fun y1 y2 y3 a hlt i0 i1 i2 i3 i4 i5 i6 i7 => (ih _ hlt).1 y1 y2 y3 a (Nat.le_refl _) i0 i1 i2 i3 i4 i5 i6 i7
  have ih25 : ∀ (y1 y2 y3 : Int) (a : Nat → Nat → Int), (((5 - y3) * 1) + 0).toNat < n → iv a → jfr jW_X5_keepRing a0 a → 1 ≤ y1 → y1 ≤ 5 → 0 ≤ y2 → y2 ≤ 4095 → 0 ≤ y3 → y3 ≤ 4 → jt (jxX E d 96 25 [some (.inr (.inr (.inl 90))), some (.inl y1), some (.inl y2), some (.inl y3)] [] (jxSH, a, b0)) (jQ_X5_keepRing x1 a0 b0) := fun y1 y2 y3 a hlt i0 i1 i2 i3 i4 i5 i6 i7 => (ih _ hlt).2.1 y1 y2 y3 a (Nat.le_refl _) i0 i1 i2 i3 i4 i5 i6 i7
  have ih4 : ∀ (y1 y2 y3 : Int) (a : Nat → Nat → Int), (((5 - y3) * 1) + 0).toNat < n → iv a → jfr jW_X5_keepRing a0 a → 1 ≤ y1 → y1 ≤ 5 → 0 ≤ y2 → y2 ≤ 4095 → 0 ≤ y3 → y3 ≤ 5 → jt (jxX E d 96 4 [some (.inr (.inr (.inl 90))), some (.inl y1), some (.inl y2), some (.inl y3)] [] (jxSH, a, b0)) (jQ_X5_keepRing x1 a0 b0) := fun y1 y2 y3 a hlt i0 i1 i2 i3 i4 i5 i6 i7 => (ih _ hlt).2.2 y1 y2 y3 a (Nat.le_refl _) i0 i1 i2 i3 i4 i5 i6 i7
  have hc56 : ∀ (y1 y2 y3 : Int) (a : Nat → Nat → Int), (((5 - y3) * 1) + 0).toNat ≤ n → iv a → jfr jW_X5_keepRing a0 a → 1 ≤ y1 → y1 ≤ 5 → 0 ≤ y2 → y2 ≤ 4095 → 0 ≤ y3 → y3 ≤ 4 → jt (jxX E d 96 56 [some (.inr (.inr (.inl 90))), some (.inl y1), some (.inl y2), some (.inl y3)] [] (jxSH, a, b0)) (jQ_X5_keepRing x1 a0 b0) := by
    intro y1 y2 y3 a hm hv hf hi0 hi1 hi2 hi3 hi4 hi5
    refine jt_eq (bq_X5_keepRing_56 E d y1 y2 y3 a b0) ?_
    have h1699_ : jxw (y3 + 1) = y3 + 1 := jxw_id (by omega) (by omega)
    exact ih4 y1 y2 (jxw (y3 + 1)) a (show (((5 - (jxw (y3 + 1))) * 1) + 0).toNat < n from by omega) hv hf (show 1 ≤ y1 from by omega) (show y1 ≤ 5 from by omega) (show 0 ≤ y2 from by omega) (show y2 ≤ 4095 from by omega) (show 0 ≤ jxw (y3 + 1) from by omega) (show jxw (y3 + 1) ≤ 5 from by omega)
  have hc25 : ∀ (y1 y2 y3 : Int) (a : Nat → Nat → Int), (((5 - y3) * 1) + 0).toNat ≤ n → iv a → jfr jW_X5_keepRing a0 a → 1 ≤ y1 → y1 ≤ 5 → 0 ≤ y2 → y2 ≤ 4095 → 0 ≤ y3 → y3 ≤ 4 → jt (jxX E d 96 25 [some (.inr (.inr (.inl 90))), some (.inl y1), some (.inl y2), some (.inl y3)] [] (jxSH, a, b0)) (jQ_X5_keepRing x1 a0 b0) := by
    intro y1 y2 y3 a hm hv hf hi0 hi1 hi2 hi3 hi4 hi5
    refine jt_eq (bq_X5_keepRing_25 E d y1 y2 y3 a b0) ?_
    have h1700_ := iv_get hv (k := 90) (j := 12) (l := 0) (u := 6) rfl
    refine jt_ite (fun c1701_ => ?_) (fun c1701_ => ?_)
    ·
      refine jt_grd (by omega) ?_
      refine jt_grd (by omega) ?_
      have h1702_ := iv_get hv (k := 96) (j := y3.toNat) (l := 0) (u := 11) rfl
      have h1703_ : a 96 (y3.toNat) = a0 96 (y3.toNat) := hf 96 (y3.toNat) rfl
      have h1704_ := iv_get hv0 (k := 96) (j := y3.toNat) (l := 0) (u := 11) rfl
      refine jt_grd (by omega) ?_
      refine jt_grd (by omega) ?_
      refine jt_grd (by omega) ?_
      have hv1705_ : iv (jxu a 97 (((a 90 12).toNat) * 5 + (y3.toNat)) (a 91 ((a 96 (y3.toNat)).toNat))) := iv_putf hv rfl
      have hf1706_ : jfr jW_X5_keepRing a0 (jxu a 97 (((a 90 12).toNat) * 5 + (y3.toNat)) (a 91 ((a 96 (y3.toNat)).toNat))) := jfr_put hf rfl
      exact hc56 y1 y2 y3 (jxu a 97 (((a 90 12).toNat) * 5 + (y3.toNat)) (a 91 ((a 96 (y3.toNat)).toNat))) (show (((5 - y3) * 1) + 0).toNat ≤ n from by omega) hv1705_ hf1706_ (show 1 ≤ y1 from by omega) (show y1 ≤ 5 from by omega) (show 0 ≤ y2 from by omega) (show y2 ≤ 4095 from by omega) (show 0 ≤ y3 from by omega) (show y3 ≤ 4 from by omega)
    ·
      exact hc56 y1 y2 y3 a (show (((5 - y3) * 1) + 0).toNat ≤ n from by omega) hv hf (show 1 ≤ y1 from by omega) (show y1 ≤ 5 from by omega) (show 0 ≤ y2 from by omega) (show y2 ≤ 4095 from by omega) (show 0 ≤ y3 from by omega) (show y3 ≤ 4 from by omega)
  have hc4 : ∀ (y1 y2 y3 : Int) (a : Nat → Nat → Int), (((5 - y3) * 1) + 0).toNat ≤ n → iv a → jfr jW_X5_keepRing a0 a → 1 ≤ y1 → y1 ≤ 5 → 0 ≤ y2 → y2 ≤ 4095 → 0 ≤ y3 → y3 ≤ 5 → jt (jxX E d 96 4 [some (.inr (.inr (.inl 90))), some (.inl y1), some (.inl y2), some (.inl y3)] [] (jxSH, a, b0)) (jQ_X5_keepRing x1 a0 b0) := by
    intro y1 y2 y3 a hm hv hf hi0 hi1 hi2 hi3 hi4 hi5
    refine jt_eq (bq_X5_keepRing_4 E d y1 y2 y3 a b0) ?_
    refine jt_ite (fun c1707_ => ?_) (fun c1707_ => ?_)
    ·
      refine jt_ite (fun c1708_ => ?_) (fun c1708_ => ?_)
      ·
        refine jt_grd (by omega) ?_
        have h1709_ := iv_get hv (k := 96) (j := y3.toNat) (l := 0) (u := 11) rfl
        have h1710_ : a 96 (y3.toNat) = a0 96 (y3.toNat) := hf 96 (y3.toNat) rfl
        have h1711_ := iv_get hv0 (k := 96) (j := y3.toNat) (l := 0) (u := 11) rfl
        have h1712_ := jxshl1_b (a 96 (y3.toNat))
        have h1713_ := jxor_b y2 (jxshl 1 (a 96 (y3.toNat)))
        exact hc25 y1 (jxor y2 (jxshl 1 (a 96 (y3.toNat)))) y3 a (show (((5 - y3) * 1) + 0).toNat ≤ n from by omega) hv hf (show 1 ≤ y1 from by omega) (show y1 ≤ 5 from by omega) (show 0 ≤ jxor y2 (jxshl 1 (a 96 (y3.toNat))) from by omega) (show jxor y2 (jxshl 1 (a 96 (y3.toNat))) ≤ 4095 from by omega) (show 0 ≤ y3 from by omega) (show y3 ≤ 4 from by omega)
      ·
        exact cp_X5_keepRing_62 E d hd x1 a0 b0 hv0 hp0 hp1 y1 y2 a hv hf (show 1 ≤ y1 from by omega) (show y1 ≤ 5 from by omega) (show 0 ≤ y2 from by omega) (show y2 ≤ 4095 from by omega)
    ·
      exact cp_X5_keepRing_62 E d hd x1 a0 b0 hv0 hp0 hp1 y1 y2 a hv hf (show 1 ≤ y1 from by omega) (show y1 ≤ 5 from by omega) (show 0 ≤ y2 from by omega) (show y2 ≤ 4095 from by omega)
  exact ⟨hc56, hc25, hc4⟩
theorem sp_X5_keepRing (E : jxE) (d : Nat) (hd : Nat.ble 1 d = true) (x1 : Int) (a0 b0 : Nat → Nat → Int) (hv0 : iv a0) (hp0 : 1 ≤ x1) (hp1 : x1 ≤ 5) : jt (jxC E d 96 [.inr (.inr (.inl 90)), .inl x1] (jxSH, a0, b0)) (jQ_X5_keepRing x1 a0 b0) := by
  obtain ⟨d, rfl⟩ := jd_succ hd
  refine jt_eq (bq_X5_keepRing E d x1 a0 b0) ?_
  exact (cp_X5_keepRing_4 E d hd x1 a0 b0 hv0 hp0 hp1 _).2.2 x1 0 0 a0 (Nat.le_refl _) hv0 (jfr_rf _ _) (show 1 ≤ x1 from by omega) (show x1 ≤ 5 from by omega) (show 0 ≤ 0 from by omega) (show 0 ≤ 4095 from by omega) (show 0 ≤ 0 from by omega) (show 0 ≤ 5 from by omega)
abbrev jQ_X5_weigh (x1 : Int) (a0 b0 : Nat → Nat → Int) : List jxV → (Nat → Nat → Int) → (Nat → Nat → Int) → Prop := rI (fun r a b => (a0 = a) ∧ (b0 = b))
theorem cp_X5_weigh_29 (E : jxE) (d : Nat) (hd : Nat.ble 3 (d + 1) = true) (x1 : Int) (a0 b0 : Nat → Nat → Int) (hv0 : iv a0) (hp0 : 0 ≤ x1) (hp1 : x1 ≤ 4095) : ∀ n : Nat, (∀ (y2 y3 y4 y5 y6 : Int), ((y6 * 1) + 0).toNat ≤ n → 0 ≤ y2 → y2 ≤ 4095 → 0 ≤ y3 → y3 ≤ 4095 → 1 ≤ y6 → y6 ≤ 4095 → jt (jxX E d 91 79 [some (.inr (.inr (.inl 90))), none, some (.inl y2), some (.inl y3), some (.inl y4), some (.inl y5), some (.inl y6)] [] (jxSH, a0, b0)) (jQ_X5_weigh x1 a0 b0)) ∧ (∀ (y2 y3 y4 y5 y6 : Int), ((y6 * 1) + 0).toNat ≤ n → 0 ≤ y2 → y2 ≤ 4095 → 0 ≤ y3 → y3 ≤ 4095 → 0 ≤ y6 → y6 ≤ 4095 → jt (jxX E d 91 29 [some (.inr (.inr (.inl 90))), none, some (.inl y2), some (.inl y3), some (.inl y4), some (.inl y5), some (.inl y6)] [] (jxSH, a0, b0)) (jQ_X5_weigh x1 a0 b0)) := by
  refine jx_ind fun n ih => ?_
  have ih79 : ∀ (y2 y3 y4 y5 y6 : Int), ((y6 * 1) + 0).toNat < n → 0 ≤ y2 → y2 ≤ 4095 → 0 ≤ y3 → y3 ≤ 4095 → 1 ≤ y6 → y6 ≤ 4095 → jt (jxX E d 91 79 [some (.inr (.inr (.inl 90))), none, some (.inl y2), some (.inl y3), some (.inl y4), some (.inl y5), some (.inl y6)] [] (jxSH, a0, b0)) (jQ_X5_weigh x1 a0 b0) := fun y2 y3 y4 y5 y6 hlt i0 i1 i2 i3 i4 i5 => (ih _ hlt).1 y2 y3 y4 y5 y6 (Nat.le_refl _) i0 i1 i2 i3 i4 i5
  have ih29 : ∀ (y2 y3 y4 y5 y6 : Int), ((y6 * 1) + 0).toNat < n → 0 ≤ y2 → y2 ≤ 4095 → 0 ≤ y3 → y3 ≤ 4095 → 0 ≤ y6 → y6 ≤ 4095 → jt (jxX E d 91 29 [some (.inr (.inr (.inl 90))), none, some (.inl y2), some (.inl y3), some (.inl y4), some (.inl y5), some (.inl y6)] [] (jxSH, a0, b0)) (jQ_X5_weigh x1 a0 b0) := fun y2 y3 y4 y5 y6 hlt i0 i1 i2 i3 i4 i5 => (ih _ hlt).2 y2 y3 y4 y5 y6 (Nat.le_refl _) i0 i1 i2 i3 i4 i5
  have hc79 : ∀ (y2 y3 y4 y5 y6 : Int), ((y6 * 1) + 0).toNat ≤ n → 0 ≤ y2 → y2 ≤ 4095 → 0 ≤ y3 → y3 ≤ 4095 → 1 ≤ y6 → y6 ≤ 4095 → jt (jxX E d 91 79 [some (.inr (.inr (.inl 90))), none, some (.inl y2), some (.inl y3), some (.inl y4), some (.inl y5), some (.inl y6)] [] (jxSH, a0, b0)) (jQ_X5_weigh x1 a0 b0) := by
    intro y2 y3 y4 y5 y6 hm hi0 hi1 hi2 hi3 hi4 hi5
    refine jt_eq (bq_X5_weigh_79 E d y2 y3 y4 y5 y6 a0 b0) ?_
    have h1714_ : jxw (y6 - 1) = y6 - 1 := jxw_id (by omega) (by omega)
    have h1715_ := jxand_b (jxw (y6 - 1)) y3
    exact ih29 y2 y3 y4 y5 (jxand (jxw (y6 - 1)) y3) (show (((jxand (jxw (y6 - 1)) y3) * 1) + 0).toNat < n from by omega) (show 0 ≤ y2 from by omega) (show y2 ≤ 4095 from by omega) (show 0 ≤ y3 from by omega) (show y3 ≤ 4095 from by omega) (show 0 ≤ jxand (jxw (y6 - 1)) y3 from by omega) (show jxand (jxw (y6 - 1)) y3 ≤ 4095 from by omega)
  have hc29 : ∀ (y2 y3 y4 y5 y6 : Int), ((y6 * 1) + 0).toNat ≤ n → 0 ≤ y2 → y2 ≤ 4095 → 0 ≤ y3 → y3 ≤ 4095 → 0 ≤ y6 → y6 ≤ 4095 → jt (jxX E d 91 29 [some (.inr (.inr (.inl 90))), none, some (.inl y2), some (.inl y3), some (.inl y4), some (.inl y5), some (.inl y6)] [] (jxSH, a0, b0)) (jQ_X5_weigh x1 a0 b0) := by
    intro y2 y3 y4 y5 y6 hm hi0 hi1 hi2 hi3 hi4 hi5
    refine jt_eq (bq_X5_weigh_29 E d y2 y3 y4 y5 y6 a0 b0) ?_
    refine jt_ite (fun c1716_ => ?_) (fun c1716_ => ?_)
    ·
      refine jt_ite (fun c1717_ => ?_) (fun c1717_ => ?_)
      ·
        refine jt_eI (eq_X5_isRingSet E d (jd_le hd rfl) (jxor y2 y6) a0 b0) ?_
        have h1718_ := jxor_b y2 y6
        have h1719_ := f_X5_isRingSet_bool a0 b0 (jxor y2 y6)
        refine jt_ite (fun c1720_ => ?_) (fun c1720_ => ?_)
        ·
          exact hc79 y2 y3 y4 y5 y6 (show ((y6 * 1) + 0).toNat ≤ n from by omega) (show 0 ≤ y2 from by omega) (show y2 ≤ 4095 from by omega) (show 0 ≤ y3 from by omega) (show y3 ≤ 4095 from by omega) (show 1 ≤ y6 from by omega) (show y6 ≤ 4095 from by omega)
        ·
          have h1721_ := jxxor_b y3 y6
          refine jt_grd (by omega) ?_
          refine jt_eI (eq_J6_bitCount_0f7a4 E d (jd_le hd rfl) y6 a0 b0) ?_
          refine jt_eI (eq_X5_worth E d (jd_le hd rfl) (jxw (1 + (f_J6_bitCount_0f7a4 a0 b0 y6))) a0 b0) ?_
          refine jt_eI (eq_J9_max_7cf53 E d (jd_le hd rfl) y5 (jxw ((a0 95 ((jxxor y3 y6).toNat)) + (f_X5_worth a0 b0 (jxw (1 + (f_J6_bitCount_0f7a4 a0 b0 y6)))))) a0 b0) ?_
          exact hc79 y2 y3 y4 (f_J9_max_7cf53 a0 b0 y5 (jxw ((a0 95 ((jxxor y3 y6).toNat)) + (f_X5_worth a0 b0 (jxw (1 + (f_J6_bitCount_0f7a4 a0 b0 y6))))))) y6 (show ((y6 * 1) + 0).toNat ≤ n from by omega) (show 0 ≤ y2 from by omega) (show y2 ≤ 4095 from by omega) (show 0 ≤ y3 from by omega) (show y3 ≤ 4095 from by omega) (show 1 ≤ y6 from by omega) (show y6 ≤ 4095 from by omega)
      ·
        exact jt_rI ⟨rfl, rfl⟩
    ·
      exact jt_rI ⟨rfl, rfl⟩
  exact ⟨hc79, hc29⟩
theorem cp_X5_weigh_26 (E : jxE) (d : Nat) (hd : Nat.ble 3 (d + 1) = true) (x1 : Int) (a0 b0 : Nat → Nat → Int) (hv0 : iv a0) (hp0 : 0 ≤ x1) (hp1 : x1 ≤ 4095) : ∀ (y2 y3 y4 y5 : Int), 0 ≤ y2 → y2 ≤ 4095 → 0 ≤ y3 → y3 ≤ 4095 → jt (jxX E d 91 26 [some (.inr (.inr (.inl 90))), none, some (.inl y2), some (.inl y3), some (.inl y4), some (.inl y5), none] [] (jxSH, a0, b0)) (jQ_X5_weigh x1 a0 b0) := by
  intro y2 y3 y4 y5 hi0 hi1 hi2 hi3
  refine jt_eq (bq_X5_weigh_26 E d y2 y3 y4 y5 a0 b0) ?_
  exact (cp_X5_weigh_29 E d hd x1 a0 b0 hv0 hp0 hp1 _).2 y2 y3 y4 y5 y3 (Nat.le_refl _) (show 0 ≤ y2 from by omega) (show y2 ≤ 4095 from by omega) (show 0 ≤ y3 from by omega) (show y3 ≤ 4095 from by omega) (show 0 ≤ y3 from by omega) (show y3 ≤ 4095 from by omega)
theorem sp_X5_weigh (E : jxE) (d : Nat) (hd : Nat.ble 3 d = true) (x1 : Int) (a0 b0 : Nat → Nat → Int) (hv0 : iv a0) (hp0 : 0 ≤ x1) (hp1 : x1 ≤ 4095) : jt (jxC E d 91 [.inr (.inr (.inl 90)), .inl x1] (jxSH, a0, b0)) (jQ_X5_weigh x1 a0 b0) := by
  obtain ⟨d, rfl⟩ := jd_succ hd
  refine jt_eq (bq_X5_weigh E d x1 a0 b0) ?_
  refine jt_eI (eq_J6_bitCount_0f7a4 E d (jd_le hd rfl) x1 a0 b0) ?_
  refine jt_eI (eq_X5_mostWorth E d (jd_le hd rfl) (f_J6_bitCount_0f7a4 a0 b0 x1) a0 b0) ?_
  have h1722_ : jxw (-x1) = -x1 := jxw_id (by omega) (by omega)
  have h1723_ := jxand_b x1 (jxw (-x1))
  have h1724_ := jxxor_b x1 (jxand x1 (jxw (-x1)))
  refine jt_grd (by omega) ?_
  exact cp_X5_weigh_26 E d hd x1 a0 b0 hv0 hp0 hp1 (jxand x1 (jxw (-x1))) (jxxor x1 (jxand x1 (jxw (-x1)))) (f_X5_mostWorth a0 b0 (f_J6_bitCount_0f7a4 a0 b0 x1)) (a0 95 ((jxxor x1 (jxand x1 (jxw (-x1)))).toNat)) (show 0 ≤ jxand x1 (jxw (-x1)) from by omega) (show jxand x1 (jxw (-x1)) ≤ 4095 from by omega) (show 0 ≤ jxxor x1 (jxand x1 (jxw (-x1))) from by omega) (show jxxor x1 (jxand x1 (jxw (-x1))) ≤ 4095 from by omega)
def jW_X5_weighSets : List (Nat × Nat) := [(95, 9999)]
abbrev jQ_X5_weighSets (a0 b0 : Nat → Nat → Int) : List jxV → (Nat → Nat → Int) → (Nat → Nat → Int) → Prop := rV (fun a b => (iv a) ∧ (jfr jW_X5_weighSets a0 a) ∧ (b0 = b))
theorem cp_X5_weighSets_11 (E : jxE) (d : Nat) (hd : Nat.ble 4 (d + 1) = true) (a0 b0 : Nat → Nat → Int) (hv0 : iv a0) : ∀ n : Nat, (∀ (y1 y2 : Int) (a : Nat → Nat → Int), (((4096 - y2) * 1) + 0).toNat ≤ n → iv a → jfr jW_X5_weighSets a0 a → 1 ≤ y1 → y1 ≤ 4095 → 1 ≤ y2 → y2 ≤ 4095 → jt (jxX E d 90 46 [some (.inr (.inr (.inl 90))), some (.inl y1), some (.inl y2)] [] (jxSH, a, b0)) (jQ_X5_weighSets a0 b0)) ∧ (∀ (y1 y2 : Int) (a : Nat → Nat → Int), (((4096 - y2) * 1) + 0).toNat ≤ n → iv a → jfr jW_X5_weighSets a0 a → 0 ≤ y1 → y1 ≤ 4095 → 1 ≤ y2 → y2 ≤ 4096 → jt (jxX E d 90 11 [some (.inr (.inr (.inl 90))), some (.inl y1), some (.inl y2)] [] (jxSH, a, b0)) (jQ_X5_weighSets a0 b0)) := by
  refine jx_ind fun n ih => ?_
  have ih46 : ∀ (y1 y2 : Int) (a : Nat → Nat → Int), (((4096 - y2) * 1) + 0).toNat < n → iv a → jfr jW_X5_weighSets a0 a → 1 ≤ y1 → y1 ≤ 4095 → 1 ≤ y2 → y2 ≤ 4095 → jt (jxX E d 90 46 [some (.inr (.inr (.inl 90))), some (.inl y1), some (.inl y2)] [] (jxSH, a, b0)) (jQ_X5_weighSets a0 b0) := fun y1 y2 a hlt i0 i1 i2 i3 i4 i5 => (ih _ hlt).1 y1 y2 a (Nat.le_refl _) i0 i1 i2 i3 i4 i5
  have ih11 : ∀ (y1 y2 : Int) (a : Nat → Nat → Int), (((4096 - y2) * 1) + 0).toNat < n → iv a → jfr jW_X5_weighSets a0 a → 0 ≤ y1 → y1 ≤ 4095 → 1 ≤ y2 → y2 ≤ 4096 → jt (jxX E d 90 11 [some (.inr (.inr (.inl 90))), some (.inl y1), some (.inl y2)] [] (jxSH, a, b0)) (jQ_X5_weighSets a0 b0) := fun y1 y2 a hlt i0 i1 i2 i3 i4 i5 => (ih _ hlt).2 y1 y2 a (Nat.le_refl _) i0 i1 i2 i3 i4 i5
  have hc46 : ∀ (y1 y2 : Int) (a : Nat → Nat → Int), (((4096 - y2) * 1) + 0).toNat ≤ n → iv a → jfr jW_X5_weighSets a0 a → 1 ≤ y1 → y1 ≤ 4095 → 1 ≤ y2 → y2 ≤ 4095 → jt (jxX E d 90 46 [some (.inr (.inr (.inl 90))), some (.inl y1), some (.inl y2)] [] (jxSH, a, b0)) (jQ_X5_weighSets a0 b0) := by
    intro y1 y2 a hm hv hf hi0 hi1 hi2 hi3
    refine jt_eq (bq_X5_weighSets_46 E d y1 y2 a b0) ?_
    have h1725_ : jxw (y2 + 1) = y2 + 1 := jxw_id (by omega) (by omega)
    exact ih11 y1 (jxw (y2 + 1)) a (show (((4096 - (jxw (y2 + 1))) * 1) + 0).toNat < n from by omega) hv hf (show 0 ≤ y1 from by omega) (show y1 ≤ 4095 from by omega) (show 1 ≤ jxw (y2 + 1) from by omega) (show jxw (y2 + 1) ≤ 4096 from by omega)
  have hc11 : ∀ (y1 y2 : Int) (a : Nat → Nat → Int), (((4096 - y2) * 1) + 0).toNat ≤ n → iv a → jfr jW_X5_weighSets a0 a → 0 ≤ y1 → y1 ≤ 4095 → 1 ≤ y2 → y2 ≤ 4096 → jt (jxX E d 90 11 [some (.inr (.inr (.inl 90))), some (.inl y1), some (.inl y2)] [] (jxSH, a, b0)) (jQ_X5_weighSets a0 b0) := by
    intro y1 y2 a hm hv hf hi0 hi1 hi2 hi3
    refine jt_eq (bq_X5_weighSets_11 E d y1 y2 a b0) ?_
    refine jt_ite (fun c1726_ => ?_) (fun c1726_ => ?_)
    ·
      have h1727_ := iv_get hv (k := 90) (j := 8) (l := 0) (u := 4095) rfl
      have h1728_ : a 90 8 = a0 90 8 := hf 90 8 rfl
      have h1729_ := iv_get hv0 (k := 90) (j := 8) (l := 0) (u := 4095) rfl
      have h1730_ : jxw (y1 - (a 90 8)) = y1 - (a 90 8) := jxw_id (by omega) (by omega)
      have h1731_ := jxand_b (jxw (y1 - (a 90 8))) (a 90 8)
      refine jt_ite (fun c1732_ => ?_) (fun c1732_ => ?_)
      ·
        exact jt_rV ⟨hv, hf, rfl⟩
      ·
        refine jt_bI (sp_X5_weigh E d (jd_le hd rfl) (jxand (jxw (y1 - (a 90 8))) (a 90 8)) a b0 hv (show 0 ≤ jxand (jxw (y1 - (a 90 8))) (a 90 8) from by omega) (show jxand (jxw (y1 - (a 90 8))) (a 90 8) ≤ 4095 from by omega)) (fun r1733_ a1733_ b1733_ h1733_ => ?_)
        obtain ⟨rfl, rfl⟩ := h1733_
        refine jt_grd (by omega) ?_
        have hv1734_ : iv (jxu a 95 ((jxand (jxw (y1 - (a 90 8))) (a 90 8)).toNat) r1733_) := iv_putf hv rfl
        have hf1735_ : jfr jW_X5_weighSets a0 (jxu a 95 ((jxand (jxw (y1 - (a 90 8))) (a 90 8)).toNat) r1733_) := jfr_put hf rfl
        exact hc46 (jxand (jxw (y1 - (a 90 8))) (a 90 8)) y2 (jxu a 95 ((jxand (jxw (y1 - (a 90 8))) (a 90 8)).toNat) r1733_) (show (((4096 - y2) * 1) + 0).toNat ≤ n from by omega) hv1734_ hf1735_ (show 1 ≤ jxand (jxw (y1 - (a 90 8))) (a 90 8) from by omega) (show jxand (jxw (y1 - (a 90 8))) (a 90 8) ≤ 4095 from by omega) (show 1 ≤ y2 from by omega) (show y2 ≤ 4095 from by omega)
    ·
      exact jt_rV ⟨hv, hf, rfl⟩
  exact ⟨hc46, hc11⟩
theorem sp_X5_weighSets (E : jxE) (d : Nat) (hd : Nat.ble 4 d = true) (a0 b0 : Nat → Nat → Int) (hv0 : iv a0) : jt (jxC E d 90 [.inr (.inr (.inl 90))] (jxSH, a0, b0)) (jQ_X5_weighSets a0 b0) := by
  obtain ⟨d, rfl⟩ := jd_succ hd
  refine jt_eq (bq_X5_weighSets E d a0 b0) ?_
  have hv1736_ : iv (jxu a0 95 0 0) := iv_putf hv0 rfl
  have hf1737_ : jfr jW_X5_weighSets a0 (jxu a0 95 0 0) := jfr_put (jfr_rf _ _) rfl
  exact (cp_X5_weighSets_11 E d hd a0 b0 hv0 _).2 0 1 (jxu a0 95 0 0) (Nat.le_refl _) hv1736_ hf1737_ (show 0 ≤ 0 from by omega) (show 0 ≤ 4095 from by omega) (show 1 ≤ 1 from by omega) (show 1 ≤ 4096 from by omega)
def jW_X6_takeRuleWord_r2 : List (Nat × Nat) := [(2, 2)]
abbrev jQ_X6_takeRuleWord_r2 (a0 b0 : Nat → Nat → Int) : List jxV → (Nat → Nat → Int) → (Nat → Nat → Int) → Prop := rI (fun r a b => (iv a) ∧ (jfr jW_X6_takeRuleWord_r2 a0 a) ∧ (b0 = b) ∧ (r = WI (a0 3) (a0 2 1).toNat (a0 2 2).toNat) ∧ (0 ≤ r → a 2 2 = (SK (a0 3) (a0 2 1).toNat ((a0 2 2).toNat + wdn (10 + r.toNat)) : Int)) ∧ (r < 0 → a 2 2 = a0 2 2))
theorem cp_X6_takeRuleWord_r2_42 (E : jxE) (d : Nat) (hd : Nat.ble 6 (d + 1) = true) (a0 b0 : Nat → Nat → Int) (hv0 : iv a0) (hp0 : a0 2 3 = 0) : ∀ (a : Nat → Nat → Int), iv a → jfr jW_X6_takeRuleWord_r2 a0 a → (TW (a0 3) (a0 2 1).toNat (a0 2 2).toNat 13) → (a 2 2 = (SK (a0 3) (a0 2 1).toNat ((a0 2 2).toNat + wdn 13) : Int)) → jt (jxX E d 106 42 [none] [] (jxSH, a, b0)) (jQ_X6_takeRuleWord_r2 a0 b0) := by
  intro a hv hf htw hat
  refine jt_eq (bq_X6_takeRuleWord_r2_42 E d a b0) ?_
  have h3 : a 3 = a0 3 := funext fun j => hf 3 j rfl
  have h21 := hf 2 1 rfl
  exact jt_rI ⟨hv, hf, rfl, (WI_3 htw).symm, (fun _ => hat), (fun h => absurd h (by decide))⟩
theorem cp_X6_takeRuleWord_r2_44 (E : jxE) (d : Nat) (hd : Nat.ble 6 (d + 1) = true) (a0 b0 : Nat → Nat → Int) (hv0 : iv a0) (hp0 : a0 2 3 = 0) : ∀ (a : Nat → Nat → Int), iv a → jfr jW_X6_takeRuleWord_r2 a0 a → (¬ TW (a0 3) (a0 2 1).toNat (a0 2 2).toNat 10 ∧ ¬ TW (a0 3) (a0 2 1).toNat (a0 2 2).toNat 11 ∧ ¬ TW (a0 3) (a0 2 1).toNat (a0 2 2).toNat 12 ∧ ¬ TW (a0 3) (a0 2 1).toNat (a0 2 2).toNat 13) → a 2 2 = a0 2 2 → a 2 3 = 0 → jt (jxX E d 106 44 [some (.inr (.inr (.inl 2)))] [] (jxSH, a, b0)) (jQ_X6_takeRuleWord_r2 a0 b0) := by
  intro a hv hf hn hi1 hi2
  refine jt_eq (bq_X6_takeRuleWord_r2_44 E d a b0) ?_
  have h1738_ := iv_get hv (k := 2) (j := 2) (l := 0) (u := 200) rfl
  have h1739_ := iv_get hv0 (k := 2) (j := 2) (l := 0) (u := 200) rfl
  have h1740_ : a 2 3 = a0 2 3 := hf 2 3 rfl
  have h3 : a 3 = a0 3 := funext fun j => hf 3 j rfl
  have h21 := hf 2 1 rfl
  refine jt_bI (sp_X8_takesWord_r1014 E d (jd_le hd rfl) a b0 hv) (fun r1741_ a1741_ b1741_ h1741_ => ?_)
  obtain ⟨hv1741_, hf1741_, rfl, hq1741_0, hq1741_1, hq1741_2, hq1741_3, hq1741_4⟩ := h1741_
  have h1742_ := iv_get hv (k := 2) (j := 1) (l := 0) (u := 200) rfl
  have h1743_ : a 2 1 = a0 2 1 := hf 2 1 rfl
  have h1744_ := iv_get hv0 (k := 2) (j := 1) (l := 0) (u := 200) rfl
  have h1745_ := iv_get hv1741_ (k := 2) (j := 2) (l := 0) (u := 200) rfl
  have hz1741 := hf1741_ 2 3 rfl
  refine jt_ite (fun c1746_ => ?_) (fun c1746_ => ?_)
  ·
    have hf1747_ : jfr jW_X6_takeRuleWord_r2 a0 a1741_ := jfr_tr hf hf1741_ rfl
    exact jt_rI ⟨hv1741_, hf1747_, rfl, (WI_no hn.1 hn.2.1 hn.2.2.1 hn.2.2.2 (by have q := (hq1741_4 (by omega)).resolve_left (fun h => h (by omega)); rw [show a 3 = a0 3 from funext (fun j => hf 3 j rfl), show a 2 1 = a0 2 1 from hf 2 1 rfl, show a 2 2 = a0 2 2 from by omega] at q; exact q)).symm, (fun h => absurd h (by decide)), (fun _ => by omega)⟩
  ·
    have hf1748_ : jfr jW_X6_takeRuleWord_r2 a0 a1741_ := jfr_tr hf hf1741_ rfl
    exact jt_rI ⟨hv1741_, hf1748_, rfl, (by have q := (hq1741_3 (by omega)).2.1; rw [show a 3 = a0 3 from funext (fun j => hf 3 j rfl), show a 2 1 = a0 2 1 from hf 2 1 rfl, show a 2 2 = a0 2 2 from by omega] at q; exact (WI_4 q).symm), (fun _ => by have q := (hq1741_3 (by omega)).2.2; rw [show a 3 = a0 3 from funext (fun j => hf 3 j rfl), show a 2 1 = a0 2 1 from hf 2 1 rfl, show a 2 2 = a0 2 2 from by omega] at q; exact q), (fun h => absurd h (by decide))⟩
theorem sp_X6_takeRuleWord_r2 (E : jxE) (d : Nat) (hd : Nat.ble 6 d = true) (a0 b0 : Nat → Nat → Int) (hv0 : iv a0) (hp0 : a0 2 3 = 0) : jt (jxC E d 106 [.inr (.inr (.inl 2))] (jxSH, a0, b0)) (jQ_X6_takeRuleWord_r2 a0 b0) := by
  obtain ⟨d, rfl⟩ := jd_succ hd
  refine jt_eq (bq_X6_takeRuleWord_r2 E d a0 b0) ?_
  refine jt_bI (sp_X8_takesWord_r1010 E d (jd_le hd rfl) a0 b0 hv0) (fun r1749_ a1749_ b1749_ h1749_ => ?_)
  obtain ⟨hv1749_, hf1749_, rfl, hq1749_0, hq1749_1, hq1749_2, hq1749_3, hq1749_4⟩ := h1749_
  have h1750_ := iv_get hv0 (k := 2) (j := 1) (l := 0) (u := 200) rfl
  have h1751_ := iv_get hv0 (k := 2) (j := 2) (l := 0) (u := 200) rfl
  have h1752_ := iv_get hv1749_ (k := 2) (j := 2) (l := 0) (u := 200) rfl
  have hz1749 := hf1749_ 2 3 rfl
  refine jt_ite (fun c1753_ => ?_) (fun c1753_ => ?_)
  ·
    refine jt_bI (sp_X8_takesWord_r1011 E d (jd_le hd rfl) a1749_ b0 hv1749_) (fun r1754_ a1754_ b1754_ h1754_ => ?_)
    obtain ⟨hv1754_, hf1754_, rfl, hq1754_0, hq1754_1, hq1754_2, hq1754_3, hq1754_4⟩ := h1754_
    have h1755_ : a1749_ 2 3 = a0 2 3 := hf1749_ 2 3 rfl
    have h1756_ := iv_get hv1749_ (k := 2) (j := 1) (l := 0) (u := 200) rfl
    have h1757_ : a1749_ 2 1 = a0 2 1 := hf1749_ 2 1 rfl
    have h1758_ := iv_get hv1754_ (k := 2) (j := 2) (l := 0) (u := 200) rfl
    have hz1754 := hf1754_ 2 3 rfl
    refine jt_ite (fun c1759_ => ?_) (fun c1759_ => ?_)
    ·
      refine jt_bI (sp_X8_takesWord_r1012 E d (jd_le hd rfl) a1754_ b0 hv1754_) (fun r1760_ a1760_ b1760_ h1760_ => ?_)
      obtain ⟨hv1760_, hf1760_, rfl, hq1760_0, hq1760_1, hq1760_2, hq1760_3, hq1760_4⟩ := h1760_
      have h1761_ : a1754_ 2 3 = a1749_ 2 3 := hf1754_ 2 3 rfl
      have h1762_ := iv_get hv1754_ (k := 2) (j := 1) (l := 0) (u := 200) rfl
      have h1763_ : a1754_ 2 1 = a1749_ 2 1 := hf1754_ 2 1 rfl
      have h1764_ := iv_get hv1760_ (k := 2) (j := 2) (l := 0) (u := 200) rfl
      have hz1760 := hf1760_ 2 3 rfl
      refine jt_ite (fun c1765_ => ?_) (fun c1765_ => ?_)
      ·
        refine jt_bI (sp_X8_takesWord_r1013 E d (jd_le hd rfl) a1760_ b0 hv1760_) (fun r1766_ a1766_ b1766_ h1766_ => ?_)
        obtain ⟨hv1766_, hf1766_, rfl, hq1766_0, hq1766_1, hq1766_2, hq1766_3, hq1766_4⟩ := h1766_
        have h1767_ : a1760_ 2 3 = a1754_ 2 3 := hf1760_ 2 3 rfl
        have h1768_ := iv_get hv1760_ (k := 2) (j := 1) (l := 0) (u := 200) rfl
        have h1769_ : a1760_ 2 1 = a1754_ 2 1 := hf1760_ 2 1 rfl
        have h1770_ := iv_get hv1766_ (k := 2) (j := 2) (l := 0) (u := 200) rfl
        have hz1766 := hf1766_ 2 3 rfl
        refine jt_ite (fun c1771_ => ?_) (fun c1771_ => ?_)
        ·
          have hf1772_ : jfr jW_X6_takeRuleWord_r2 a0 a1749_ := jfr_tr (jfr_rf _ _) hf1749_ rfl
          have hf1773_ : jfr jW_X6_takeRuleWord_r2 a0 a1754_ := jfr_tr hf1772_ hf1754_ rfl
          have hf1774_ : jfr jW_X6_takeRuleWord_r2 a0 a1760_ := jfr_tr hf1773_ hf1760_ rfl
          have hf1775_ : jfr jW_X6_takeRuleWord_r2 a0 a1766_ := jfr_tr hf1774_ hf1766_ rfl
          have h1776_ : a1766_ 2 3 = a1760_ 2 3 := hf1766_ 2 3 rfl
          exact cp_X6_takeRuleWord_r2_44 E d hd a0 b0 hv0 hp0 a1766_ hv1766_ hf1775_ ⟨(by have q := (hq1749_4 (by omega)).resolve_left (fun h => h (by omega)); exact q), (by have q := (hq1754_4 (by omega)).resolve_left (fun h => h (by omega)); rw [show a1749_ 3 = a0 3 from funext (fun j => hf1772_ 3 j rfl), show a1749_ 2 1 = a0 2 1 from hf1772_ 2 1 rfl, show a1749_ 2 2 = a0 2 2 from by omega] at q; exact q), (by have q := (hq1760_4 (by omega)).resolve_left (fun h => h (by omega)); rw [show a1754_ 3 = a0 3 from funext (fun j => hf1773_ 3 j rfl), show a1754_ 2 1 = a0 2 1 from hf1773_ 2 1 rfl, show a1754_ 2 2 = a0 2 2 from by omega] at q; exact q), (by have q := (hq1766_4 (by omega)).resolve_left (fun h => h (by omega)); rw [show a1760_ 3 = a0 3 from funext (fun j => hf1774_ 3 j rfl), show a1760_ 2 1 = a0 2 1 from hf1774_ 2 1 rfl, show a1760_ 2 2 = a0 2 2 from by omega] at q; exact q)⟩ (show a1766_ 2 2 = a0 2 2 from by omega) (show a1766_ 2 3 = 0 from by omega)
        ·
          have hf1777_ : jfr jW_X6_takeRuleWord_r2 a0 a1749_ := jfr_tr (jfr_rf _ _) hf1749_ rfl
          have hf1778_ : jfr jW_X6_takeRuleWord_r2 a0 a1754_ := jfr_tr hf1777_ hf1754_ rfl
          have hf1779_ : jfr jW_X6_takeRuleWord_r2 a0 a1760_ := jfr_tr hf1778_ hf1760_ rfl
          have hf1780_ : jfr jW_X6_takeRuleWord_r2 a0 a1766_ := jfr_tr hf1779_ hf1766_ rfl
          exact cp_X6_takeRuleWord_r2_42 E d hd a0 b0 hv0 hp0 a1766_ hv1766_ hf1780_ (by have q := (hq1766_3 (by omega)).2.1; rw [show a1760_ 3 = a0 3 from funext (fun j => hf1779_ 3 j rfl), show a1760_ 2 1 = a0 2 1 from hf1779_ 2 1 rfl, show a1760_ 2 2 = a0 2 2 from by omega] at q; exact q) (by have q := (hq1766_3 (by omega)).2.2; rw [show a1760_ 3 = a0 3 from funext (fun j => hf1779_ 3 j rfl), show a1760_ 2 1 = a0 2 1 from hf1779_ 2 1 rfl, show a1760_ 2 2 = a0 2 2 from by omega] at q; exact q)
      ·
        have hf1781_ : jfr jW_X6_takeRuleWord_r2 a0 a1749_ := jfr_tr (jfr_rf _ _) hf1749_ rfl
        have hf1782_ : jfr jW_X6_takeRuleWord_r2 a0 a1754_ := jfr_tr hf1781_ hf1754_ rfl
        have hf1783_ : jfr jW_X6_takeRuleWord_r2 a0 a1760_ := jfr_tr hf1782_ hf1760_ rfl
        exact jt_rI ⟨hv1760_, hf1783_, rfl, (by have q := (hq1760_3 (by omega)).2.1; rw [show a1754_ 3 = a0 3 from funext (fun j => hf1782_ 3 j rfl), show a1754_ 2 1 = a0 2 1 from hf1782_ 2 1 rfl, show a1754_ 2 2 = a0 2 2 from by omega] at q; exact (WI_2 q).symm), (fun _ => by have q := (hq1760_3 (by omega)).2.2; rw [show a1754_ 3 = a0 3 from funext (fun j => hf1782_ 3 j rfl), show a1754_ 2 1 = a0 2 1 from hf1782_ 2 1 rfl, show a1754_ 2 2 = a0 2 2 from by omega] at q; exact q), (fun h => absurd h (by decide))⟩
    ·
      have hf1784_ : jfr jW_X6_takeRuleWord_r2 a0 a1749_ := jfr_tr (jfr_rf _ _) hf1749_ rfl
      have hf1785_ : jfr jW_X6_takeRuleWord_r2 a0 a1754_ := jfr_tr hf1784_ hf1754_ rfl
      exact jt_rI ⟨hv1754_, hf1785_, rfl, (by have q := (hq1754_3 (by omega)).2.1; rw [show a1749_ 3 = a0 3 from funext (fun j => hf1784_ 3 j rfl), show a1749_ 2 1 = a0 2 1 from hf1784_ 2 1 rfl, show a1749_ 2 2 = a0 2 2 from by omega] at q; exact (WI_1 q).symm), (fun _ => by have q := (hq1754_3 (by omega)).2.2; rw [show a1749_ 3 = a0 3 from funext (fun j => hf1784_ 3 j rfl), show a1749_ 2 1 = a0 2 1 from hf1784_ 2 1 rfl, show a1749_ 2 2 = a0 2 2 from by omega] at q; exact q), (fun h => absurd h (by decide))⟩
  ·
    have hf1786_ : jfr jW_X6_takeRuleWord_r2 a0 a1749_ := jfr_tr (jfr_rf _ _) hf1749_ rfl
    exact jt_rI ⟨hv1749_, hf1786_, rfl, (by have q := (hq1749_3 (by omega)).2.1; exact (WI_0 q).symm), (fun _ => by have q := (hq1749_3 (by omega)).2.2; exact q), (fun h => absurd h (by decide))⟩
def jW_X6_readWord_r2 : List (Nat × Nat) := [(2, 2), (2, 3), (55, 2), (57, 9999)]
abbrev jQ_X6_readWord_r2 (a0 b0 : Nat → Nat → Int) : List jxV → (Nat → Nat → Int) → (Nat → Nat → Int) → Prop := rV (fun a b => (iv a) ∧ (jfr jW_X6_readWord_r2 a0 a) ∧ (b0 = b) ∧ (a 2 3 = RWF (a0 3) (a0 2 1).toNat (a0 2 2).toNat (a0 55 2)) ∧ (RWF (a0 3) (a0 2 1).toNat (a0 2 2).toNat (a0 55 2) = 0 → a 2 2 = (RE (a0 3) (a0 2 1).toNat (a0 2 2).toNat : Int) ∧ a 55 2 = jxor (a0 55 2) (jxshl 1 (WI (a0 3) (a0 2 1).toNat (a0 2 2).toNat)) ∧ UP (a0 57) (a 57) (WI (a0 3) (a0 2 1).toNat (a0 2 2).toNat).toNat (NV (a0 3) (a0 2 1).toNat (RQ (a0 3) (a0 2 1).toNat (a0 2 2).toNat))))
theorem cp_X6_readWord_r2_36 (E : jxE) (d : Nat) (hd : Nat.ble 7 (d + 1) = true) (a0 b0 : Nat → Nat → Int) (hv0 : iv a0) (hp0 : a0 2 3 = 0) : ∀ (y2 : Int) (a : Nat → Nat → Int), iv a → jfr jW_X6_readWord_r2 a0 a → 0 ≤ y2 → y2 ≤ 200 → (RWF (a0 3) (a0 2 1).toNat (a0 2 2).toNat (a0 55 2) = 3 + 8 * ((a0 2 2).toNat : Int)) → (y2 = a0 2 2) → a 2 3 = 0 → jt (jxX E d 105 36 [none, some (.inr (.inr (.inl 2))), some (.inl y2), none] [] (jxSH, a, b0)) (jQ_X6_readWord_r2 a0 b0) := by
  intro y2 a hv hf hi0 hi1 hrw hy2 hi4
  refine jt_eq (bq_X6_readWord_r2_36 E d y2 a b0) ?_
  have h3 : a 3 = a0 3 := funext fun j => hf 3 j rfl
  have h21 := hf 2 1 rfl
  refine jt_bV (sp_X8_noteFault E d (jd_le hd rfl) y2 2 a b0 hv) (fun a1787_ b1787_ h1787_ => ?_)
  obtain ⟨hv1787_, hf1787_, rfl, hq1787_0, hq1787_1⟩ := h1787_
  have hf1788_ : jfr jW_X6_readWord_r2 a0 a1787_ := jfr_tr hf hf1787_ rfl
  exact jt_rV ⟨hv1787_, hf1788_, rfl, (by rw [hrw]; omega), (fun h => absurd h (by rw [hrw]; omega))⟩
theorem cp_X6_readWord_r2_75 (E : jxE) (d : Nat) (hd : Nat.ble 7 (d + 1) = true) (a0 b0 : Nat → Nat → Int) (hv0 : iv a0) (hp0 : a0 2 3 = 0) : ∀ (a : Nat → Nat → Int), iv a → jfr jW_X6_readWord_r2 a0 a → (a 2 3 = RWF (a0 3) (a0 2 1).toNat (a0 2 2).toNat (a0 55 2)) → (a 2 2 = (RE (a0 3) (a0 2 1).toNat (a0 2 2).toNat : Int)) → (a 55 2 = jxor (a0 55 2) (jxshl 1 (WI (a0 3) (a0 2 1).toNat (a0 2 2).toNat))) → (UP (a0 57) (a 57) (WI (a0 3) (a0 2 1).toNat (a0 2 2).toNat).toNat (NV (a0 3) (a0 2 1).toNat (RQ (a0 3) (a0 2 1).toNat (a0 2 2).toNat))) → jt (jxX E d 105 75 [none, none, none, none] [] (jxSH, a, b0)) (jQ_X6_readWord_r2 a0 b0) := by
  intro a hv hf hcf hat hmk hu
  refine jt_eq (bq_X6_readWord_r2_75 E d a b0) ?_
  have h3 : a 3 = a0 3 := funext fun j => hf 3 j rfl
  have h21 := hf 2 1 rfl
  exact jt_rV ⟨hv, hf, rfl, hcf, (fun _ => ⟨hat, hmk, hu⟩)⟩
theorem cp_X6_readWord_r2_43 (E : jxE) (d : Nat) (hd : Nat.ble 7 (d + 1) = true) (a0 b0 : Nat → Nat → Int) (hv0 : iv a0) (hp0 : a0 2 3 = 0) : ∀ (y3 : Int) (a : Nat → Nat → Int), iv a → jfr jW_X6_readWord_r2 a0 a → 0 ≤ y3 → y3 ≤ 4 → (y3 = WI (a0 3) (a0 2 1).toNat (a0 2 2).toNat) → 0 ≤ y3 → y3 ≤ 4 → (a 2 2 = (RQ (a0 3) (a0 2 1).toNat (a0 2 2).toNat : Int)) → (¬ jxand (jxshr (a0 55 2) y3) 1 = 1) → a 2 3 = 0 → a 55 2 = a0 55 2 → (∀ j, a 57 j = a0 57 j) → jt (jxX E d 105 43 [some (.inr (.inr (.inl 55))), some (.inr (.inr (.inl 2))), none, some (.inl y3)] [] (jxSH, a, b0)) (jQ_X6_readWord_r2 a0 b0) := by
  intro y3 a hv hf hi0 hi1 hy3 hi3 hi4 hat hnb hi7 hi8 hs57
  refine jt_eq (bq_X6_readWord_r2_43 E d y3 a b0) ?_
  have h3 : a 3 = a0 3 := funext fun j => hf 3 j rfl
  have h21 := hf 2 1 rfl
  have hP : (a 2 2).toNat = RQ (a0 3) (a0 2 1).toNat (a0 2 2).toNat := by rw [hat]; exact Int.toNat_natCast _
  have hlo := RLO_g (w := y3) (by omega) (by omega)
  have hhi := RHI_g (w := y3) (by omega) (by omega)
  refine jt_grd (by omega) ?_
  refine jt_grd (by omega) ?_
  have hv1789_ : iv (jxu a 55 2 (jxor (a 55 2) (jxshl 1 y3))) := iv_putf hv rfl
  refine jt_bI (sp_X8_takeNumber E d (jd_le hd rfl) (([1, 0, 0, 1, 0] : List Int).getD (y3.toNat) 0) (([20, 99, 20, 400, 2] : List Int).getD (y3.toNat) 0) (jxu a 55 2 (jxor (a 55 2) (jxshl 1 y3))) b0 hv1789_) (fun r1790_ a1790_ b1790_ h1790_ => ?_)
  obtain ⟨hv1790_, hf1790_, rfl, hq1790_0, hq1790_1, hq1790_2, hq1790_3⟩ := h1790_
  have h1791_ : (0 ≤ r1790_ ∧ r1790_ ≤ 999) := hq1790_3
  refine jt_grd (by omega) ?_
  have hv1792_ : iv (jxu a1790_ 57 (y3.toNat) r1790_) := iv_putf hv1790_ rfl
  have hf1793_ : jfr jW_X6_readWord_r2 a0 (jxu a 55 2 (jxor (a 55 2) (jxshl 1 y3))) := jfr_put hf rfl
  have hf1794_ : jfr jW_X6_readWord_r2 a0 a1790_ := jfr_tr hf1793_ hf1790_ rfl
  have hf1795_ : jfr jW_X6_readWord_r2 a0 (jxu a1790_ 57 (y3.toNat) r1790_) := jfr_put hf1794_ rfl
  exact cp_X6_readWord_r2_75 E d hd a0 b0 hv0 hp0 (jxu a1790_ 57 (y3.toNat) r1790_) hv1792_ hf1795_ (by have e0 := hq1790_0; have e1 := hq1790_1; have e2 := hq1790_2; have hj : jxu a 55 2 (jxor (a 55 2) (jxshl 1 y3)) 3 = a 3 := rfl; have hj1 : jxu a 55 2 (jxor (a 55 2) (jxshl 1 y3)) 2 1 = a 2 1 := rfl; have hj2 : jxu a 55 2 (jxor (a 55 2) (jxshl 1 y3)) 2 2 = a 2 2 := rfl; have hj3 : jxu a 55 2 (jxor (a 55 2) (jxshl 1 y3)) 2 3 = a 2 3 := rfl; rw [hj, hj1, hj2, h3, h21, hP] at e0 e1 e2; rw [hj3] at e2; rw [if_pos (by omega), hlo, hhi] at e2; rw [RWF_go (by omega) (by rw [← hy3]; exact hnb), ← hy3]; exact e2) (by have e0 := hq1790_0; have e1 := hq1790_1; have e2 := hq1790_2; have hj : jxu a 55 2 (jxor (a 55 2) (jxshl 1 y3)) 3 = a 3 := rfl; have hj1 : jxu a 55 2 (jxor (a 55 2) (jxshl 1 y3)) 2 1 = a 2 1 := rfl; have hj2 : jxu a 55 2 (jxor (a 55 2) (jxshl 1 y3)) 2 2 = a 2 2 := rfl; have hj3 : jxu a 55 2 (jxor (a 55 2) (jxshl 1 y3)) 2 3 = a 2 3 := rfl; rw [hj, hj1, hj2, h3, h21, hP] at e0 e1 e2; rw [hj3] at e2; exact e1) (by show a1790_ 55 2 = _; rw [hf1790_ 55 2 rfl, ← hy3, ← (by omega : a 55 2 = a0 55 2)]; simp [jxu]) (by have e0 := hq1790_0; have e1 := hq1790_1; have e2 := hq1790_2; have hj : jxu a 55 2 (jxor (a 55 2) (jxshl 1 y3)) 3 = a 3 := rfl; have hj1 : jxu a 55 2 (jxor (a 55 2) (jxshl 1 y3)) 2 1 = a 2 1 := rfl; have hj2 : jxu a 55 2 (jxor (a 55 2) (jxshl 1 y3)) 2 2 = a 2 2 := rfl; have hj3 : jxu a 55 2 (jxor (a 55 2) (jxshl 1 y3)) 2 3 = a 2 3 := rfl; rw [hj, hj1, hj2, h3, h21, hP] at e0 e1 e2; rw [hj3] at e2; rw [← hy3, ← e0]; exact UP_put (fun j => (hf1790_ 57 j rfl).trans (hs57 j)))
theorem sp_X6_readWord_r2 (E : jxE) (d : Nat) (hd : Nat.ble 7 d = true) (a0 b0 : Nat → Nat → Int) (hv0 : iv a0) (hp0 : a0 2 3 = 0) : jt (jxC E d 105 [.inr (.inr (.inl 55)), .inr (.inr (.inl 2))] (jxSH, a0, b0)) (jQ_X6_readWord_r2 a0 b0) := by
  obtain ⟨d, rfl⟩ := jd_succ hd
  refine jt_eq (bq_X6_readWord_r2 E d a0 b0) ?_
  refine jt_eI (eq_X8_place E d (jd_le hd rfl) a0 b0) ?_
  refine jt_bI (sp_X6_takeRuleWord_r2 E d (jd_le hd rfl) a0 b0 hv0 (show a0 2 3 = 0 from by omega)) (fun r1796_ a1796_ b1796_ h1796_ => ?_)
  obtain ⟨hv1796_, hf1796_, rfl, hq1796_0, hq1796_1, hq1796_2⟩ := h1796_
  have hws1796 := WI_sp (a0 3) (a0 2 1).toNat (a0 2 2).toNat
  have hwi1796 : r1796_ = WI (a0 3) (a0 2 1).toNat (a0 2 2).toNat := hq1796_0
  have hz1796 := hf1796_ 2 3 rfl
  have h5521796 := hf1796_ 55 2 rfl
  refine jt_ite (fun c1797_ => ?_) (fun c1797_ => ?_)
  ·
    refine jt_bV (sp_X8_noteCannotStand E d (jd_le hd rfl) a1796_ b0 hv1796_) (fun a1798_ b1798_ h1798_ => ?_)
    obtain ⟨hv1798_, hf1798_, rfl, hq1798_0, hq1798_1⟩ := h1798_
    have h1799_ : a1796_ 2 3 = a0 2 3 := hf1796_ 2 3 rfl
    have h1800_ := iv_get hv1796_ (k := 2) (j := 2) (l := 0) (u := 200) rfl
    have hf1801_ : jfr jW_X6_readWord_r2 a0 a1796_ := jfr_tr (jfr_rf _ _) hf1796_ rfl
    have hf1802_ : jfr jW_X6_readWord_r2 a0 a1798_ := jfr_tr hf1801_ hf1798_ rfl
    exact jt_rV ⟨hv1798_, hf1802_, rfl, (by first | (rw [RWF_no (by omega)]; omega) | exact absurd (by omega : False) id), (fun h => absurd h (by first | (rw [RWF_no (by omega)]; omega) | exact absurd (by omega : False) id))⟩
  ·
    refine jt_ite (fun c1803_ => ?_) (fun c1803_ => ?_)
    ·
      have h1804_ : a1796_ 55 2 = a0 55 2 := hf1796_ 55 2 rfl
      have h1805_ := jxshr_b (a1796_ 55 2) r1796_
      have h1806_ := jxand_r (jxshr (a1796_ 55 2) r1796_) 1 (by decide) (by decide)
      refine jt_ite (fun c1807_ => ?_) (fun c1807_ => ?_)
      ·
        have hf1808_ : jfr jW_X6_readWord_r2 a0 a1796_ := jfr_tr (jfr_rf _ _) hf1796_ rfl
        have h1809_ := f_X8_place_eq a0 b0
        have h1810_ := iv_get hv0 (k := 2) (j := 2) (l := 0) (u := 200) rfl
        have h1811_ : a1796_ 2 3 = a0 2 3 := hf1796_ 2 3 rfl
        exact cp_X6_readWord_r2_36 E d hd a0 b0 hv0 hp0 (f_X8_place a0 b0) a1796_ hv1796_ hf1808_ (show 0 ≤ f_X8_place a0 b0 from by omega) (show f_X8_place a0 b0 ≤ 200 from by omega) (RWF_two (by omega) (by rw [← hwi1796, ← h5521796]; assumption)) rfl (show a1796_ 2 3 = 0 from by omega)
      ·
        have hf1812_ : jfr jW_X6_readWord_r2 a0 a1796_ := jfr_tr (jfr_rf _ _) hf1796_ rfl
        have h1813_ : a1796_ 2 3 = a0 2 3 := hf1796_ 2 3 rfl
        exact cp_X6_readWord_r2_43 E d hd a0 b0 hv0 hp0 r1796_ a1796_ hv1796_ hf1812_ (show 0 ≤ r1796_ from by omega) (show r1796_ ≤ 4 from by omega) hwi1796 (show 0 ≤ r1796_ from by omega) (show r1796_ ≤ 4 from by omega) (by have q := hq1796_1 (by omega); rw [hwi1796] at q; exact q) (by rw [← h5521796]; assumption) (show a1796_ 2 3 = 0 from by omega) (show a1796_ 55 2 = a0 55 2 from by omega) (fun j => (hf1796_ 57 j rfl))
    ·
      refine jt_bV (sp_X8_noteCannotStand E d (jd_le hd rfl) a1796_ b0 hv1796_) (fun a1814_ b1814_ h1814_ => ?_)
      obtain ⟨hv1814_, hf1814_, rfl, hq1814_0, hq1814_1⟩ := h1814_
      have h1815_ : a1796_ 2 3 = a0 2 3 := hf1796_ 2 3 rfl
      have h1816_ := iv_get hv1796_ (k := 2) (j := 2) (l := 0) (u := 200) rfl
      have hf1817_ : jfr jW_X6_readWord_r2 a0 a1796_ := jfr_tr (jfr_rf _ _) hf1796_ rfl
      have hf1818_ : jfr jW_X6_readWord_r2 a0 a1814_ := jfr_tr hf1817_ hf1814_ rfl
      exact jt_rV ⟨hv1814_, hf1818_, rfl, (by first | (rw [RWF_no (by omega)]; omega) | exact absurd (by omega : False) id), (fun h => absurd h (by first | (rw [RWF_no (by omega)]; omega) | exact absurd (by omega : False) id))⟩
def jW_X6_readWords_r2 : List (Nat × Nat) := [(2, 2), (2, 3), (55, 2), (57, 9999)]
abbrev jQ_X6_readWords_r2 (a0 b0 : Nat → Nat → Int) : List jxV → (Nat → Nat → Int) → (Nat → Nat → Int) → Prop := rI (fun r a b => (iv a) ∧ (jfr jW_X6_readWords_r2 a0 a) ∧ (b0 = b) ∧ (RUR a0 a r))
theorem cp_X6_readWords_r2_32 (E : jxE) (d : Nat) (hd : Nat.ble 8 (d + 1) = true) (a0 b0 : Nat → Nat → Int) (hv0 : iv a0) (hp0 : a0 2 3 = 0) (hp1 : a0 2 2 < a0 2 1) (hp2 : RUL a0 a0 0) : ∀ (y2 : Int) (a : Nat → Nat → Int), iv a → jfr jW_X6_readWords_r2 a0 a → 0 ≤ y2 → y2 ≤ 100 → (RUE a0 a y2) → jt (jxX E d 104 32 [none, some (.inr (.inr (.inl 2))), some (.inl y2), none] [] (jxSH, a, b0)) (jQ_X6_readWords_r2 a0 b0) := by
  intro y2 a hv hf hi0 hi1 hre
  refine jt_eq (bq_X6_readWords_r2_32 E d y2 a b0) ?_
  have h3 : a 3 = a0 3 := funext fun j => hf 3 j rfl
  have h21 := hf 2 1 rfl
  refine jt_eI (eq_X8_isAtEnd E d (jd_le hd rfl) a b0) ?_
  have h1819_ := f_X8_isAtEnd_eq a b0
  have h1820_ := iv_get hv (k := 2) (j := 2) (l := 0) (u := 200) rfl
  have h1821_ := iv_get hv (k := 2) (j := 1) (l := 0) (u := 200) rfl
  have h1822_ : a 2 1 = a0 2 1 := hf 2 1 rfl
  have h1823_ := iv_get hv0 (k := 2) (j := 1) (l := 0) (u := 200) rfl
  refine jt_ite (fun c1824_ => ?_) (fun c1824_ => ?_)
  ·
    refine jt_bV (sp_X8_noteCannotStand E d (jd_le hd rfl) a b0 hv) (fun a1825_ b1825_ h1825_ => ?_)
    obtain ⟨hv1825_, hf1825_, rfl, hq1825_0, hq1825_1⟩ := h1825_
    have hf1826_ : jfr jW_X6_readWords_r2 a0 a1825_ := jfr_tr hf hf1825_ rfl
    exact jt_rI ⟨hv1825_, hf1826_, rfl, (RU_end2 hre (by have q := hp2.2.1; have q2 : SK (a0 3) (a0 2 1).toNat 0 = RP (a0 3) (a0 2 1).toNat 0 := rfl; omega) (hf 2 1 rfl) (by omega) (by omega) hq1825_0 hq1825_1)⟩
  ·
    exact jt_rI ⟨hv, hf, rfl, (RU_end1 hre (by have q := hp2.2.1; have q2 : SK (a0 3) (a0 2 1).toNat 0 = RP (a0 3) (a0 2 1).toNat 0 := rfl; omega) (hf 2 1 rfl) (by omega))⟩
theorem cp_X6_readWords_r2_4 (E : jxE) (d : Nat) (hd : Nat.ble 8 (d + 1) = true) (a0 b0 : Nat → Nat → Int) (hv0 : iv a0) (hp0 : a0 2 3 = 0) (hp1 : a0 2 2 < a0 2 1) (hp2 : RUL a0 a0 0) : ∀ n : Nat, (∀ (y2 y3 : Int) (a : Nat → Nat → Int), (((100 - y2) * 1) + 0).toNat ≤ n → iv a → jfr jW_X6_readWords_r2 a0 a → 0 ≤ y2 → y2 ≤ 100 → 0 ≤ y3 → y3 ≤ 1 → (¬ y3 = 0 → RUL a0 a y2.toNat) → (y3 = 0 → RUE a0 a y2) → jt (jxX E d 104 4 [some (.inr (.inr (.inl 55))), some (.inr (.inr (.inl 2))), some (.inl y2), some (.inl y3)] [] (jxSH, a, b0)) (jQ_X6_readWords_r2 a0 b0)) := by
  refine jx_ind fun n ih => ?_
  have ih4 : ∀ (y2 y3 : Int) (a : Nat → Nat → Int), (((100 - y2) * 1) + 0).toNat < n → iv a → jfr jW_X6_readWords_r2 a0 a → 0 ≤ y2 → y2 ≤ 100 → 0 ≤ y3 → y3 ≤ 1 → (¬ y3 = 0 → RUL a0 a y2.toNat) → (y3 = 0 → RUE a0 a y2) → jt (jxX E d 104 4 [some (.inr (.inr (.inl 55))), some (.inr (.inr (.inl 2))), some (.inl y2), some (.inl y3)] [] (jxSH, a, b0)) (jQ_X6_readWords_r2 a0 b0) := fun y2 y3 a hlt i0 i1 i2 i3 i4 i5 i6 i7 => (ih _ hlt) y2 y3 a (Nat.le_refl _) i0 i1 i2 i3 i4 i5 i6 i7
  have hc4 : ∀ (y2 y3 : Int) (a : Nat → Nat → Int), (((100 - y2) * 1) + 0).toNat ≤ n → iv a → jfr jW_X6_readWords_r2 a0 a → 0 ≤ y2 → y2 ≤ 100 → 0 ≤ y3 → y3 ≤ 1 → (¬ y3 = 0 → RUL a0 a y2.toNat) → (y3 = 0 → RUE a0 a y2) → jt (jxX E d 104 4 [some (.inr (.inr (.inl 55))), some (.inr (.inr (.inl 2))), some (.inl y2), some (.inl y3)] [] (jxSH, a, b0)) (jQ_X6_readWords_r2 a0 b0) := by
    intro y2 y3 a hm hv hf hi0 hi1 hi2 hi3 hrl hre
    refine jt_eq (bq_X6_readWords_r2_4 E d y2 y3 a b0) ?_
    have h3 : a 3 = a0 3 := funext fun j => hf 3 j rfl
    have h21 := hf 2 1 rfl
    have hf0 : ¬ y3 = 0 → a 2 3 = 0 := fun h => (hrl h).1
    have hbig : ¬ y3 = 0 → y2.toNat ≤ 5 := fun h => RUL_big (hrl h)
    refine jt_ite (fun c1827_ => ?_) (fun c1827_ => ?_)
    ·
      exact cp_X6_readWords_r2_32 E d hd a0 b0 hv0 hp0 hp1 hp2 y2 a hv hf (show 0 ≤ y2 from by omega) (show y2 ≤ 100 from by omega) (by first | exact hre (by omega) | exact absurd (by omega : False) id)
    ·
      refine jt_ite (fun c1828_ => ?_) (fun c1828_ => ?_)
      ·
        refine jt_bV (sp_X6_readWord_r2 E d (jd_le hd rfl) a b0 hv (show a 2 3 = 0 from by omega)) (fun a1829_ b1829_ h1829_ => ?_)
        obtain ⟨hv1829_, hf1829_, rfl, hq1829_0, hq1829_1⟩ := h1829_
        refine jt_bI (sp_X8_takesSign E d (jd_le hd rfl) 59 a1829_ b0 hv1829_) (fun r1830_ a1830_ b1830_ h1830_ => ?_)
        obtain ⟨hv1830_, hf1830_, rfl, hq1830_0, hq1830_1, hq1830_2, hq1830_3, hq1830_4⟩ := h1830_
        have h1831_ := iv_get hv1829_ (k := 2) (j := 1) (l := 0) (u := 200) rfl
        have h1832_ : a1829_ 2 1 = a 2 1 := hf1829_ 2 1 rfl
        have h1833_ := iv_get hv (k := 2) (j := 1) (l := 0) (u := 200) rfl
        have h1834_ : a 2 1 = a0 2 1 := hf 2 1 rfl
        have h1835_ := iv_get hv0 (k := 2) (j := 1) (l := 0) (u := 200) rfl
        have h1836_ := iv_get hv1829_ (k := 2) (j := 2) (l := 0) (u := 200) rfl
        have h1837_ := iv_get hv1830_ (k := 2) (j := 2) (l := 0) (u := 200) rfl
        have hstep := RU_step (i := y2) (r := r1830_) (by omega) (hrl (by omega)) h3 (hf 2 1 rfl) hq1829_0 hq1829_1 (funext fun j => hf1829_ 3 j rfl) (hf1829_ 2 1 rfl) hq1830_2 hq1830_3 hq1830_4 (hf1830_ 2 3 rfl) (hf1830_ 55 2 rfl) (fun j => hf1830_ 57 j rfl) (by omega)
        have hf1838_ : jfr jW_X6_readWords_r2 a0 a1829_ := jfr_tr hf hf1829_ rfl
        have hf1839_ : jfr jW_X6_readWords_r2 a0 a1830_ := jfr_tr hf1838_ hf1830_ rfl
        have h1840_ : jxw (y2 + 1) = y2 + 1 := jxw_id (by omega) (by omega)
        exact ih4 (jxw (y2 + 1)) r1830_ a1830_ (show (((100 - (jxw (y2 + 1))) * 1) + 0).toNat < n from by omega) hv1830_ hf1839_ (show 0 ≤ jxw (y2 + 1) from by omega) (show jxw (y2 + 1) ≤ 100 from by omega) (show 0 ≤ r1830_ from by omega) (show r1830_ ≤ 1 from by omega) (by first | exact (fun _ => hp2) | (rw [show (jxw (y2 + 1)).toNat = y2.toNat + 1 from by omega]; exact hstep.1)) (by first | exact (fun h => absurd h (by decide)) | (rw [show jxw (y2 + 1) = y2 + 1 from by omega]; exact hstep.2))
      ·
        exact cp_X6_readWords_r2_32 E d hd a0 b0 hv0 hp0 hp1 hp2 y2 a hv hf (show 0 ≤ y2 from by omega) (show y2 ≤ 100 from by omega) (by first | exact hre (by omega) | exact absurd (by omega : False) id)
  exact hc4
theorem sp_X6_readWords_r2 (E : jxE) (d : Nat) (hd : Nat.ble 8 d = true) (a0 b0 : Nat → Nat → Int) (hv0 : iv a0) (hp0 : a0 2 3 = 0) (hp1 : a0 2 2 < a0 2 1) (hp2 : RUL a0 a0 0) : jt (jxC E d 104 [.inr (.inr (.inl 55)), .inr (.inr (.inl 2))] (jxSH, a0, b0)) (jQ_X6_readWords_r2 a0 b0) := by
  obtain ⟨d, rfl⟩ := jd_succ hd
  refine jt_eq (bq_X6_readWords_r2 E d a0 b0) ?_
  have h1841_ := iv_get hv0 (k := 2) (j := 2) (l := 0) (u := 200) rfl
  have h1842_ := iv_get hv0 (k := 2) (j := 1) (l := 0) (u := 200) rfl
  exact (cp_X6_readWords_r2_4 E d hd a0 b0 hv0 hp0 hp1 hp2 _) 0 1 a0 (Nat.le_refl _) hv0 (jfr_rf _ _) (show 0 ≤ 0 from by omega) (show 0 ≤ 100 from by omega) (show 0 ≤ 1 from by omega) (show 1 ≤ 1 from by omega) (by first | exact (fun _ => hp2) | (rw [show (jxw (y2 + 1)).toNat = y2.toNat + 1 from by omega]; exact hstep.1)) (by first | exact (fun h => absurd h (by decide)) | (rw [show jxw (y2 + 1) = y2 + 1 from by omega]; exact hstep.2))
def jW_X6_read_r2 : List (Nat × Nat) := [(2, 2), (2, 3), (55, 2), (56, 9999), (57, 9999)]
abbrev jQ_X6_read_r2 (a0 b0 : Nat → Nat → Int) : List jxV → (Nat → Nat → Int) → (Nat → Nat → Int) → Prop := rI (fun r a b => (iv a) ∧ (jfr jW_X6_read_r2 a0 a) ∧ (b0 = b) ∧ ((a0 2 1 = 0 → r = 0)) ∧ (RRS (a0 3) (a0 2 1).toNat r) ∧ (0 ≤ r → ∀ w : Nat, w < 5 → a 56 w = DRF (a0 3) (a0 2 1).toNat r.toNat w) ∧ (r < 0 → ∀ j, a 56 j = a0 56 j))
theorem cp_X6_read_r2_64 (E : jxE) (d : Nat) (hd : Nat.ble 9 (d + 1) = true) (a0 b0 : Nat → Nat → Int) (hv0 : iv a0) : ∀ n : Nat, (∀ (y2 y3 : Int) (a : Nat → Nat → Int), (((5 - y3) * 1) + 0).toNat ≤ n → iv a → jfr jW_X6_read_r2 a0 a → 0 ≤ y3 → y3 ≤ 5 → (a0 2 1 = 0 → y2 = 0) → (RRS (a0 3) (a0 2 1).toNat y2 ∧ 0 ≤ y2 ∧ ∀ w : Nat, w < 5 → a 57 w = DRF (a0 3) (a0 2 1).toNat y2.toNat w) → (∀ w : Nat, (w : Int) < y3 → a 56 w = DRF (a0 3) (a0 2 1).toNat y2.toNat w) → jt (jxX E d 103 64 [some (.inr (.inr (.inl 55))), none, some (.inl y2), some (.inl y3)] [] (jxSH, a, b0)) (jQ_X6_read_r2 a0 b0)) := by
  refine jx_ind fun n ih => ?_
  have ih64 : ∀ (y2 y3 : Int) (a : Nat → Nat → Int), (((5 - y3) * 1) + 0).toNat < n → iv a → jfr jW_X6_read_r2 a0 a → 0 ≤ y3 → y3 ≤ 5 → (a0 2 1 = 0 → y2 = 0) → (RRS (a0 3) (a0 2 1).toNat y2 ∧ 0 ≤ y2 ∧ ∀ w : Nat, w < 5 → a 57 w = DRF (a0 3) (a0 2 1).toNat y2.toNat w) → (∀ w : Nat, (w : Int) < y3 → a 56 w = DRF (a0 3) (a0 2 1).toNat y2.toNat w) → jt (jxX E d 103 64 [some (.inr (.inr (.inl 55))), none, some (.inl y2), some (.inl y3)] [] (jxSH, a, b0)) (jQ_X6_read_r2 a0 b0) := fun y2 y3 a hlt i0 i1 i2 i3 i4 i5 i6 => (ih _ hlt) y2 y3 a (Nat.le_refl _) i0 i1 i2 i3 i4 i5 i6
  have hc64 : ∀ (y2 y3 : Int) (a : Nat → Nat → Int), (((5 - y3) * 1) + 0).toNat ≤ n → iv a → jfr jW_X6_read_r2 a0 a → 0 ≤ y3 → y3 ≤ 5 → (a0 2 1 = 0 → y2 = 0) → (RRS (a0 3) (a0 2 1).toNat y2 ∧ 0 ≤ y2 ∧ ∀ w : Nat, w < 5 → a 57 w = DRF (a0 3) (a0 2 1).toNat y2.toNat w) → (∀ w : Nat, (w : Int) < y3 → a 56 w = DRF (a0 3) (a0 2 1).toNat y2.toNat w) → jt (jxX E d 103 64 [some (.inr (.inr (.inl 55))), none, some (.inl y2), some (.inl y3)] [] (jxSH, a, b0)) (jQ_X6_read_r2 a0 b0) := by
    intro y2 y3 a hm hv hf hi0 hi1 hi2 hrs hh
    refine jt_eq (bq_X6_read_r2_64 E d y2 y3 a b0) ?_
    have h1843_ := iv_get hv0 (k := 2) (j := 1) (l := 0) (u := 200) rfl
    have h3 : a 3 = a0 3 := funext fun j => hf 3 j rfl
    have h21 := hf 2 1 rfl
    refine jt_ite (fun c1844_ => ?_) (fun c1844_ => ?_)
    ·
      refine jt_grd (by omega) ?_
      refine jt_grd (by omega) ?_
      have hv1845_ : iv (jxu a 56 (y3.toNat) (a 57 (y3.toNat))) := iv_putf hv rfl
      have hf1846_ : jfr jW_X6_read_r2 a0 (jxu a 56 (y3.toNat) (a 57 (y3.toNat))) := jfr_put hf rfl
      have h1847_ : jxw (y3 + 1) = y3 + 1 := jxw_id (by omega) (by omega)
      exact ih64 y2 (jxw (y3 + 1)) (jxu a 56 (y3.toNat) (a 57 (y3.toNat))) (show (((5 - (jxw (y3 + 1))) * 1) + 0).toNat < n from by omega) hv1845_ hf1846_ (show 0 ≤ jxw (y3 + 1) from by omega) (show jxw (y3 + 1) ≤ 5 from by omega) (show (a0 2 1 = 0 → y2 = 0) from by omega) (by first | exact hrs | exact hru.1 (by omega)) (by first | exact (fun w h => absurd h (by omega)) | (intro w hw; show (if w = y3.toNat then a 57 (y3.toNat) else a 56 w) = _; by_cases e : w = y3.toNat <;> first | (rw [if_pos e, ← e]; exact hrs.2.2 w (by omega)) | (rw [if_neg e]; exact hh w (by omega))))
    ·
      exact jt_rI ⟨hv, hf, rfl, (show (a0 2 1 = 0 → y2 = 0) from by omega), hrs.1, (fun _ w hw => hh w (by omega)), (fun h => absurd h (by have q := hrs.2.1; omega))⟩
  exact hc64
theorem cp_X6_read_r2_49 (E : jxE) (d : Nat) (hd : Nat.ble 9 (d + 1) = true) (a0 b0 : Nat → Nat → Int) (hv0 : iv a0) : ∀ (s0 : Int) (a : Nat → Nat → Int), iv a → jfr jW_X6_read_r2 a0 a → (a0 2 1 = 0 → (s0 = 0 ∧ a 2 3 = 0)) → (RUR a0 a s0) → (∀ j, a 56 j = a0 56 j) → jt (jxX E d 103 49 [some (.inr (.inr (.inl 55))), some (.inr (.inr (.inl 2))), none, none] [.inl s0] (jxSH, a, b0)) (jQ_X6_read_r2 a0 b0) := by
  intro s0 a hv hf hi0 hru hs56
  refine jt_eq (bq_X6_read_r2_49 E d s0 a b0) ?_
  have h1848_ := iv_get hv0 (k := 2) (j := 1) (l := 0) (u := 200) rfl
  have h3 : a 3 = a0 3 := funext fun j => hf 3 j rfl
  have h21 := hf 2 1 rfl
  refine jt_eI (eq_X8_isFaulty E d (jd_le hd rfl) a b0) ?_
  have h1849_ := f_X8_isFaulty_eq a b0
  refine jt_ite (fun c1850_ => ?_) (fun c1850_ => ?_)
  ·
    exact (cp_X6_read_r2_64 E d hd a0 b0 hv0 _) s0 0 a (Nat.le_refl _) hv hf (show 0 ≤ 0 from by omega) (show 0 ≤ 5 from by omega) (show (a0 2 1 = 0 → s0 = 0) from by omega) (by first | exact hrs | exact hru.1 (by omega)) (by first | exact (fun w h => absurd h (by omega)) | (intro w hw; show (if w = y3.toNat then a 57 (y3.toNat) else a 56 w) = _; by_cases e : w = y3.toNat <;> first | (rw [if_pos e, ← e]; exact hrs.2.2 w (by omega)) | (rw [if_neg e]; exact hh w (by omega))))
  ·
    refine jt_eI (eq_X8_answerOfFault E d (jd_le hd rfl) a b0) ?_
    have h1851_ := f_X8_answerOfFault_eq a b0
    have h1852_ := jxw_im ((-2) - (a 2 3))
    have h1853_ := jxw_rg ((-2) - (a 2 3))
    exact jt_rI ⟨hv, hf, rfl, (show (a0 2 1 = 0 → f_X8_answerOfFault a b0 = 0) from by omega), (by have q := hru.2 (by omega); have q2 := RRS_bd q.1 (tn200 hv0); rw [show f_X8_answerOfFault a b0 = -2 - a 2 3 from by omega]; exact q.1), (fun h => absurd h (by have q := hru.2 (by omega); have q2 := RRS_bd q.1 (tn200 hv0); omega)), (fun _ => hs56)⟩
theorem cp_X6_read_r2_2 (E : jxE) (d : Nat) (hd : Nat.ble 9 (d + 1) = true) (a0 b0 : Nat → Nat → Int) (hv0 : iv a0) : ∀ n : Nat, (∀ (y2 : Int) (a : Nat → Nat → Int), (((5 - y2) * 1) + 0).toNat ≤ n → iv a → jfr jW_X6_read_r2 a0 a → 0 ≤ y2 → y2 ≤ 5 → (∀ w : Nat, (w : Int) < y2 → a 57 w = RDF w) → (∀ j, a 56 j = a0 56 j) → jt (jxX E d 103 2 [some (.inr (.inr (.inl 55))), some (.inr (.inr (.inl 2))), some (.inl y2), none] [] (jxSH, a, b0)) (jQ_X6_read_r2 a0 b0)) := by
  refine jx_ind fun n ih => ?_
  have ih2 : ∀ (y2 : Int) (a : Nat → Nat → Int), (((5 - y2) * 1) + 0).toNat < n → iv a → jfr jW_X6_read_r2 a0 a → 0 ≤ y2 → y2 ≤ 5 → (∀ w : Nat, (w : Int) < y2 → a 57 w = RDF w) → (∀ j, a 56 j = a0 56 j) → jt (jxX E d 103 2 [some (.inr (.inr (.inl 55))), some (.inr (.inr (.inl 2))), some (.inl y2), none] [] (jxSH, a, b0)) (jQ_X6_read_r2 a0 b0) := fun y2 a hlt i0 i1 i2 i3 i4 i5 => (ih _ hlt) y2 a (Nat.le_refl _) i0 i1 i2 i3 i4 i5
  have hc2 : ∀ (y2 : Int) (a : Nat → Nat → Int), (((5 - y2) * 1) + 0).toNat ≤ n → iv a → jfr jW_X6_read_r2 a0 a → 0 ≤ y2 → y2 ≤ 5 → (∀ w : Nat, (w : Int) < y2 → a 57 w = RDF w) → (∀ j, a 56 j = a0 56 j) → jt (jxX E d 103 2 [some (.inr (.inr (.inl 55))), some (.inr (.inr (.inl 2))), some (.inl y2), none] [] (jxSH, a, b0)) (jQ_X6_read_r2 a0 b0) := by
    intro y2 a hm hv hf hi0 hi1 hdr hs56
    refine jt_eq (bq_X6_read_r2_2 E d y2 a b0) ?_
    have h3 : a 3 = a0 3 := funext fun j => hf 3 j rfl
    have h21 := hf 2 1 rfl
    refine jt_ite (fun c1854_ => ?_) (fun c1854_ => ?_)
    ·
      refine jt_grd (by omega) ?_
      refine jt_grd (by omega) ?_
      have hv1855_ : iv (jxu a 57 (y2.toNat) (([5, 10, 3, 60, 2] : List Int).getD (y2.toNat) 0)) := iv_putf hv rfl
      have hf1856_ : jfr jW_X6_read_r2 a0 (jxu a 57 (y2.toNat) (([5, 10, 3, 60, 2] : List Int).getD (y2.toNat) 0)) := jfr_put hf rfl
      have h1857_ : jxw (y2 + 1) = y2 + 1 := jxw_id (by omega) (by omega)
      exact ih2 (jxw (y2 + 1)) (jxu a 57 (y2.toNat) (([5, 10, 3, 60, 2] : List Int).getD (y2.toNat) 0)) (show (((5 - (jxw (y2 + 1))) * 1) + 0).toNat < n from by omega) hv1855_ hf1856_ (show 0 ≤ jxw (y2 + 1) from by omega) (show jxw (y2 + 1) ≤ 5 from by omega) (by first | exact (fun w h => absurd h (by omega)) | (intro w hw; show (if w = y2.toNat then _ else a 57 w) = RDF w; by_cases e : w = y2.toNat <;> first | (rw [if_pos e, RDF_g (by omega) (by omega), e, Int.toNat_of_nonneg (by omega)]) | (rw [if_neg e]; exact hdr (w) (by omega)))) (fun j => (rfl).trans (hs56 j))
    ·
      have hv1858_ : iv (jxu a 55 2 0) := iv_putf hv rfl
      refine jt_bV (sp_X8_startReading E d (jd_le hd rfl) (jxu a 55 2 0) b0 hv1858_) (fun a1859_ b1859_ h1859_ => ?_)
      obtain ⟨hv1859_, hf1859_, rfl, hq1859_0, hq1859_1, hq1859_2⟩ := h1859_
      have h1860_ : a1859_ 2 3 = 0 := hq1859_0
      have h1861_ := iv_get hv (k := 2) (j := 1) (l := 0) (u := 200) rfl
      have h1862_ : a 2 1 = a0 2 1 := hf 2 1 rfl
      have h1863_ := iv_get hv0 (k := 2) (j := 1) (l := 0) (u := 200) rfl
      have h1864_ := iv_get hv1859_ (k := 2) (j := 2) (l := 0) (u := 200) rfl
      have h1865_ : (a 2 1 = 0 → a1859_ 2 2 = 0) := hq1859_1
      have h57_1859 : ∀ j, a1859_ 57 j = a 57 j := fun j => hf1859_ 57 j rfl
      have e3_1859 : a1859_ 3 = a0 3 := funext fun j => (hf1859_ 3 j rfl).trans (hf 3 j rfl)
      have e21_1859 : a1859_ 2 1 = a0 2 1 := (hf1859_ 2 1 rfl).trans (hf 2 1 rfl)
      have hat1859 : a1859_ 2 2 = (SK (a0 3) (a0 2 1).toNat 0 : Int) := by have q := hq1859_2; rw [show jxu a 55 2 0 3 = a 3 from rfl, show jxu a 55 2 0 2 1 = a 2 1 from rfl, h3, h21] at q; exact q
      have hrul1859 : RUL a1859_ a1859_ 0 := ⟨by omega, by rw [e3_1859, e21_1859]; exact hat1859, (hf1859_ 55 2 rfl).trans (by simp [jxu]; rfl), fun k hk => absurd hk (Nat.not_lt_zero _), fun w hw => by rw [h57_1859, hdr w (by omega)]; rfl⟩
      refine jt_eI (eq_X8_isAtEnd E d (jd_le hd rfl) a1859_ b0) ?_
      have h1866_ := f_X8_isAtEnd_eq a1859_ b0
      have h1867_ := iv_get hv1859_ (k := 2) (j := 1) (l := 0) (u := 200) rfl
      have h1868_ : a1859_ 2 1 = a 2 1 := hf1859_ 2 1 rfl
      refine jt_ite (fun c1869_ => ?_) (fun c1869_ => ?_)
      ·
        refine jt_bI (sp_X6_readWords_r2 E d (jd_le hd rfl) a1859_ b0 hv1859_ (show a1859_ 2 3 = 0 from by omega) (show a1859_ 2 2 < a1859_ 2 1 from by omega) (by assumption)) (fun r1870_ a1870_ b1870_ h1870_ => ?_)
        obtain ⟨hv1870_, hf1870_, rfl, hq1870_0⟩ := h1870_
        have hf1871_ : jfr jW_X6_read_r2 a0 (jxu a 55 2 0) := jfr_put hf rfl
        have hf1872_ : jfr jW_X6_read_r2 a0 a1859_ := jfr_tr hf1871_ hf1859_ rfl
        have hf1873_ : jfr jW_X6_read_r2 a0 a1870_ := jfr_tr hf1872_ hf1870_ rfl
        exact cp_X6_read_r2_49 E d hd a0 b0 hv0 r1870_ a1870_ hv1870_ hf1873_ (show (a0 2 1 = 0 → (r1870_ = 0 ∧ a1870_ 2 3 = 0)) from by omega) (by have q := hq1870_0; unfold RUR at q; rw [e3_1859, e21_1859] at q; exact q) (fun j => (((hf1870_ 56 j rfl).trans (hf1859_ 56 j rfl))).trans (hs56 j))
      ·
        have hf1874_ : jfr jW_X6_read_r2 a0 (jxu a 55 2 0) := jfr_put hf rfl
        have hf1875_ : jfr jW_X6_read_r2 a0 a1859_ := jfr_tr hf1874_ hf1859_ rfl
        exact cp_X6_read_r2_49 E d hd a0 b0 hv0 0 a1859_ hv1859_ hf1875_ (show (a0 2 1 = 0 → (0 = 0 ∧ a1859_ 2 3 = 0)) from by omega) ⟨fun _ => ⟨Or.inl ⟨by omega, rfl⟩, by decide, fun w hw => by rw [h57_1859, hdr w (by omega)]; rfl⟩, fun h => absurd (by omega) h⟩ (fun j => ((hf1859_ 56 j rfl)).trans (hs56 j))
  exact hc2
theorem sp_X6_read_r2 (E : jxE) (d : Nat) (hd : Nat.ble 9 d = true) (a0 b0 : Nat → Nat → Int) (hv0 : iv a0) : jt (jxC E d 103 [.inr (.inr (.inl 55)), .inr (.inr (.inl 2))] (jxSH, a0, b0)) (jQ_X6_read_r2 a0 b0) := by
  obtain ⟨d, rfl⟩ := jd_succ hd
  refine jt_eq (bq_X6_read_r2 E d a0 b0) ?_
  exact (cp_X6_read_r2_2 E d hd a0 b0 hv0 _) 0 a0 (Nat.le_refl _) hv0 (jfr_rf _ _) (show 0 ≤ 0 from by omega) (show 0 ≤ 5 from by omega) (by first | exact (fun w h => absurd h (by omega)) | (intro w hw; show (if w = y2.toNat then _ else a 57 w) = RDF w; by_cases e : w = y2.toNat <;> first | (rw [if_pos e, RDF_g (by omega) (by omega), e, Int.toNat_of_nonneg (by omega)]) | (rw [if_neg e]; exact hdr (w) (by omega)))) (fun j => rfl)
def jW_X11_rules : List (Nat × Nat) := [(2, 1), (2, 2), (2, 3), (55, 2), (56, 9999), (57, 9999)]
abbrev jQ_X11_rules (a0 b0 : Nat → Nat → Int) : List jxV → (Nat → Nat → Int) → (Nat → Nat → Int) → Prop := rI (fun r a b => (iv a) ∧ (jfr jW_X11_rules a0 a) ∧ (b0 = b) ∧ ((a0 2 1 = 0 → r = 0)) ∧ ((a0 2 1 ≤ 100 → a 2 1 = 0)) ∧ ((100 < a0 2 1 → a 2 1 = a0 2 1)) ∧ (a0 2 1 ≤ 100 → RRS (a0 3) (a0 2 1).toNat r) ∧ (0 ≤ r → ∀ w : Nat, w < 5 → a 56 w = DRF (a0 3) (a0 2 1).toNat r.toNat w) ∧ (r < 0 → ∀ j, a 56 j = a0 56 j) ∧ ((100 < a0 2 1 → r = 0 - 1)))
theorem cp_X11_rules_34 (E : jxE) (d : Nat) (hd : Nat.ble 10 (d + 1) = true) (a0 b0 : Nat → Nat → Int) (hv0 : iv a0) : ∀ (y1 : Int) (a : Nat → Nat → Int), iv a → jfr jW_X11_rules a0 a → (a0 2 1 = 0 → y1 = 0) → a 2 1 = 0 → a0 2 1 ≤ 100 → (RRS (a0 3) (a0 2 1).toNat y1 ∧ (0 ≤ y1 → ∀ w : Nat, w < 5 → a 56 w = DRF (a0 3) (a0 2 1).toNat y1.toNat w) ∧ (y1 < 0 → ∀ j, a 56 j = a0 56 j)) → jt (jxX E d 164 34 [none, some (.inl y1)] [] (jxSH, a, b0)) (jQ_X11_rules a0 b0) := by
  intro y1 a hv hf hi0 hi1 hi2 hru
  refine jt_eq (bq_X11_rules_34 E d y1 a b0) ?_
  have h1876_ := iv_get hv0 (k := 2) (j := 1) (l := 0) (u := 200) rfl
  have h1877_ := iv_get hv (k := 2) (j := 1) (l := 0) (u := 200) rfl
  exact jt_rI ⟨hv, hf, rfl, (show (a0 2 1 = 0 → y1 = 0) from by omega), (show (a0 2 1 ≤ 100 → a 2 1 = 0) from by omega), (show (100 < a0 2 1 → a 2 1 = a0 2 1) from by omega), (fun _ => hru.1), hru.2.1, hru.2.2, (show (100 < a0 2 1 → y1 = 0 - 1) from by omega)⟩
theorem sp_X11_rules (E : jxE) (d : Nat) (hd : Nat.ble 10 d = true) (a0 b0 : Nat → Nat → Int) (hv0 : iv a0) : jt (jxC E d 164 [.inr (.inr (.inl 0))] (jxSH, a0, b0)) (jQ_X11_rules a0 b0) := by
  obtain ⟨d, rfl⟩ := jd_succ hd
  refine jt_eq (bq_X11_rules E d a0 b0) ?_
  refine jt_eI (eq_X8_length E d (jd_le hd rfl) a0 b0) ?_
  have h1878_ := f_X8_length_eq a0 b0
  have h1879_ := iv_get hv0 (k := 2) (j := 1) (l := 0) (u := 200) rfl
  refine jt_ite (fun c1880_ => ?_) (fun c1880_ => ?_)
  ·
    exact jt_rI ⟨hv0, (jfr_rf _ _), rfl, (show (a0 2 1 = 0 → (-1) = 0) from by omega), (show (a0 2 1 ≤ 100 → a0 2 1 = 0) from by omega), (show (100 < a0 2 1 → a0 2 1 = a0 2 1) from by omega), (fun h => absurd h (by omega)), (fun h => absurd h (by decide)), (fun _ _ => rfl), (show (100 < a0 2 1 → (-1) = 0 - 1) from by omega)⟩
  ·
    refine jt_bI (sp_X6_read_r2 E d (jd_le hd rfl) a0 b0 hv0) (fun r1881_ a1881_ b1881_ h1881_ => ?_)
    obtain ⟨hv1881_, hf1881_, rfl, hq1881_0, hq1881_1, hq1881_2, hq1881_3⟩ := h1881_
    refine jt_bV (sp_X8_cut E d (jd_le hd rfl) 0 a1881_ b0 hv1881_) (fun a1882_ b1882_ h1882_ => ?_)
    obtain ⟨hv1882_, hf1882_, rfl, hq1882_0⟩ := h1882_
    have h1883_ := iv_get hv1881_ (k := 2) (j := 1) (l := 0) (u := 200) rfl
    have h1884_ : a1881_ 2 1 = a0 2 1 := hf1881_ 2 1 rfl
    have h1885_ := iv_get hv1882_ (k := 2) (j := 1) (l := 0) (u := 200) rfl
    have hf1886_ : jfr jW_X11_rules a0 a1881_ := jfr_tr (jfr_rf _ _) hf1881_ rfl
    have hf1887_ : jfr jW_X11_rules a0 a1882_ := jfr_tr hf1886_ hf1882_ rfl
    exact cp_X11_rules_34 E d hd a0 b0 hv0 r1881_ a1882_ hv1882_ hf1887_ (show (a0 2 1 = 0 → r1881_ = 0) from by omega) (show a1882_ 2 1 = 0 from by omega) (show a0 2 1 ≤ 100 from by omega) ⟨hq1881_1, fun q w hw => (hf1882_ 56 w rfl).trans (hq1881_2 q w hw), fun q j => (hf1882_ 56 j rfl).trans (hq1881_3 q j)⟩
def jW_X11_span : List (Nat × Nat) := [(58, 13), (58, 14), (58, 15)]
abbrev jQ_X11_span (x1 x2 x3 : Int) (a0 b0 : Nat → Nat → Int) : List jxV → (Nat → Nat → Int) → (Nat → Nat → Int) → Prop := rI (fun r a b => (iv a) ∧ (jfr jW_X11_span a0 a) ∧ (b0 = b) ∧ ((a0 58 12 = 0 → ((((((0 ≤ x1 ∧ x1 ≤ 15) ∧ 0 ≤ x2) ∧ x2 ≤ 15) ∧ x3 = 2) ∧ r = 0) ∨ (((((x1 < 0 ∨ 15 < x1) ∨ x2 < 0) ∨ 15 < x2) ∨ ¬ x3 = 2) ∧ r = 0 - 1)))))
theorem cp_X11_span_34 (E : jxE) (d : Nat) (hd : Nat.ble 4 (d + 1) = true) (x1 x2 x3 : Int) (a0 b0 : Nat → Nat → Int) (hv0 : iv a0) : ∀ (y3 : Int) (a : Nat → Nat → Int), iv a → jfr jW_X11_span a0 a → 0 ≤ y3 → y3 ≤ 2 → (((0 ≤ x1 ∧ x1 ≤ 15) ∧ 0 ≤ x2) ∧ x2 ≤ 15) → y3 = x3 → (a0 58 12 = 0 → ((a 58 13 = 0 ∧ a 58 14 = 0 - 1) ∧ a 58 15 = 0 - 1)) → jt (jxX E d 183 34 [some (.inr (.inr (.inl 0))), none, none, some (.inl y3)] [] (jxSH, a, b0)) (jQ_X11_span x1 x2 x3 a0 b0) := by
  intro y3 a hv hf hi0 hi1 hi2 hi3 hi4
  refine jt_eq (bq_X11_span_34 E d y3 a b0) ?_
  have h1888_ := iv_get hv0 (k := 58) (j := 12) (l := 0) (u := 600) rfl
  have h1889_ := iv_get hv (k := 58) (j := 13) (l := 0) (u := 10) rfl
  refine jt_ite (fun c1890_ => ?_) (fun c1890_ => ?_)
  ·
    refine jt_eI (eq_X0_measuredArrivals E d (jd_le hd rfl) a b0) ?_
    have h1891_ := f_X0_measuredArrivals_eq a b0
    exact jt_rI ⟨hv, hf, rfl, (show (a0 58 12 = 0 → ((((((0 ≤ x1 ∧ x1 ≤ 15) ∧ 0 ≤ x2) ∧ x2 ≤ 15) ∧ x3 = 2) ∧ f_X0_measuredArrivals a b0 = 0) ∨ (((((x1 < 0 ∨ 15 < x1) ∨ x2 < 0) ∨ 15 < x2) ∨ ¬ x3 = 2) ∧ f_X0_measuredArrivals a b0 = 0 - 1))) from by omega)⟩
  ·
    refine jt_ite (fun c1892_ => ?_) (fun c1892_ => ?_)
    ·
      refine jt_eI (eq_X0_measuredLeast E d (jd_le hd rfl) a b0) ?_
      have h1893_ := f_X0_measuredLeast_eq a b0
      exact jt_rI ⟨hv, hf, rfl, (show (a0 58 12 = 0 → ((((((0 ≤ x1 ∧ x1 ≤ 15) ∧ 0 ≤ x2) ∧ x2 ≤ 15) ∧ x3 = 2) ∧ f_X0_measuredLeast a b0 = 0) ∨ (((((x1 < 0 ∨ 15 < x1) ∨ x2 < 0) ∨ 15 < x2) ∨ ¬ x3 = 2) ∧ f_X0_measuredLeast a b0 = 0 - 1))) from by omega)⟩
    ·
      refine jt_eI (eq_X0_measuredGreatest E d (jd_le hd rfl) a b0) ?_
      have h1894_ := f_X0_measuredGreatest_eq a b0
      exact jt_rI ⟨hv, hf, rfl, (show (a0 58 12 = 0 → ((((((0 ≤ x1 ∧ x1 ≤ 15) ∧ 0 ≤ x2) ∧ x2 ≤ 15) ∧ x3 = 2) ∧ f_X0_measuredGreatest a b0 = 0) ∨ (((((x1 < 0 ∨ 15 < x1) ∨ x2 < 0) ∨ 15 < x2) ∨ ¬ x3 = 2) ∧ f_X0_measuredGreatest a b0 = 0 - 1))) from by omega)⟩
theorem sp_X11_span (E : jxE) (d : Nat) (hd : Nat.ble 4 d = true) (x1 x2 x3 : Int) (a0 b0 : Nat → Nat → Int) (hv0 : iv a0) : jt (jxC E d 183 [.inr (.inr (.inl 0)), .inl x1, .inl x2, .inl x3] (jxSH, a0, b0)) (jQ_X11_span x1 x2 x3 a0 b0) := by
  obtain ⟨d, rfl⟩ := jd_succ hd
  refine jt_eq (bq_X11_span E d x1 x2 x3 a0 b0) ?_
  refine jt_eI (eq_X11_isLand E d (jd_le hd rfl) x1 a0 b0) ?_
  have h1895_ := f_X11_isLand_eq a0 b0 x1
  have h1896_ := f_X11_within_eq a0 b0 x1 0 15
  refine jt_ite (fun c1897_ => ?_) (fun c1897_ => ?_)
  ·
    have h1898_ := iv_get hv0 (k := 58) (j := 12) (l := 0) (u := 600) rfl
    exact jt_rI ⟨hv0, (jfr_rf _ _), rfl, (show (a0 58 12 = 0 → ((((((0 ≤ x1 ∧ x1 ≤ 15) ∧ 0 ≤ x2) ∧ x2 ≤ 15) ∧ x3 = 2) ∧ (-1) = 0) ∨ (((((x1 < 0 ∨ 15 < x1) ∨ x2 < 0) ∨ 15 < x2) ∨ ¬ x3 = 2) ∧ (-1) = 0 - 1))) from by omega)⟩
  ·
    refine jt_eI (eq_X11_isLand E d (jd_le hd rfl) x2 a0 b0) ?_
    have h1899_ := f_X11_isLand_eq a0 b0 x2
    have h1900_ := f_X11_within_eq a0 b0 x2 0 15
    refine jt_ite (fun c1901_ => ?_) (fun c1901_ => ?_)
    ·
      have h1902_ := iv_get hv0 (k := 58) (j := 12) (l := 0) (u := 600) rfl
      exact jt_rI ⟨hv0, (jfr_rf _ _), rfl, (show (a0 58 12 = 0 → ((((((0 ≤ x1 ∧ x1 ≤ 15) ∧ 0 ≤ x2) ∧ x2 ≤ 15) ∧ x3 = 2) ∧ (-1) = 0) ∨ (((((x1 < 0 ∨ 15 < x1) ∨ x2 < 0) ∨ 15 < x2) ∨ ¬ x3 = 2) ∧ (-1) = 0 - 1))) from by omega)⟩
    ·
      refine jt_eI (eq_X11_within E d (jd_le hd rfl) x3 0 2 a0 b0) ?_
      have h1903_ := f_X11_within_eq a0 b0 x3 0 2
      refine jt_ite (fun c1904_ => ?_) (fun c1904_ => ?_)
      ·
        have h1905_ := iv_get hv0 (k := 58) (j := 12) (l := 0) (u := 600) rfl
        exact jt_rI ⟨hv0, (jfr_rf _ _), rfl, (show (a0 58 12 = 0 → ((((((0 ≤ x1 ∧ x1 ≤ 15) ∧ 0 ≤ x2) ∧ x2 ≤ 15) ∧ x3 = 2) ∧ (-1) = 0) ∨ (((((x1 < 0 ∨ 15 < x1) ∨ x2 < 0) ∨ 15 < x2) ∨ ¬ x3 = 2) ∧ (-1) = 0 - 1))) from by omega)⟩
      ·
        refine jt_bV (sp_X0_measure E d (jd_le hd rfl) x1 x2 a0 b0 hv0) (fun a1906_ b1906_ h1906_ => ?_)
        obtain ⟨hv1906_, hf1906_, rfl, hq1906_0⟩ := h1906_
        have h1907_ := iv_get hv0 (k := 58) (j := 12) (l := 0) (u := 600) rfl
        have h1908_ := iv_get hv1906_ (k := 58) (j := 13) (l := 0) (u := 10) rfl
        have hf1909_ : jfr jW_X11_span a0 a1906_ := jfr_tr (jfr_rf _ _) hf1906_ rfl
        exact cp_X11_span_34 E d hd x1 x2 x3 a0 b0 hv0 x3 a1906_ hv1906_ hf1909_ (show 0 ≤ x3 from by omega) (show x3 ≤ 2 from by omega) (show (((0 ≤ x1 ∧ x1 ≤ 15) ∧ 0 ≤ x2) ∧ x2 ≤ 15) from by omega) (show x3 = x3 from by omega) (show (a0 58 12 = 0 → ((a1906_ 58 13 = 0 ∧ a1906_ 58 14 = 0 - 1) ∧ a1906_ 58 15 = 0 - 1)) from by omega)
def jW_X1_put : List (Nat × Nat) := [(142, 9999), (143, 9999)]
abbrev jQ_X1_put (x1 x2 x3 : Int) (a0 b0 : Nat → Nat → Int) : List jxV → (Nat → Nat → Int) → (Nat → Nat → Int) → Prop := rI (fun r a b => (iv a) ∧ (jfr jW_X1_put a0 a) ∧ (b0 = b) ∧ ((0 ≤ r ∧ r ≤ 1)) ∧ ((((((((r = 1 ∧ 0 ≤ x1) ∧ x1 ≤ 7) ∧ 1 ≤ x2) ∧ x2 ≤ 500) ∧ 0 ≤ x3) ∧ x3 ≤ 50) ∨ (r = 0 ∧ (((((x1 < 0 ∨ 7 < x1) ∨ x2 < 1) ∨ 500 < x2) ∨ x3 < 0) ∨ 50 < x3)))))
theorem cp_X1_put_36 (E : jxE) (d : Nat) (hd : Nat.ble 2 (d + 1) = true) (x1 x2 x3 : Int) (a0 b0 : Nat → Nat → Int) (hv0 : iv a0) : ∀ (y1 y2 y3 s0 : Int) (a : Nat → Nat → Int), iv a → jfr jW_X1_put a0 a → 0 ≤ s0 → s0 ≤ 1 → y1 = x1 → y2 = x2 → y3 = x3 → (((((((s0 = 1 ∧ 0 ≤ x1) ∧ x1 ≤ 7) ∧ 1 ≤ x2) ∧ x2 ≤ 500) ∧ 0 ≤ x3) ∧ x3 ≤ 50) ∨ (s0 = 0 ∧ (((((x1 < 0 ∨ 7 < x1) ∨ x2 < 1) ∨ 500 < x2) ∨ x3 < 0) ∨ 50 < x3))) → (s0 = 1 → (((((0 ≤ y1 ∧ y1 ≤ 7) ∧ 1 ≤ y2) ∧ y2 ≤ 500) ∧ 0 ≤ y3) ∧ y3 ≤ 50)) → jt (jxX E d 29 36 [some (.inr (.inr (.inl 141))), some (.inl y1), some (.inl y2), some (.inl y3), none] [.inl s0] (jxSH, a, b0)) (jQ_X1_put x1 x2 x3 a0 b0) := by
  intro y1 y2 y3 s0 a hv hf hi0 hi1 hi2 hi3 hi4 hi5 hi6
  refine jt_eq (bq_X1_put_36 E d y1 y2 y3 s0 a b0) ?_
  refine jt_ite (fun c1910_ => ?_) (fun c1910_ => ?_)
  ·
    refine jt_grd (by omega) ?_
    exact jt_rI ⟨hv, hf, rfl, (show (0 ≤ s0 ∧ s0 ≤ 1) from by omega), (show (((((((s0 = 1 ∧ 0 ≤ x1) ∧ x1 ≤ 7) ∧ 1 ≤ x2) ∧ x2 ≤ 500) ∧ 0 ≤ x3) ∧ x3 ≤ 50) ∨ (s0 = 0 ∧ (((((x1 < 0 ∨ 7 < x1) ∨ x2 < 1) ∨ 500 < x2) ∨ x3 < 0) ∨ 50 < x3))) from by omega)⟩
  ·
    refine jt_grd (by omega) ?_
    refine jt_grd (by omega) ?_
    refine jt_grd (by omega) ?_
    have hv1911_ : iv (jxu a 142 (y1.toNat) y2) := iv_putf hv rfl
    have hv1912_ : iv (jxu (jxu a 142 (y1.toNat) y2) 143 (y1.toNat) y3) := iv_putf hv1911_ rfl
    have hf1913_ : jfr jW_X1_put a0 (jxu a 142 (y1.toNat) y2) := jfr_put hf rfl
    have hf1914_ : jfr jW_X1_put a0 (jxu (jxu a 142 (y1.toNat) y2) 143 (y1.toNat) y3) := jfr_put hf1913_ rfl
    exact jt_rI ⟨hv1912_, hf1914_, rfl, (show (0 ≤ s0 ∧ s0 ≤ 1) from by omega), (show (((((((s0 = 1 ∧ 0 ≤ x1) ∧ x1 ≤ 7) ∧ 1 ≤ x2) ∧ x2 ≤ 500) ∧ 0 ≤ x3) ∧ x3 ≤ 50) ∨ (s0 = 0 ∧ (((((x1 < 0 ∨ 7 < x1) ∨ x2 < 1) ∨ 500 < x2) ∨ x3 < 0) ∨ 50 < x3))) from by omega)⟩
theorem cp_X1_put_31 (E : jxE) (d : Nat) (hd : Nat.ble 2 (d + 1) = true) (x1 x2 x3 : Int) (a0 b0 : Nat → Nat → Int) (hv0 : iv a0) : ∀ (y1 y2 y3 : Int) (a : Nat → Nat → Int), iv a → jfr jW_X1_put a0 a → 0 ≤ y1 → y1 ≤ 7 → 1 ≤ y2 → y2 ≤ 500 → 0 ≤ y3 → y3 ≤ 50 → y1 = x1 → y2 = x2 → y3 = x3 → (((((0 ≤ x1 ∧ x1 ≤ 7) ∧ 1 ≤ x2) ∧ x2 ≤ 500) ∧ 0 ≤ x3) ∧ x3 ≤ 50) → jt (jxX E d 29 31 [some (.inr (.inr (.inl 141))), some (.inl y1), some (.inl y2), some (.inl y3), none] [] (jxSH, a, b0)) (jQ_X1_put x1 x2 x3 a0 b0) := by
  intro y1 y2 y3 a hv hf hi0 hi1 hi2 hi3 hi4 hi5 hi6 hi7 hi8 hi9
  refine jt_eq (bq_X1_put_31 E d y1 y2 y3 a b0) ?_
  exact cp_X1_put_36 E d hd x1 x2 x3 a0 b0 hv0 y1 y2 y3 1 a hv hf (show 0 ≤ 1 from by omega) (show 1 ≤ 1 from by omega) (show y1 = x1 from by omega) (show y2 = x2 from by omega) (show y3 = x3 from by omega) (show (((((((1 = 1 ∧ 0 ≤ x1) ∧ x1 ≤ 7) ∧ 1 ≤ x2) ∧ x2 ≤ 500) ∧ 0 ≤ x3) ∧ x3 ≤ 50) ∨ (1 = 0 ∧ (((((x1 < 0 ∨ 7 < x1) ∨ x2 < 1) ∨ 500 < x2) ∨ x3 < 0) ∨ 50 < x3))) from by omega) (show (1 = 1 → (((((0 ≤ y1 ∧ y1 ≤ 7) ∧ 1 ≤ y2) ∧ y2 ≤ 500) ∧ 0 ≤ y3) ∧ y3 ≤ 50)) from by omega)
theorem cp_X1_put_35 (E : jxE) (d : Nat) (hd : Nat.ble 2 (d + 1) = true) (x1 x2 x3 : Int) (a0 b0 : Nat → Nat → Int) (hv0 : iv a0) : ∀ (y1 y2 y3 : Int) (a : Nat → Nat → Int), iv a → jfr jW_X1_put a0 a → y1 = x1 → y2 = x2 → y3 = x3 → (((((x1 < 0 ∨ 7 < x1) ∨ x2 < 1) ∨ 500 < x2) ∨ x3 < 0) ∨ 50 < x3) → jt (jxX E d 29 35 [some (.inr (.inr (.inl 141))), some (.inl y1), some (.inl y2), some (.inl y3), none] [] (jxSH, a, b0)) (jQ_X1_put x1 x2 x3 a0 b0) := by
  intro y1 y2 y3 a hv hf hi0 hi1 hi2 hi3
  refine jt_eq (bq_X1_put_35 E d y1 y2 y3 a b0) ?_
  exact cp_X1_put_36 E d hd x1 x2 x3 a0 b0 hv0 y1 y2 y3 0 a hv hf (show 0 ≤ 0 from by omega) (show 0 ≤ 1 from by omega) (show y1 = x1 from by omega) (show y2 = x2 from by omega) (show y3 = x3 from by omega) (show (((((((0 = 1 ∧ 0 ≤ x1) ∧ x1 ≤ 7) ∧ 1 ≤ x2) ∧ x2 ≤ 500) ∧ 0 ≤ x3) ∧ x3 ≤ 50) ∨ (0 = 0 ∧ (((((x1 < 0 ∨ 7 < x1) ∨ x2 < 1) ∨ 500 < x2) ∨ x3 < 0) ∨ 50 < x3))) from by omega) (show (0 = 1 → (((((0 ≤ y1 ∧ y1 ≤ 7) ∧ 1 ≤ y2) ∧ y2 ≤ 500) ∧ 0 ≤ y3) ∧ y3 ≤ 50)) from by omega)
theorem sp_X1_put (E : jxE) (d : Nat) (hd : Nat.ble 2 d = true) (x1 x2 x3 : Int) (a0 b0 : Nat → Nat → Int) (hv0 : iv a0) : jt (jxC E d 29 [.inr (.inr (.inl 141)), .inl x1, .inl x2, .inl x3] (jxSH, a0, b0)) (jQ_X1_put x1 x2 x3 a0 b0) := by
  obtain ⟨d, rfl⟩ := jd_succ hd
  refine jt_eq (bq_X1_put E d x1 x2 x3 a0 b0) ?_
  refine jt_eI (eq_X11_within E d (jd_le hd rfl) x1 0 7 a0 b0) ?_
  have h1915_ := f_X11_within_eq a0 b0 x1 0 7
  refine jt_ite (fun c1916_ => ?_) (fun c1916_ => ?_)
  ·
    exact cp_X1_put_35 E d hd x1 x2 x3 a0 b0 hv0 x1 x2 x3 a0 hv0 (jfr_rf _ _) (show x1 = x1 from by omega) (show x2 = x2 from by omega) (show x3 = x3 from by omega) (show (((((x1 < 0 ∨ 7 < x1) ∨ x2 < 1) ∨ 500 < x2) ∨ x3 < 0) ∨ 50 < x3) from by omega)
  ·
    refine jt_eI (eq_X11_within E d (jd_le hd rfl) x2 1 500 a0 b0) ?_
    have h1917_ := f_X11_within_eq a0 b0 x2 1 500
    refine jt_ite (fun c1918_ => ?_) (fun c1918_ => ?_)
    ·
      exact cp_X1_put_35 E d hd x1 x2 x3 a0 b0 hv0 x1 x2 x3 a0 hv0 (jfr_rf _ _) (show x1 = x1 from by omega) (show x2 = x2 from by omega) (show x3 = x3 from by omega) (show (((((x1 < 0 ∨ 7 < x1) ∨ x2 < 1) ∨ 500 < x2) ∨ x3 < 0) ∨ 50 < x3) from by omega)
    ·
      refine jt_eI (eq_X11_within E d (jd_le hd rfl) x3 0 50 a0 b0) ?_
      have h1919_ := f_X11_within_eq a0 b0 x3 0 50
      refine jt_ite (fun c1920_ => ?_) (fun c1920_ => ?_)
      ·
        exact cp_X1_put_35 E d hd x1 x2 x3 a0 b0 hv0 x1 x2 x3 a0 hv0 (jfr_rf _ _) (show x1 = x1 from by omega) (show x2 = x2 from by omega) (show x3 = x3 from by omega) (show (((((x1 < 0 ∨ 7 < x1) ∨ x2 < 1) ∨ 500 < x2) ∨ x3 < 0) ∨ 50 < x3) from by omega)
      ·
        exact cp_X1_put_31 E d hd x1 x2 x3 a0 b0 hv0 x1 x2 x3 a0 hv0 (jfr_rf _ _) (show 0 ≤ x1 from by omega) (show x1 ≤ 7 from by omega) (show 1 ≤ x2 from by omega) (show x2 ≤ 500 from by omega) (show 0 ≤ x3 from by omega) (show x3 ≤ 50 from by omega) (show x1 = x1 from by omega) (show x2 = x2 from by omega) (show x3 = x3 from by omega) (show (((((0 ≤ x1 ∧ x1 ≤ 7) ∧ 1 ≤ x2) ∧ x2 ≤ 500) ∧ 0 ≤ x3) ∧ x3 ≤ 50) from by omega)
def jW_X11_stamps : List (Nat × Nat) := [(142, 9999), (143, 9999)]
abbrev jQ_X11_stamps (x1 x2 x3 : Int) (a0 b0 : Nat → Nat → Int) : List jxV → (Nat → Nat → Int) → (Nat → Nat → Int) → Prop := rI (fun r a b => (iv a) ∧ (jfr jW_X11_stamps a0 a) ∧ (b0 = b) ∧ ((0 ≤ r ∧ r ≤ 1)) ∧ ((((((((r = 1 ∧ 0 ≤ x1) ∧ x1 ≤ 7) ∧ 1 ≤ x2) ∧ x2 ≤ 500) ∧ 0 ≤ x3) ∧ x3 ≤ 50) ∨ (r = 0 ∧ (((((x1 < 0 ∨ 7 < x1) ∨ x2 < 1) ∨ 500 < x2) ∨ x3 < 0) ∨ 50 < x3)))))
theorem sp_X11_stamps (E : jxE) (d : Nat) (hd : Nat.ble 3 d = true) (x1 x2 x3 : Int) (a0 b0 : Nat → Nat → Int) (hv0 : iv a0) : jt (jxC E d 193 [.inr (.inr (.inl 0)), .inl x1, .inl x2, .inl x3] (jxSH, a0, b0)) (jQ_X11_stamps x1 x2 x3 a0 b0) := by
  obtain ⟨d, rfl⟩ := jd_succ hd
  refine jt_eq (bq_X11_stamps E d x1 x2 x3 a0 b0) ?_
  refine jt_bI (sp_X1_put E d (jd_le hd rfl) x1 x2 x3 a0 b0 hv0) (fun r1921_ a1921_ b1921_ h1921_ => ?_)
  obtain ⟨hv1921_, hf1921_, rfl, hq1921_0, hq1921_1⟩ := h1921_
  refine jt_grd (by omega) ?_
  have hf1922_ : jfr jW_X11_stamps a0 a1921_ := jfr_tr (jfr_rf _ _) hf1921_ rfl
  exact jt_rI ⟨hv1921_, hf1922_, rfl, (show (0 ≤ r1921_ ∧ r1921_ ≤ 1) from by omega), (show (((((((r1921_ = 1 ∧ 0 ≤ x1) ∧ x1 ≤ 7) ∧ 1 ≤ x2) ∧ x2 ≤ 500) ∧ 0 ≤ x3) ∧ x3 ≤ 50) ∨ (r1921_ = 0 ∧ (((((x1 < 0 ∨ 7 < x1) ∨ x2 < 1) ∨ 500 < x2) ∨ x3 < 0) ∨ 50 < x3))) from by omega)⟩
abbrev jQ_X11_state (x1 x2 x3 : Int) (a0 b0 : Nat → Nat → Int) : List jxV → (Nat → Nat → Int) → (Nat → Nat → Int) → Prop := rI (fun r a b => (a0 = a) ∧ (b0 = b) ∧ ((a0 58 8 = 0 → r = 0 - 1)))
theorem sp_X11_state (E : jxE) (d : Nat) (hd : Nat.ble 4 d = true) (x1 x2 x3 : Int) (a0 b0 : Nat → Nat → Int) (hv0 : iv a0) : jt (jxC E d 180 [.inr (.inr (.inl 0)), .inl x1, .inl x2, .inl x3] (jxSH, a0, b0)) (jQ_X11_state x1 x2 x3 a0 b0) := by
  obtain ⟨d, rfl⟩ := jd_succ hd
  refine jt_eq (bq_X11_state E d x1 x2 x3 a0 b0) ?_
  refine jt_eI (eq_X0_has E d (jd_le hd rfl) x1 a0 b0) ?_
  have h1923_ := f_X0_has_eq a0 b0 x1
  have h1924_ := iv_get hv0 (k := 58) (j := 8) (l := 0) (u := 300) rfl
  refine jt_ite (fun c1925_ => ?_) (fun c1925_ => ?_)
  ·
    exact jt_rI ⟨rfl, rfl, (show (a0 58 8 = 0 → (-1) = 0 - 1) from by omega)⟩
  ·
    refine jt_eI (eq_X11_isDay E d (jd_le hd rfl) x2 a0 b0) ?_
    have h1926_ := f_X11_isDay_eq a0 b0 x2
    have h1927_ := f_X11_within_eq a0 b0 x2 0 1999
    refine jt_ite (fun c1928_ => ?_) (fun c1928_ => ?_)
    ·
      exact jt_rI ⟨rfl, rfl, (show (a0 58 8 = 0 → (-1) = 0 - 1) from by omega)⟩
    ·
      refine jt_eI (eq_X11_isDay E d (jd_le hd rfl) x3 a0 b0) ?_
      have h1929_ := f_X11_isDay_eq a0 b0 x3
      have h1930_ := f_X11_within_eq a0 b0 x3 0 1999
      refine jt_ite (fun c1931_ => ?_) (fun c1931_ => ?_)
      ·
        exact jt_rI ⟨rfl, rfl, (show (a0 58 8 = 0 → (-1) = 0 - 1) from by omega)⟩
      ·
        refine jt_bI (sp_X0_stateAsKnown E d (jd_le hd rfl) x1 x2 x3 a0 b0 hv0) (fun r1932_ a1932_ b1932_ h1932_ => ?_)
        obtain ⟨rfl, rfl⟩ := h1932_
        exact jt_rI ⟨rfl, rfl, (show (a0 58 8 = 0 → r1932_ = 0 - 1) from by omega)⟩
