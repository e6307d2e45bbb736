abbrev jQ_X12_arrival (x1 x2 : Int) (a0 b0 : Nat → Nat → Int) : List jxV → (Nat → Nat → Int) → (Nat → Nat → Int) → Prop := rI (fun r a b => (a0 = a) ∧ (b0 = b))
theorem cp_X12_arrival_38 (E : jxE) (d : Nat) (hd : Nat.ble 1 (d + 1) = true) (x1 x2 : Int) (a0 b0 : Nat → Nat → Int) (hv0 : iv a0) (hp0 : (0 ≤ x1 ∧ x1 ≤ 299)) : ∀ n : Nat, (∀ (y1 y2 y3 y4 : Int), (((600 - y4) * 1) + 0).toNat ≤ n → 0 ≤ y1 → y1 ≤ 299 → y2 ≤ 1998 → 0 ≤ y4 → y4 ≤ 599 → jt (jxX E d 233 77 [some (.inr (.inr (.inl 146))), some (.inl y1), some (.inl y2), some (.inl y3), some (.inl y4)] [] (jxSH, a0, b0)) (jQ_X12_arrival x1 x2 a0 b0)) ∧ (∀ (y1 y2 y4 : Int), (((600 - y4) * 1) + 0).toNat ≤ n → 0 ≤ y1 → y1 ≤ 299 → y2 ≤ 1998 → 0 ≤ y4 → y4 ≤ 599 → jt (jxX E d 233 69 [some (.inr (.inr (.inl 146))), some (.inl y1), some (.inl y2), none, some (.inl y4)] [] (jxSH, a0, b0)) (jQ_X12_arrival x1 x2 a0 b0)) ∧ (∀ (y1 y2 y3 y4 : Int), (((600 - y4) * 1) + 0).toNat ≤ n → 0 ≤ y1 → y1 ≤ 299 → y2 ≤ 1998 → 0 ≤ y4 → y4 ≤ 600 → jt (jxX E d 233 38 [some (.inr (.inr (.inl 146))), some (.inl y1), some (.inl y2), some (.inl y3), some (.inl y4)] [] (jxSH, a0, b0)) (jQ_X12_arrival x1 x2 a0 b0)) := by
  refine jx_ind fun n ih => ?_
  have ih77 : ∀ (y1 y2 y3 y4 : Int), (((600 - y4) * 1) + 0).toNat < n → 0 ≤ y1 → y1 ≤ 299 → y2 ≤ 1998 → 0 ≤ y4 → y4 ≤ 599 → jt (jxX E d 233 77 [some (.inr (.inr (.inl 146))), some (.inl y1), some (.inl y2), some (.inl y3), some (.inl y4)] [] (jxSH, a0, b0)) (jQ_X12_arrival x1 x2 a0 b0) := fun y1 y2 y3 y4 hlt i0 i1 i2 i3 i4 => (ih _ hlt).1 y1 y2 y3 y4 (Nat.le_refl _) i0 i1 i2 i3 i4
  have ih69 : ∀ (y1 y2 y4 : Int), (((600 - y4) * 1) + 0).toNat < n → 0 ≤ y1 → y1 ≤ 299 → y2 ≤ 1998 → 0 ≤ y4 → y4 ≤ 599 → jt (jxX E d 233 69 [some (.inr (.inr (.inl 146))), some (.inl y1), some (.inl y2), none, some (.inl y4)] [] (jxSH, a0, b0)) (jQ_X12_arrival x1 x2 a0 b0) := fun y1 y2 y4 hlt i0 i1 i2 i3 i4 => (ih _ hlt).2.1 y1 y2 y4 (Nat.le_refl _) i0 i1 i2 i3 i4
  have ih38 : ∀ (y1 y2 y3 y4 : Int), (((600 - y4) * 1) + 0).toNat < n → 0 ≤ y1 → y1 ≤ 299 → y2 ≤ 1998 → 0 ≤ y4 → y4 ≤ 600 → jt (jxX E d 233 38 [some (.inr (.inr (.inl 146))), some (.inl y1), some (.inl y2), some (.inl y3), some (.inl y4)] [] (jxSH, a0, b0)) (jQ_X12_arrival x1 x2 a0 b0) := fun y1 y2 y3 y4 hlt i0 i1 i2 i3 i4 => (ih _ hlt).2.2 y1 y2 y3 y4 (Nat.le_refl _) i0 i1 i2 i3 i4
  have hc77 : ∀ (y1 y2 y3 y4 : Int), (((600 - y4) * 1) + 0).toNat ≤ n → 0 ≤ y1 → y1 ≤ 299 → y2 ≤ 1998 → 0 ≤ y4 → y4 ≤ 599 → jt (jxX E d 233 77 [some (.inr (.inr (.inl 146))), some (.inl y1), some (.inl y2), some (.inl y3), some (.inl y4)] [] (jxSH, a0, b0)) (jQ_X12_arrival x1 x2 a0 b0) := by
    intro y1 y2 y3 y4 hm hi0 hi1 hi2 hi3 hi4
    refine jt_eq (bq_X12_arrival_77 E d y1 y2 y3 y4 a0 b0) ?_
    have h1_ : jxw (y4 + 1) = y4 + 1 := jxw_id (by omega) (by omega)
    exact ih38 y1 y2 y3 (jxw (y4 + 1)) (show (((600 - (jxw (y4 + 1))) * 1) + 0).toNat < n from by omega) (show 0 ≤ y1 from by omega) (show y1 ≤ 299 from by omega) (show y2 ≤ 1998 from by omega) (show 0 ≤ jxw (y4 + 1) from by omega) (show jxw (y4 + 1) ≤ 600 from by omega)
  have hc69 : ∀ (y1 y2 y4 : Int), (((600 - y4) * 1) + 0).toNat ≤ n → 0 ≤ y1 → y1 ≤ 299 → y2 ≤ 1998 → 0 ≤ y4 → y4 ≤ 599 → jt (jxX E d 233 69 [some (.inr (.inr (.inl 146))), some (.inl y1), some (.inl y2), none, some (.inl y4)] [] (jxSH, a0, b0)) (jQ_X12_arrival x1 x2 a0 b0) := by
    intro y1 y2 y4 hm hi0 hi1 hi2 hi3 hi4
    refine jt_eq (bq_X12_arrival_69 E d y1 y2 y4 a0 b0) ?_
    refine jt_grd (by omega) ?_
    exact hc77 y1 y2 (a0 162 (y4.toNat)) y4 (show (((600 - y4) * 1) + 0).toNat ≤ n from by omega) (show 0 ≤ y1 from by omega) (show y1 ≤ 299 from by omega) (show y2 ≤ 1998 from by omega) (show 0 ≤ y4 from by omega) (show y4 ≤ 599 from by omega)
  have hc38 : ∀ (y1 y2 y3 y4 : Int), (((600 - y4) * 1) + 0).toNat ≤ n → 0 ≤ y1 → y1 ≤ 299 → y2 ≤ 1998 → 0 ≤ y4 → y4 ≤ 600 → jt (jxX E d 233 38 [some (.inr (.inr (.inl 146))), some (.inl y1), some (.inl y2), some (.inl y3), some (.inl y4)] [] (jxSH, a0, b0)) (jQ_X12_arrival x1 x2 a0 b0) := by
    intro y1 y2 y3 y4 hm hi0 hi1 hi2 hi3 hi4
    refine jt_eq (bq_X12_arrival_38 E d y1 y2 y3 y4 a0 b0) ?_
    have h2_ := iv_get hv0 (k := 146) (j := 17) (l := 0) (u := 600) rfl
    refine jt_ite (fun c3_ => ?_) (fun c3_ => ?_)
    ·
      refine jt_grd (by omega) ?_
      have h4_ := iv_get hv0 (k := 161) (j := y4.toNat) (l := 0) (u := 299) rfl
      refine jt_ite (fun c5_ => ?_) (fun c5_ => ?_)
      ·
        refine jt_grd (by omega) ?_
        refine jt_ite (fun c6_ => ?_) (fun c6_ => ?_)
        ·
          exact hc77 y1 y2 y3 y4 (show (((600 - y4) * 1) + 0).toNat ≤ n from by omega) (show 0 ≤ y1 from by omega) (show y1 ≤ 299 from by omega) (show y2 ≤ 1998 from by omega) (show 0 ≤ y4 from by omega) (show y4 ≤ 599 from by omega)
        ·
          exact hc69 y1 y2 y4 (show (((600 - y4) * 1) + 0).toNat ≤ n from by omega) (show 0 ≤ y1 from by omega) (show y1 ≤ 299 from by omega) (show y2 ≤ 1998 from by omega) (show 0 ≤ y4 from by omega) (show y4 ≤ 599 from by omega)
      ·
        exact hc77 y1 y2 y3 y4 (show (((600 - y4) * 1) + 0).toNat ≤ n from by omega) (show 0 ≤ y1 from by omega) (show y1 ≤ 299 from by omega) (show y2 ≤ 1998 from by omega) (show 0 ≤ y4 from by omega) (show y4 ≤ 599 from by omega)
    ·
      exact jt_rI ⟨rfl, rfl⟩
  exact ⟨hc77, hc69, hc38⟩
theorem sp_X12_arrival (E : jxE) (d : Nat) (hd : Nat.ble 1 d = true) (x1 x2 : Int) (a0 b0 : Nat → Nat → Int) (hv0 : iv a0) (hp0 : (0 ≤ x1 ∧ x1 ≤ 299)) : jt (jxC E d 233 [.inr (.inr (.inl 146)), .inl x1, .inl x2] (jxSH, a0, b0)) (jQ_X12_arrival x1 x2 a0 b0) := by
  obtain ⟨d, rfl⟩ := jd_succ hd
  refine jt_eq (bq_X12_arrival E d x1 x2 a0 b0) ?_
  have h7_ := iv_get hv0 (k := 146) (j := 0) (l := 0) (u := 1999) rfl
  refine jt_ite (fun c8_ => ?_) (fun c8_ => ?_)
  ·
    exact (cp_X12_arrival_38 E d hd x1 x2 a0 b0 hv0 hp0 _).2.2 x1 x2 (-1) 0 (Nat.le_refl _) (show 0 ≤ x1 from by omega) (show x1 ≤ 299 from by omega) (show x2 ≤ 1998 from by omega) (show 0 ≤ 0 from by omega) (show 0 ≤ 600 from by omega)
  ·
    refine jt_grd (by omega) ?_
    have h9_ := iv_get hv0 (k := 160) (j := x1.toNat) (l := (-1)) (u := 599) rfl
    refine jt_ite (fun c10_ => ?_) (fun c10_ => ?_)
    ·
      exact jt_rI ⟨rfl, rfl⟩
    ·
      refine jt_grd (by omega) ?_
      refine jt_grd (by omega) ?_
      exact jt_rI ⟨rfl, rfl⟩
abbrev jQ_X12_stateAt (x1 x2 x3 : Int) (a0 b0 : Nat → Nat → Int) : List jxV → (Nat → Nat → Int) → (Nat → Nat → Int) → Prop := rI (fun r a b => (a0 = a) ∧ (b0 = b) ∧ (0 ≤ r) ∧ (r ≤ 4))
theorem cp_X12_stateAt_30 (E : jxE) (d : Nat) (hd : Nat.ble 2 (d + 1) = true) (x1 x2 x3 : Int) (a0 b0 : Nat → Nat → Int) (hv0 : iv a0) (hp0 : (0 ≤ x1 ∧ x1 ≤ 299)) : jt (jxX E d 234 30 [none, none, none, none, none] [] (jxSH, a0, b0)) (jQ_X12_stateAt x1 x2 x3 a0 b0) := by
  refine jt_eq (bq_X12_stateAt_30 E d a0 b0) ?_
  exact jt_rI ⟨rfl, rfl, (show 0 ≤ 4 from by omega), (show 4 ≤ 4 from by omega)⟩
theorem cp_X12_stateAt_74 (E : jxE) (d : Nat) (hd : Nat.ble 2 (d + 1) = true) (x1 x2 x3 : Int) (a0 b0 : Nat → Nat → Int) (hv0 : iv a0) (hp0 : (0 ≤ x1 ∧ x1 ≤ 299)) : jt (jxX E d 234 74 [none, none, none, none, none] [] (jxSH, a0, b0)) (jQ_X12_stateAt x1 x2 x3 a0 b0) := by
  refine jt_eq (bq_X12_stateAt_74 E d a0 b0) ?_
  exact jt_rI ⟨rfl, rfl, (show 0 ≤ 1 from by omega), (show 1 ≤ 4 from by omega)⟩
theorem cp_X12_stateAt_76 (E : jxE) (d : Nat) (hd : Nat.ble 2 (d + 1) = true) (x1 x2 x3 : Int) (a0 b0 : Nat → Nat → Int) (hv0 : iv a0) (hp0 : (0 ≤ x1 ∧ x1 ≤ 299)) : ∀ (y1 y2 : Int), 0 ≤ y1 → y1 ≤ 299 → jt (jxX E d 234 76 [some (.inr (.inr (.inl 146))), some (.inl y1), some (.inl y2), none, none] [] (jxSH, a0, b0)) (jQ_X12_stateAt x1 x2 x3 a0 b0) := by
  intro y1 y2 hi0 hi1
  refine jt_eq (bq_X12_stateAt_76 E d y1 y2 a0 b0) ?_
  refine jt_grd (by omega) ?_
  refine jt_grd (by omega) ?_
  have h11_ := iv_get hv0 (k := 156) (j := y1.toNat) (l := 0) (u := 1999) rfl
  have h12_ := jxw_im (y2 - (a0 156 (y1.toNat)))
  have h13_ := jxw_rg (y2 - (a0 156 (y1.toNat)))
  refine jt_ite (fun c14_ => ?_) (fun c14_ => ?_)
  ·
    exact jt_rI ⟨rfl, rfl, (show 0 ≤ 0 from by omega), (show 0 ≤ 4 from by omega)⟩
  ·
    exact jt_rI ⟨rfl, rfl, (show 0 ≤ 2 from by omega), (show 2 ≤ 4 from by omega)⟩
theorem cp_X12_stateAt_70 (E : jxE) (d : Nat) (hd : Nat.ble 2 (d + 1) = true) (x1 x2 x3 : Int) (a0 b0 : Nat → Nat → Int) (hv0 : iv a0) (hp0 : (0 ≤ x1 ∧ x1 ≤ 299)) : jt (jxX E d 234 70 [none, none, none, none, none] [] (jxSH, a0, b0)) (jQ_X12_stateAt x1 x2 x3 a0 b0) := by
  refine jt_eq (bq_X12_stateAt_70 E d a0 b0) ?_
  exact jt_rI ⟨rfl, rfl, (show 0 ≤ 3 from by omega), (show 3 ≤ 4 from by omega)⟩
theorem cp_X12_stateAt_32 (E : jxE) (d : Nat) (hd : Nat.ble 2 (d + 1) = true) (x1 x2 x3 : Int) (a0 b0 : Nat → Nat → Int) (hv0 : iv a0) (hp0 : (0 ≤ x1 ∧ x1 ≤ 299)) : ∀ (y1 y2 y3 : Int), 0 ≤ y1 → y1 ≤ 299 → jt (jxX E d 234 32 [some (.inr (.inr (.inl 146))), some (.inl y1), some (.inl y2), some (.inl y3), none] [] (jxSH, a0, b0)) (jQ_X12_stateAt x1 x2 x3 a0 b0) := by
  intro y1 y2 y3 hi0 hi1
  refine jt_eq (bq_X12_stateAt_32 E d y1 y2 y3 a0 b0) ?_
  refine jt_bI (sp_X12_arrival E d (jd_le hd rfl) y1 y3 a0 b0 hv0 (show (0 ≤ y1 ∧ y1 ≤ 299) from by omega)) (fun r15_ a15_ b15_ h15_ => ?_)
  obtain ⟨rfl, rfl⟩ := h15_
  refine jt_ite (fun c16_ => ?_) (fun c16_ => ?_)
  ·
    exact cp_X12_stateAt_76 E d hd x1 x2 x3 a0 b0 hv0 hp0 y1 y2 (show 0 ≤ y1 from by omega) (show y1 ≤ 299 from by omega)
  ·
    refine jt_ite (fun c17_ => ?_) (fun c17_ => ?_)
    ·
      exact cp_X12_stateAt_76 E d hd x1 x2 x3 a0 b0 hv0 hp0 y1 y2 (show 0 ≤ y1 from by omega) (show y1 ≤ 299 from by omega)
    ·
      refine jt_grd (by omega) ?_
      refine jt_grd (by omega) ?_
      have h18_ := iv_get hv0 (k := 156) (j := y1.toNat) (l := 0) (u := 1999) rfl
      have h19_ := jxw_im (r15_ - (a0 156 (y1.toNat)))
      have h20_ := jxw_rg (r15_ - (a0 156 (y1.toNat)))
      refine jt_ite (fun c21_ => ?_) (fun c21_ => ?_)
      ·
        exact cp_X12_stateAt_74 E d hd x1 x2 x3 a0 b0 hv0 hp0
      ·
        exact cp_X12_stateAt_70 E d hd x1 x2 x3 a0 b0 hv0 hp0
theorem sp_X12_stateAt (E : jxE) (d : Nat) (hd : Nat.ble 2 d = true) (x1 x2 x3 : Int) (a0 b0 : Nat → Nat → Int) (hv0 : iv a0) (hp0 : (0 ≤ x1 ∧ x1 ≤ 299)) : jt (jxC E d 234 [.inr (.inr (.inl 146)), .inl x1, .inl x2, .inl x3] (jxSH, a0, b0)) (jQ_X12_stateAt x1 x2 x3 a0 b0) := by
  obtain ⟨d, rfl⟩ := jd_succ hd
  refine jt_eq (bq_X12_stateAt E d x1 x2 x3 a0 b0) ?_
  refine jt_grd (by omega) ?_
  refine jt_ite (fun c22_ => ?_) (fun c22_ => ?_)
  ·
    exact cp_X12_stateAt_32 E d hd x1 x2 x3 a0 b0 hv0 hp0 x1 x2 x3 (show 0 ≤ x1 from by omega) (show x1 ≤ 299 from by omega)
  ·
    refine jt_grd (by omega) ?_
    refine jt_ite (fun c23_ => ?_) (fun c23_ => ?_)
    ·
      exact cp_X12_stateAt_32 E d hd x1 x2 x3 a0 b0 hv0 hp0 x1 x2 x3 (show 0 ≤ x1 from by omega) (show x1 ≤ 299 from by omega)
    ·
      refine jt_grd (by omega) ?_
      refine jt_ite (fun c24_ => ?_) (fun c24_ => ?_)
      ·
        exact cp_X12_stateAt_32 E d hd x1 x2 x3 a0 b0 hv0 hp0 x1 x2 x3 (show 0 ≤ x1 from by omega) (show x1 ≤ 299 from by omega)
      ·
        exact cp_X12_stateAt_30 E d hd x1 x2 x3 a0 b0 hv0 hp0
abbrev jQ_X12_stateNow (x1 : Int) (a0 b0 : Nat → Nat → Int) : List jxV → (Nat → Nat → Int) → (Nat → Nat → Int) → Prop := rI (fun r a b => (a0 = a) ∧ (b0 = b) ∧ (0 ≤ r) ∧ (r ≤ 4))
theorem sp_X12_stateNow (E : jxE) (d : Nat) (hd : Nat.ble 3 d = true) (x1 : Int) (a0 b0 : Nat → Nat → Int) (hv0 : iv a0) (hp0 : (0 ≤ x1 ∧ x1 ≤ 299)) : jt (jxC E d 235 [.inr (.inr (.inl 146)), .inl x1] (jxSH, a0, b0)) (jQ_X12_stateNow x1 a0 b0) := by
  obtain ⟨d, rfl⟩ := jd_succ hd
  refine jt_eq (bq_X12_stateNow E d x1 a0 b0) ?_
  refine jt_bI (sp_X12_stateAt E d (jd_le hd rfl) x1 (a0 146 0) (a0 146 0) a0 b0 hv0 (show (0 ≤ x1 ∧ x1 ≤ 299) from by omega)) (fun r25_ a25_ b25_ h25_ => ?_)
  obtain ⟨rfl, rfl, hq25_0, hq25_1⟩ := h25_
  exact jt_rI ⟨rfl, rfl, (show 0 ≤ r25_ from by omega), (show r25_ ≤ 4 from by omega)⟩
abbrev jQ_X12_coming (x1 : Int) (a0 b0 : Nat → Nat → Int) : List jxV → (Nat → Nat → Int) → (Nat → Nat → Int) → Prop := rI (fun r a b => (a0 = a) ∧ (b0 = b) ∧ (0 ≤ r) ∧ (r ≤ 300))
theorem cp_X12_coming_4 (E : jxE) (d : Nat) (hd : Nat.ble 4 (d + 1) = true) (x1 : Int) (a0 b0 : Nat → Nat → Int) (hv0 : iv a0) : ∀ n : Nat, (∀ (y1 y2 y3 : Int), (((300 - y3) * 1) + 0).toNat ≤ n → 0 ≤ y2 → y2 ≤ 300 → 0 ≤ y3 → y3 ≤ 299 → y2 ≤ y3 + 1 → jt (jxX E d 243 38 [some (.inr (.inr (.inl 146))), some (.inl y1), some (.inl y2), some (.inl y3)] [] (jxSH, a0, b0)) (jQ_X12_coming x1 a0 b0)) ∧ (∀ (y1 y2 y3 : Int), (((300 - y3) * 1) + 0).toNat ≤ n → 0 ≤ y2 → y2 ≤ 300 → 0 ≤ y3 → y3 ≤ 300 → y2 ≤ y3 → jt (jxX E d 243 4 [some (.inr (.inr (.inl 146))), some (.inl y1), some (.inl y2), some (.inl y3)] [] (jxSH, a0, b0)) (jQ_X12_coming x1 a0 b0)) := by
  refine jx_ind fun n ih => ?_
  have ih38 : ∀ (y1 y2 y3 : Int), (((300 - y3) * 1) + 0).toNat < n → 0 ≤ y2 → y2 ≤ 300 → 0 ≤ y3 → y3 ≤ 299 → y2 ≤ y3 + 1 → jt (jxX E d 243 38 [some (.inr (.inr (.inl 146))), some (.inl y1), some (.inl y2), some (.inl y3)] [] (jxSH, a0, b0)) (jQ_X12_coming x1 a0 b0) := fun y1 y2 y3 hlt i0 i1 i2 i3 i4 => (ih _ hlt).1 y1 y2 y3 (Nat.le_refl _) i0 i1 i2 i3 i4
  have ih4 : ∀ (y1 y2 y3 : Int), (((300 - y3) * 1) + 0).toNat < n → 0 ≤ y2 → y2 ≤ 300 → 0 ≤ y3 → y3 ≤ 300 → y2 ≤ y3 → jt (jxX E d 243 4 [some (.inr (.inr (.inl 146))), some (.inl y1), some (.inl y2), some (.inl y3)] [] (jxSH, a0, b0)) (jQ_X12_coming x1 a0 b0) := fun y1 y2 y3 hlt i0 i1 i2 i3 i4 => (ih _ hlt).2 y1 y2 y3 (Nat.le_refl _) i0 i1 i2 i3 i4
  have hc38 : ∀ (y1 y2 y3 : Int), (((300 - y3) * 1) + 0).toNat ≤ n → 0 ≤ y2 → y2 ≤ 300 → 0 ≤ y3 → y3 ≤ 299 → y2 ≤ y3 + 1 → jt (jxX E d 243 38 [some (.inr (.inr (.inl 146))), some (.inl y1), some (.inl y2), some (.inl y3)] [] (jxSH, a0, b0)) (jQ_X12_coming x1 a0 b0) := by
    intro y1 y2 y3 hm hi0 hi1 hi2 hi3 hi4
    refine jt_eq (bq_X12_coming_38 E d y1 y2 y3 a0 b0) ?_
    have h26_ : jxw (y3 + 1) = y3 + 1 := jxw_id (by omega) (by omega)
    exact ih4 y1 y2 (jxw (y3 + 1)) (show (((300 - (jxw (y3 + 1))) * 1) + 0).toNat < n from by omega) (show 0 ≤ y2 from by omega) (show y2 ≤ 300 from by omega) (show 0 ≤ jxw (y3 + 1) from by omega) (show jxw (y3 + 1) ≤ 300 from by omega) (show y2 ≤ jxw (y3 + 1) from by omega)
  have hc4 : ∀ (y1 y2 y3 : Int), (((300 - y3) * 1) + 0).toNat ≤ n → 0 ≤ y2 → y2 ≤ 300 → 0 ≤ y3 → y3 ≤ 300 → y2 ≤ y3 → jt (jxX E d 243 4 [some (.inr (.inr (.inl 146))), some (.inl y1), some (.inl y2), some (.inl y3)] [] (jxSH, a0, b0)) (jQ_X12_coming x1 a0 b0) := by
    intro y1 y2 y3 hm hi0 hi1 hi2 hi3 hi4
    refine jt_eq (bq_X12_coming_4 E d y1 y2 y3 a0 b0) ?_
    have h27_ := iv_get hv0 (k := 146) (j := 9) (l := 0) (u := 300) rfl
    refine jt_ite (fun c28_ => ?_) (fun c28_ => ?_)
    ·
      refine jt_grd (by omega) ?_
      have h29_ := iv_get hv0 (k := 155) (j := y3.toNat) (l := 0) (u := 39) rfl
      refine jt_ite (fun c30_ => ?_) (fun c30_ => ?_)
      ·
        refine jt_bI (sp_X12_stateNow E d (jd_le hd rfl) y3 a0 b0 hv0 (show (0 ≤ y3 ∧ y3 ≤ 299) from by omega)) (fun r31_ a31_ b31_ h31_ => ?_)
        obtain ⟨rfl, rfl, hq31_0, hq31_1⟩ := h31_
        refine jt_ite (fun c32_ => ?_) (fun c32_ => ?_)
        ·
          have h33_ : jxw (y2 + 1) = y2 + 1 := jxw_id (by omega) (by omega)
          exact hc38 y1 (jxw (y2 + 1)) y3 (show (((300 - y3) * 1) + 0).toNat ≤ n from by omega) (show 0 ≤ jxw (y2 + 1) from by omega) (show jxw (y2 + 1) ≤ 300 from by omega) (show 0 ≤ y3 from by omega) (show y3 ≤ 299 from by omega) (show jxw (y2 + 1) ≤ y3 + 1 from by omega)
        ·
          have h34_ : jxw (y2 + 0) = y2 + 0 := jxw_id (by omega) (by omega)
          exact hc38 y1 (jxw (y2 + 0)) y3 (show (((300 - y3) * 1) + 0).toNat ≤ n from by omega) (show 0 ≤ jxw (y2 + 0) from by omega) (show jxw (y2 + 0) ≤ 300 from by omega) (show 0 ≤ y3 from by omega) (show y3 ≤ 299 from by omega) (show jxw (y2 + 0) ≤ y3 + 1 from by omega)
      ·
        have h35_ : jxw (y2 + 0) = y2 + 0 := jxw_id (by omega) (by omega)
        exact hc38 y1 (jxw (y2 + 0)) y3 (show (((300 - y3) * 1) + 0).toNat ≤ n from by omega) (show 0 ≤ jxw (y2 + 0) from by omega) (show jxw (y2 + 0) ≤ 300 from by omega) (show 0 ≤ y3 from by omega) (show y3 ≤ 299 from by omega) (show jxw (y2 + 0) ≤ y3 + 1 from by omega)
    ·
      exact jt_rI ⟨rfl, rfl, (show 0 ≤ y2 from by omega), (show y2 ≤ 300 from by omega)⟩
  exact ⟨hc38, hc4⟩
theorem sp_X12_coming (E : jxE) (d : Nat) (hd : Nat.ble 4 d = true) (x1 : Int) (a0 b0 : Nat → Nat → Int) (hv0 : iv a0) : jt (jxC E d 243 [.inr (.inr (.inl 146)), .inl x1] (jxSH, a0, b0)) (jQ_X12_coming x1 a0 b0) := by
  obtain ⟨d, rfl⟩ := jd_succ hd
  refine jt_eq (bq_X12_coming E d x1 a0 b0) ?_
  exact (cp_X12_coming_4 E d hd x1 a0 b0 hv0 _).2 x1 0 0 (Nat.le_refl _) (show 0 ≤ 0 from by omega) (show 0 ≤ 300 from by omega) (show 0 ≤ 0 from by omega) (show 0 ≤ 300 from by omega) (show 0 ≤ 0 from by omega)
abbrev jQ_X12_hasArrived (x1 : Int) (a0 b0 : Nat → Nat → Int) : List jxV → (Nat → Nat → Int) → (Nat → Nat → Int) → Prop := rI (fun r a b => (a0 = a) ∧ (b0 = b) ∧ ((0 ≤ r ∧ r ≤ 1)))
theorem sp_X12_hasArrived (E : jxE) (d : Nat) (hd : Nat.ble 4 d = true) (x1 : Int) (a0 b0 : Nat → Nat → Int) (hv0 : iv a0) (hp0 : (0 ≤ x1 ∧ x1 ≤ 299)) : jt (jxC E d 236 [.inr (.inr (.inl 146)), .inl x1] (jxSH, a0, b0)) (jQ_X12_hasArrived x1 a0 b0) := by
  obtain ⟨d, rfl⟩ := jd_succ hd
  refine jt_eq (bq_X12_hasArrived E d x1 a0 b0) ?_
  refine jt_bI (sp_X12_stateNow E d (jd_le hd rfl) x1 a0 b0 hv0 (show (0 ≤ x1 ∧ x1 ≤ 299) from by omega)) (fun r36_ a36_ b36_ h36_ => ?_)
  obtain ⟨rfl, rfl, hq36_0, hq36_1⟩ := h36_
  refine jt_ite (fun c37_ => ?_) (fun c37_ => ?_)
  ·
    exact jt_rI ⟨rfl, rfl, (show (0 ≤ 1 ∧ 1 ≤ 1) from by omega)⟩
  ·
    refine jt_ite (fun c38_ => ?_) (fun c38_ => ?_)
    ·
      exact jt_rI ⟨rfl, rfl, (show (0 ≤ 1 ∧ 1 ≤ 1) from by omega)⟩
    ·
      exact jt_rI ⟨rfl, rfl, (show (0 ≤ 0 ∧ 0 ≤ 1) from by omega)⟩
abbrev jQ_X12_given (x1 : Int) (a0 b0 : Nat → Nat → Int) : List jxV → (Nat → Nat → Int) → (Nat → Nat → Int) → Prop := rI (fun r a b => (a0 = a) ∧ (b0 = b) ∧ (0 ≤ r) ∧ (r ≤ 300))
theorem cp_X12_given_4 (E : jxE) (d : Nat) (hd : Nat.ble 5 (d + 1) = true) (x1 : Int) (a0 b0 : Nat → Nat → Int) (hv0 : iv a0) : ∀ n : Nat, (∀ (y1 y2 y3 : Int), (((300 - y3) * 1) + 0).toNat ≤ n → 0 ≤ y2 → y2 ≤ 300 → 0 ≤ y3 → y3 ≤ 299 → y2 ≤ y3 + 1 → jt (jxX E d 241 38 [some (.inr (.inr (.inl 146))), some (.inl y1), some (.inl y2), some (.inl y3)] [] (jxSH, a0, b0)) (jQ_X12_given x1 a0 b0)) ∧ (∀ (y1 y2 y3 : Int), (((300 - y3) * 1) + 0).toNat ≤ n → 0 ≤ y2 → y2 ≤ 300 → 0 ≤ y3 → y3 ≤ 300 → y2 ≤ y3 → jt (jxX E d 241 4 [some (.inr (.inr (.inl 146))), some (.inl y1), some (.inl y2), some (.inl y3)] [] (jxSH, a0, b0)) (jQ_X12_given x1 a0 b0)) := by
  refine jx_ind fun n ih => ?_
  have ih38 : ∀ (y1 y2 y3 : Int), (((300 - y3) * 1) + 0).toNat < n → 0 ≤ y2 → y2 ≤ 300 → 0 ≤ y3 → y3 ≤ 299 → y2 ≤ y3 + 1 → jt (jxX E d 241 38 [some (.inr (.inr (.inl 146))), some (.inl y1), some (.inl y2), some (.inl y3)] [] (jxSH, a0, b0)) (jQ_X12_given x1 a0 b0) := fun y1 y2 y3 hlt i0 i1 i2 i3 i4 => (ih _ hlt).1 y1 y2 y3 (Nat.le_refl _) i0 i1 i2 i3 i4
  have ih4 : ∀ (y1 y2 y3 : Int), (((300 - y3) * 1) + 0).toNat < n → 0 ≤ y2 → y2 ≤ 300 → 0 ≤ y3 → y3 ≤ 300 → y2 ≤ y3 → jt (jxX E d 241 4 [some (.inr (.inr (.inl 146))), some (.inl y1), some (.inl y2), some (.inl y3)] [] (jxSH, a0, b0)) (jQ_X12_given x1 a0 b0) := fun y1 y2 y3 hlt i0 i1 i2 i3 i4 => (ih _ hlt).2 y1 y2 y3 (Nat.le_refl _) i0 i1 i2 i3 i4
  have hc38 : ∀ (y1 y2 y3 : Int), (((300 - y3) * 1) + 0).toNat ≤ n → 0 ≤ y2 → y2 ≤ 300 → 0 ≤ y3 → y3 ≤ 299 → y2 ≤ y3 + 1 → jt (jxX E d 241 38 [some (.inr (.inr (.inl 146))), some (.inl y1), some (.inl y2), some (.inl y3)] [] (jxSH, a0, b0)) (jQ_X12_given x1 a0 b0) := by
    intro y1 y2 y3 hm hi0 hi1 hi2 hi3 hi4
    refine jt_eq (bq_X12_given_38 E d y1 y2 y3 a0 b0) ?_
    have h39_ : jxw (y3 + 1) = y3 + 1 := jxw_id (by omega) (by omega)
    exact ih4 y1 y2 (jxw (y3 + 1)) (show (((300 - (jxw (y3 + 1))) * 1) + 0).toNat < n from by omega) (show 0 ≤ y2 from by omega) (show y2 ≤ 300 from by omega) (show 0 ≤ jxw (y3 + 1) from by omega) (show jxw (y3 + 1) ≤ 300 from by omega) (show y2 ≤ jxw (y3 + 1) from by omega)
  have hc4 : ∀ (y1 y2 y3 : Int), (((300 - y3) * 1) + 0).toNat ≤ n → 0 ≤ y2 → y2 ≤ 300 → 0 ≤ y3 → y3 ≤ 300 → y2 ≤ y3 → jt (jxX E d 241 4 [some (.inr (.inr (.inl 146))), some (.inl y1), some (.inl y2), some (.inl y3)] [] (jxSH, a0, b0)) (jQ_X12_given x1 a0 b0) := by
    intro y1 y2 y3 hm hi0 hi1 hi2 hi3 hi4
    refine jt_eq (bq_X12_given_4 E d y1 y2 y3 a0 b0) ?_
    have h40_ := iv_get hv0 (k := 146) (j := 9) (l := 0) (u := 300) rfl
    refine jt_ite (fun c41_ => ?_) (fun c41_ => ?_)
    ·
      refine jt_grd (by omega) ?_
      have h42_ := iv_get hv0 (k := 154) (j := y3.toNat) (l := 0) (u := 39) rfl
      refine jt_ite (fun c43_ => ?_) (fun c43_ => ?_)
      ·
        refine jt_bI (sp_X12_hasArrived E d (jd_le hd rfl) y3 a0 b0 hv0 (show (0 ≤ y3 ∧ y3 ≤ 299) from by omega)) (fun r44_ a44_ b44_ h44_ => ?_)
        obtain ⟨rfl, rfl, hq44_0⟩ := h44_
        refine jt_ite (fun c45_ => ?_) (fun c45_ => ?_)
        ·
          have h46_ : jxw (y2 + 0) = y2 + 0 := jxw_id (by omega) (by omega)
          exact hc38 y1 (jxw (y2 + 0)) y3 (show (((300 - y3) * 1) + 0).toNat ≤ n from by omega) (show 0 ≤ jxw (y2 + 0) from by omega) (show jxw (y2 + 0) ≤ 300 from by omega) (show 0 ≤ y3 from by omega) (show y3 ≤ 299 from by omega) (show jxw (y2 + 0) ≤ y3 + 1 from by omega)
        ·
          have h47_ : jxw (y2 + 1) = y2 + 1 := jxw_id (by omega) (by omega)
          exact hc38 y1 (jxw (y2 + 1)) y3 (show (((300 - y3) * 1) + 0).toNat ≤ n from by omega) (show 0 ≤ jxw (y2 + 1) from by omega) (show jxw (y2 + 1) ≤ 300 from by omega) (show 0 ≤ y3 from by omega) (show y3 ≤ 299 from by omega) (show jxw (y2 + 1) ≤ y3 + 1 from by omega)
      ·
        have h48_ : jxw (y2 + 0) = y2 + 0 := jxw_id (by omega) (by omega)
        exact hc38 y1 (jxw (y2 + 0)) y3 (show (((300 - y3) * 1) + 0).toNat ≤ n from by omega) (show 0 ≤ jxw (y2 + 0) from by omega) (show jxw (y2 + 0) ≤ 300 from by omega) (show 0 ≤ y3 from by omega) (show y3 ≤ 299 from by omega) (show jxw (y2 + 0) ≤ y3 + 1 from by omega)
    ·
      exact jt_rI ⟨rfl, rfl, (show 0 ≤ y2 from by omega), (show y2 ≤ 300 from by omega)⟩
  exact ⟨hc38, hc4⟩
theorem sp_X12_given (E : jxE) (d : Nat) (hd : Nat.ble 5 d = true) (x1 : Int) (a0 b0 : Nat → Nat → Int) (hv0 : iv a0) : jt (jxC E d 241 [.inr (.inr (.inl 146)), .inl x1] (jxSH, a0, b0)) (jQ_X12_given x1 a0 b0) := by
  obtain ⟨d, rfl⟩ := jd_succ hd
  refine jt_eq (bq_X12_given E d x1 a0 b0) ?_
  exact (cp_X12_given_4 E d hd x1 a0 b0 hv0 _).2 x1 0 0 (Nat.le_refl _) (show 0 ≤ 0 from by omega) (show 0 ≤ 300 from by omega) (show 0 ≤ 0 from by omega) (show 0 ≤ 300 from by omega) (show 0 ≤ 0 from by omega)
abbrev jQ_X12_got (x1 : Int) (a0 b0 : Nat → Nat → Int) : List jxV → (Nat → Nat → Int) → (Nat → Nat → Int) → Prop := rI (fun r a b => (a0 = a) ∧ (b0 = b) ∧ (0 ≤ r) ∧ (r ≤ 300))
theorem cp_X12_got_4 (E : jxE) (d : Nat) (hd : Nat.ble 5 (d + 1) = true) (x1 : Int) (a0 b0 : Nat → Nat → Int) (hv0 : iv a0) : ∀ n : Nat, (∀ (y1 y2 y3 : Int), (((300 - y3) * 1) + 0).toNat ≤ n → 0 ≤ y2 → y2 ≤ 300 → 0 ≤ y3 → y3 ≤ 299 → y2 ≤ y3 + 1 → jt (jxX E d 242 38 [some (.inr (.inr (.inl 146))), some (.inl y1), some (.inl y2), some (.inl y3)] [] (jxSH, a0, b0)) (jQ_X12_got x1 a0 b0)) ∧ (∀ (y1 y2 y3 : Int), (((300 - y3) * 1) + 0).toNat ≤ n → 0 ≤ y2 → y2 ≤ 300 → 0 ≤ y3 → y3 ≤ 300 → y2 ≤ y3 → jt (jxX E d 242 4 [some (.inr (.inr (.inl 146))), some (.inl y1), some (.inl y2), some (.inl y3)] [] (jxSH, a0, b0)) (jQ_X12_got x1 a0 b0)) := by
  refine jx_ind fun n ih => ?_
  have ih38 : ∀ (y1 y2 y3 : Int), (((300 - y3) * 1) + 0).toNat < n → 0 ≤ y2 → y2 ≤ 300 → 0 ≤ y3 → y3 ≤ 299 → y2 ≤ y3 + 1 → jt (jxX E d 242 38 [some (.inr (.inr (.inl 146))), some (.inl y1), some (.inl y2), some (.inl y3)] [] (jxSH, a0, b0)) (jQ_X12_got x1 a0 b0) := fun y1 y2 y3 hlt i0 i1 i2 i3 i4 => (ih _ hlt).1 y1 y2 y3 (Nat.le_refl _) i0 i1 i2 i3 i4
  have ih4 : ∀ (y1 y2 y3 : Int), (((300 - y3) * 1) + 0).toNat < n → 0 ≤ y2 → y2 ≤ 300 → 0 ≤ y3 → y3 ≤ 300 → y2 ≤ y3 → jt (jxX E d 242 4 [some (.inr (.inr (.inl 146))), some (.inl y1), some (.inl y2), some (.inl y3)] [] (jxSH, a0, b0)) (jQ_X12_got x1 a0 b0) := fun y1 y2 y3 hlt i0 i1 i2 i3 i4 => (ih _ hlt).2 y1 y2 y3 (Nat.le_refl _) i0 i1 i2 i3 i4
  have hc38 : ∀ (y1 y2 y3 : Int), (((300 - y3) * 1) + 0).toNat ≤ n → 0 ≤ y2 → y2 ≤ 300 → 0 ≤ y3 → y3 ≤ 299 → y2 ≤ y3 + 1 → jt (jxX E d 242 38 [some (.inr (.inr (.inl 146))), some (.inl y1), some (.inl y2), some (.inl y3)] [] (jxSH, a0, b0)) (jQ_X12_got x1 a0 b0) := by
    intro y1 y2 y3 hm hi0 hi1 hi2 hi3 hi4
    refine jt_eq (bq_X12_got_38 E d y1 y2 y3 a0 b0) ?_
    have h49_ : jxw (y3 + 1) = y3 + 1 := jxw_id (by omega) (by omega)
    exact ih4 y1 y2 (jxw (y3 + 1)) (show (((300 - (jxw (y3 + 1))) * 1) + 0).toNat < n from by omega) (show 0 ≤ y2 from by omega) (show y2 ≤ 300 from by omega) (show 0 ≤ jxw (y3 + 1) from by omega) (show jxw (y3 + 1) ≤ 300 from by omega) (show y2 ≤ jxw (y3 + 1) from by omega)
  have hc4 : ∀ (y1 y2 y3 : Int), (((300 - y3) * 1) + 0).toNat ≤ n → 0 ≤ y2 → y2 ≤ 300 → 0 ≤ y3 → y3 ≤ 300 → y2 ≤ y3 → jt (jxX E d 242 4 [some (.inr (.inr (.inl 146))), some (.inl y1), some (.inl y2), some (.inl y3)] [] (jxSH, a0, b0)) (jQ_X12_got x1 a0 b0) := by
    intro y1 y2 y3 hm hi0 hi1 hi2 hi3 hi4
    refine jt_eq (bq_X12_got_4 E d y1 y2 y3 a0 b0) ?_
    have h50_ := iv_get hv0 (k := 146) (j := 9) (l := 0) (u := 300) rfl
    refine jt_ite (fun c51_ => ?_) (fun c51_ => ?_)
    ·
      refine jt_grd (by omega) ?_
      have h52_ := iv_get hv0 (k := 155) (j := y3.toNat) (l := 0) (u := 39) rfl
      refine jt_ite (fun c53_ => ?_) (fun c53_ => ?_)
      ·
        refine jt_bI (sp_X12_hasArrived E d (jd_le hd rfl) y3 a0 b0 hv0 (show (0 ≤ y3 ∧ y3 ≤ 299) from by omega)) (fun r54_ a54_ b54_ h54_ => ?_)
        obtain ⟨rfl, rfl, hq54_0⟩ := h54_
        refine jt_ite (fun c55_ => ?_) (fun c55_ => ?_)
        ·
          have h56_ : jxw (y2 + 0) = y2 + 0 := jxw_id (by omega) (by omega)
          exact hc38 y1 (jxw (y2 + 0)) y3 (show (((300 - y3) * 1) + 0).toNat ≤ n from by omega) (show 0 ≤ jxw (y2 + 0) from by omega) (show jxw (y2 + 0) ≤ 300 from by omega) (show 0 ≤ y3 from by omega) (show y3 ≤ 299 from by omega) (show jxw (y2 + 0) ≤ y3 + 1 from by omega)
        ·
          have h57_ : jxw (y2 + 1) = y2 + 1 := jxw_id (by omega) (by omega)
          exact hc38 y1 (jxw (y2 + 1)) y3 (show (((300 - y3) * 1) + 0).toNat ≤ n from by omega) (show 0 ≤ jxw (y2 + 1) from by omega) (show jxw (y2 + 1) ≤ 300 from by omega) (show 0 ≤ y3 from by omega) (show y3 ≤ 299 from by omega) (show jxw (y2 + 1) ≤ y3 + 1 from by omega)
      ·
        have h58_ : jxw (y2 + 0) = y2 + 0 := jxw_id (by omega) (by omega)
        exact hc38 y1 (jxw (y2 + 0)) y3 (show (((300 - y3) * 1) + 0).toNat ≤ n from by omega) (show 0 ≤ jxw (y2 + 0) from by omega) (show jxw (y2 + 0) ≤ 300 from by omega) (show 0 ≤ y3 from by omega) (show y3 ≤ 299 from by omega) (show jxw (y2 + 0) ≤ y3 + 1 from by omega)
    ·
      exact jt_rI ⟨rfl, rfl, (show 0 ≤ y2 from by omega), (show y2 ≤ 300 from by omega)⟩
  exact ⟨hc38, hc4⟩
theorem sp_X12_got (E : jxE) (d : Nat) (hd : Nat.ble 5 d = true) (x1 : Int) (a0 b0 : Nat → Nat → Int) (hv0 : iv a0) : jt (jxC E d 242 [.inr (.inr (.inl 146)), .inl x1] (jxSH, a0, b0)) (jQ_X12_got x1 a0 b0) := by
  obtain ⟨d, rfl⟩ := jd_succ hd
  refine jt_eq (bq_X12_got E d x1 a0 b0) ?_
  exact (cp_X12_got_4 E d hd x1 a0 b0 hv0 _).2 x1 0 0 (Nat.le_refl _) (show 0 ≤ 0 from by omega) (show 0 ≤ 300 from by omega) (show 0 ≤ 0 from by omega) (show 0 ≤ 300 from by omega) (show 0 ≤ 0 from by omega)
abbrev jQ_X12_ofHis (x1 x2 : Int) (a0 b0 : Nat → Nat → Int) : List jxV → (Nat → Nat → Int) → (Nat → Nat → Int) → Prop := rI (fun r a b => (a0 = a) ∧ (b0 = b) ∧ (0 ≤ r) ∧ (r ≤ 300))
theorem cp_X12_ofHis_5 (E : jxE) (d : Nat) (hd : Nat.ble 4 (d + 1) = true) (x1 x2 : Int) (a0 b0 : Nat → Nat → Int) (hv0 : iv a0) : ∀ n : Nat, (∀ (y1 y2 y3 y4 : Int), (((300 - y4) * 1) + 0).toNat ≤ n → 0 ≤ y3 → y3 ≤ 300 → 0 ≤ y4 → y4 ≤ 299 → y3 ≤ y4 + 1 → jt (jxX E d 244 43 [some (.inr (.inr (.inl 146))), some (.inl y1), some (.inl y2), some (.inl y3), some (.inl y4)] [] (jxSH, a0, b0)) (jQ_X12_ofHis x1 x2 a0 b0)) ∧ (∀ (y1 y2 y3 y4 : Int), (((300 - y4) * 1) + 0).toNat ≤ n → 0 ≤ y3 → y3 ≤ 300 → 0 ≤ y4 → y4 ≤ 300 → y3 ≤ y4 → jt (jxX E d 244 5 [some (.inr (.inr (.inl 146))), some (.inl y1), some (.inl y2), some (.inl y3), some (.inl y4)] [] (jxSH, a0, b0)) (jQ_X12_ofHis x1 x2 a0 b0)) := by
  refine jx_ind fun n ih => ?_
  have ih43 : ∀ (y1 y2 y3 y4 : Int), (((300 - y4) * 1) + 0).toNat < n → 0 ≤ y3 → y3 ≤ 300 → 0 ≤ y4 → y4 ≤ 299 → y3 ≤ y4 + 1 → jt (jxX E d 244 43 [some (.inr (.inr (.inl 146))), some (.inl y1), some (.inl y2), some (.inl y3), some (.inl y4)] [] (jxSH, a0, b0)) (jQ_X12_ofHis x1 x2 a0 b0) := fun y1 y2 y3 y4 hlt i0 i1 i2 i3 i4 => (ih _ hlt).1 y1 y2 y3 y4 (Nat.le_refl _) i0 i1 i2 i3 i4
  have ih5 : ∀ (y1 y2 y3 y4 : Int), (((300 - y4) * 1) + 0).toNat < n → 0 ≤ y3 → y3 ≤ 300 → 0 ≤ y4 → y4 ≤ 300 → y3 ≤ y4 → jt (jxX E d 244 5 [some (.inr (.inr (.inl 146))), some (.inl y1), some (.inl y2), some (.inl y3), some (.inl y4)] [] (jxSH, a0, b0)) (jQ_X12_ofHis x1 x2 a0 b0) := fun y1 y2 y3 y4 hlt i0 i1 i2 i3 i4 => (ih _ hlt).2 y1 y2 y3 y4 (Nat.le_refl _) i0 i1 i2 i3 i4
  have hc43 : ∀ (y1 y2 y3 y4 : Int), (((300 - y4) * 1) + 0).toNat ≤ n → 0 ≤ y3 → y3 ≤ 300 → 0 ≤ y4 → y4 ≤ 299 → y3 ≤ y4 + 1 → jt (jxX E d 244 43 [some (.inr (.inr (.inl 146))), some (.inl y1), some (.inl y2), some (.inl y3), some (.inl y4)] [] (jxSH, a0, b0)) (jQ_X12_ofHis x1 x2 a0 b0) := by
    intro y1 y2 y3 y4 hm hi0 hi1 hi2 hi3 hi4
    refine jt_eq (bq_X12_ofHis_43 E d y1 y2 y3 y4 a0 b0) ?_
    have h59_ : jxw (y4 + 1) = y4 + 1 := jxw_id (by omega) (by omega)
    exact ih5 y1 y2 y3 (jxw (y4 + 1)) (show (((300 - (jxw (y4 + 1))) * 1) + 0).toNat < n from by omega) (show 0 ≤ y3 from by omega) (show y3 ≤ 300 from by omega) (show 0 ≤ jxw (y4 + 1) from by omega) (show jxw (y4 + 1) ≤ 300 from by omega) (show y3 ≤ jxw (y4 + 1) from by omega)
  have hc5 : ∀ (y1 y2 y3 y4 : Int), (((300 - y4) * 1) + 0).toNat ≤ n → 0 ≤ y3 → y3 ≤ 300 → 0 ≤ y4 → y4 ≤ 300 → y3 ≤ y4 → jt (jxX E d 244 5 [some (.inr (.inr (.inl 146))), some (.inl y1), some (.inl y2), some (.inl y3), some (.inl y4)] [] (jxSH, a0, b0)) (jQ_X12_ofHis x1 x2 a0 b0) := by
    intro y1 y2 y3 y4 hm hi0 hi1 hi2 hi3 hi4
    refine jt_eq (bq_X12_ofHis_5 E d y1 y2 y3 y4 a0 b0) ?_
    have h60_ := iv_get hv0 (k := 146) (j := 9) (l := 0) (u := 300) rfl
    refine jt_ite (fun c61_ => ?_) (fun c61_ => ?_)
    ·
      refine jt_grd (by omega) ?_
      have h62_ := iv_get hv0 (k := 154) (j := y4.toNat) (l := 0) (u := 39) rfl
      refine jt_ite (fun c63_ => ?_) (fun c63_ => ?_)
      ·
        refine jt_bI (sp_X12_stateNow E d (jd_le hd rfl) y4 a0 b0 hv0 (show (0 ≤ y4 ∧ y4 ≤ 299) from by omega)) (fun r64_ a64_ b64_ h64_ => ?_)
        obtain ⟨rfl, rfl, hq64_0, hq64_1⟩ := h64_
        refine jt_ite (fun c65_ => ?_) (fun c65_ => ?_)
        ·
          have h66_ : jxw (y3 + 1) = y3 + 1 := jxw_id (by omega) (by omega)
          exact hc43 y1 y2 (jxw (y3 + 1)) y4 (show (((300 - y4) * 1) + 0).toNat ≤ n from by omega) (show 0 ≤ jxw (y3 + 1) from by omega) (show jxw (y3 + 1) ≤ 300 from by omega) (show 0 ≤ y4 from by omega) (show y4 ≤ 299 from by omega) (show jxw (y3 + 1) ≤ y4 + 1 from by omega)
        ·
          have h67_ : jxw (y3 + 0) = y3 + 0 := jxw_id (by omega) (by omega)
          exact hc43 y1 y2 (jxw (y3 + 0)) y4 (show (((300 - y4) * 1) + 0).toNat ≤ n from by omega) (show 0 ≤ jxw (y3 + 0) from by omega) (show jxw (y3 + 0) ≤ 300 from by omega) (show 0 ≤ y4 from by omega) (show y4 ≤ 299 from by omega) (show jxw (y3 + 0) ≤ y4 + 1 from by omega)
      ·
        have h68_ : jxw (y3 + 0) = y3 + 0 := jxw_id (by omega) (by omega)
        exact hc43 y1 y2 (jxw (y3 + 0)) y4 (show (((300 - y4) * 1) + 0).toNat ≤ n from by omega) (show 0 ≤ jxw (y3 + 0) from by omega) (show jxw (y3 + 0) ≤ 300 from by omega) (show 0 ≤ y4 from by omega) (show y4 ≤ 299 from by omega) (show jxw (y3 + 0) ≤ y4 + 1 from by omega)
    ·
      exact jt_rI ⟨rfl, rfl, (show 0 ≤ y3 from by omega), (show y3 ≤ 300 from by omega)⟩
  exact ⟨hc43, hc5⟩
theorem sp_X12_ofHis (E : jxE) (d : Nat) (hd : Nat.ble 4 d = true) (x1 x2 : Int) (a0 b0 : Nat → Nat → Int) (hv0 : iv a0) : jt (jxC E d 244 [.inr (.inr (.inl 146)), .inl x1, .inl x2] (jxSH, a0, b0)) (jQ_X12_ofHis x1 x2 a0 b0) := by
  obtain ⟨d, rfl⟩ := jd_succ hd
  refine jt_eq (bq_X12_ofHis E d x1 x2 a0 b0) ?_
  exact (cp_X12_ofHis_5 E d hd x1 x2 a0 b0 hv0 _).2 x1 x2 0 0 (Nat.le_refl _) (show 0 ≤ 0 from by omega) (show 0 ≤ 300 from by omega) (show 0 ≤ 0 from by omega) (show 0 ≤ 300 from by omega) (show 0 ≤ 0 from by omega)
abbrev jQ_X12_mayAsk (x1 : Int) (a0 b0 : Nat → Nat → Int) : List jxV → (Nat → Nat → Int) → (Nat → Nat → Int) → Prop := rI (fun r a b => (a0 = a) ∧ (b0 = b) ∧ ((0 ≤ r ∧ r ≤ 1)))
theorem cp_X12_mayAsk_50 (E : jxE) (d : Nat) (hd : Nat.ble 6 (d + 1) = true) (x1 : Int) (a0 b0 : Nat → Nat → Int) (hv0 : iv a0) (hp0 : (0 ≤ x1 ∧ x1 ≤ 39)) : jt (jxX E d 246 50 [none, none] [] (jxSH, a0, b0)) (jQ_X12_mayAsk x1 a0 b0) := by
  refine jt_eq (bq_X12_mayAsk_50 E d a0 b0) ?_
  exact jt_rI ⟨rfl, rfl, (show (0 ≤ 1 ∧ 1 ≤ 1) from by omega)⟩
theorem cp_X12_mayAsk_54 (E : jxE) (d : Nat) (hd : Nat.ble 6 (d + 1) = true) (x1 : Int) (a0 b0 : Nat → Nat → Int) (hv0 : iv a0) (hp0 : (0 ≤ x1 ∧ x1 ≤ 39)) : jt (jxX E d 246 54 [none, none] [] (jxSH, a0, b0)) (jQ_X12_mayAsk x1 a0 b0) := by
  refine jt_eq (bq_X12_mayAsk_54 E d a0 b0) ?_
  exact jt_rI ⟨rfl, rfl, (show (0 ≤ 0 ∧ 0 ≤ 1) from by omega)⟩
theorem sp_X12_mayAsk (E : jxE) (d : Nat) (hd : Nat.ble 6 d = true) (x1 : Int) (a0 b0 : Nat → Nat → Int) (hv0 : iv a0) (hp0 : (0 ≤ x1 ∧ x1 ≤ 39)) : jt (jxC E d 246 [.inr (.inr (.inl 146)), .inl x1] (jxSH, a0, b0)) (jQ_X12_mayAsk x1 a0 b0) := by
  obtain ⟨d, rfl⟩ := jd_succ hd
  refine jt_eq (bq_X12_mayAsk E d x1 a0 b0) ?_
  refine jt_grd (by omega) ?_
  have h69_ := iv_get hv0 (k := 152) (j := x1.toNat) (l := 0) (u := 1) rfl
  refine jt_ite (fun c70_ => ?_) (fun c70_ => ?_)
  ·
    exact cp_X12_mayAsk_54 E d hd x1 a0 b0 hv0 hp0
  ·
    refine jt_bI (sp_X12_ofHis E d (jd_le hd rfl) x1 0 a0 b0 hv0) (fun r71_ a71_ b71_ h71_ => ?_)
    obtain ⟨rfl, rfl, hq71_0, hq71_1⟩ := h71_
    refine jt_ite (fun c72_ => ?_) (fun c72_ => ?_)
    ·
      have h73_ := jxw_im ((a0 171 0) + 0)
      have h74_ := jxw_rg ((a0 171 0) + 0)
      refine jt_ite (fun c75_ => ?_) (fun c75_ => ?_)
      ·
        exact cp_X12_mayAsk_50 E d hd x1 a0 b0 hv0 hp0
      ·
        exact cp_X12_mayAsk_54 E d hd x1 a0 b0 hv0 hp0
    ·
      refine jt_bI (sp_X12_given E d (jd_le hd rfl) x1 a0 b0 hv0) (fun r76_ a76_ b76_ h76_ => ?_)
      obtain ⟨rfl, rfl, hq76_0, hq76_1⟩ := h76_
      refine jt_dvd (by omega) ?_
      have h77_ := jxw_im (Int.tdiv r76_ (a0 171 1))
      have h78_ := jxw_rg (Int.tdiv r76_ (a0 171 1))
      have h79_ := jxw_im ((a0 171 0) + (jxw (Int.tdiv r76_ (a0 171 1))))
      have h80_ := jxw_rg ((a0 171 0) + (jxw (Int.tdiv r76_ (a0 171 1))))
      refine jt_ite (fun c81_ => ?_) (fun c81_ => ?_)
      ·
        exact cp_X12_mayAsk_50 E d hd x1 a0 b0 hv0 hp0
      ·
        exact cp_X12_mayAsk_54 E d hd x1 a0 b0 hv0 hp0
abbrev jQ_X12_owed (x1 : Int) (a0 b0 : Nat → Nat → Int) : List jxV → (Nat → Nat → Int) → (Nat → Nat → Int) → Prop := rI (fun r a b => (a0 = a) ∧ (b0 = b))
theorem sp_X12_owed (E : jxE) (d : Nat) (hd : Nat.ble 6 d = true) (x1 : Int) (a0 b0 : Nat → Nat → Int) (hv0 : iv a0) (hp0 : (0 ≤ x1 ∧ x1 ≤ 39)) : jt (jxC E d 245 [.inr (.inr (.inl 146)), .inl x1] (jxSH, a0, b0)) (jQ_X12_owed x1 a0 b0) := by
  obtain ⟨d, rfl⟩ := jd_succ hd
  refine jt_eq (bq_X12_owed E d x1 a0 b0) ?_
  refine jt_bI (sp_X12_given E d (jd_le hd rfl) x1 a0 b0 hv0) (fun r82_ a82_ b82_ h82_ => ?_)
  obtain ⟨rfl, rfl, hq82_0, hq82_1⟩ := h82_
  refine jt_grd (by omega) ?_
  refine jt_bI (sp_X12_got E d (jd_le hd rfl) x1 a0 b0 hv0) (fun r83_ a83_ b83_ h83_ => ?_)
  obtain ⟨rfl, rfl, hq83_0, hq83_1⟩ := h83_
  refine jt_bI (sp_X12_coming E d (jd_le hd rfl) x1 a0 b0 hv0) (fun r84_ a84_ b84_ h84_ => ?_)
  obtain ⟨rfl, rfl, hq84_0, hq84_1⟩ := h84_
  exact jt_rI ⟨rfl, rfl⟩
abbrev jQ_X12_about (x1 x2 : Int) (a0 b0 : Nat → Nat → Int) : List jxV → (Nat → Nat → Int) → (Nat → Nat → Int) → Prop := rI (fun r a b => (a0 = a) ∧ (b0 = b) ∧ ((a0 146 2 = 0 → ((x2 = 5 ∧ r = 0 - 1000) ∨ (¬ x2 = 5 ∧ r = 0 - 1)))))
theorem sp_X12_about (E : jxE) (d : Nat) (hd : Nat.ble 7 d = true) (x1 x2 : Int) (a0 b0 : Nat → Nat → Int) (hv0 : iv a0) : jt (jxC E d 260 [.inr (.inr (.inl 146)), .inl x1, .inl x2] (jxSH, a0, b0)) (jQ_X12_about x1 x2 a0 b0) := by
  obtain ⟨d, rfl⟩ := jd_succ hd
  refine jt_eq (bq_X12_about E d x1 x2 a0 b0) ?_
  refine jt_eI (eq_X12_isMember E d (jd_le hd rfl) x1 a0 b0) ?_
  have h85_ := f_X12_isMember_eq a0 b0 x1
  have h86_ := iv_get hv0 (k := 146) (j := 2) (l := 0) (u := 40) rfl
  have h87_ : jxw ((a0 146 2) - 1) = (a0 146 2) - 1 := jxw_id (by omega) (by omega)
  have h88_ := f_X12_in_eq a0 b0 x1 0 (jxw ((a0 146 2) - 1))
  refine jt_ite (fun c89_ => ?_) (fun c89_ => ?_)
  ·
    refine jt_ite (fun c90_ => ?_) (fun c90_ => ?_)
    ·
      exact jt_rI ⟨rfl, rfl, (show (a0 146 2 = 0 → ((x2 = 5 ∧ (-1000) = 0 - 1000) ∨ (¬ x2 = 5 ∧ (-1000) = 0 - 1))) from by omega)⟩
    ·
      exact jt_rI ⟨rfl, rfl, (show (a0 146 2 = 0 → ((x2 = 5 ∧ (-1) = 0 - 1000) ∨ (¬ x2 = 5 ∧ (-1) = 0 - 1))) from by omega)⟩
  ·
    refine jt_ite (fun c91_ => ?_) (fun c91_ => ?_)
    ·
      exact jt_rI ⟨rfl, rfl, (show (a0 146 2 = 0 → ((x2 = 5 ∧ (-1) = 0 - 1000) ∨ (¬ x2 = 5 ∧ (-1) = 0 - 1))) from by omega)⟩
    ·
      refine jt_ite (fun c92_ => ?_) (fun c92_ => ?_)
      ·
        refine jt_bI (sp_X12_given E d (jd_le hd rfl) x1 a0 b0 hv0) (fun r93_ a93_ b93_ h93_ => ?_)
        obtain ⟨rfl, rfl, hq93_0, hq93_1⟩ := h93_
        exact jt_rI ⟨rfl, rfl, (show (a0 146 2 = 0 → ((x2 = 5 ∧ r93_ = 0 - 1000) ∨ (¬ x2 = 5 ∧ r93_ = 0 - 1))) from by omega)⟩
      ·
        refine jt_ite (fun c94_ => ?_) (fun c94_ => ?_)
        ·
          refine jt_bI (sp_X12_got E d (jd_le hd rfl) x1 a0 b0 hv0) (fun r95_ a95_ b95_ h95_ => ?_)
          obtain ⟨rfl, rfl, hq95_0, hq95_1⟩ := h95_
          exact jt_rI ⟨rfl, rfl, (show (a0 146 2 = 0 → ((x2 = 5 ∧ r95_ = 0 - 1000) ∨ (¬ x2 = 5 ∧ r95_ = 0 - 1))) from by omega)⟩
        ·
          refine jt_ite (fun c96_ => ?_) (fun c96_ => ?_)
          ·
            refine jt_bI (sp_X12_coming E d (jd_le hd rfl) x1 a0 b0 hv0) (fun r97_ a97_ b97_ h97_ => ?_)
            obtain ⟨rfl, rfl, hq97_0, hq97_1⟩ := h97_
            exact jt_rI ⟨rfl, rfl, (show (a0 146 2 = 0 → ((x2 = 5 ∧ r97_ = 0 - 1000) ∨ (¬ x2 = 5 ∧ r97_ = 0 - 1))) from by omega)⟩
          ·
            refine jt_ite (fun c98_ => ?_) (fun c98_ => ?_)
            ·
              refine jt_bI (sp_X12_ofHis E d (jd_le hd rfl) x1 0 a0 b0 hv0) (fun r99_ a99_ b99_ h99_ => ?_)
              obtain ⟨rfl, rfl, hq99_0, hq99_1⟩ := h99_
              exact jt_rI ⟨rfl, rfl, (show (a0 146 2 = 0 → ((x2 = 5 ∧ r99_ = 0 - 1000) ∨ (¬ x2 = 5 ∧ r99_ = 0 - 1))) from by omega)⟩
            ·
              refine jt_ite (fun c100_ => ?_) (fun c100_ => ?_)
              ·
                refine jt_grd (by omega) ?_
                exact jt_rI ⟨rfl, rfl, (show (a0 146 2 = 0 → ((x2 = 5 ∧ a0 153 (x1.toNat) = 0 - 1000) ∨ (¬ x2 = 5 ∧ a0 153 (x1.toNat) = 0 - 1))) from by omega)⟩
              ·
                refine jt_ite (fun c101_ => ?_) (fun c101_ => ?_)
                ·
                  refine jt_bI (sp_X12_owed E d (jd_le hd rfl) x1 a0 b0 hv0 (show (0 ≤ x1 ∧ x1 ≤ 39) from by omega)) (fun r102_ a102_ b102_ h102_ => ?_)
                  obtain ⟨rfl, rfl⟩ := h102_
                  exact jt_rI ⟨rfl, rfl, (show (a0 146 2 = 0 → ((x2 = 5 ∧ r102_ = 0 - 1000) ∨ (¬ x2 = 5 ∧ r102_ = 0 - 1))) from by omega)⟩
                ·
                  refine jt_ite (fun c103_ => ?_) (fun c103_ => ?_)
                  ·
                    refine jt_bI (sp_X12_mayAsk E d (jd_le hd rfl) x1 a0 b0 hv0 (show (0 ≤ x1 ∧ x1 ≤ 39) from by omega)) (fun r104_ a104_ b104_ h104_ => ?_)
                    obtain ⟨rfl, rfl, hq104_0⟩ := h104_
                    refine jt_ite (fun c105_ => ?_) (fun c105_ => ?_)
                    ·
                      exact jt_rI ⟨rfl, rfl, (show (a0 146 2 = 0 → ((x2 = 5 ∧ 0 = 0 - 1000) ∨ (¬ x2 = 5 ∧ 0 = 0 - 1))) from by omega)⟩
                    ·
                      exact jt_rI ⟨rfl, rfl, (show (a0 146 2 = 0 → ((x2 = 5 ∧ 1 = 0 - 1000) ∨ (¬ x2 = 5 ∧ 1 = 0 - 1))) from by omega)⟩
                  ·
                    refine jt_ite (fun c106_ => ?_) (fun c106_ => ?_)
                    ·
                      refine jt_grd (by omega) ?_
                      have h107_ := iv_get hv0 (k := 148) (j := x1.toNat) (l := 0) (u := 15) rfl
                      exact jt_rI ⟨rfl, rfl, (show (a0 146 2 = 0 → ((x2 = 5 ∧ a0 148 (x1.toNat) = 0 - 1000) ∨ (¬ x2 = 5 ∧ a0 148 (x1.toNat) = 0 - 1))) from by omega)⟩
                    ·
                      refine jt_ite (fun c108_ => ?_) (fun c108_ => ?_)
                      ·
                        refine jt_grd (by omega) ?_
                        have h109_ := iv_get hv0 (k := 152) (j := x1.toNat) (l := 0) (u := 1) rfl
                        refine jt_ite (fun c110_ => ?_) (fun c110_ => ?_)
                        ·
                          exact jt_rI ⟨rfl, rfl, (show (a0 146 2 = 0 → ((x2 = 5 ∧ 0 = 0 - 1000) ∨ (¬ x2 = 5 ∧ 0 = 0 - 1))) from by omega)⟩
                        ·
                          exact jt_rI ⟨rfl, rfl, (show (a0 146 2 = 0 → ((x2 = 5 ∧ 1 = 0 - 1000) ∨ (¬ x2 = 5 ∧ 1 = 0 - 1))) from by omega)⟩
                      ·
                        refine jt_ite (fun c111_ => ?_) (fun c111_ => ?_)
                        ·
                          refine jt_grd (by omega) ?_
                          exact jt_rI ⟨rfl, rfl, (show (a0 146 2 = 0 → ((x2 = 5 ∧ a0 151 (x1.toNat) = 0 - 1000) ∨ (¬ x2 = 5 ∧ a0 151 (x1.toNat) = 0 - 1))) from by omega)⟩
                        ·
                          refine jt_ite (fun c112_ => ?_) (fun c112_ => ?_)
                          ·
                            refine jt_bI (sp_X12_ofHis E d (jd_le hd rfl) x1 2 a0 b0 hv0) (fun r113_ a113_ b113_ h113_ => ?_)
                            obtain ⟨rfl, rfl, hq113_0, hq113_1⟩ := h113_
                            exact jt_rI ⟨rfl, rfl, (show (a0 146 2 = 0 → ((x2 = 5 ∧ r113_ = 0 - 1000) ∨ (¬ x2 = 5 ∧ r113_ = 0 - 1))) from by omega)⟩
                          ·
                            exact absurd (by omega : False) id
abbrev jQ_X12_album (x1 : Int) (a0 b0 : Nat → Nat → Int) : List jxV → (Nat → Nat → Int) → (Nat → Nat → Int) → Prop := rI (fun r a b => (a0 = a) ∧ (b0 = b) ∧ ((a0 146 2 = 0 → r = 0 - 1)))
theorem cp_X12_album_14 (E : jxE) (d : Nat) (hd : Nat.ble 5 (d + 1) = true) (x1 : Int) (a0 b0 : Nat → Nat → Int) (hv0 : iv a0) : ∀ n : Nat, (∀ (y1 y2 y3 : Int), (((300 - y3) * 1) + 0).toNat ≤ n → 0 ≤ y1 → y1 ≤ 39 → 0 ≤ y3 → y3 ≤ 299 → 1 ≤ a0 146 2 → jt (jxX E d 261 56 [some (.inr (.inr (.inl 146))), some (.inl y1), some (.inl y2), some (.inl y3)] [] (jxSH, a0, b0)) (jQ_X12_album x1 a0 b0)) ∧ (∀ (y1 y2 y3 : Int), (((300 - y3) * 1) + 0).toNat ≤ n → 0 ≤ y1 → y1 ≤ 39 → 0 ≤ y3 → y3 ≤ 299 → 1 ≤ a0 146 2 → jt (jxX E d 261 40 [some (.inr (.inr (.inl 146))), some (.inl y1), some (.inl y2), some (.inl y3)] [] (jxSH, a0, b0)) (jQ_X12_album x1 a0 b0)) ∧ (∀ (y1 y2 y3 : Int), (((300 - y3) * 1) + 0).toNat ≤ n → 0 ≤ y1 → y1 ≤ 39 → 0 ≤ y3 → y3 ≤ 300 → 1 ≤ a0 146 2 → jt (jxX E d 261 14 [some (.inr (.inr (.inl 146))), some (.inl y1), some (.inl y2), some (.inl y3)] [] (jxSH, a0, b0)) (jQ_X12_album x1 a0 b0)) := by
  refine jx_ind fun n ih => ?_
  have ih56 : ∀ (y1 y2 y3 : Int), (((300 - y3) * 1) + 0).toNat < n → 0 ≤ y1 → y1 ≤ 39 → 0 ≤ y3 → y3 ≤ 299 → 1 ≤ a0 146 2 → jt (jxX E d 261 56 [some (.inr (.inr (.inl 146))), some (.inl y1), some (.inl y2), some (.inl y3)] [] (jxSH, a0, b0)) (jQ_X12_album x1 a0 b0) := fun y1 y2 y3 hlt i0 i1 i2 i3 i4 => (ih _ hlt).1 y1 y2 y3 (Nat.le_refl _) i0 i1 i2 i3 i4
  have ih40 : ∀ (y1 y2 y3 : Int), (((300 - y3) * 1) + 0).toNat < n → 0 ≤ y1 → y1 ≤ 39 → 0 ≤ y3 → y3 ≤ 299 → 1 ≤ a0 146 2 → jt (jxX E d 261 40 [some (.inr (.inr (.inl 146))), some (.inl y1), some (.inl y2), some (.inl y3)] [] (jxSH, a0, b0)) (jQ_X12_album x1 a0 b0) := fun y1 y2 y3 hlt i0 i1 i2 i3 i4 => (ih _ hlt).2.1 y1 y2 y3 (Nat.le_refl _) i0 i1 i2 i3 i4
  have ih14 : ∀ (y1 y2 y3 : Int), (((300 - y3) * 1) + 0).toNat < n → 0 ≤ y1 → y1 ≤ 39 → 0 ≤ y3 → y3 ≤ 300 → 1 ≤ a0 146 2 → jt (jxX E d 261 14 [some (.inr (.inr (.inl 146))), some (.inl y1), some (.inl y2), some (.inl y3)] [] (jxSH, a0, b0)) (jQ_X12_album x1 a0 b0) := fun y1 y2 y3 hlt i0 i1 i2 i3 i4 => (ih _ hlt).2.2 y1 y2 y3 (Nat.le_refl _) i0 i1 i2 i3 i4
  have hc56 : ∀ (y1 y2 y3 : Int), (((300 - y3) * 1) + 0).toNat ≤ n → 0 ≤ y1 → y1 ≤ 39 → 0 ≤ y3 → y3 ≤ 299 → 1 ≤ a0 146 2 → jt (jxX E d 261 56 [some (.inr (.inr (.inl 146))), some (.inl y1), some (.inl y2), some (.inl y3)] [] (jxSH, a0, b0)) (jQ_X12_album x1 a0 b0) := by
    intro y1 y2 y3 hm hi0 hi1 hi2 hi3 hi4
    refine jt_eq (bq_X12_album_56 E d y1 y2 y3 a0 b0) ?_
    have h114_ := iv_get hv0 (k := 146) (j := 2) (l := 0) (u := 40) rfl
    have h115_ : jxw (y3 + 1) = y3 + 1 := jxw_id (by omega) (by omega)
    exact ih14 y1 y2 (jxw (y3 + 1)) (show (((300 - (jxw (y3 + 1))) * 1) + 0).toNat < n from by omega) (show 0 ≤ y1 from by omega) (show y1 ≤ 39 from by omega) (show 0 ≤ jxw (y3 + 1) from by omega) (show jxw (y3 + 1) ≤ 300 from by omega) (show 1 ≤ a0 146 2 from by omega)
  have hc40 : ∀ (y1 y2 y3 : Int), (((300 - y3) * 1) + 0).toNat ≤ n → 0 ≤ y1 → y1 ≤ 39 → 0 ≤ y3 → y3 ≤ 299 → 1 ≤ a0 146 2 → jt (jxX E d 261 40 [some (.inr (.inr (.inl 146))), some (.inl y1), some (.inl y2), some (.inl y3)] [] (jxSH, a0, b0)) (jQ_X12_album x1 a0 b0) := by
    intro y1 y2 y3 hm hi0 hi1 hi2 hi3 hi4
    refine jt_eq (bq_X12_album_40 E d y1 y2 y3 a0 b0) ?_
    have h116_ := iv_get hv0 (k := 146) (j := 2) (l := 0) (u := 40) rfl
    refine jt_grd (by omega) ?_
    have h117_ := iv_get hv0 (k := 154) (j := y3.toNat) (l := 0) (u := 39) rfl
    refine jt_grd (by omega) ?_
    exact hc56 y1 (jxor y2 (jxshl 1 (a0 148 ((a0 154 (y3.toNat)).toNat)))) y3 (show (((300 - y3) * 1) + 0).toNat ≤ n from by omega) (show 0 ≤ y1 from by omega) (show y1 ≤ 39 from by omega) (show 0 ≤ y3 from by omega) (show y3 ≤ 299 from by omega) (show 1 ≤ a0 146 2 from by omega)
  have hc14 : ∀ (y1 y2 y3 : Int), (((300 - y3) * 1) + 0).toNat ≤ n → 0 ≤ y1 → y1 ≤ 39 → 0 ≤ y3 → y3 ≤ 300 → 1 ≤ a0 146 2 → jt (jxX E d 261 14 [some (.inr (.inr (.inl 146))), some (.inl y1), some (.inl y2), some (.inl y3)] [] (jxSH, a0, b0)) (jQ_X12_album x1 a0 b0) := by
    intro y1 y2 y3 hm hi0 hi1 hi2 hi3 hi4
    refine jt_eq (bq_X12_album_14 E d y1 y2 y3 a0 b0) ?_
    have h118_ := iv_get hv0 (k := 146) (j := 2) (l := 0) (u := 40) rfl
    have h119_ := iv_get hv0 (k := 146) (j := 9) (l := 0) (u := 300) rfl
    refine jt_ite (fun c120_ => ?_) (fun c120_ => ?_)
    ·
      refine jt_grd (by omega) ?_
      have h121_ := iv_get hv0 (k := 155) (j := y3.toNat) (l := 0) (u := 39) rfl
      refine jt_ite (fun c122_ => ?_) (fun c122_ => ?_)
      ·
        refine jt_bI (sp_X12_hasArrived E d (jd_le hd rfl) y3 a0 b0 hv0 (show (0 ≤ y3 ∧ y3 ≤ 299) from by omega)) (fun r123_ a123_ b123_ h123_ => ?_)
        obtain ⟨rfl, rfl, hq123_0⟩ := h123_
        refine jt_ite (fun c124_ => ?_) (fun c124_ => ?_)
        ·
          exact hc56 y1 y2 y3 (show (((300 - y3) * 1) + 0).toNat ≤ n from by omega) (show 0 ≤ y1 from by omega) (show y1 ≤ 39 from by omega) (show 0 ≤ y3 from by omega) (show y3 ≤ 299 from by omega) (show 1 ≤ a0 146 2 from by omega)
        ·
          exact hc40 y1 y2 y3 (show (((300 - y3) * 1) + 0).toNat ≤ n from by omega) (show 0 ≤ y1 from by omega) (show y1 ≤ 39 from by omega) (show 0 ≤ y3 from by omega) (show y3 ≤ 299 from by omega) (show 1 ≤ a0 146 2 from by omega)
      ·
        exact hc56 y1 y2 y3 (show (((300 - y3) * 1) + 0).toNat ≤ n from by omega) (show 0 ≤ y1 from by omega) (show y1 ≤ 39 from by omega) (show 0 ≤ y3 from by omega) (show y3 ≤ 299 from by omega) (show 1 ≤ a0 146 2 from by omega)
    ·
      exact jt_rI ⟨rfl, rfl, (show (a0 146 2 = 0 → y2 = 0 - 1) from by omega)⟩
  exact ⟨hc56, hc40, hc14⟩
theorem sp_X12_album (E : jxE) (d : Nat) (hd : Nat.ble 5 d = true) (x1 : Int) (a0 b0 : Nat → Nat → Int) (hv0 : iv a0) : jt (jxC E d 261 [.inr (.inr (.inl 146)), .inl x1] (jxSH, a0, b0)) (jQ_X12_album x1 a0 b0) := by
  obtain ⟨d, rfl⟩ := jd_succ hd
  refine jt_eq (bq_X12_album E d x1 a0 b0) ?_
  refine jt_eI (eq_X12_isMember E d (jd_le hd rfl) x1 a0 b0) ?_
  have h125_ := f_X12_isMember_eq a0 b0 x1
  have h126_ := iv_get hv0 (k := 146) (j := 2) (l := 0) (u := 40) rfl
  have h127_ : jxw ((a0 146 2) - 1) = (a0 146 2) - 1 := jxw_id (by omega) (by omega)
  have h128_ := f_X12_in_eq a0 b0 x1 0 (jxw ((a0 146 2) - 1))
  refine jt_ite (fun c129_ => ?_) (fun c129_ => ?_)
  ·
    exact jt_rI ⟨rfl, rfl, (show (a0 146 2 = 0 → (-1) = 0 - 1) from by omega)⟩
  ·
    exact (cp_X12_album_14 E d hd x1 a0 b0 hv0 _).2.2 x1 0 0 (Nat.le_refl _) (show 0 ≤ x1 from by omega) (show x1 ≤ 39 from by omega) (show 0 ≤ 0 from by omega) (show 0 ≤ 300 from by omega) (show 1 ≤ a0 146 2 from by omega)
def jW_X12_tells : List (Nat × Nat) := [(146, 17), (160, 9999), (161, 9999), (162, 9999), (163, 9999)]
abbrev jQ_X12_tells (x1 x2 : Int) (a0 b0 : Nat → Nat → Int) : List jxV → (Nat → Nat → Int) → (Nat → Nat → Int) → Prop := rV (fun a b => (iv a) ∧ (jfr jW_X12_tells a0 a) ∧ (b0 = b))
theorem cp_X12_tells_33 (E : jxE) (d : Nat) (hd : Nat.ble 1 (d + 1) = true) (x1 x2 : Int) (a0 b0 : Nat → Nat → Int) (hv0 : iv a0) (hp0 : (0 ≤ x1 ∧ x1 ≤ 299)) (hp1 : a0 146 17 ≤ 599) : ∀ (y1 : Int) (a : Nat → Nat → Int), iv a → jfr jW_X12_tells a0 a → 0 ≤ y1 → y1 ≤ 299 → a 146 17 ≤ 599 → jt (jxX E d 256 33 [some (.inr (.inr (.inl 146))), some (.inl y1), none] [] (jxSH, a, b0)) (jQ_X12_tells x1 x2 a0 b0) := by
  intro y1 a hv hf hi0 hi1 hi2
  refine jt_eq (bq_X12_tells_33 E d y1 a b0) ?_
  have h130_ := iv_get hv (k := 146) (j := 17) (l := 0) (u := 600) rfl
  refine jt_grd (by omega) ?_
  have hv131_ : iv (jxu a 160 (y1.toNat) (a 146 17)) := iv_put hv (l := (-1)) (u := 599) rfl (by omega) (by omega)
  have h133_ : jxw ((a 146 17) + 1) = (a 146 17) + 1 := jxw_id (by omega) (by omega)
  have hv132_ : iv (jxu (jxu a 160 (y1.toNat) (a 146 17)) 146 17 (jxw ((a 146 17) + 1))) := iv_put hv131_ (l := 0) (u := 600) rfl (by omega) (by omega)
  have hf134_ : jfr jW_X12_tells a0 (jxu a 160 (y1.toNat) (a 146 17)) := jfr_put hf rfl
  have hf135_ : jfr jW_X12_tells a0 (jxu (jxu a 160 (y1.toNat) (a 146 17)) 146 17 (jxw ((a 146 17) + 1))) := jfr_put hf134_ rfl
  exact jt_rV ⟨hv132_, hf135_, rfl⟩
theorem sp_X12_tells (E : jxE) (d : Nat) (hd : Nat.ble 1 d = true) (x1 x2 : Int) (a0 b0 : Nat → Nat → Int) (hv0 : iv a0) (hp0 : (0 ≤ x1 ∧ x1 ≤ 299)) (hp1 : a0 146 17 ≤ 599) : jt (jxC E d 256 [.inr (.inr (.inl 146)), .inl x1, .inl x2] (jxSH, a0, b0)) (jQ_X12_tells x1 x2 a0 b0) := by
  obtain ⟨d, rfl⟩ := jd_succ hd
  refine jt_eq (bq_X12_tells E d x1 x2 a0 b0) ?_
  have h136_ := iv_get hv0 (k := 146) (j := 17) (l := 0) (u := 600) rfl
  refine jt_grd (by omega) ?_
  refine jt_grd (by omega) ?_
  refine jt_grd (by omega) ?_
  have hv137_ : iv (jxu a0 161 ((a0 146 17).toNat) x1) := iv_put hv0 (l := 0) (u := 299) rfl (by omega) (by omega)
  have hv138_ : iv (jxu (jxu a0 161 ((a0 146 17).toNat) x1) 162 ((a0 146 17).toNat) x2) := iv_putf hv137_ rfl
  have hv139_ : iv (jxu (jxu (jxu a0 161 ((a0 146 17).toNat) x1) 162 ((a0 146 17).toNat) x2) 163 ((a0 146 17).toNat) (a0 146 0)) := iv_putf hv138_ rfl
  have hf140_ : jfr jW_X12_tells a0 (jxu a0 161 ((a0 146 17).toNat) x1) := jfr_put (jfr_rf _ _) rfl
  have hf141_ : jfr jW_X12_tells a0 (jxu (jxu a0 161 ((a0 146 17).toNat) x1) 162 ((a0 146 17).toNat) x2) := jfr_put hf140_ rfl
  have hf142_ : jfr jW_X12_tells a0 (jxu (jxu (jxu a0 161 ((a0 146 17).toNat) x1) 162 ((a0 146 17).toNat) x2) 163 ((a0 146 17).toNat) (a0 146 0)) := jfr_put hf141_ rfl
  exact cp_X12_tells_33 E d hd x1 x2 a0 b0 hv0 hp0 hp1 x1 (jxu (jxu (jxu a0 161 ((a0 146 17).toNat) x1) 162 ((a0 146 17).toNat) x2) 163 ((a0 146 17).toNat) (a0 146 0)) hv139_ hf142_ (show 0 ≤ x1 from by omega) (show x1 ≤ 299 from by omega) (show a0 146 17 ≤ 599 from by omega)
def jW_X12_arrive : List (Nat × Nat) := [(146, 17), (160, 9999), (161, 9999), (162, 9999), (163, 9999)]
abbrev jQ_X12_arrive (x1 x2 : Int) (a0 b0 : Nat → Nat → Int) : List jxV → (Nat → Nat → Int) → (Nat → Nat → Int) → Prop := rI (fun r a b => (iv a) ∧ (jfr jW_X12_arrive a0 a) ∧ (b0 = b) ∧ ((0 ≤ r ∧ r ≤ 1)) ∧ ((a0 146 9 = 0 → r = 0)))
theorem cp_X12_arrive_59 (E : jxE) (d : Nat) (hd : Nat.ble 2 (d + 1) = true) (x1 x2 : Int) (a0 b0 : Nat → Nat → Int) (hv0 : iv a0) : ∀ (a : Nat → Nat → Int), iv a → jfr jW_X12_arrive a0 a → 1 ≤ a0 146 9 → jt (jxX E d 257 59 [none, none, none] [] (jxSH, a, b0)) (jQ_X12_arrive x1 x2 a0 b0) := by
  intro a hv hf hi0
  refine jt_eq (bq_X12_arrive_59 E d a b0) ?_
  have h143_ := iv_get hv0 (k := 146) (j := 9) (l := 0) (u := 300) rfl
  exact jt_rI ⟨hv, hf, rfl, (show (0 ≤ 1 ∧ 1 ≤ 1) from by omega), (show (a0 146 9 = 0 → 1 = 0) from by omega)⟩
theorem cp_X12_arrive_51 (E : jxE) (d : Nat) (hd : Nat.ble 2 (d + 1) = true) (x1 x2 : Int) (a0 b0 : Nat → Nat → Int) (hv0 : iv a0) : ∀ (a : Nat → Nat → Int), iv a → jfr jW_X12_arrive a0 a → jt (jxX E d 257 51 [none, none, none] [] (jxSH, a, b0)) (jQ_X12_arrive x1 x2 a0 b0) := by
  intro a hv hf
  refine jt_eq (bq_X12_arrive_51 E d a b0) ?_
  have h144_ := iv_get hv0 (k := 146) (j := 9) (l := 0) (u := 300) rfl
  exact jt_rI ⟨hv, hf, rfl, (show (0 ≤ 0 ∧ 0 ≤ 1) from by omega), (show (a0 146 9 = 0 → 0 = 0) from by omega)⟩
theorem cp_X12_arrive_24 (E : jxE) (d : Nat) (hd : Nat.ble 2 (d + 1) = true) (x1 x2 : Int) (a0 b0 : Nat → Nat → Int) (hv0 : iv a0) : ∀ (y1 y2 : Int) (a : Nat → Nat → Int), iv a → jfr jW_X12_arrive a0 a → 0 ≤ y1 → y1 ≤ 299 → 1 ≤ a0 146 9 → jt (jxX E d 257 24 [some (.inr (.inr (.inl 146))), some (.inl y1), some (.inl y2)] [] (jxSH, a, b0)) (jQ_X12_arrive x1 x2 a0 b0) := by
  intro y1 y2 a hv hf hi0 hi1 hi2
  refine jt_eq (bq_X12_arrive_24 E d y1 y2 a b0) ?_
  have h145_ := iv_get hv0 (k := 146) (j := 9) (l := 0) (u := 300) rfl
  have h146_ := iv_get hv (k := 146) (j := 17) (l := 0) (u := 600) rfl
  refine jt_ite (fun c147_ => ?_) (fun c147_ => ?_)
  ·
    exact cp_X12_arrive_51 E d hd x1 x2 a0 b0 hv0 a hv hf
  ·
    refine jt_grd (by omega) ?_
    refine jt_eI (eq_X12_in E d (jd_le hd rfl) y2 (a 156 (y1.toNat)) (a 146 0) a b0) ?_
    have h148_ := iv_get hv (k := 156) (j := y1.toNat) (l := 0) (u := 1999) rfl
    have h149_ : a 156 (y1.toNat) = a0 156 (y1.toNat) := hf 156 (y1.toNat) rfl
    have h150_ := iv_get hv0 (k := 156) (j := y1.toNat) (l := 0) (u := 1999) rfl
    have h151_ := iv_get hv (k := 146) (j := 0) (l := 0) (u := 1999) rfl
    have h152_ : a 146 0 = a0 146 0 := hf 146 0 rfl
    have h153_ := iv_get hv0 (k := 146) (j := 0) (l := 0) (u := 1999) rfl
    have h154_ := f_X12_in_eq a b0 y2 (a 156 (y1.toNat)) (a 146 0)
    refine jt_ite (fun c155_ => ?_) (fun c155_ => ?_)
    ·
      exact cp_X12_arrive_51 E d hd x1 x2 a0 b0 hv0 a hv hf
    ·
      refine jt_bV (sp_X12_tells E d (jd_le hd rfl) y1 y2 a b0 hv (show (0 ≤ y1 ∧ y1 ≤ 299) from by omega) (show a 146 17 ≤ 599 from by omega)) (fun a156_ b156_ h156_ => ?_)
      obtain ⟨hv156_, hf156_, rfl⟩ := h156_
      have hf157_ : jfr jW_X12_arrive a0 a156_ := jfr_tr hf hf156_ rfl
      exact cp_X12_arrive_59 E d hd x1 x2 a0 b0 hv0 a156_ hv156_ hf157_ (show 1 ≤ a0 146 9 from by omega)
theorem sp_X12_arrive (E : jxE) (d : Nat) (hd : Nat.ble 2 d = true) (x1 x2 : Int) (a0 b0 : Nat → Nat → Int) (hv0 : iv a0) : jt (jxC E d 257 [.inr (.inr (.inl 146)), .inl x1, .inl x2] (jxSH, a0, b0)) (jQ_X12_arrive x1 x2 a0 b0) := by
  obtain ⟨d, rfl⟩ := jd_succ hd
  refine jt_eq (bq_X12_arrive E d x1 x2 a0 b0) ?_
  refine jt_eI (eq_X12_in E d (jd_le hd rfl) x1 0 (jxw ((a0 146 9) - 1)) a0 b0) ?_
  have h158_ := iv_get hv0 (k := 146) (j := 9) (l := 0) (u := 300) rfl
  have h159_ : jxw ((a0 146 9) - 1) = (a0 146 9) - 1 := jxw_id (by omega) (by omega)
  have h160_ := f_X12_in_eq a0 b0 x1 0 (jxw ((a0 146 9) - 1))
  refine jt_ite (fun c161_ => ?_) (fun c161_ => ?_)
  ·
    exact cp_X12_arrive_51 E d hd x1 x2 a0 b0 hv0 a0 hv0 (jfr_rf _ _)
  ·
    refine jt_grd (by omega) ?_
    refine jt_ite (fun c162_ => ?_) (fun c162_ => ?_)
    ·
      exact cp_X12_arrive_24 E d hd x1 x2 a0 b0 hv0 x1 x2 a0 hv0 (jfr_rf _ _) (show 0 ≤ x1 from by omega) (show x1 ≤ 299 from by omega) (show 1 ≤ a0 146 9 from by omega)
    ·
      exact cp_X12_arrive_51 E d hd x1 x2 a0 b0 hv0 a0 hv0 (jfr_rf _ _)
abbrev jQ_X12_lastSentTo (x1 : Int) (a0 b0 : Nat → Nat → Int) : List jxV → (Nat → Nat → Int) → (Nat → Nat → Int) → Prop := rI (fun r a b => (a0 = a) ∧ (b0 = b))
theorem cp_X12_lastSentTo_4 (E : jxE) (d : Nat) (hd : Nat.ble 1 (d + 1) = true) (x1 : Int) (a0 b0 : Nat → Nat → Int) (hv0 : iv a0) : ∀ n : Nat, (∀ (y1 y2 y3 : Int), (((300 - y3) * 1) + 0).toNat ≤ n → 0 - 1 ≤ y2 → y2 ≤ 1999 → 0 ≤ y3 → y3 ≤ 299 → jt (jxX E d 250 39 [some (.inr (.inr (.inl 146))), some (.inl y1), some (.inl y2), some (.inl y3)] [] (jxSH, a0, b0)) (jQ_X12_lastSentTo x1 a0 b0)) ∧ (∀ (y1 y3 : Int), (((300 - y3) * 1) + 0).toNat ≤ n → 0 ≤ y1 → y1 ≤ 39 → 0 ≤ y3 → y3 ≤ 299 → jt (jxX E d 250 32 [some (.inr (.inr (.inl 146))), some (.inl y1), none, some (.inl y3)] [] (jxSH, a0, b0)) (jQ_X12_lastSentTo x1 a0 b0)) ∧ (∀ (y1 y2 y3 : Int), (((300 - y3) * 1) + 0).toNat ≤ n → 0 - 1 ≤ y2 → y2 ≤ 1999 → 0 ≤ y3 → y3 ≤ 300 → jt (jxX E d 250 4 [some (.inr (.inr (.inl 146))), some (.inl y1), some (.inl y2), some (.inl y3)] [] (jxSH, a0, b0)) (jQ_X12_lastSentTo x1 a0 b0)) := by
  refine jx_ind fun n ih => ?_
  have ih39 : ∀ (y1 y2 y3 : Int), (((300 - y3) * 1) + 0).toNat < n → 0 - 1 ≤ y2 → y2 ≤ 1999 → 0 ≤ y3 → y3 ≤ 299 → jt (jxX E d 250 39 [some (.inr (.inr (.inl 146))), some (.inl y1), some (.inl y2), some (.inl y3)] [] (jxSH, a0, b0)) (jQ_X12_lastSentTo x1 a0 b0) := fun y1 y2 y3 hlt i0 i1 i2 i3 => (ih _ hlt).1 y1 y2 y3 (Nat.le_refl _) i0 i1 i2 i3
  have ih32 : ∀ (y1 y3 : Int), (((300 - y3) * 1) + 0).toNat < n → 0 ≤ y1 → y1 ≤ 39 → 0 ≤ y3 → y3 ≤ 299 → jt (jxX E d 250 32 [some (.inr (.inr (.inl 146))), some (.inl y1), none, some (.inl y3)] [] (jxSH, a0, b0)) (jQ_X12_lastSentTo x1 a0 b0) := fun y1 y3 hlt i0 i1 i2 i3 => (ih _ hlt).2.1 y1 y3 (Nat.le_refl _) i0 i1 i2 i3
  have ih4 : ∀ (y1 y2 y3 : Int), (((300 - y3) * 1) + 0).toNat < n → 0 - 1 ≤ y2 → y2 ≤ 1999 → 0 ≤ y3 → y3 ≤ 300 → jt (jxX E d 250 4 [some (.inr (.inr (.inl 146))), some (.inl y1), some (.inl y2), some (.inl y3)] [] (jxSH, a0, b0)) (jQ_X12_lastSentTo x1 a0 b0) := fun y1 y2 y3 hlt i0 i1 i2 i3 => (ih _ hlt).2.2 y1 y2 y3 (Nat.le_refl _) i0 i1 i2 i3
  have hc39 : ∀ (y1 y2 y3 : Int), (((300 - y3) * 1) + 0).toNat ≤ n → 0 - 1 ≤ y2 → y2 ≤ 1999 → 0 ≤ y3 → y3 ≤ 299 → jt (jxX E d 250 39 [some (.inr (.inr (.inl 146))), some (.inl y1), some (.inl y2), some (.inl y3)] [] (jxSH, a0, b0)) (jQ_X12_lastSentTo x1 a0 b0) := by
    intro y1 y2 y3 hm hi0 hi1 hi2 hi3
    refine jt_eq (bq_X12_lastSentTo_39 E d y1 y2 y3 a0 b0) ?_
    have h163_ : jxw (y3 + 1) = y3 + 1 := jxw_id (by omega) (by omega)
    exact ih4 y1 y2 (jxw (y3 + 1)) (show (((300 - (jxw (y3 + 1))) * 1) + 0).toNat < n from by omega) (show 0 - 1 ≤ y2 from by omega) (show y2 ≤ 1999 from by omega) (show 0 ≤ jxw (y3 + 1) from by omega) (show jxw (y3 + 1) ≤ 300 from by omega)
  have hc32 : ∀ (y1 y3 : Int), (((300 - y3) * 1) + 0).toNat ≤ n → 0 ≤ y1 → y1 ≤ 39 → 0 ≤ y3 → y3 ≤ 299 → jt (jxX E d 250 32 [some (.inr (.inr (.inl 146))), some (.inl y1), none, some (.inl y3)] [] (jxSH, a0, b0)) (jQ_X12_lastSentTo x1 a0 b0) := by
    intro y1 y3 hm hi0 hi1 hi2 hi3
    refine jt_eq (bq_X12_lastSentTo_32 E d y1 y3 a0 b0) ?_
    refine jt_grd (by omega) ?_
    have h164_ := iv_get hv0 (k := 156) (j := y3.toNat) (l := 0) (u := 1999) rfl
    exact hc39 y1 (a0 156 (y3.toNat)) y3 (show (((300 - y3) * 1) + 0).toNat ≤ n from by omega) (show 0 - 1 ≤ a0 156 (y3.toNat) from by omega) (show a0 156 (y3.toNat) ≤ 1999 from by omega) (show 0 ≤ y3 from by omega) (show y3 ≤ 299 from by omega)
  have hc4 : ∀ (y1 y2 y3 : Int), (((300 - y3) * 1) + 0).toNat ≤ n → 0 - 1 ≤ y2 → y2 ≤ 1999 → 0 ≤ y3 → y3 ≤ 300 → jt (jxX E d 250 4 [some (.inr (.inr (.inl 146))), some (.inl y1), some (.inl y2), some (.inl y3)] [] (jxSH, a0, b0)) (jQ_X12_lastSentTo x1 a0 b0) := by
    intro y1 y2 y3 hm hi0 hi1 hi2 hi3
    refine jt_eq (bq_X12_lastSentTo_4 E d y1 y2 y3 a0 b0) ?_
    have h165_ := iv_get hv0 (k := 146) (j := 9) (l := 0) (u := 300) rfl
    refine jt_ite (fun c166_ => ?_) (fun c166_ => ?_)
    ·
      refine jt_grd (by omega) ?_
      have h167_ := iv_get hv0 (k := 155) (j := y3.toNat) (l := 0) (u := 39) rfl
      refine jt_ite (fun c168_ => ?_) (fun c168_ => ?_)
      ·
        refine jt_grd (by omega) ?_
        have h169_ := iv_get hv0 (k := 156) (j := y3.toNat) (l := 0) (u := 1999) rfl
        refine jt_ite (fun c170_ => ?_) (fun c170_ => ?_)
        ·
          exact hc32 y1 y3 (show (((300 - y3) * 1) + 0).toNat ≤ n from by omega) (show 0 ≤ y1 from by omega) (show y1 ≤ 39 from by omega) (show 0 ≤ y3 from by omega) (show y3 ≤ 299 from by omega)
        ·
          exact hc39 y1 y2 y3 (show (((300 - y3) * 1) + 0).toNat ≤ n from by omega) (show 0 - 1 ≤ y2 from by omega) (show y2 ≤ 1999 from by omega) (show 0 ≤ y3 from by omega) (show y3 ≤ 299 from by omega)
      ·
        exact hc39 y1 y2 y3 (show (((300 - y3) * 1) + 0).toNat ≤ n from by omega) (show 0 - 1 ≤ y2 from by omega) (show y2 ≤ 1999 from by omega) (show 0 ≤ y3 from by omega) (show y3 ≤ 299 from by omega)
    ·
      exact jt_rI ⟨rfl, rfl⟩
  exact ⟨hc39, hc32, hc4⟩
theorem sp_X12_lastSentTo (E : jxE) (d : Nat) (hd : Nat.ble 1 d = true) (x1 : Int) (a0 b0 : Nat → Nat → Int) (hv0 : iv a0) : jt (jxC E d 250 [.inr (.inr (.inl 146)), .inl x1] (jxSH, a0, b0)) (jQ_X12_lastSentTo x1 a0 b0) := by
  obtain ⟨d, rfl⟩ := jd_succ hd
  refine jt_eq (bq_X12_lastSentTo E d x1 a0 b0) ?_
  exact (cp_X12_lastSentTo_4 E d hd x1 a0 b0 hv0 _).2.2 x1 (-1) 0 (Nat.le_refl _) (show 0 - 1 ≤ (-1) from by omega) (show (-1) ≤ 1999 from by omega) (show 0 ≤ 0 from by omega) (show 0 ≤ 300 from by omega)
def jW_X12_spans : List (Nat × Nat) := [(146, 39), (146, 40), (146, 41)]
abbrev jQ_X12_spans (x1 x2 : Int) (a0 b0 : Nat → Nat → Int) : List jxV → (Nat → Nat → Int) → (Nat → Nat → Int) → Prop := rV (fun a b => (iv a) ∧ (jfr jW_X12_spans a0 a) ∧ (b0 = b) ∧ ((a0 146 17 = 0 → a 146 39 = 0)))
theorem cp_X12_spans_24 (E : jxE) (d : Nat) (hd : Nat.ble 1 (d + 1) = true) (x1 x2 : Int) (a0 b0 : Nat → Nat → Int) (hv0 : iv a0) : ∀ n : Nat, (∀ (y1 y2 y3 : Int) (a : Nat → Nat → Int), (((y3 + 1) * 1) + 0).toNat ≤ n → iv a → jfr jW_X12_spans a0 a → 0 ≤ y3 → y3 ≤ 599 → 1 ≤ a0 146 17 → jt (jxX E d 238 182 [some (.inr (.inr (.inl 146))), some (.inl y1), some (.inl y2), some (.inl y3), none, none] [] (jxSH, a, b0)) (jQ_X12_spans x1 x2 a0 b0)) ∧ (∀ (y1 y2 y3 s1 : Int) (a : Nat → Nat → Int), (((y3 + 1) * 1) + 0).toNat ≤ n → iv a → jfr jW_X12_spans a0 a → 0 ≤ y1 → y1 ≤ 15 → 0 ≤ y2 → y2 ≤ 15 → 0 ≤ y3 → y3 ≤ 599 → a 146 39 ≤ 9 → 1 ≤ a0 146 17 → jt (jxX E d 238 169 [some (.inr (.inr (.inl 146))), some (.inl y1), some (.inl y2), some (.inl y3), none, none] [.inl s1, .inr (.inr (.inl 146))] (jxSH, a, b0)) (jQ_X12_spans x1 x2 a0 b0)) ∧ (∀ (y1 y2 y3 y5 s1 : Int) (a : Nat → Nat → Int), (((y3 + 1) * 1) + 0).toNat ≤ n → iv a → jfr jW_X12_spans a0 a → 0 ≤ y1 → y1 ≤ 15 → 0 ≤ y2 → y2 ≤ 15 → 0 ≤ y3 → y3 ≤ 599 → a 146 39 ≤ 9 → 1 ≤ a0 146 17 → jt (jxX E d 238 147 [some (.inr (.inr (.inl 146))), some (.inl y1), some (.inl y2), some (.inl y3), none, some (.inl y5)] [.inl s1, .inr (.inr (.inl 146))] (jxSH, a, b0)) (jQ_X12_spans x1 x2 a0 b0)) ∧ (∀ (y1 y2 y3 y5 : Int) (a : Nat → Nat → Int), (((y3 + 1) * 1) + 0).toNat ≤ n → iv a → jfr jW_X12_spans a0 a → 0 ≤ y1 → y1 ≤ 15 → 0 ≤ y2 → y2 ≤ 15 → 0 ≤ y3 → y3 ≤ 599 → a 146 39 ≤ 9 → 1 ≤ a0 146 17 → jt (jxX E d 238 128 [some (.inr (.inr (.inl 146))), some (.inl y1), some (.inl y2), some (.inl y3), none, some (.inl y5)] [] (jxSH, a, b0)) (jQ_X12_spans x1 x2 a0 b0)) ∧ (∀ (y1 y2 y3 y4 : Int) (a : Nat → Nat → Int), (((y3 + 1) * 1) + 0).toNat ≤ n → iv a → jfr jW_X12_spans a0 a → 0 ≤ y1 → y1 ≤ 15 → 0 ≤ y3 → y3 ≤ 599 → 0 ≤ y4 → y4 ≤ 299 → a 146 39 ≤ 9 → 1 ≤ a0 146 17 → jt (jxX E d 238 93 [some (.inr (.inr (.inl 146))), some (.inl y1), some (.inl y2), some (.inl y3), some (.inl y4), none] [] (jxSH, a, b0)) (jQ_X12_spans x1 x2 a0 b0)) ∧ (∀ (y1 y2 y3 y4 : Int) (a : Nat → Nat → Int), (((y3 + 1) * 1) + 0).toNat ≤ n → iv a → jfr jW_X12_spans a0 a → 0 ≤ y3 → y3 ≤ 599 → 0 ≤ y4 → y4 ≤ 299 → a 146 39 ≤ 9 → 1 ≤ a0 146 17 → jt (jxX E d 238 56 [some (.inr (.inr (.inl 146))), some (.inl y1), some (.inl y2), some (.inl y3), some (.inl y4), none] [] (jxSH, a, b0)) (jQ_X12_spans x1 x2 a0 b0)) ∧ (∀ (y1 y2 y3 : Int) (a : Nat → Nat → Int), (((y3 + 1) * 1) + 0).toNat ≤ n → iv a → jfr jW_X12_spans a0 a → 0 - 1 ≤ y3 → y3 ≤ 599 → (a0 146 17 = 0 → (y3 < 0 ∧ a 146 39 = 0)) → jt (jxX E d 238 24 [some (.inr (.inr (.inl 146))), some (.inl y1), some (.inl y2), some (.inl y3), none, none] [] (jxSH, a, b0)) (jQ_X12_spans x1 x2 a0 b0)) := by
  refine jx_ind fun n ih => ?_
  have ih182 : ∀ (y1 y2 y3 : Int) (a : Nat → Nat → Int), (((y3 + 1) * 1) + 0).toNat < n → iv a → jfr jW_X12_spans a0 a → 0 ≤ y3 → y3 ≤ 599 → 1 ≤ a0 146 17 → jt (jxX E d 238 182 [some (.inr (.inr (.inl 146))), some (.inl y1), some (.inl y2), some (.inl y3), none, none] [] (jxSH, a, b0)) (jQ_X12_spans x1 x2 a0 b0) := fun y1 y2 y3 a hlt i0 i1 i2 i3 i4 => (ih _ hlt).1 y1 y2 y3 a (Nat.le_refl _) i0 i1 i2 i3 i4
  have ih169 : ∀ (y1 y2 y3 s1 : Int) (a : Nat → Nat → Int), (((y3 + 1) * 1) + 0).toNat < n → iv a → jfr jW_X12_spans a0 a → 0 ≤ y1 → y1 ≤ 15 → 0 ≤ y2 → y2 ≤ 15 → 0 ≤ y3 → y3 ≤ 599 → a 146 39 ≤ 9 → 1 ≤ a0 146 17 → jt (jxX E d 238 169 [some (.inr (.inr (.inl 146))), some (.inl y1), some (.inl y2), some (.inl y3), none, none] [.inl s1, .inr (.inr (.inl 146))] (jxSH, a, b0)) (jQ_X12_spans x1 x2 a0 b0) := fun y1 y2 y3 s1 a hlt i0 i1 i2 i3 i4 i5 i6 i7 i8 i9 => (ih _ hlt).2.1 y1 y2 y3 s1 a (Nat.le_refl _) i0 i1 i2 i3 i4 i5 i6 i7 i8 i9
  have ih147 : ∀ (y1 y2 y3 y5 s1 : Int) (a : Nat → Nat → Int), (((y3 + 1) * 1) + 0).toNat < n → iv a → jfr jW_X12_spans a0 a → 0 ≤ y1 → y1 ≤ 15 → 0 ≤ y2 → y2 ≤ 15 → 0 ≤ y3 → y3 ≤ 599 → a 146 39 ≤ 9 → 1 ≤ a0 146 17 → jt (jxX E d 238 147 [some (.inr (.inr (.inl 146))), some (.inl y1), some (.inl y2), some (.inl y3), none, some (.inl y5)] [.inl s1, .inr (.inr (.inl 146))] (jxSH, a, b0)) (jQ_X12_spans x1 x2 a0 b0) := fun y1 y2 y3 y5 s1 a hlt i0 i1 i2 i3 i4 i5 i6 i7 i8 i9 => (ih _ hlt).2.2.1 y1 y2 y3 y5 s1 a (Nat.le_refl _) i0 i1 i2 i3 i4 i5 i6 i7 i8 i9
  have ih128 : ∀ (y1 y2 y3 y5 : Int) (a : Nat → Nat → Int), (((y3 + 1) * 1) + 0).toNat < n → iv a → jfr jW_X12_spans a0 a → 0 ≤ y1 → y1 ≤ 15 → 0 ≤ y2 → y2 ≤ 15 → 0 ≤ y3 → y3 ≤ 599 → a 146 39 ≤ 9 → 1 ≤ a0 146 17 → jt (jxX E d 238 128 [some (.inr (.inr (.inl 146))), some (.inl y1), some (.inl y2), some (.inl y3), none, some (.inl y5)] [] (jxSH, a, b0)) (jQ_X12_spans x1 x2 a0 b0) := fun y1 y2 y3 y5 a hlt i0 i1 i2 i3 i4 i5 i6 i7 i8 i9 => (ih _ hlt).2.2.2.1 y1 y2 y3 y5 a (Nat.le_refl _) i0 i1 i2 i3 i4 i5 i6 i7 i8 i9
  have ih93 : ∀ (y1 y2 y3 y4 : Int) (a : Nat → Nat → Int), (((y3 + 1) * 1) + 0).toNat < n → iv a → jfr jW_X12_spans a0 a → 0 ≤ y1 → y1 ≤ 15 → 0 ≤ y3 → y3 ≤ 599 → 0 ≤ y4 → y4 ≤ 299 → a 146 39 ≤ 9 → 1 ≤ a0 146 17 → jt (jxX E d 238 93 [some (.inr (.inr (.inl 146))), some (.inl y1), some (.inl y2), some (.inl y3), some (.inl y4), none] [] (jxSH, a, b0)) (jQ_X12_spans x1 x2 a0 b0) := fun y1 y2 y3 y4 a hlt i0 i1 i2 i3 i4 i5 i6 i7 i8 i9 => (ih _ hlt).2.2.2.2.1 y1 y2 y3 y4 a (Nat.le_refl _) i0 i1 i2 i3 i4 i5 i6 i7 i8 i9
  have ih56 : ∀ (y1 y2 y3 y4 : Int) (a : Nat → Nat → Int), (((y3 + 1) * 1) + 0).toNat < n → iv a → jfr jW_X12_spans a0 a → 0 ≤ y3 → y3 ≤ 599 → 0 ≤ y4 → y4 ≤ 299 → a 146 39 ≤ 9 → 1 ≤ a0 146 17 → jt (jxX E d 238 56 [some (.inr (.inr (.inl 146))), some (.inl y1), some (.inl y2), some (.inl y3), some (.inl y4), none] [] (jxSH, a, b0)) (jQ_X12_spans x1 x2 a0 b0) := fun y1 y2 y3 y4 a hlt i0 i1 i2 i3 i4 i5 i6 i7 => (ih _ hlt).2.2.2.2.2.1 y1 y2 y3 y4 a (Nat.le_refl _) i0 i1 i2 i3 i4 i5 i6 i7
  have ih24 : ∀ (y1 y2 y3 : Int) (a : Nat → Nat → Int), (((y3 + 1) * 1) + 0).toNat < n → iv a → jfr jW_X12_spans a0 a → 0 - 1 ≤ y3 → y3 ≤ 599 → (a0 146 17 = 0 → (y3 < 0 ∧ a 146 39 = 0)) → jt (jxX E d 238 24 [some (.inr (.inr (.inl 146))), some (.inl y1), some (.inl y2), some (.inl y3), none, none] [] (jxSH, a, b0)) (jQ_X12_spans x1 x2 a0 b0) := fun y1 y2 y3 a hlt i0 i1 i2 i3 i4 => (ih _ hlt).2.2.2.2.2.2 y1 y2 y3 a (Nat.le_refl _) i0 i1 i2 i3 i4
  have hc182 : ∀ (y1 y2 y3 : Int) (a : Nat → Nat → Int), (((y3 + 1) * 1) + 0).toNat ≤ n → iv a → jfr jW_X12_spans a0 a → 0 ≤ y3 → y3 ≤ 599 → 1 ≤ a0 146 17 → jt (jxX E d 238 182 [some (.inr (.inr (.inl 146))), some (.inl y1), some (.inl y2), some (.inl y3), none, none] [] (jxSH, a, b0)) (jQ_X12_spans x1 x2 a0 b0) := by
    intro y1 y2 y3 a hm hv hf hi0 hi1 hi2
    refine jt_eq (bq_X12_spans_182 E d y1 y2 y3 a b0) ?_
    have h171_ := iv_get hv0 (k := 146) (j := 17) (l := 0) (u := 600) rfl
    have h172_ : jxw (y3 + (-1)) = y3 + (-1) := jxw_id (by omega) (by omega)
    have h173_ := iv_get hv (k := 146) (j := 39) (l := 0) (u := 10) rfl
    exact ih24 y1 y2 (jxw (y3 + (-1))) a (show ((((jxw (y3 + (-1))) + 1) * 1) + 0).toNat < n from by omega) hv hf (show 0 - 1 ≤ jxw (y3 + (-1)) from by omega) (show jxw (y3 + (-1)) ≤ 599 from by omega) (show (a0 146 17 = 0 → (jxw (y3 + (-1)) < 0 ∧ a 146 39 = 0)) from by omega)
  have hc169 : ∀ (y1 y2 y3 s1 : Int) (a : Nat → Nat → Int), (((y3 + 1) * 1) + 0).toNat ≤ n → iv a → jfr jW_X12_spans a0 a → 0 ≤ y1 → y1 ≤ 15 → 0 ≤ y2 → y2 ≤ 15 → 0 ≤ y3 → y3 ≤ 599 → a 146 39 ≤ 9 → 1 ≤ a0 146 17 → jt (jxX E d 238 169 [some (.inr (.inr (.inl 146))), some (.inl y1), some (.inl y2), some (.inl y3), none, none] [.inl s1, .inr (.inr (.inl 146))] (jxSH, a, b0)) (jQ_X12_spans x1 x2 a0 b0) := by
    intro y1 y2 y3 s1 a hm hv hf hi0 hi1 hi2 hi3 hi4 hi5 hi6 hi7
    refine jt_eq (bq_X12_spans_169 E d y1 y2 y3 s1 a b0) ?_
    have h174_ := iv_get hv (k := 146) (j := 39) (l := 0) (u := 10) rfl
    have h175_ := iv_get hv0 (k := 146) (j := 17) (l := 0) (u := 600) rfl
    have hv176_ : iv (jxu a 146 41 s1) := iv_putf hv rfl
    have h178_ : jxw ((a 146 39) + 1) = (a 146 39) + 1 := jxw_id (by omega) (by omega)
    have hv177_ : iv (jxu (jxu a 146 41 s1) 146 39 (jxw ((a 146 39) + 1))) := iv_put hv176_ (l := 0) (u := 10) rfl (by omega) (by omega)
    have hf179_ : jfr jW_X12_spans a0 (jxu a 146 41 s1) := jfr_put hf rfl
    have hf180_ : jfr jW_X12_spans a0 (jxu (jxu a 146 41 s1) 146 39 (jxw ((a 146 39) + 1))) := jfr_put hf179_ rfl
    exact hc182 y1 y2 y3 (jxu (jxu a 146 41 s1) 146 39 (jxw ((a 146 39) + 1))) (show (((y3 + 1) * 1) + 0).toNat ≤ n from by omega) hv177_ hf180_ (show 0 ≤ y3 from by omega) (show y3 ≤ 599 from by omega) (show 1 ≤ a0 146 17 from by omega)
  have hc147 : ∀ (y1 y2 y3 y5 s1 : Int) (a : Nat → Nat → Int), (((y3 + 1) * 1) + 0).toNat ≤ n → iv a → jfr jW_X12_spans a0 a → 0 ≤ y1 → y1 ≤ 15 → 0 ≤ y2 → y2 ≤ 15 → 0 ≤ y3 → y3 ≤ 599 → a 146 39 ≤ 9 → 1 ≤ a0 146 17 → jt (jxX E d 238 147 [some (.inr (.inr (.inl 146))), some (.inl y1), some (.inl y2), some (.inl y3), none, some (.inl y5)] [.inl s1, .inr (.inr (.inl 146))] (jxSH, a, b0)) (jQ_X12_spans x1 x2 a0 b0) := by
    intro y1 y2 y3 y5 s1 a hm hv hf hi0 hi1 hi2 hi3 hi4 hi5 hi6 hi7
    refine jt_eq (bq_X12_spans_147 E d y1 y2 y3 y5 s1 a b0) ?_
    have h181_ := iv_get hv (k := 146) (j := 39) (l := 0) (u := 10) rfl
    have h182_ := iv_get hv0 (k := 146) (j := 17) (l := 0) (u := 600) rfl
    refine jt_ite (fun c183_ => ?_) (fun c183_ => ?_)
    ·
      have hv184_ : iv (jxu a 146 40 s1) := iv_putf hv rfl
      have hf185_ : jfr jW_X12_spans a0 (jxu a 146 40 s1) := jfr_put hf rfl
      exact hc169 y1 y2 y3 y5 (jxu a 146 40 s1) (show (((y3 + 1) * 1) + 0).toNat ≤ n from by omega) hv184_ hf185_ (show 0 ≤ y1 from by omega) (show y1 ≤ 15 from by omega) (show 0 ≤ y2 from by omega) (show y2 ≤ 15 from by omega) (show 0 ≤ y3 from by omega) (show y3 ≤ 599 from by omega) (show a 146 39 ≤ 9 from by omega) (show 1 ≤ a0 146 17 from by omega)
    ·
      have hv186_ : iv (jxu a 146 40 s1) := iv_putf hv rfl
      have hf187_ : jfr jW_X12_spans a0 (jxu a 146 40 s1) := jfr_put hf rfl
      exact hc169 y1 y2 y3 (a 146 41) (jxu a 146 40 s1) (show (((y3 + 1) * 1) + 0).toNat ≤ n from by omega) hv186_ hf187_ (show 0 ≤ y1 from by omega) (show y1 ≤ 15 from by omega) (show 0 ≤ y2 from by omega) (show y2 ≤ 15 from by omega) (show 0 ≤ y3 from by omega) (show y3 ≤ 599 from by omega) (show a 146 39 ≤ 9 from by omega) (show 1 ≤ a0 146 17 from by omega)
  have hc128 : ∀ (y1 y2 y3 y5 : Int) (a : Nat → Nat → Int), (((y3 + 1) * 1) + 0).toNat ≤ n → iv a → jfr jW_X12_spans a0 a → 0 ≤ y1 → y1 ≤ 15 → 0 ≤ y2 → y2 ≤ 15 → 0 ≤ y3 → y3 ≤ 599 → a 146 39 ≤ 9 → 1 ≤ a0 146 17 → jt (jxX E d 238 128 [some (.inr (.inr (.inl 146))), some (.inl y1), some (.inl y2), some (.inl y3), none, some (.inl y5)] [] (jxSH, a, b0)) (jQ_X12_spans x1 x2 a0 b0) := by
    intro y1 y2 y3 y5 a hm hv hf hi0 hi1 hi2 hi3 hi4 hi5 hi6 hi7
    refine jt_eq (bq_X12_spans_128 E d y1 y2 y3 y5 a b0) ?_
    have h188_ := iv_get hv (k := 146) (j := 39) (l := 0) (u := 10) rfl
    have h189_ := iv_get hv0 (k := 146) (j := 17) (l := 0) (u := 600) rfl
    refine jt_ite (fun c190_ => ?_) (fun c190_ => ?_)
    ·
      exact hc147 y1 y2 y3 y5 y5 a (show (((y3 + 1) * 1) + 0).toNat ≤ n from by omega) hv hf (show 0 ≤ y1 from by omega) (show y1 ≤ 15 from by omega) (show 0 ≤ y2 from by omega) (show y2 ≤ 15 from by omega) (show 0 ≤ y3 from by omega) (show y3 ≤ 599 from by omega) (show a 146 39 ≤ 9 from by omega) (show 1 ≤ a0 146 17 from by omega)
    ·
      exact hc147 y1 y2 y3 y5 (a 146 40) a (show (((y3 + 1) * 1) + 0).toNat ≤ n from by omega) hv hf (show 0 ≤ y1 from by omega) (show y1 ≤ 15 from by omega) (show 0 ≤ y2 from by omega) (show y2 ≤ 15 from by omega) (show 0 ≤ y3 from by omega) (show y3 ≤ 599 from by omega) (show a 146 39 ≤ 9 from by omega) (show 1 ≤ a0 146 17 from by omega)
  have hc93 : ∀ (y1 y2 y3 y4 : Int) (a : Nat → Nat → Int), (((y3 + 1) * 1) + 0).toNat ≤ n → iv a → jfr jW_X12_spans a0 a → 0 ≤ y1 → y1 ≤ 15 → 0 ≤ y3 → y3 ≤ 599 → 0 ≤ y4 → y4 ≤ 299 → a 146 39 ≤ 9 → 1 ≤ a0 146 17 → jt (jxX E d 238 93 [some (.inr (.inr (.inl 146))), some (.inl y1), some (.inl y2), some (.inl y3), some (.inl y4), none] [] (jxSH, a, b0)) (jQ_X12_spans x1 x2 a0 b0) := by
    intro y1 y2 y3 y4 a hm hv hf hi0 hi1 hi2 hi3 hi4 hi5 hi6 hi7
    refine jt_eq (bq_X12_spans_93 E d y1 y2 y3 y4 a b0) ?_
    have h191_ := iv_get hv (k := 146) (j := 39) (l := 0) (u := 10) rfl
    have h192_ := iv_get hv0 (k := 146) (j := 17) (l := 0) (u := 600) rfl
    refine jt_grd (by omega) ?_
    have h193_ := iv_get hv (k := 155) (j := y4.toNat) (l := 0) (u := 39) rfl
    have h194_ : a 155 (y4.toNat) = a0 155 (y4.toNat) := hf 155 (y4.toNat) rfl
    have h195_ := iv_get hv0 (k := 155) (j := y4.toNat) (l := 0) (u := 39) rfl
    refine jt_grd (by omega) ?_
    have h196_ := iv_get hv (k := 148) (j := (a 155 (y4.toNat)).toNat) (l := 0) (u := 15) rfl
    have h197_ : a 148 ((a 155 (y4.toNat)).toNat) = a0 148 ((a 155 (y4.toNat)).toNat) := hf 148 ((a 155 (y4.toNat)).toNat) rfl
    have h198_ := iv_get hv0 (k := 148) (j := (a 155 (y4.toNat)).toNat) (l := 0) (u := 15) rfl
    refine jt_ite (fun c199_ => ?_) (fun c199_ => ?_)
    ·
      refine jt_grd (by omega) ?_
      refine jt_grd (by omega) ?_
      exact hc128 y1 y2 y3 (jxw ((a 162 (y3.toNat)) - (a 156 (y4.toNat)))) a (show (((y3 + 1) * 1) + 0).toNat ≤ n from by omega) hv hf (show 0 ≤ y1 from by omega) (show y1 ≤ 15 from by omega) (show 0 ≤ y2 from by omega) (show y2 ≤ 15 from by omega) (show 0 ≤ y3 from by omega) (show y3 ≤ 599 from by omega) (show a 146 39 ≤ 9 from by omega) (show 1 ≤ a0 146 17 from by omega)
    ·
      exact hc182 y1 y2 y3 a (show (((y3 + 1) * 1) + 0).toNat ≤ n from by omega) hv hf (show 0 ≤ y3 from by omega) (show y3 ≤ 599 from by omega) (show 1 ≤ a0 146 17 from by omega)
  have hc56 : ∀ (y1 y2 y3 y4 : Int) (a : Nat → Nat → Int), (((y3 + 1) * 1) + 0).toNat ≤ n → iv a → jfr jW_X12_spans a0 a → 0 ≤ y3 → y3 ≤ 599 → 0 ≤ y4 → y4 ≤ 299 → a 146 39 ≤ 9 → 1 ≤ a0 146 17 → jt (jxX E d 238 56 [some (.inr (.inr (.inl 146))), some (.inl y1), some (.inl y2), some (.inl y3), some (.inl y4), none] [] (jxSH, a, b0)) (jQ_X12_spans x1 x2 a0 b0) := by
    intro y1 y2 y3 y4 a hm hv hf hi0 hi1 hi2 hi3 hi4 hi5
    refine jt_eq (bq_X12_spans_56 E d y1 y2 y3 y4 a b0) ?_
    have h200_ := iv_get hv (k := 146) (j := 39) (l := 0) (u := 10) rfl
    have h201_ := iv_get hv0 (k := 146) (j := 17) (l := 0) (u := 600) rfl
    refine jt_grd (by omega) ?_
    have h202_ : a 162 (y3.toNat) = a0 162 (y3.toNat) := hf 162 (y3.toNat) rfl
    refine jt_ite (fun c203_ => ?_) (fun c203_ => ?_)
    ·
      exact hc182 y1 y2 y3 a (show (((y3 + 1) * 1) + 0).toNat ≤ n from by omega) hv hf (show 0 ≤ y3 from by omega) (show y3 ≤ 599 from by omega) (show 1 ≤ a0 146 17 from by omega)
    ·
      refine jt_grd (by omega) ?_
      have h204_ : a 159 (y4.toNat) = a0 159 (y4.toNat) := hf 159 (y4.toNat) rfl
      refine jt_ite (fun c205_ => ?_) (fun c205_ => ?_)
      ·
        refine jt_grd (by omega) ?_
        have h206_ := iv_get hv (k := 154) (j := y4.toNat) (l := 0) (u := 39) rfl
        have h207_ : a 154 (y4.toNat) = a0 154 (y4.toNat) := hf 154 (y4.toNat) rfl
        have h208_ := iv_get hv0 (k := 154) (j := y4.toNat) (l := 0) (u := 39) rfl
        refine jt_grd (by omega) ?_
        have h209_ := iv_get hv (k := 148) (j := (a 154 (y4.toNat)).toNat) (l := 0) (u := 15) rfl
        have h210_ : a 148 ((a 154 (y4.toNat)).toNat) = a0 148 ((a 154 (y4.toNat)).toNat) := hf 148 ((a 154 (y4.toNat)).toNat) rfl
        have h211_ := iv_get hv0 (k := 148) (j := (a 154 (y4.toNat)).toNat) (l := 0) (u := 15) rfl
        refine jt_ite (fun c212_ => ?_) (fun c212_ => ?_)
        ·
          exact hc93 y1 y2 y3 y4 a (show (((y3 + 1) * 1) + 0).toNat ≤ n from by omega) hv hf (show 0 ≤ y1 from by omega) (show y1 ≤ 15 from by omega) (show 0 ≤ y3 from by omega) (show y3 ≤ 599 from by omega) (show 0 ≤ y4 from by omega) (show y4 ≤ 299 from by omega) (show a 146 39 ≤ 9 from by omega) (show 1 ≤ a0 146 17 from by omega)
        ·
          exact hc182 y1 y2 y3 a (show (((y3 + 1) * 1) + 0).toNat ≤ n from by omega) hv hf (show 0 ≤ y3 from by omega) (show y3 ≤ 599 from by omega) (show 1 ≤ a0 146 17 from by omega)
      ·
        exact hc182 y1 y2 y3 a (show (((y3 + 1) * 1) + 0).toNat ≤ n from by omega) hv hf (show 0 ≤ y3 from by omega) (show y3 ≤ 599 from by omega) (show 1 ≤ a0 146 17 from by omega)
  have hc24 : ∀ (y1 y2 y3 : Int) (a : Nat → Nat → Int), (((y3 + 1) * 1) + 0).toNat ≤ n → iv a → jfr jW_X12_spans a0 a → 0 - 1 ≤ y3 → y3 ≤ 599 → (a0 146 17 = 0 → (y3 < 0 ∧ a 146 39 = 0)) → jt (jxX E d 238 24 [some (.inr (.inr (.inl 146))), some (.inl y1), some (.inl y2), some (.inl y3), none, none] [] (jxSH, a, b0)) (jQ_X12_spans x1 x2 a0 b0) := by
    intro y1 y2 y3 a hm hv hf hi0 hi1 hi2
    refine jt_eq (bq_X12_spans_24 E d y1 y2 y3 a b0) ?_
    have h213_ := iv_get hv0 (k := 146) (j := 17) (l := 0) (u := 600) rfl
    have h214_ := iv_get hv (k := 146) (j := 39) (l := 0) (u := 10) rfl
    refine jt_ite (fun c215_ => ?_) (fun c215_ => ?_)
    ·
      exact jt_rV ⟨hv, hf, rfl, (show (a0 146 17 = 0 → a 146 39 = 0) from by omega)⟩
    ·
      refine jt_ite (fun c216_ => ?_) (fun c216_ => ?_)
      ·
        refine jt_grd (by omega) ?_
        have h217_ := iv_get hv (k := 161) (j := y3.toNat) (l := 0) (u := 299) rfl
        have h218_ : a 161 (y3.toNat) = a0 161 (y3.toNat) := hf 161 (y3.toNat) rfl
        have h219_ := iv_get hv0 (k := 161) (j := y3.toNat) (l := 0) (u := 299) rfl
        refine jt_grd (by omega) ?_
        have h220_ := iv_get hv (k := 160) (j := (a 161 (y3.toNat)).toNat) (l := (-1)) (u := 599) rfl
        have h221_ : a 160 ((a 161 (y3.toNat)).toNat) = a0 160 ((a 161 (y3.toNat)).toNat) := hf 160 ((a 161 (y3.toNat)).toNat) rfl
        have h222_ := iv_get hv0 (k := 160) (j := (a 161 (y3.toNat)).toNat) (l := (-1)) (u := 599) rfl
        refine jt_ite (fun c223_ => ?_) (fun c223_ => ?_)
        ·
          exact hc56 y1 y2 y3 (a 161 (y3.toNat)) a (show (((y3 + 1) * 1) + 0).toNat ≤ n from by omega) hv hf (show 0 ≤ y3 from by omega) (show y3 ≤ 599 from by omega) (show 0 ≤ a 161 (y3.toNat) from by omega) (show a 161 (y3.toNat) ≤ 299 from by omega) (show a 146 39 ≤ 9 from by omega) (show 1 ≤ a0 146 17 from by omega)
        ·
          exact hc182 y1 y2 y3 a (show (((y3 + 1) * 1) + 0).toNat ≤ n from by omega) hv hf (show 0 ≤ y3 from by omega) (show y3 ≤ 599 from by omega) (show 1 ≤ a0 146 17 from by omega)
      ·
        exact jt_rV ⟨hv, hf, rfl, (show (a0 146 17 = 0 → a 146 39 = 0) from by omega)⟩
  exact ⟨hc182, hc169, hc147, hc128, hc93, hc56, hc24⟩
theorem sp_X12_spans (E : jxE) (d : Nat) (hd : Nat.ble 1 d = true) (x1 x2 : Int) (a0 b0 : Nat → Nat → Int) (hv0 : iv a0) : jt (jxC E d 238 [.inr (.inr (.inl 146)), .inl x1, .inl x2] (jxSH, a0, b0)) (jQ_X12_spans x1 x2 a0 b0) := by
  obtain ⟨d, rfl⟩ := jd_succ hd
  refine jt_eq (bq_X12_spans E d x1 x2 a0 b0) ?_
  have hv224_ : iv (jxu a0 146 39 0) := iv_put hv0 (l := 0) (u := 10) rfl (by omega) (by omega)
  have hv225_ : iv (jxu (jxu a0 146 39 0) 146 40 1000000) := iv_putf hv224_ rfl
  have hv226_ : iv (jxu (jxu (jxu a0 146 39 0) 146 40 1000000) 146 41 0) := iv_putf hv225_ rfl
  have hf227_ : jfr jW_X12_spans a0 (jxu a0 146 39 0) := jfr_put (jfr_rf _ _) rfl
  have hf228_ : jfr jW_X12_spans a0 (jxu (jxu a0 146 39 0) 146 40 1000000) := jfr_put hf227_ rfl
  have hf229_ : jfr jW_X12_spans a0 (jxu (jxu (jxu a0 146 39 0) 146 40 1000000) 146 41 0) := jfr_put hf228_ rfl
  have h230_ := iv_get hv0 (k := 146) (j := 17) (l := 0) (u := 600) rfl
  have h231_ : jxw ((a0 146 17) - 1) = (a0 146 17) - 1 := jxw_id (by omega) (by omega)
  exact (cp_X12_spans_24 E d hd x1 x2 a0 b0 hv0 _).2.2.2.2.2.2 x1 x2 (jxw ((a0 146 17) - 1)) (jxu (jxu (jxu a0 146 39 0) 146 40 1000000) 146 41 0) (Nat.le_refl _) hv226_ hf229_ (show 0 - 1 ≤ jxw ((a0 146 17) - 1) from by omega) (show jxw ((a0 146 17) - 1) ≤ 599 from by omega) (show (a0 146 17 = 0 → (jxw ((a0 146 17) - 1) < 0 ∧ 0 = 0)) from by omega)
def jW_X12_sends : List (Nat × Nat) := [(146, 9), (146, 39), (146, 40), (146, 41), (154, 9999), (155, 9999), (156, 9999), (157, 9999), (158, 9999), (159, 9999), (160, 9999)]
abbrev jQ_X12_sends (x1 x2 x3 : Int) (a0 b0 : Nat → Nat → Int) : List jxV → (Nat → Nat → Int) → (Nat → Nat → Int) → Prop := rI (fun r a b => (iv a) ∧ (jfr jW_X12_sends a0 a) ∧ (b0 = b) ∧ (a 146 9 = (a0 146 9) + 1) ∧ (a 154 (a0 146 9).toNat = x1 ∧ a 158 (a0 146 9).toNat = x3) ∧ (∀ c : Nat, (c : Int) < a0 146 9 → a 154 c = a0 154 c ∧ a 158 c = a0 158 c))
theorem cp_X12_sends_125 (E : jxE) (d : Nat) (hd : Nat.ble 2 (d + 1) = true) (x1 x2 x3 : Int) (a0 b0 : Nat → Nat → Int) (hv0 : iv a0) (hp0 : (0 ≤ x1 ∧ x1 ≤ 39)) (hp1 : (0 ≤ x2 ∧ x2 ≤ 39)) (hp2 : a0 146 9 ≤ 299) : ∀ (a : Nat → Nat → Int), iv a → jfr jW_X12_sends a0 a → (a 154 (a0 146 9).toNat = x1) → (a 158 (a0 146 9).toNat = x3) → a 146 9 = a0 146 9 → (∀ c : Nat, (c : Int) < a0 146 9 → a 154 c = a0 154 c ∧ a 158 c = a0 158 c) → jt (jxX E d 240 125 [some (.inr (.inr (.inl 146))), none, none, none, none] [] (jxSH, a, b0)) (jQ_X12_sends x1 x2 x3 a0 b0) := by
  intro a hv hf hi0 hi1 hi2 hol
  refine jt_eq (bq_X12_sends_125 E d a b0) ?_
  have h232_ := iv_get hv (k := 146) (j := 9) (l := 0) (u := 300) rfl
  have h233_ := iv_get hv0 (k := 146) (j := 9) (l := 0) (u := 300) rfl
  refine jt_grd (by omega) ?_
  have hv234_ : iv (jxu a 160 ((a 146 9).toNat) (-1)) := iv_put hv (l := (-1)) (u := 599) rfl (by omega) (by omega)
  have h236_ : jxw ((a 146 9) + 1) = (a 146 9) + 1 := jxw_id (by omega) (by omega)
  have hv235_ : iv (jxu (jxu a 160 ((a 146 9).toNat) (-1)) 146 9 (jxw ((a 146 9) + 1))) := iv_put hv234_ (l := 0) (u := 300) rfl (by omega) (by omega)
  have hf237_ : jfr jW_X12_sends a0 (jxu a 160 ((a 146 9).toNat) (-1)) := jfr_put hf rfl
  have hf238_ : jfr jW_X12_sends a0 (jxu (jxu a 160 ((a 146 9).toNat) (-1)) 146 9 (jxw ((a 146 9) + 1))) := jfr_put hf237_ rfl
  exact jt_rI ⟨hv235_, hf238_, rfl, (show jxw ((a 146 9) + 1) = (a0 146 9) + 1 from by omega), (by constructor <;> simp [jxu] <;> omega), (by intro c hc; have hne : ¬ c = (a 146 9).toNat := (by omega); have h9 := hol c hc; simp [jxu, hne, h9])⟩
theorem cp_X12_sends_94 (E : jxE) (d : Nat) (hd : Nat.ble 2 (d + 1) = true) (x1 x2 x3 : Int) (a0 b0 : Nat → Nat → Int) (hv0 : iv a0) (hp0 : (0 ≤ x1 ∧ x1 ≤ 39)) (hp1 : (0 ≤ x2 ∧ x2 ≤ 39)) (hp2 : a0 146 9 ≤ 299) : ∀ (y3 y4 : Int) (a : Nat → Nat → Int), iv a → jfr jW_X12_sends a0 a → y3 = x3 → (a 154 (a0 146 9).toNat = x1) → a 146 9 = a0 146 9 → (∀ c : Nat, (c : Int) < a0 146 9 → a 154 c = a0 154 c ∧ a 158 c = a0 158 c) → jt (jxX E d 240 94 [some (.inr (.inr (.inl 146))), none, none, some (.inl y3), some (.inl y4)] [] (jxSH, a, b0)) (jQ_X12_sends x1 x2 x3 a0 b0) := by
  intro y3 y4 a hv hf hi0 hi1 hi2 hol
  refine jt_eq (bq_X12_sends_94 E d y3 y4 a b0) ?_
  have h239_ := iv_get hv (k := 146) (j := 9) (l := 0) (u := 300) rfl
  have h240_ := iv_get hv0 (k := 146) (j := 9) (l := 0) (u := 300) rfl
  refine jt_grd (by omega) ?_
  refine jt_grd (by omega) ?_
  refine jt_grd (by omega) ?_
  have hv241_ : iv (jxu a 157 ((a 146 9).toNat) y4) := iv_putf hv rfl
  have hv242_ : iv (jxu (jxu a 157 ((a 146 9).toNat) y4) 158 ((a 146 9).toNat) y3) := iv_putf hv241_ rfl
  have hv243_ : iv (jxu (jxu (jxu a 157 ((a 146 9).toNat) y4) 158 ((a 146 9).toNat) y3) 159 ((a 146 9).toNat) (-1)) := iv_putf hv242_ rfl
  have hf244_ : jfr jW_X12_sends a0 (jxu a 157 ((a 146 9).toNat) y4) := jfr_put hf rfl
  have hf245_ : jfr jW_X12_sends a0 (jxu (jxu a 157 ((a 146 9).toNat) y4) 158 ((a 146 9).toNat) y3) := jfr_put hf244_ rfl
  have hf246_ : jfr jW_X12_sends a0 (jxu (jxu (jxu a 157 ((a 146 9).toNat) y4) 158 ((a 146 9).toNat) y3) 159 ((a 146 9).toNat) (-1)) := jfr_put hf245_ rfl
  exact cp_X12_sends_125 E d hd x1 x2 x3 a0 b0 hv0 hp0 hp1 hp2 (jxu (jxu (jxu a 157 ((a 146 9).toNat) y4) 158 ((a 146 9).toNat) y3) 159 ((a 146 9).toNat) (-1)) hv243_ hf246_ (by simp [jxu]; omega) (by rw [show (a0 146 9).toNat = (a 146 9).toNat from (by omega)]; simp [jxu]; omega) (show a 146 9 = a0 146 9 from by omega) (by intro c hc; have hne : ¬ c = (a 146 9).toNat := (by omega); have h9 := hol c hc; simp [jxu, hne, h9])
theorem cp_X12_sends_59 (E : jxE) (d : Nat) (hd : Nat.ble 2 (d + 1) = true) (x1 x2 x3 : Int) (a0 b0 : Nat → Nat → Int) (hv0 : iv a0) (hp0 : (0 ≤ x1 ∧ x1 ≤ 39)) (hp1 : (0 ≤ x2 ∧ x2 ≤ 39)) (hp2 : a0 146 9 ≤ 299) : ∀ (y1 y2 y3 s0 : Int) (a : Nat → Nat → Int), iv a → jfr jW_X12_sends a0 a → 0 ≤ y1 → y1 ≤ 39 → 0 ≤ y2 → y2 ≤ 39 → y1 = x1 → y2 = x2 → y3 = x3 → a 146 9 = a0 146 9 → (∀ c : Nat, (c : Int) < a0 146 9 → a 154 c = a0 154 c ∧ a 158 c = a0 158 c) → jt (jxX E d 240 59 [some (.inr (.inr (.inl 146))), some (.inl y1), some (.inl y2), some (.inl y3), none] [.inl s0] (jxSH, a, b0)) (jQ_X12_sends x1 x2 x3 a0 b0) := by
  intro y1 y2 y3 s0 a hv hf hi0 hi1 hi2 hi3 hi4 hi5 hi6 hi7 hol
  refine jt_eq (bq_X12_sends_59 E d y1 y2 y3 s0 a b0) ?_
  have h247_ := iv_get hv (k := 146) (j := 9) (l := 0) (u := 300) rfl
  have h248_ := iv_get hv0 (k := 146) (j := 9) (l := 0) (u := 300) rfl
  refine jt_grd (by omega) ?_
  refine jt_grd (by omega) ?_
  refine jt_grd (by omega) ?_
  have hv249_ : iv (jxu a 154 ((a 146 9).toNat) y1) := iv_put hv (l := 0) (u := 39) rfl (by omega) (by omega)
  have hv250_ : iv (jxu (jxu a 154 ((a 146 9).toNat) y1) 155 ((a 146 9).toNat) y2) := iv_put hv249_ (l := 0) (u := 39) rfl (by omega) (by omega)
  have h252_ := iv_get hv (k := 146) (j := 0) (l := 0) (u := 1999) rfl
  have h253_ : a 146 0 = a0 146 0 := hf 146 0 rfl
  have h254_ := iv_get hv0 (k := 146) (j := 0) (l := 0) (u := 1999) rfl
  have hv251_ : iv (jxu (jxu (jxu a 154 ((a 146 9).toNat) y1) 155 ((a 146 9).toNat) y2) 156 ((a 146 9).toNat) (a 146 0)) := iv_put hv250_ (l := 0) (u := 1999) rfl (by omega) (by omega)
  have hf255_ : jfr jW_X12_sends a0 (jxu a 154 ((a 146 9).toNat) y1) := jfr_put hf rfl
  have hf256_ : jfr jW_X12_sends a0 (jxu (jxu a 154 ((a 146 9).toNat) y1) 155 ((a 146 9).toNat) y2) := jfr_put hf255_ rfl
  have hf257_ : jfr jW_X12_sends a0 (jxu (jxu (jxu a 154 ((a 146 9).toNat) y1) 155 ((a 146 9).toNat) y2) 156 ((a 146 9).toNat) (a 146 0)) := jfr_put hf256_ rfl
  exact cp_X12_sends_94 E d hd x1 x2 x3 a0 b0 hv0 hp0 hp1 hp2 y3 s0 (jxu (jxu (jxu a 154 ((a 146 9).toNat) y1) 155 ((a 146 9).toNat) y2) 156 ((a 146 9).toNat) (a 146 0)) hv251_ hf257_ (show y3 = x3 from by omega) (by rw [show (a0 146 9).toNat = (a 146 9).toNat from (by omega)]; simp [jxu]; omega) (show a 146 9 = a0 146 9 from by omega) (by intro c hc; have hne : ¬ c = (a 146 9).toNat := (by omega); have h9 := hol c hc; simp [jxu, hne, h9])
theorem cp_X12_sends_41 (E : jxE) (d : Nat) (hd : Nat.ble 2 (d + 1) = true) (x1 x2 x3 : Int) (a0 b0 : Nat → Nat → Int) (hv0 : iv a0) (hp0 : (0 ≤ x1 ∧ x1 ≤ 39)) (hp1 : (0 ≤ x2 ∧ x2 ≤ 39)) (hp2 : a0 146 9 ≤ 299) : ∀ (y1 y2 y3 : Int) (a : Nat → Nat → Int), iv a → jfr jW_X12_sends a0 a → 0 ≤ y1 → y1 ≤ 39 → 0 ≤ y2 → y2 ≤ 39 → y1 = x1 → y2 = x2 → y3 = x3 → a 146 9 = a0 146 9 → (∀ c : Nat, (c : Int) < a0 146 9 → a 154 c = a0 154 c ∧ a 158 c = a0 158 c) → jt (jxX E d 240 41 [some (.inr (.inr (.inl 146))), some (.inl y1), some (.inl y2), some (.inl y3), none] [] (jxSH, a, b0)) (jQ_X12_sends x1 x2 x3 a0 b0) := by
  intro y1 y2 y3 a hv hf hi0 hi1 hi2 hi3 hi4 hi5 hi6 hi7 hol
  refine jt_eq (bq_X12_sends_41 E d y1 y2 y3 a b0) ?_
  have h258_ := iv_get hv (k := 146) (j := 9) (l := 0) (u := 300) rfl
  have h259_ := iv_get hv0 (k := 146) (j := 9) (l := 0) (u := 300) rfl
  exact cp_X12_sends_59 E d hd x1 x2 x3 a0 b0 hv0 hp0 hp1 hp2 y1 y2 y3 (a 171 3) a hv hf (show 0 ≤ y1 from by omega) (show y1 ≤ 39 from by omega) (show 0 ≤ y2 from by omega) (show y2 ≤ 39 from by omega) (show y1 = x1 from by omega) (show y2 = x2 from by omega) (show y3 = x3 from by omega) (show a 146 9 = a0 146 9 from by omega) hol
theorem cp_X12_sends_50 (E : jxE) (d : Nat) (hd : Nat.ble 2 (d + 1) = true) (x1 x2 x3 : Int) (a0 b0 : Nat → Nat → Int) (hv0 : iv a0) (hp0 : (0 ≤ x1 ∧ x1 ≤ 39)) (hp1 : (0 ≤ x2 ∧ x2 ≤ 39)) (hp2 : a0 146 9 ≤ 299) : ∀ (y1 y2 y3 : Int) (a : Nat → Nat → Int), iv a → jfr jW_X12_sends a0 a → 0 ≤ y1 → y1 ≤ 39 → 0 ≤ y2 → y2 ≤ 39 → 1 ≤ a 146 39 → y1 = x1 → y2 = x2 → y3 = x3 → a 146 9 = a0 146 9 → (∀ c : Nat, (c : Int) < a0 146 9 → a 154 c = a0 154 c ∧ a 158 c = a0 158 c) → jt (jxX E d 240 50 [some (.inr (.inr (.inl 146))), some (.inl y1), some (.inl y2), some (.inl y3), none] [] (jxSH, a, b0)) (jQ_X12_sends x1 x2 x3 a0 b0) := by
  intro y1 y2 y3 a hv hf hi0 hi1 hi2 hi3 hi4 hi5 hi6 hi7 hi8 hol
  refine jt_eq (bq_X12_sends_50 E d y1 y2 y3 a b0) ?_
  have h260_ := iv_get hv (k := 146) (j := 39) (l := 0) (u := 10) rfl
  have h261_ := iv_get hv (k := 146) (j := 9) (l := 0) (u := 300) rfl
  have h262_ := iv_get hv0 (k := 146) (j := 9) (l := 0) (u := 300) rfl
  exact cp_X12_sends_59 E d hd x1 x2 x3 a0 b0 hv0 hp0 hp1 hp2 y1 y2 y3 (jxw ((jxw (2 * (a 146 41))) + 7)) a hv hf (show 0 ≤ y1 from by omega) (show y1 ≤ 39 from by omega) (show 0 ≤ y2 from by omega) (show y2 ≤ 39 from by omega) (show y1 = x1 from by omega) (show y2 = x2 from by omega) (show y3 = x3 from by omega) (show a 146 9 = a0 146 9 from by omega) hol
theorem sp_X12_sends (E : jxE) (d : Nat) (hd : Nat.ble 2 d = true) (x1 x2 x3 : Int) (a0 b0 : Nat → Nat → Int) (hv0 : iv a0) (hp0 : (0 ≤ x1 ∧ x1 ≤ 39)) (hp1 : (0 ≤ x2 ∧ x2 ≤ 39)) (hp2 : a0 146 9 ≤ 299) : jt (jxC E d 240 [.inr (.inr (.inl 146)), .inl x1, .inl x2, .inl x3] (jxSH, a0, b0)) (jQ_X12_sends x1 x2 x3 a0 b0) := by
  obtain ⟨d, rfl⟩ := jd_succ hd
  refine jt_eq (bq_X12_sends E d x1 x2 x3 a0 b0) ?_
  have h263_ := iv_get hv0 (k := 146) (j := 9) (l := 0) (u := 300) rfl
  refine jt_grd (by omega) ?_
  refine jt_grd (by omega) ?_
  refine jt_bV (sp_X12_spans E d (jd_le hd rfl) (a0 148 (x1.toNat)) (a0 148 (x2.toNat)) a0 b0 hv0) (fun a264_ b264_ h264_ => ?_)
  obtain ⟨hv264_, hf264_, rfl, hq264_0⟩ := h264_
  have h265_ := iv_get hv0 (k := 146) (j := 17) (l := 0) (u := 600) rfl
  have h266_ := iv_get hv264_ (k := 146) (j := 39) (l := 0) (u := 10) rfl
  refine jt_ite (fun c267_ => ?_) (fun c267_ => ?_)
  ·
    have hf268_ : jfr jW_X12_sends a0 a264_ := jfr_tr (jfr_rf _ _) hf264_ rfl
    have h269_ := iv_get hv264_ (k := 146) (j := 9) (l := 0) (u := 300) rfl
    have h270_ : a264_ 146 9 = a0 146 9 := hf264_ 146 9 rfl
    exact cp_X12_sends_41 E d hd x1 x2 x3 a0 b0 hv0 hp0 hp1 hp2 x1 x2 x3 a264_ hv264_ hf268_ (show 0 ≤ x1 from by omega) (show x1 ≤ 39 from by omega) (show 0 ≤ x2 from by omega) (show x2 ≤ 39 from by omega) (show x1 = x1 from by omega) (show x2 = x2 from by omega) (show x3 = x3 from by omega) (show a264_ 146 9 = a0 146 9 from by omega) (by intro c hc; exact ⟨hf264_ 154 c rfl, hf264_ 158 c rfl⟩)
  ·
    have h271_ : a264_ 171 3 = a0 171 3 := hf264_ 171 3 rfl
    have h272_ := jxw_im (2 * (a264_ 146 41))
    have h273_ := jxw_rg (2 * (a264_ 146 41))
    have h274_ := jxw_im ((jxw (2 * (a264_ 146 41))) + 7)
    have h275_ := jxw_rg ((jxw (2 * (a264_ 146 41))) + 7)
    refine jt_ite (fun c276_ => ?_) (fun c276_ => ?_)
    ·
      have hf277_ : jfr jW_X12_sends a0 a264_ := jfr_tr (jfr_rf _ _) hf264_ rfl
      have h278_ := iv_get hv264_ (k := 146) (j := 9) (l := 0) (u := 300) rfl
      have h279_ : a264_ 146 9 = a0 146 9 := hf264_ 146 9 rfl
      exact cp_X12_sends_41 E d hd x1 x2 x3 a0 b0 hv0 hp0 hp1 hp2 x1 x2 x3 a264_ hv264_ hf277_ (show 0 ≤ x1 from by omega) (show x1 ≤ 39 from by omega) (show 0 ≤ x2 from by omega) (show x2 ≤ 39 from by omega) (show x1 = x1 from by omega) (show x2 = x2 from by omega) (show x3 = x3 from by omega) (show a264_ 146 9 = a0 146 9 from by omega) (by intro c hc; exact ⟨hf264_ 154 c rfl, hf264_ 158 c rfl⟩)
    ·
      have hf280_ : jfr jW_X12_sends a0 a264_ := jfr_tr (jfr_rf _ _) hf264_ rfl
      have h281_ := iv_get hv264_ (k := 146) (j := 9) (l := 0) (u := 300) rfl
      have h282_ : a264_ 146 9 = a0 146 9 := hf264_ 146 9 rfl
      exact cp_X12_sends_50 E d hd x1 x2 x3 a0 b0 hv0 hp0 hp1 hp2 x1 x2 x3 a264_ hv264_ hf280_ (show 0 ≤ x1 from by omega) (show x1 ≤ 39 from by omega) (show 0 ≤ x2 from by omega) (show x2 ≤ 39 from by omega) (show 1 ≤ a264_ 146 39 from by omega) (show x1 = x1 from by omega) (show x2 = x2 from by omega) (show x3 = x3 from by omega) (show a264_ 146 9 = a0 146 9 from by omega) (by intro c hc; exact ⟨hf264_ 154 c rfl, hf264_ 158 c rfl⟩)
def jW_X12_back : List (Nat × Nat) := [(146, 17), (160, 9999), (161, 9999), (162, 9999), (163, 9999)]
abbrev jQ_X12_back (x1 : Int) (a0 b0 : Nat → Nat → Int) : List jxV → (Nat → Nat → Int) → (Nat → Nat → Int) → Prop := rI (fun r a b => (iv a) ∧ (jfr jW_X12_back a0 a) ∧ (b0 = b) ∧ ((0 ≤ r ∧ r ≤ 1)) ∧ ((a0 146 9 = 0 → r = 0)))
theorem cp_X12_back_58 (E : jxE) (d : Nat) (hd : Nat.ble 2 (d + 1) = true) (x1 : Int) (a0 b0 : Nat → Nat → Int) (hv0 : iv a0) : ∀ (a : Nat → Nat → Int), iv a → jfr jW_X12_back a0 a → jt (jxX E d 258 58 [none, none] [] (jxSH, a, b0)) (jQ_X12_back x1 a0 b0) := by
  intro a hv hf
  refine jt_eq (bq_X12_back_58 E d a b0) ?_
  have h283_ := iv_get hv0 (k := 146) (j := 9) (l := 0) (u := 300) rfl
  exact jt_rI ⟨hv, hf, rfl, (show (0 ≤ 0 ∧ 0 ≤ 1) from by omega), (show (a0 146 9 = 0 → 0 = 0) from by omega)⟩
theorem cp_X12_back_60 (E : jxE) (d : Nat) (hd : Nat.ble 2 (d + 1) = true) (x1 : Int) (a0 b0 : Nat → Nat → Int) (hv0 : iv a0) : ∀ (y1 : Int) (a : Nat → Nat → Int), iv a → jfr jW_X12_back a0 a → 0 ≤ y1 → y1 ≤ 299 → a 146 17 ≤ 599 → 1 ≤ a0 146 9 → jt (jxX E d 258 60 [some (.inr (.inr (.inl 146))), some (.inl y1)] [] (jxSH, a, b0)) (jQ_X12_back x1 a0 b0) := by
  intro y1 a hv hf hi0 hi1 hi2 hi3
  refine jt_eq (bq_X12_back_60 E d y1 a b0) ?_
  have h284_ := iv_get hv (k := 146) (j := 17) (l := 0) (u := 600) rfl
  have h285_ := iv_get hv0 (k := 146) (j := 9) (l := 0) (u := 300) rfl
  refine jt_bV (sp_X12_tells E d (jd_le hd rfl) y1 (-1) a b0 hv (show (0 ≤ y1 ∧ y1 ≤ 299) from by omega) (show a 146 17 ≤ 599 from by omega)) (fun a286_ b286_ h286_ => ?_)
  obtain ⟨hv286_, hf286_, rfl⟩ := h286_
  have hf287_ : jfr jW_X12_back a0 a286_ := jfr_tr hf hf286_ rfl
  exact jt_rI ⟨hv286_, hf287_, rfl, (show (0 ≤ 1 ∧ 1 ≤ 1) from by omega), (show (a0 146 9 = 0 → 1 = 0) from by omega)⟩
theorem cp_X12_back_24 (E : jxE) (d : Nat) (hd : Nat.ble 2 (d + 1) = true) (x1 : Int) (a0 b0 : Nat → Nat → Int) (hv0 : iv a0) : ∀ (y1 : Int) (a : Nat → Nat → Int), iv a → jfr jW_X12_back a0 a → 0 ≤ y1 → y1 ≤ 299 → 1 ≤ a0 146 9 → jt (jxX E d 258 24 [some (.inr (.inr (.inl 146))), some (.inl y1)] [] (jxSH, a, b0)) (jQ_X12_back x1 a0 b0) := by
  intro y1 a hv hf hi0 hi1 hi2
  refine jt_eq (bq_X12_back_24 E d y1 a b0) ?_
  have h288_ := iv_get hv0 (k := 146) (j := 9) (l := 0) (u := 300) rfl
  have h289_ := iv_get hv (k := 146) (j := 17) (l := 0) (u := 600) rfl
  refine jt_ite (fun c290_ => ?_) (fun c290_ => ?_)
  ·
    exact cp_X12_back_58 E d hd x1 a0 b0 hv0 a hv hf
  ·
    refine jt_grd (by omega) ?_
    have h291_ := iv_get hv (k := 160) (j := y1.toNat) (l := (-1)) (u := 599) rfl
    refine jt_ite (fun c292_ => ?_) (fun c292_ => ?_)
    ·
      exact cp_X12_back_58 E d hd x1 a0 b0 hv0 a hv hf
    ·
      refine jt_grd (by omega) ?_
      refine jt_grd (by omega) ?_
      refine jt_ite (fun c293_ => ?_) (fun c293_ => ?_)
      ·
        exact cp_X12_back_58 E d hd x1 a0 b0 hv0 a hv hf
      ·
        exact cp_X12_back_60 E d hd x1 a0 b0 hv0 y1 a hv hf (show 0 ≤ y1 from by omega) (show y1 ≤ 299 from by omega) (show a 146 17 ≤ 599 from by omega) (show 1 ≤ a0 146 9 from by omega)
theorem sp_X12_back (E : jxE) (d : Nat) (hd : Nat.ble 2 d = true) (x1 : Int) (a0 b0 : Nat → Nat → Int) (hv0 : iv a0) : jt (jxC E d 258 [.inr (.inr (.inl 146)), .inl x1] (jxSH, a0, b0)) (jQ_X12_back x1 a0 b0) := by
  obtain ⟨d, rfl⟩ := jd_succ hd
  refine jt_eq (bq_X12_back E d x1 a0 b0) ?_
  refine jt_eI (eq_X12_in E d (jd_le hd rfl) x1 0 (jxw ((a0 146 9) - 1)) a0 b0) ?_
  have h294_ := iv_get hv0 (k := 146) (j := 9) (l := 0) (u := 300) rfl
  have h295_ : jxw ((a0 146 9) - 1) = (a0 146 9) - 1 := jxw_id (by omega) (by omega)
  have h296_ := f_X12_in_eq a0 b0 x1 0 (jxw ((a0 146 9) - 1))
  refine jt_ite (fun c297_ => ?_) (fun c297_ => ?_)
  ·
    exact cp_X12_back_58 E d hd x1 a0 b0 hv0 a0 hv0 (jfr_rf _ _)
  ·
    refine jt_grd (by omega) ?_
    refine jt_ite (fun c298_ => ?_) (fun c298_ => ?_)
    ·
      exact cp_X12_back_24 E d hd x1 a0 b0 hv0 x1 a0 hv0 (jfr_rf _ _) (show 0 ≤ x1 from by omega) (show x1 ≤ 299 from by omega) (show 1 ≤ a0 146 9 from by omega)
    ·
      exact cp_X12_back_58 E d hd x1 a0 b0 hv0 a0 hv0 (jfr_rf _ _)
abbrev jQ_X12_best (x1 x2 : Int) (a0 b0 : Nat → Nat → Int) : List jxV → (Nat → Nat → Int) → (Nat → Nat → Int) → Prop := rJ (fun r a b => (a0 = a))
theorem cp_X12_best_49 (E : jxE) (d : Nat) (hd : Nat.ble 1 (d + 1) = true) (x1 x2 : Int) (a0 b0 : Nat → Nat → Int) (hv0 : iv a0) (hp0 : (0 ≤ x1 ∧ x1 ≤ 255)) : ∀ n : Nat, (∀ (y1 y2 y4 y5 y6 y7 y9 : Int) (b : Nat → Nat → Int), (((((((y5 + 1) * 5677) + 0) + ((256 - y6) * 22)) + 0) + ((8 - y9) * 1)) + 0).toNat ≤ n → 0 ≤ y1 → y1 ≤ 255 → 1 ≤ y4 → y4 ≤ 256 → 0 ≤ y5 → y5 ≤ 39 → 0 ≤ y6 → y6 ≤ 255 → 0 ≤ y9 → y9 ≤ 7 → jt (jxX E d 253 192 [some (.inr (.inr (.inl 146))), some (.inl y1), some (.inr (.inl y2)), none, some (.inl y4), some (.inl y5), some (.inl y6), some (.inr (.inl y7)), none, some (.inl y9), none, none] [] (jxSH, a0, b)) (jQ_X12_best x1 x2 a0 b0)) ∧ (∀ (y1 y2 y4 y5 y6 y7 y9 y10 : Int) (b : Nat → Nat → Int), (((((((y5 + 1) * 5677) + 0) + ((256 - y6) * 22)) + 0) + ((8 - y9) * 1)) + 0).toNat ≤ n → 0 ≤ y1 → y1 ≤ 255 → 1 ≤ y4 → y4 ≤ 256 → 0 ≤ y5 → y5 ≤ 39 → 0 ≤ y6 → y6 ≤ 255 → 0 ≤ y9 → y9 ≤ 7 → jt (jxX E d 253 175 [some (.inr (.inr (.inl 146))), some (.inl y1), some (.inr (.inl y2)), none, some (.inl y4), some (.inl y5), some (.inl y6), some (.inr (.inl y7)), none, some (.inl y9), some (.inr (.inl y10)), none] [] (jxSH, a0, b)) (jQ_X12_best x1 x2 a0 b0)) ∧ (∀ (y1 y2 y4 y5 y6 y7 y9 : Int) (b : Nat → Nat → Int), (((((((y5 + 1) * 5677) + 0) + ((256 - y6) * 22)) + 0) + ((8 - y9) * 1)) + 0).toNat ≤ n → 0 ≤ y1 → y1 ≤ 255 → 1 ≤ y4 → y4 ≤ 256 → 0 ≤ y5 → y5 ≤ 39 → 0 ≤ y6 → y6 ≤ 255 → 0 ≤ y9 → y9 ≤ 7 → jt (jxX E d 253 115 [some (.inr (.inr (.inl 146))), some (.inl y1), some (.inr (.inl y2)), none, some (.inl y4), some (.inl y5), some (.inl y6), some (.inr (.inl y7)), none, some (.inl y9), none, none] [] (jxSH, a0, b)) (jQ_X12_best x1 x2 a0 b0)) ∧ (∀ (y1 y2 y4 y5 y6 : Int) (b : Nat → Nat → Int), (((((y5 + 1) * 5677) + 0) + ((256 - y6) * 22)) + 11).toNat ≤ n → 0 ≤ y1 → y1 ≤ 255 → 1 ≤ y4 → y4 ≤ 256 → 0 ≤ y5 → y5 ≤ 39 → 1 ≤ y6 → y6 ≤ 256 → jt (jxX E d 253 217 [some (.inr (.inr (.inl 146))), some (.inl y1), some (.inr (.inl y2)), none, some (.inl y4), some (.inl y5), some (.inl y6), none, none, none, none, none] [] (jxSH, a0, b)) (jQ_X12_best x1 x2 a0 b0)) ∧ (∀ (y1 y2 y4 y5 y6 y7 y9 : Int) (b : Nat → Nat → Int), (((((((y5 + 1) * 5677) + 0) + ((256 - y6) * 22)) + 0) + ((8 - y9) * 1)) + 0).toNat ≤ n → 0 ≤ y1 → y1 ≤ 255 → 1 ≤ y4 → y4 ≤ 256 → 0 ≤ y5 → y5 ≤ 39 → 0 ≤ y6 → y6 ≤ 255 → 0 ≤ y9 → y9 ≤ 8 → jt (jxX E d 253 85 [some (.inr (.inr (.inl 146))), some (.inl y1), some (.inr (.inl y2)), none, some (.inl y4), some (.inl y5), some (.inl y6), some (.inr (.inl y7)), none, some (.inl y9), none, none] [] (jxSH, a0, b)) (jQ_X12_best x1 x2 a0 b0)) ∧ (∀ (y1 y2 y4 y5 y6 y7 : Int) (b : Nat → Nat → Int), (((((y5 + 1) * 5677) + 0) + ((256 - y6) * 22)) + 10).toNat ≤ n → 0 ≤ y1 → y1 ≤ 255 → 1 ≤ y4 → y4 ≤ 256 → 0 ≤ y5 → y5 ≤ 39 → 0 ≤ y6 → y6 ≤ 255 → jt (jxX E d 253 82 [some (.inr (.inr (.inl 146))), some (.inl y1), some (.inr (.inl y2)), none, some (.inl y4), some (.inl y5), some (.inl y6), some (.inr (.inl y7)), none, none, none, none] [] (jxSH, a0, b)) (jQ_X12_best x1 x2 a0 b0)) ∧ (∀ (y1 y2 y4 y5 y6 : Int) (b : Nat → Nat → Int), (((((y5 + 1) * 5677) + 0) + ((256 - y6) * 22)) + 10).toNat ≤ n → 0 ≤ y1 → y1 ≤ 255 → 1 ≤ y4 → y4 ≤ 256 → 0 ≤ y5 → y5 ≤ 39 → 0 ≤ y6 → y6 ≤ 256 → jt (jxX E d 253 57 [some (.inr (.inr (.inl 146))), some (.inl y1), some (.inr (.inl y2)), none, some (.inl y4), some (.inl y5), some (.inl y6), none, none, none, none, none] [] (jxSH, a0, b)) (jQ_X12_best x1 x2 a0 b0)) ∧ (∀ (y1 y2 y4 y5 : Int) (b : Nat → Nat → Int), (((y5 + 1) * 5677) + 5676).toNat ≤ n → 0 ≤ y1 → y1 ≤ 255 → 1 ≤ y4 → y4 ≤ 256 → 0 - 1 ≤ y5 → y5 ≤ 39 → jt (jxX E d 253 49 [some (.inr (.inr (.inl 146))), some (.inl y1), some (.inr (.inl y2)), none, some (.inl y4), some (.inl y5), none, none, none, none, none, none] [] (jxSH, a0, b)) (jQ_X12_best x1 x2 a0 b0)) := by
  refine jx_ind fun n ih => ?_
  have ih192 : ∀ (y1 y2 y4 y5 y6 y7 y9 : Int) (b : Nat → Nat → Int), (((((((y5 + 1) * 5677) + 0) + ((256 - y6) * 22)) + 0) + ((8 - y9) * 1)) + 0).toNat < n → 0 ≤ y1 → y1 ≤ 255 → 1 ≤ y4 → y4 ≤ 256 → 0 ≤ y5 → y5 ≤ 39 → 0 ≤ y6 → y6 ≤ 255 → 0 ≤ y9 → y9 ≤ 7 → jt (jxX E d 253 192 [some (.inr (.inr (.inl 146))), some (.inl y1), some (.inr (.inl y2)), none, some (.inl y4), some (.inl y5), some (.inl y6), some (.inr (.inl y7)), none, some (.inl y9), none, none] [] (jxSH, a0, b)) (jQ_X12_best x1 x2 a0 b0) := fun y1 y2 y4 y5 y6 y7 y9 b hlt i0 i1 i2 i3 i4 i5 i6 i7 i8 i9 => (ih _ hlt).1 y1 y2 y4 y5 y6 y7 y9 b (Nat.le_refl _) i0 i1 i2 i3 i4 i5 i6 i7 i8 i9
  have ih175 : ∀ (y1 y2 y4 y5 y6 y7 y9 y10 : Int) (b : Nat → Nat → Int), (((((((y5 + 1) * 5677) + 0) + ((256 - y6) * 22)) + 0) + ((8 - y9) * 1)) + 0).toNat < n → 0 ≤ y1 → y1 ≤ 255 → 1 ≤ y4 → y4 ≤ 256 → 0 ≤ y5 → y5 ≤ 39 → 0 ≤ y6 → y6 ≤ 255 → 0 ≤ y9 → y9 ≤ 7 → jt (jxX E d 253 175 [some (.inr (.inr (.inl 146))), some (.inl y1), some (.inr (.inl y2)), none, some (.inl y4), some (.inl y5), some (.inl y6), some (.inr (.inl y7)), none, some (.inl y9), some (.inr (.inl y10)), none] [] (jxSH, a0, b)) (jQ_X12_best x1 x2 a0 b0) := fun y1 y2 y4 y5 y6 y7 y9 y10 b hlt i0 i1 i2 i3 i4 i5 i6 i7 i8 i9 => (ih _ hlt).2.1 y1 y2 y4 y5 y6 y7 y9 y10 b (Nat.le_refl _) i0 i1 i2 i3 i4 i5 i6 i7 i8 i9
  have ih115 : ∀ (y1 y2 y4 y5 y6 y7 y9 : Int) (b : Nat → Nat → Int), (((((((y5 + 1) * 5677) + 0) + ((256 - y6) * 22)) + 0) + ((8 - y9) * 1)) + 0).toNat < n → 0 ≤ y1 → y1 ≤ 255 → 1 ≤ y4 → y4 ≤ 256 → 0 ≤ y5 → y5 ≤ 39 → 0 ≤ y6 → y6 ≤ 255 → 0 ≤ y9 → y9 ≤ 7 → jt (jxX E d 253 115 [some (.inr (.inr (.inl 146))), some (.inl y1), some (.inr (.inl y2)), none, some (.inl y4), some (.inl y5), some (.inl y6), some (.inr (.inl y7)), none, some (.inl y9), none, none] [] (jxSH, a0, b)) (jQ_X12_best x1 x2 a0 b0) := fun y1 y2 y4 y5 y6 y7 y9 b hlt i0 i1 i2 i3 i4 i5 i6 i7 i8 i9 => (ih _ hlt).2.2.1 y1 y2 y4 y5 y6 y7 y9 b (Nat.le_refl _) i0 i1 i2 i3 i4 i5 i6 i7 i8 i9
  have ih217 : ∀ (y1 y2 y4 y5 y6 : Int) (b : Nat → Nat → Int), (((((y5 + 1) * 5677) + 0) + ((256 - y6) * 22)) + 11).toNat < n → 0 ≤ y1 → y1 ≤ 255 → 1 ≤ y4 → y4 ≤ 256 → 0 ≤ y5 → y5 ≤ 39 → 1 ≤ y6 → y6 ≤ 256 → jt (jxX E d 253 217 [some (.inr (.inr (.inl 146))), some (.inl y1), some (.inr (.inl y2)), none, some (.inl y4), some (.inl y5), some (.inl y6), none, none, none, none, none] [] (jxSH, a0, b)) (jQ_X12_best x1 x2 a0 b0) := fun y1 y2 y4 y5 y6 b hlt i0 i1 i2 i3 i4 i5 i6 i7 => (ih _ hlt).2.2.2.1 y1 y2 y4 y5 y6 b (Nat.le_refl _) i0 i1 i2 i3 i4 i5 i6 i7
  have ih85 : ∀ (y1 y2 y4 y5 y6 y7 y9 : Int) (b : Nat → Nat → Int), (((((((y5 + 1) * 5677) + 0) + ((256 - y6) * 22)) + 0) + ((8 - y9) * 1)) + 0).toNat < n → 0 ≤ y1 → y1 ≤ 255 → 1 ≤ y4 → y4 ≤ 256 → 0 ≤ y5 → y5 ≤ 39 → 0 ≤ y6 → y6 ≤ 255 → 0 ≤ y9 → y9 ≤ 8 → jt (jxX E d 253 85 [some (.inr (.inr (.inl 146))), some (.inl y1), some (.inr (.inl y2)), none, some (.inl y4), some (.inl y5), some (.inl y6), some (.inr (.inl y7)), none, some (.inl y9), none, none] [] (jxSH, a0, b)) (jQ_X12_best x1 x2 a0 b0) := fun y1 y2 y4 y5 y6 y7 y9 b hlt i0 i1 i2 i3 i4 i5 i6 i7 i8 i9 => (ih _ hlt).2.2.2.2.1 y1 y2 y4 y5 y6 y7 y9 b (Nat.le_refl _) i0 i1 i2 i3 i4 i5 i6 i7 i8 i9
  have ih82 : ∀ (y1 y2 y4 y5 y6 y7 : Int) (b : Nat → Nat → Int), (((((y5 + 1) * 5677) + 0) + ((256 - y6) * 22)) + 10).toNat < n → 0 ≤ y1 → y1 ≤ 255 → 1 ≤ y4 → y4 ≤ 256 → 0 ≤ y5 → y5 ≤ 39 → 0 ≤ y6 → y6 ≤ 255 → jt (jxX E d 253 82 [some (.inr (.inr (.inl 146))), some (.inl y1), some (.inr (.inl y2)), none, some (.inl y4), some (.inl y5), some (.inl y6), some (.inr (.inl y7)), none, none, none, none] [] (jxSH, a0, b)) (jQ_X12_best x1 x2 a0 b0) := fun y1 y2 y4 y5 y6 y7 b hlt i0 i1 i2 i3 i4 i5 i6 i7 => (ih _ hlt).2.2.2.2.2.1 y1 y2 y4 y5 y6 y7 b (Nat.le_refl _) i0 i1 i2 i3 i4 i5 i6 i7
  have ih57 : ∀ (y1 y2 y4 y5 y6 : Int) (b : Nat → Nat → Int), (((((y5 + 1) * 5677) + 0) + ((256 - y6) * 22)) + 10).toNat < n → 0 ≤ y1 → y1 ≤ 255 → 1 ≤ y4 → y4 ≤ 256 → 0 ≤ y5 → y5 ≤ 39 → 0 ≤ y6 → y6 ≤ 256 → jt (jxX E d 253 57 [some (.inr (.inr (.inl 146))), some (.inl y1), some (.inr (.inl y2)), none, some (.inl y4), some (.inl y5), some (.inl y6), none, none, none, none, none] [] (jxSH, a0, b)) (jQ_X12_best x1 x2 a0 b0) := fun y1 y2 y4 y5 y6 b hlt i0 i1 i2 i3 i4 i5 i6 i7 => (ih _ hlt).2.2.2.2.2.2.1 y1 y2 y4 y5 y6 b (Nat.le_refl _) i0 i1 i2 i3 i4 i5 i6 i7
  have ih49 : ∀ (y1 y2 y4 y5 : Int) (b : Nat → Nat → Int), (((y5 + 1) * 5677) + 5676).toNat < n → 0 ≤ y1 → y1 ≤ 255 → 1 ≤ y4 → y4 ≤ 256 → 0 - 1 ≤ y5 → y5 ≤ 39 → jt (jxX E d 253 49 [some (.inr (.inr (.inl 146))), some (.inl y1), some (.inr (.inl y2)), none, some (.inl y4), some (.inl y5), none, none, none, none, none, none] [] (jxSH, a0, b)) (jQ_X12_best x1 x2 a0 b0) := fun y1 y2 y4 y5 b hlt i0 i1 i2 i3 i4 i5 => (ih _ hlt).2.2.2.2.2.2.2 y1 y2 y4 y5 b (Nat.le_refl _) i0 i1 i2 i3 i4 i5
  have hc192 : ∀ (y1 y2 y4 y5 y6 y7 y9 : Int) (b : Nat → Nat → Int), (((((((y5 + 1) * 5677) + 0) + ((256 - y6) * 22)) + 0) + ((8 - y9) * 1)) + 0).toNat ≤ n → 0 ≤ y1 → y1 ≤ 255 → 1 ≤ y4 → y4 ≤ 256 → 0 ≤ y5 → y5 ≤ 39 → 0 ≤ y6 → y6 ≤ 255 → 0 ≤ y9 → y9 ≤ 7 → jt (jxX E d 253 192 [some (.inr (.inr (.inl 146))), some (.inl y1), some (.inr (.inl y2)), none, some (.inl y4), some (.inl y5), some (.inl y6), some (.inr (.inl y7)), none, some (.inl y9), none, none] [] (jxSH, a0, b)) (jQ_X12_best x1 x2 a0 b0) := by
    intro y1 y2 y4 y5 y6 y7 y9 b hm hi0 hi1 hi2 hi3 hi4 hi5 hi6 hi7 hi8 hi9
    refine jt_eq (bq_X12_best_192 E d y1 y2 y4 y5 y6 y7 y9 a0 b) ?_
    have h299_ : jxw (y9 + 1) = y9 + 1 := jxw_id (by omega) (by omega)
    exact ih85 y1 y2 y4 y5 y6 y7 (jxw (y9 + 1)) b (show (((((((y5 + 1) * 5677) + 0) + ((256 - y6) * 22)) + 0) + ((8 - (jxw (y9 + 1))) * 1)) + 0).toNat < n from by omega) (show 0 ≤ y1 from by omega) (show y1 ≤ 255 from by omega) (show 1 ≤ y4 from by omega) (show y4 ≤ 256 from by omega) (show 0 ≤ y5 from by omega) (show y5 ≤ 39 from by omega) (show 0 ≤ y6 from by omega) (show y6 ≤ 255 from by omega) (show 0 ≤ jxw (y9 + 1) from by omega) (show jxw (y9 + 1) ≤ 8 from by omega)
  have hc175 : ∀ (y1 y2 y4 y5 y6 y7 y9 y10 : Int) (b : Nat → Nat → Int), (((((((y5 + 1) * 5677) + 0) + ((256 - y6) * 22)) + 0) + ((8 - y9) * 1)) + 0).toNat ≤ n → 0 ≤ y1 → y1 ≤ 255 → 1 ≤ y4 → y4 ≤ 256 → 0 ≤ y5 → y5 ≤ 39 → 0 ≤ y6 → y6 ≤ 255 → 0 ≤ y9 → y9 ≤ 7 → jt (jxX E d 253 175 [some (.inr (.inr (.inl 146))), some (.inl y1), some (.inr (.inl y2)), none, some (.inl y4), some (.inl y5), some (.inl y6), some (.inr (.inl y7)), none, some (.inl y9), some (.inr (.inl y10)), none] [] (jxSH, a0, b)) (jQ_X12_best x1 x2 a0 b0) := by
    intro y1 y2 y4 y5 y6 y7 y9 y10 b hm hi0 hi1 hi2 hi3 hi4 hi5 hi6 hi7 hi8 hi9
    refine jt_eq (bq_X12_best_175 E d y1 y2 y4 y5 y6 y7 y9 y10 a0 b) ?_
    have h300_ := jxlcmp_b y10 y7
    refine jt_ite (fun c301_ => ?_) (fun c301_ => ?_)
    ·
      exact hc192 y1 y2 y4 y5 y6 y10 y9 b (show (((((((y5 + 1) * 5677) + 0) + ((256 - y6) * 22)) + 0) + ((8 - y9) * 1)) + 0).toNat ≤ n from by omega) (show 0 ≤ y1 from by omega) (show y1 ≤ 255 from by omega) (show 1 ≤ y4 from by omega) (show y4 ≤ 256 from by omega) (show 0 ≤ y5 from by omega) (show y5 ≤ 39 from by omega) (show 0 ≤ y6 from by omega) (show y6 ≤ 255 from by omega) (show 0 ≤ y9 from by omega) (show y9 ≤ 7 from by omega)
    ·
      exact hc192 y1 y2 y4 y5 y6 y7 y9 b (show (((((((y5 + 1) * 5677) + 0) + ((256 - y6) * 22)) + 0) + ((8 - y9) * 1)) + 0).toNat ≤ n from by omega) (show 0 ≤ y1 from by omega) (show y1 ≤ 255 from by omega) (show 1 ≤ y4 from by omega) (show y4 ≤ 256 from by omega) (show 0 ≤ y5 from by omega) (show y5 ≤ 39 from by omega) (show 0 ≤ y6 from by omega) (show y6 ≤ 255 from by omega) (show 0 ≤ y9 from by omega) (show y9 ≤ 7 from by omega)
  have hc115 : ∀ (y1 y2 y4 y5 y6 y7 y9 : Int) (b : Nat → Nat → Int), (((((((y5 + 1) * 5677) + 0) + ((256 - y6) * 22)) + 0) + ((8 - y9) * 1)) + 0).toNat ≤ n → 0 ≤ y1 → y1 ≤ 255 → 1 ≤ y4 → y4 ≤ 256 → 0 ≤ y5 → y5 ≤ 39 → 0 ≤ y6 → y6 ≤ 255 → 0 ≤ y9 → y9 ≤ 7 → jt (jxX E d 253 115 [some (.inr (.inr (.inl 146))), some (.inl y1), some (.inr (.inl y2)), none, some (.inl y4), some (.inl y5), some (.inl y6), some (.inr (.inl y7)), none, some (.inl y9), none, none] [] (jxSH, a0, b)) (jQ_X12_best x1 x2 a0 b0) := by
    intro y1 y2 y4 y5 y6 y7 y9 b hm hi0 hi1 hi2 hi3 hi4 hi5 hi6 hi7 hi8 hi9
    refine jt_eq (bq_X12_best_115 E d y1 y2 y4 y5 y6 y7 y9 a0 b) ?_
    have h302_ : jxw (40 * y9) = 40 * y9 := jxw_id (by omega) (by omega)
    have h303_ : jxw ((jxw (40 * y9)) + y5) = (jxw (40 * y9)) + y5 := jxw_id (by omega) (by omega)
    refine jt_grd (by omega) ?_
    have h304_ := jxlcmp_b (b 175 ((jxw ((jxw (40 * y9)) + y5)).toNat)) (-4000000000000000000)
    refine jt_ite (fun c305_ => ?_) (fun c305_ => ?_)
    ·
      exact hc192 y1 y2 y4 y5 y6 y7 y9 b (show (((((((y5 + 1) * 5677) + 0) + ((256 - y6) * 22)) + 0) + ((8 - y9) * 1)) + 0).toNat ≤ n from by omega) (show 0 ≤ y1 from by omega) (show y1 ≤ 255 from by omega) (show 1 ≤ y4 from by omega) (show y4 ≤ 256 from by omega) (show 0 ≤ y5 from by omega) (show y5 ≤ 39 from by omega) (show 0 ≤ y6 from by omega) (show y6 ≤ 255 from by omega) (show 0 ≤ y9 from by omega) (show y9 ≤ 7 from by omega)
    ·
      refine jt_grd (by omega) ?_
      have h306_ : jxw (y5 + 1) = y5 + 1 := jxw_id (by omega) (by omega)
      have h307_ : jxw (256 * (jxw (y5 + 1))) = 256 * (jxw (y5 + 1)) := jxw_id (by omega) (by omega)
      have h308_ := jxshl1_b y9
      have h309_ := jxxor_b y6 (jxshl 1 y9)
      have h310_ : jxw ((jxw (256 * (jxw (y5 + 1)))) + (jxxor y6 (jxshl 1 y9))) = (jxw (256 * (jxw (y5 + 1)))) + (jxxor y6 (jxshl 1 y9)) := jxw_id (by omega) (by omega)
      refine jt_grd (by omega) ?_
      exact hc175 y1 y2 y4 y5 y6 y7 y9 (jxwl ((b 175 ((jxw ((jxw (40 * y9)) + y5)).toNat)) + (b 177 ((jxw ((jxw (256 * (jxw (y5 + 1)))) + (jxxor y6 (jxshl 1 y9)))).toNat)))) b (show (((((((y5 + 1) * 5677) + 0) + ((256 - y6) * 22)) + 0) + ((8 - y9) * 1)) + 0).toNat ≤ n from by omega) (show 0 ≤ y1 from by omega) (show y1 ≤ 255 from by omega) (show 1 ≤ y4 from by omega) (show y4 ≤ 256 from by omega) (show 0 ≤ y5 from by omega) (show y5 ≤ 39 from by omega) (show 0 ≤ y6 from by omega) (show y6 ≤ 255 from by omega) (show 0 ≤ y9 from by omega) (show y9 ≤ 7 from by omega)
  have hc217 : ∀ (y1 y2 y4 y5 y6 : Int) (b : Nat → Nat → Int), (((((y5 + 1) * 5677) + 0) + ((256 - y6) * 22)) + 11).toNat ≤ n → 0 ≤ y1 → y1 ≤ 255 → 1 ≤ y4 → y4 ≤ 256 → 0 ≤ y5 → y5 ≤ 39 → 1 ≤ y6 → y6 ≤ 256 → jt (jxX E d 253 217 [some (.inr (.inr (.inl 146))), some (.inl y1), some (.inr (.inl y2)), none, some (.inl y4), some (.inl y5), some (.inl y6), none, none, none, none, none] [] (jxSH, a0, b)) (jQ_X12_best x1 x2 a0 b0) := by
    intro y1 y2 y4 y5 y6 b hm hi0 hi1 hi2 hi3 hi4 hi5 hi6 hi7
    refine jt_eq (bq_X12_best_217 E d y1 y2 y4 y5 y6 a0 b) ?_
    exact ih57 y1 y2 y4 y5 y6 b (show (((((y5 + 1) * 5677) + 0) + ((256 - y6) * 22)) + 10).toNat < n from by omega) (show 0 ≤ y1 from by omega) (show y1 ≤ 255 from by omega) (show 1 ≤ y4 from by omega) (show y4 ≤ 256 from by omega) (show 0 ≤ y5 from by omega) (show y5 ≤ 39 from by omega) (show 0 ≤ y6 from by omega) (show y6 ≤ 256 from by omega)
  have hc85 : ∀ (y1 y2 y4 y5 y6 y7 y9 : Int) (b : Nat → Nat → Int), (((((((y5 + 1) * 5677) + 0) + ((256 - y6) * 22)) + 0) + ((8 - y9) * 1)) + 0).toNat ≤ n → 0 ≤ y1 → y1 ≤ 255 → 1 ≤ y4 → y4 ≤ 256 → 0 ≤ y5 → y5 ≤ 39 → 0 ≤ y6 → y6 ≤ 255 → 0 ≤ y9 → y9 ≤ 8 → jt (jxX E d 253 85 [some (.inr (.inr (.inl 146))), some (.inl y1), some (.inr (.inl y2)), none, some (.inl y4), some (.inl y5), some (.inl y6), some (.inr (.inl y7)), none, some (.inl y9), none, none] [] (jxSH, a0, b)) (jQ_X12_best x1 x2 a0 b0) := by
    intro y1 y2 y4 y5 y6 y7 y9 b hm hi0 hi1 hi2 hi3 hi4 hi5 hi6 hi7 hi8 hi9
    refine jt_eq (bq_X12_best_85 E d y1 y2 y4 y5 y6 y7 y9 a0 b) ?_
    have h311_ := iv_get hv0 (k := 146) (j := 44) (l := 0) (u := 8) rfl
    refine jt_ite (fun c312_ => ?_) (fun c312_ => ?_)
    ·
      have h313_ := jxshr_b y6 y9
      have h314_ := jxand_r (jxshr y6 y9) 1 (by decide) (by decide)
      refine jt_ite (fun c315_ => ?_) (fun c315_ => ?_)
      ·
        exact hc192 y1 y2 y4 y5 y6 y7 y9 b (show (((((((y5 + 1) * 5677) + 0) + ((256 - y6) * 22)) + 0) + ((8 - y9) * 1)) + 0).toNat ≤ n from by omega) (show 0 ≤ y1 from by omega) (show y1 ≤ 255 from by omega) (show 1 ≤ y4 from by omega) (show y4 ≤ 256 from by omega) (show 0 ≤ y5 from by omega) (show y5 ≤ 39 from by omega) (show 0 ≤ y6 from by omega) (show y6 ≤ 255 from by omega) (show 0 ≤ y9 from by omega) (show y9 ≤ 7 from by omega)
      ·
        have h316_ := jxlcmp_b (jxandl (jxshrl y2 y5) 1) 1
        refine jt_ite (fun c317_ => ?_) (fun c317_ => ?_)
        ·
          exact hc192 y1 y2 y4 y5 y6 y7 y9 b (show (((((((y5 + 1) * 5677) + 0) + ((256 - y6) * 22)) + 0) + ((8 - y9) * 1)) + 0).toNat ≤ n from by omega) (show 0 ≤ y1 from by omega) (show y1 ≤ 255 from by omega) (show 1 ≤ y4 from by omega) (show y4 ≤ 256 from by omega) (show 0 ≤ y5 from by omega) (show y5 ≤ 39 from by omega) (show 0 ≤ y6 from by omega) (show y6 ≤ 255 from by omega) (show 0 ≤ y9 from by omega) (show y9 ≤ 7 from by omega)
        ·
          exact hc115 y1 y2 y4 y5 y6 y7 y9 b (show (((((((y5 + 1) * 5677) + 0) + ((256 - y6) * 22)) + 0) + ((8 - y9) * 1)) + 0).toNat ≤ n from by omega) (show 0 ≤ y1 from by omega) (show y1 ≤ 255 from by omega) (show 1 ≤ y4 from by omega) (show y4 ≤ 256 from by omega) (show 0 ≤ y5 from by omega) (show y5 ≤ 39 from by omega) (show 0 ≤ y6 from by omega) (show y6 ≤ 255 from by omega) (show 0 ≤ y9 from by omega) (show y9 ≤ 7 from by omega)
    ·
      have h318_ : jxw (256 * y5) = 256 * y5 := jxw_id (by omega) (by omega)
      have h319_ : jxw ((jxw (256 * y5)) + y6) = (jxw (256 * y5)) + y6 := jxw_id (by omega) (by omega)
      refine jt_grd (by omega) ?_
      have h320_ : jxw (y6 + 1) = y6 + 1 := jxw_id (by omega) (by omega)
      exact hc217 y1 y2 y4 y5 (jxw (y6 + 1)) (jxu b 177 ((jxw ((jxw (256 * y5)) + y6)).toNat) y7) (show (((((y5 + 1) * 5677) + 0) + ((256 - (jxw (y6 + 1))) * 22)) + 11).toNat ≤ n from by omega) (show 0 ≤ y1 from by omega) (show y1 ≤ 255 from by omega) (show 1 ≤ y4 from by omega) (show y4 ≤ 256 from by omega) (show 0 ≤ y5 from by omega) (show y5 ≤ 39 from by omega) (show 1 ≤ jxw (y6 + 1) from by omega) (show jxw (y6 + 1) ≤ 256 from by omega)
  have hc82 : ∀ (y1 y2 y4 y5 y6 y7 : Int) (b : Nat → Nat → Int), (((((y5 + 1) * 5677) + 0) + ((256 - y6) * 22)) + 10).toNat ≤ n → 0 ≤ y1 → y1 ≤ 255 → 1 ≤ y4 → y4 ≤ 256 → 0 ≤ y5 → y5 ≤ 39 → 0 ≤ y6 → y6 ≤ 255 → jt (jxX E d 253 82 [some (.inr (.inr (.inl 146))), some (.inl y1), some (.inr (.inl y2)), none, some (.inl y4), some (.inl y5), some (.inl y6), some (.inr (.inl y7)), none, none, none, none] [] (jxSH, a0, b)) (jQ_X12_best x1 x2 a0 b0) := by
    intro y1 y2 y4 y5 y6 y7 b hm hi0 hi1 hi2 hi3 hi4 hi5 hi6 hi7
    refine jt_eq (bq_X12_best_82 E d y1 y2 y4 y5 y6 y7 a0 b) ?_
    exact hc85 y1 y2 y4 y5 y6 y7 0 b (show (((((((y5 + 1) * 5677) + 0) + ((256 - y6) * 22)) + 0) + ((8 - 0) * 1)) + 0).toNat ≤ n from by omega) (show 0 ≤ y1 from by omega) (show y1 ≤ 255 from by omega) (show 1 ≤ y4 from by omega) (show y4 ≤ 256 from by omega) (show 0 ≤ y5 from by omega) (show y5 ≤ 39 from by omega) (show 0 ≤ y6 from by omega) (show y6 ≤ 255 from by omega) (show 0 ≤ 0 from by omega) (show 0 ≤ 8 from by omega)
  have hc57 : ∀ (y1 y2 y4 y5 y6 : Int) (b : Nat → Nat → Int), (((((y5 + 1) * 5677) + 0) + ((256 - y6) * 22)) + 10).toNat ≤ n → 0 ≤ y1 → y1 ≤ 255 → 1 ≤ y4 → y4 ≤ 256 → 0 ≤ y5 → y5 ≤ 39 → 0 ≤ y6 → y6 ≤ 256 → jt (jxX E d 253 57 [some (.inr (.inr (.inl 146))), some (.inl y1), some (.inr (.inl y2)), none, some (.inl y4), some (.inl y5), some (.inl y6), none, none, none, none, none] [] (jxSH, a0, b)) (jQ_X12_best x1 x2 a0 b0) := by
    intro y1 y2 y4 y5 y6 b hm hi0 hi1 hi2 hi3 hi4 hi5 hi6 hi7
    refine jt_eq (bq_X12_best_57 E d y1 y2 y4 y5 y6 a0 b) ?_
    refine jt_ite (fun c321_ => ?_) (fun c321_ => ?_)
    ·
      have h322_ : jxw (y5 + 1) = y5 + 1 := jxw_id (by omega) (by omega)
      have h323_ : jxw (256 * (jxw (y5 + 1))) = 256 * (jxw (y5 + 1)) := jxw_id (by omega) (by omega)
      have h324_ : jxw ((jxw (256 * (jxw (y5 + 1)))) + y6) = (jxw (256 * (jxw (y5 + 1)))) + y6 := jxw_id (by omega) (by omega)
      refine jt_grd (by omega) ?_
      exact hc82 y1 y2 y4 y5 y6 (b 177 ((jxw ((jxw (256 * (jxw (y5 + 1)))) + y6)).toNat)) b (show (((((y5 + 1) * 5677) + 0) + ((256 - y6) * 22)) + 10).toNat ≤ n from by omega) (show 0 ≤ y1 from by omega) (show y1 ≤ 255 from by omega) (show 1 ≤ y4 from by omega) (show y4 ≤ 256 from by omega) (show 0 ≤ y5 from by omega) (show y5 ≤ 39 from by omega) (show 0 ≤ y6 from by omega) (show y6 ≤ 255 from by omega)
    ·
      have h325_ : jxw (y5 + (-1)) = y5 + (-1) := jxw_id (by omega) (by omega)
      exact ih49 y1 y2 y4 (jxw (y5 + (-1))) b (show ((((jxw (y5 + (-1))) + 1) * 5677) + 5676).toNat < n from by omega) (show 0 ≤ y1 from by omega) (show y1 ≤ 255 from by omega) (show 1 ≤ y4 from by omega) (show y4 ≤ 256 from by omega) (show 0 - 1 ≤ jxw (y5 + (-1)) from by omega) (show jxw (y5 + (-1)) ≤ 39 from by omega)
  have hc49 : ∀ (y1 y2 y4 y5 : Int) (b : Nat → Nat → Int), (((y5 + 1) * 5677) + 5676).toNat ≤ n → 0 ≤ y1 → y1 ≤ 255 → 1 ≤ y4 → y4 ≤ 256 → 0 - 1 ≤ y5 → y5 ≤ 39 → jt (jxX E d 253 49 [some (.inr (.inr (.inl 146))), some (.inl y1), some (.inr (.inl y2)), none, some (.inl y4), some (.inl y5), none, none, none, none, none, none] [] (jxSH, a0, b)) (jQ_X12_best x1 x2 a0 b0) := by
    intro y1 y2 y4 y5 b hm hi0 hi1 hi2 hi3 hi4 hi5
    refine jt_eq (bq_X12_best_49 E d y1 y2 y4 y5 a0 b) ?_
    refine jt_ite (fun c326_ => ?_) (fun c326_ => ?_)
    ·
      refine jt_grd (by omega) ?_
      exact jt_rJ rfl
    ·
      exact hc57 y1 y2 y4 y5 0 b (show (((((y5 + 1) * 5677) + 0) + ((256 - 0) * 22)) + 10).toNat ≤ n from by omega) (show 0 ≤ y1 from by omega) (show y1 ≤ 255 from by omega) (show 1 ≤ y4 from by omega) (show y4 ≤ 256 from by omega) (show 0 ≤ y5 from by omega) (show y5 ≤ 39 from by omega) (show 0 ≤ 0 from by omega) (show 0 ≤ 256 from by omega)
  exact ⟨hc192, hc175, hc115, hc217, hc85, hc82, hc57, hc49⟩
theorem cp_X12_best_11 (E : jxE) (d : Nat) (hd : Nat.ble 1 (d + 1) = true) (x1 x2 : Int) (a0 b0 : Nat → Nat → Int) (hv0 : iv a0) (hp0 : (0 ≤ x1 ∧ x1 ≤ 255)) : ∀ n : Nat, (∀ (y1 y2 y4 y5 : Int) (b : Nat → Nat → Int), (((256 - y5) * 2) + 1).toNat ≤ n → 0 ≤ y1 → y1 ≤ 255 → 1 ≤ y4 → y4 ≤ 256 → 1 ≤ y5 → y5 ≤ 256 → jt (jxX E d 253 38 [some (.inr (.inr (.inl 146))), some (.inl y1), some (.inr (.inl y2)), none, some (.inl y4), some (.inl y5), none, none, none, none, none, none] [] (jxSH, a0, b)) (jQ_X12_best x1 x2 a0 b0)) ∧ (∀ (y1 y2 y4 y5 : Int) (b : Nat → Nat → Int), (((256 - y5) * 2) + 0).toNat ≤ n → 0 ≤ y1 → y1 ≤ 255 → 1 ≤ y4 → y4 ≤ 256 → 0 ≤ y5 → y5 ≤ 256 → jt (jxX E d 253 11 [some (.inr (.inr (.inl 146))), some (.inl y1), some (.inr (.inl y2)), none, some (.inl y4), some (.inl y5), none, none, none, none, none, none] [] (jxSH, a0, b)) (jQ_X12_best x1 x2 a0 b0)) := by
  refine jx_ind fun n ih => ?_
  have ih38 : ∀ (y1 y2 y4 y5 : Int) (b : Nat → Nat → Int), (((256 - y5) * 2) + 1).toNat < n → 0 ≤ y1 → y1 ≤ 255 → 1 ≤ y4 → y4 ≤ 256 → 1 ≤ y5 → y5 ≤ 256 → jt (jxX E d 253 38 [some (.inr (.inr (.inl 146))), some (.inl y1), some (.inr (.inl y2)), none, some (.inl y4), some (.inl y5), none, none, none, none, none, none] [] (jxSH, a0, b)) (jQ_X12_best x1 x2 a0 b0) := fun y1 y2 y4 y5 b hlt i0 i1 i2 i3 i4 i5 => (ih _ hlt).1 y1 y2 y4 y5 b (Nat.le_refl _) i0 i1 i2 i3 i4 i5
  have ih11 : ∀ (y1 y2 y4 y5 : Int) (b : Nat → Nat → Int), (((256 - y5) * 2) + 0).toNat < n → 0 ≤ y1 → y1 ≤ 255 → 1 ≤ y4 → y4 ≤ 256 → 0 ≤ y5 → y5 ≤ 256 → jt (jxX E d 253 11 [some (.inr (.inr (.inl 146))), some (.inl y1), some (.inr (.inl y2)), none, some (.inl y4), some (.inl y5), none, none, none, none, none, none] [] (jxSH, a0, b)) (jQ_X12_best x1 x2 a0 b0) := fun y1 y2 y4 y5 b hlt i0 i1 i2 i3 i4 i5 => (ih _ hlt).2 y1 y2 y4 y5 b (Nat.le_refl _) i0 i1 i2 i3 i4 i5
  have hc38 : ∀ (y1 y2 y4 y5 : Int) (b : Nat → Nat → Int), (((256 - y5) * 2) + 1).toNat ≤ n → 0 ≤ y1 → y1 ≤ 255 → 1 ≤ y4 → y4 ≤ 256 → 1 ≤ y5 → y5 ≤ 256 → jt (jxX E d 253 38 [some (.inr (.inr (.inl 146))), some (.inl y1), some (.inr (.inl y2)), none, some (.inl y4), some (.inl y5), none, none, none, none, none, none] [] (jxSH, a0, b)) (jQ_X12_best x1 x2 a0 b0) := by
    intro y1 y2 y4 y5 b hm hi0 hi1 hi2 hi3 hi4 hi5
    refine jt_eq (bq_X12_best_38 E d y1 y2 y4 y5 a0 b) ?_
    exact ih11 y1 y2 y4 y5 b (show (((256 - y5) * 2) + 0).toNat < n from by omega) (show 0 ≤ y1 from by omega) (show y1 ≤ 255 from by omega) (show 1 ≤ y4 from by omega) (show y4 ≤ 256 from by omega) (show 0 ≤ y5 from by omega) (show y5 ≤ 256 from by omega)
  have hc11 : ∀ (y1 y2 y4 y5 : Int) (b : Nat → Nat → Int), (((256 - y5) * 2) + 0).toNat ≤ n → 0 ≤ y1 → y1 ≤ 255 → 1 ≤ y4 → y4 ≤ 256 → 0 ≤ y5 → y5 ≤ 256 → jt (jxX E d 253 11 [some (.inr (.inr (.inl 146))), some (.inl y1), some (.inr (.inl y2)), none, some (.inl y4), some (.inl y5), none, none, none, none, none, none] [] (jxSH, a0, b)) (jQ_X12_best x1 x2 a0 b0) := by
    intro y1 y2 y4 y5 b hm hi0 hi1 hi2 hi3 hi4 hi5
    refine jt_eq (bq_X12_best_11 E d y1 y2 y4 y5 a0 b) ?_
    refine jt_ite (fun c327_ => ?_) (fun c327_ => ?_)
    ·
      have h328_ := iv_get hv0 (k := 146) (j := 2) (l := 0) (u := 40) rfl
      have h329_ : jxw (256 * (a0 146 2)) = 256 * (a0 146 2) := jxw_id (by omega) (by omega)
      have h330_ : jxw ((jxw (256 * (a0 146 2))) + y5) = (jxw (256 * (a0 146 2))) + y5 := jxw_id (by omega) (by omega)
      refine jt_grd (by omega) ?_
      have h331_ : jxw (y5 + 1) = y5 + 1 := jxw_id (by omega) (by omega)
      exact hc38 y1 y2 y4 (jxw (y5 + 1)) (jxu b 177 ((jxw ((jxw (256 * (a0 146 2))) + y5)).toNat) 0) (show (((256 - (jxw (y5 + 1))) * 2) + 1).toNat ≤ n from by omega) (show 0 ≤ y1 from by omega) (show y1 ≤ 255 from by omega) (show 1 ≤ y4 from by omega) (show y4 ≤ 256 from by omega) (show 1 ≤ jxw (y5 + 1) from by omega) (show jxw (y5 + 1) ≤ 256 from by omega)
    ·
      have h332_ := iv_get hv0 (k := 146) (j := 2) (l := 0) (u := 40) rfl
      have h333_ : jxw ((a0 146 2) - 1) = (a0 146 2) - 1 := jxw_id (by omega) (by omega)
      exact (cp_X12_best_49 E d hd x1 x2 a0 b0 hv0 hp0 _).2.2.2.2.2.2.2 y1 y2 y4 (jxw ((a0 146 2) - 1)) b (Nat.le_refl _) (show 0 ≤ y1 from by omega) (show y1 ≤ 255 from by omega) (show 1 ≤ y4 from by omega) (show y4 ≤ 256 from by omega) (show 0 - 1 ≤ jxw ((a0 146 2) - 1) from by omega) (show jxw ((a0 146 2) - 1) ≤ 39 from by omega)
  exact ⟨hc38, hc11⟩
theorem sp_X12_best (E : jxE) (d : Nat) (hd : Nat.ble 1 d = true) (x1 x2 : Int) (a0 b0 : Nat → Nat → Int) (hv0 : iv a0) (hp0 : (0 ≤ x1 ∧ x1 ≤ 255)) : jt (jxC E d 253 [.inr (.inr (.inl 146)), .inl x1, .inr (.inl x2)] (jxSH, a0, b0)) (jQ_X12_best x1 x2 a0 b0) := by
  obtain ⟨d, rfl⟩ := jd_succ hd
  refine jt_eq (bq_X12_best E d x1 x2 a0 b0) ?_
  have h334_ := iv_get hv0 (k := 146) (j := 44) (l := 0) (u := 8) rfl
  have h335_ := jxshl1_b (a0 146 44)
  exact (cp_X12_best_11 E d hd x1 x2 a0 b0 hv0 hp0 _).2 x1 x2 (jxshl 1 (a0 146 44)) 0 b0 (Nat.le_refl _) (show 0 ≤ x1 from by omega) (show x1 ≤ 255 from by omega) (show 1 ≤ jxshl 1 (a0 146 44) from by omega) (show jxshl 1 (a0 146 44) ≤ 256 from by omega) (show 0 ≤ 0 from by omega) (show 0 ≤ 256 from by omega)
abbrev jQ_X12_card (x1 x2 : Int) (a0 b0 : Nat → Nat → Int) : List jxV → (Nat → Nat → Int) → (Nat → Nat → Int) → Prop := rI (fun r a b => (a0 = a) ∧ (b0 = b) ∧ ((a0 146 9 = 0 → r = 0 - 1)))
theorem sp_X12_card (E : jxE) (d : Nat) (hd : Nat.ble 2 d = true) (x1 x2 : Int) (a0 b0 : Nat → Nat → Int) (hv0 : iv a0) : jt (jxC E d 259 [.inr (.inr (.inl 146)), .inl x1, .inl x2] (jxSH, a0, b0)) (jQ_X12_card x1 x2 a0 b0) := by
  obtain ⟨d, rfl⟩ := jd_succ hd
  refine jt_eq (bq_X12_card E d x1 x2 a0 b0) ?_
  refine jt_eI (eq_X12_in E d (jd_le hd rfl) x1 0 (jxw ((a0 146 9) - 1)) a0 b0) ?_
  have h336_ := iv_get hv0 (k := 146) (j := 9) (l := 0) (u := 300) rfl
  have h337_ : jxw ((a0 146 9) - 1) = (a0 146 9) - 1 := jxw_id (by omega) (by omega)
  have h338_ := f_X12_in_eq a0 b0 x1 0 (jxw ((a0 146 9) - 1))
  refine jt_ite (fun c339_ => ?_) (fun c339_ => ?_)
  ·
    exact jt_rI ⟨rfl, rfl, (show (a0 146 9 = 0 → (-1) = 0 - 1) from by omega)⟩
  ·
    refine jt_ite (fun c340_ => ?_) (fun c340_ => ?_)
    ·
      exact jt_rI ⟨rfl, rfl, (show (a0 146 9 = 0 → (-1) = 0 - 1) from by omega)⟩
    ·
      refine jt_ite (fun c341_ => ?_) (fun c341_ => ?_)
      ·
        refine jt_grd (by omega) ?_
        have h342_ := iv_get hv0 (k := 154) (j := x1.toNat) (l := 0) (u := 39) rfl
        exact jt_rI ⟨rfl, rfl, (show (a0 146 9 = 0 → a0 154 (x1.toNat) = 0 - 1) from by omega)⟩
      ·
        refine jt_ite (fun c343_ => ?_) (fun c343_ => ?_)
        ·
          refine jt_grd (by omega) ?_
          have h344_ := iv_get hv0 (k := 155) (j := x1.toNat) (l := 0) (u := 39) rfl
          exact jt_rI ⟨rfl, rfl, (show (a0 146 9 = 0 → a0 155 (x1.toNat) = 0 - 1) from by omega)⟩
        ·
          refine jt_ite (fun c345_ => ?_) (fun c345_ => ?_)
          ·
            refine jt_grd (by omega) ?_
            have h346_ := iv_get hv0 (k := 156) (j := x1.toNat) (l := 0) (u := 1999) rfl
            exact jt_rI ⟨rfl, rfl, (show (a0 146 9 = 0 → a0 156 (x1.toNat) = 0 - 1) from by omega)⟩
          ·
            refine jt_ite (fun c347_ => ?_) (fun c347_ => ?_)
            ·
              refine jt_grd (by omega) ?_
              exact jt_rI ⟨rfl, rfl, (show (a0 146 9 = 0 → a0 157 (x1.toNat) = 0 - 1) from by omega)⟩
            ·
              refine jt_ite (fun c348_ => ?_) (fun c348_ => ?_)
              ·
                refine jt_bI (sp_X12_arrival E d (jd_le hd rfl) x1 (a0 146 0) a0 b0 hv0 (show (0 ≤ x1 ∧ x1 ≤ 299) from by omega)) (fun r349_ a349_ b349_ h349_ => ?_)
                obtain ⟨rfl, rfl⟩ := h349_
                exact jt_rI ⟨rfl, rfl, (show (a0 146 9 = 0 → r349_ = 0 - 1) from by omega)⟩
              ·
                refine jt_ite (fun c350_ => ?_) (fun c350_ => ?_)
                ·
                  refine jt_grd (by omega) ?_
                  exact jt_rI ⟨rfl, rfl, (show (a0 146 9 = 0 → a0 158 (x1.toNat) = 0 - 1) from by omega)⟩
                ·
                  refine jt_ite (fun c351_ => ?_) (fun c351_ => ?_)
                  ·
                    refine jt_grd (by omega) ?_
                    exact jt_rI ⟨rfl, rfl, (show (a0 146 9 = 0 → a0 159 (x1.toNat) = 0 - 1) from by omega)⟩
                  ·
                    exact absurd (by omega : False) id
abbrev jQ_X12_cardOf (x1 x2 : Int) (a0 b0 : Nat → Nat → Int) : List jxV → (Nat → Nat → Int) → (Nat → Nat → Int) → Prop := rI (fun r a b => (a0 = a) ∧ (b0 = b) ∧ (0 - 1 ≤ r) ∧ (r ≤ 299) ∧ (r < a0 146 9) ∧ ((∃ c : Nat, (c : Int) < a0 146 9 ∧ a0 158 c = x1 ∧ a0 154 c = x2) → 0 ≤ r))
theorem cp_X12_cardOf_30 (E : jxE) (d : Nat) (hd : Nat.ble 1 (d + 1) = true) (x1 x2 : Int) (a0 b0 : Nat → Nat → Int) (hv0 : iv a0) : ∀ (y3 : Int), 0 ≤ y3 → y3 ≤ 299 → 0 ≤ y3 → y3 < a0 146 9 → jt (jxX E d 275 30 [none, none, none, some (.inl y3)] [] (jxSH, a0, b0)) (jQ_X12_cardOf x1 x2 a0 b0) := by
  intro y3 hi0 hi1 hi2 hi3
  refine jt_eq (bq_X12_cardOf_30 E d y3 a0 b0) ?_
  have h352_ := iv_get hv0 (k := 146) (j := 9) (l := 0) (u := 300) rfl
  exact jt_rI ⟨rfl, rfl, (show 0 - 1 ≤ y3 from by omega), (show y3 ≤ 299 from by omega), (show y3 < a0 146 9 from by omega), (by first | (rintro ⟨c, h1, h2, h3⟩; exact absurd ⟨h2, h3⟩ (hne c (by omega))) | (intro _; omega))⟩
theorem cp_X12_cardOf_2 (E : jxE) (d : Nat) (hd : Nat.ble 1 (d + 1) = true) (x1 x2 : Int) (a0 b0 : Nat → Nat → Int) (hv0 : iv a0) : ∀ n : Nat, (∀ (y1 y2 y3 : Int), (((300 - y3) * 1) + 0).toNat ≤ n → 0 ≤ y3 → y3 ≤ 299 → y1 = x1 → y2 = x2 → 0 ≤ y3 → y3 < a0 146 9 → (∀ c : Nat, (c : Int) ≤ y3 → ¬ (a0 158 c = x1 ∧ a0 154 c = x2)) → jt (jxX E d 275 32 [some (.inr (.inr (.inl 146))), some (.inl y1), some (.inl y2), some (.inl y3)] [] (jxSH, a0, b0)) (jQ_X12_cardOf x1 x2 a0 b0)) ∧ (∀ (y1 y2 y3 : Int), (((300 - y3) * 1) + 0).toNat ≤ n → 0 ≤ y3 → y3 ≤ 300 → y1 = x1 → y2 = x2 → 0 ≤ y3 → (∀ c : Nat, (c : Int) < y3 → ¬ (a0 158 c = x1 ∧ a0 154 c = x2)) → jt (jxX E d 275 2 [some (.inr (.inr (.inl 146))), some (.inl y1), some (.inl y2), some (.inl y3)] [] (jxSH, a0, b0)) (jQ_X12_cardOf x1 x2 a0 b0)) := by
  refine jx_ind fun n ih => ?_
  have ih32 : ∀ (y1 y2 y3 : Int), (((300 - y3) * 1) + 0).toNat < n → 0 ≤ y3 → y3 ≤ 299 → y1 = x1 → y2 = x2 → 0 ≤ y3 → y3 < a0 146 9 → (∀ c : Nat, (c : Int) ≤ y3 → ¬ (a0 158 c = x1 ∧ a0 154 c = x2)) → jt (jxX E d 275 32 [some (.inr (.inr (.inl 146))), some (.inl y1), some (.inl y2), some (.inl y3)] [] (jxSH, a0, b0)) (jQ_X12_cardOf x1 x2 a0 b0) := fun y1 y2 y3 hlt i0 i1 i2 i3 i4 i5 i6 => (ih _ hlt).1 y1 y2 y3 (Nat.le_refl _) i0 i1 i2 i3 i4 i5 i6
  have ih2 : ∀ (y1 y2 y3 : Int), (((300 - y3) * 1) + 0).toNat < n → 0 ≤ y3 → y3 ≤ 300 → y1 = x1 → y2 = x2 → 0 ≤ y3 → (∀ c : Nat, (c : Int) < y3 → ¬ (a0 158 c = x1 ∧ a0 154 c = x2)) → jt (jxX E d 275 2 [some (.inr (.inr (.inl 146))), some (.inl y1), some (.inl y2), some (.inl y3)] [] (jxSH, a0, b0)) (jQ_X12_cardOf x1 x2 a0 b0) := fun y1 y2 y3 hlt i0 i1 i2 i3 i4 i5 => (ih _ hlt).2 y1 y2 y3 (Nat.le_refl _) i0 i1 i2 i3 i4 i5
  have hc32 : ∀ (y1 y2 y3 : Int), (((300 - y3) * 1) + 0).toNat ≤ n → 0 ≤ y3 → y3 ≤ 299 → y1 = x1 → y2 = x2 → 0 ≤ y3 → y3 < a0 146 9 → (∀ c : Nat, (c : Int) ≤ y3 → ¬ (a0 158 c = x1 ∧ a0 154 c = x2)) → jt (jxX E d 275 32 [some (.inr (.inr (.inl 146))), some (.inl y1), some (.inl y2), some (.inl y3)] [] (jxSH, a0, b0)) (jQ_X12_cardOf x1 x2 a0 b0) := by
    intro y1 y2 y3 hm hi0 hi1 hi2 hi3 hi4 hi5 hne
    refine jt_eq (bq_X12_cardOf_32 E d y1 y2 y3 a0 b0) ?_
    have h353_ := iv_get hv0 (k := 146) (j := 9) (l := 0) (u := 300) rfl
    have h354_ : jxw (y3 + 1) = y3 + 1 := jxw_id (by omega) (by omega)
    exact ih2 y1 y2 (jxw (y3 + 1)) (show (((300 - (jxw (y3 + 1))) * 1) + 0).toNat < n from by omega) (show 0 ≤ jxw (y3 + 1) from by omega) (show jxw (y3 + 1) ≤ 300 from by omega) (show y1 = x1 from by omega) (show y2 = x2 from by omega) (show 0 ≤ jxw (y3 + 1) from by omega) (by first | (intro c hc; exact hne c (by omega)) | (intro c hc; omega))
  have hc2 : ∀ (y1 y2 y3 : Int), (((300 - y3) * 1) + 0).toNat ≤ n → 0 ≤ y3 → y3 ≤ 300 → y1 = x1 → y2 = x2 → 0 ≤ y3 → (∀ c : Nat, (c : Int) < y3 → ¬ (a0 158 c = x1 ∧ a0 154 c = x2)) → jt (jxX E d 275 2 [some (.inr (.inr (.inl 146))), some (.inl y1), some (.inl y2), some (.inl y3)] [] (jxSH, a0, b0)) (jQ_X12_cardOf x1 x2 a0 b0) := by
    intro y1 y2 y3 hm hi0 hi1 hi2 hi3 hi4 hne
    refine jt_eq (bq_X12_cardOf_2 E d y1 y2 y3 a0 b0) ?_
    have h355_ := iv_get hv0 (k := 146) (j := 9) (l := 0) (u := 300) rfl
    refine jt_ite (fun c356_ => ?_) (fun c356_ => ?_)
    ·
      refine jt_grd (by omega) ?_
      refine jt_ite (fun c357_ => ?_) (fun c357_ => ?_)
      ·
        refine jt_grd (by omega) ?_
        have h358_ := iv_get hv0 (k := 154) (j := y3.toNat) (l := 0) (u := 39) rfl
        refine jt_ite (fun c359_ => ?_) (fun c359_ => ?_)
        ·
          exact cp_X12_cardOf_30 E d hd x1 x2 a0 b0 hv0 y3 (show 0 ≤ y3 from by omega) (show y3 ≤ 299 from by omega) (show 0 ≤ y3 from by omega) (show y3 < a0 146 9 from by omega)
        ·
          exact hc32 y1 y2 y3 (show (((300 - y3) * 1) + 0).toNat ≤ n from by omega) (show 0 ≤ y3 from by omega) (show y3 ≤ 299 from by omega) (show y1 = x1 from by omega) (show y2 = x2 from by omega) (show 0 ≤ y3 from by omega) (show y3 < a0 146 9 from by omega) (by intro c hc hh; rcases Int.lt_or_le (c : Int) y3 with h | h <;> first | exact hne c h hh | (obtain rfl : c = y3.toNat := (by omega); omega))
      ·
        exact hc32 y1 y2 y3 (show (((300 - y3) * 1) + 0).toNat ≤ n from by omega) (show 0 ≤ y3 from by omega) (show y3 ≤ 299 from by omega) (show y1 = x1 from by omega) (show y2 = x2 from by omega) (show 0 ≤ y3 from by omega) (show y3 < a0 146 9 from by omega) (by intro c hc hh; rcases Int.lt_or_le (c : Int) y3 with h | h <;> first | exact hne c h hh | (obtain rfl : c = y3.toNat := (by omega); omega))
    ·
      exact jt_rI ⟨rfl, rfl, (show 0 - 1 ≤ (-1) from by omega), (show (-1) ≤ 299 from by omega), (show (-1) < a0 146 9 from by omega), (by first | (rintro ⟨c, h1, h2, h3⟩; exact absurd ⟨h2, h3⟩ (hne c (by omega))) | (intro _; omega))⟩
  exact ⟨hc32, hc2⟩
theorem sp_X12_cardOf (E : jxE) (d : Nat) (hd : Nat.ble 1 d = true) (x1 x2 : Int) (a0 b0 : Nat → Nat → Int) (hv0 : iv a0) : jt (jxC E d 275 [.inr (.inr (.inl 146)), .inl x1, .inl x2] (jxSH, a0, b0)) (jQ_X12_cardOf x1 x2 a0 b0) := by
  obtain ⟨d, rfl⟩ := jd_succ hd
  refine jt_eq (bq_X12_cardOf E d x1 x2 a0 b0) ?_
  exact (cp_X12_cardOf_2 E d hd x1 x2 a0 b0 hv0 _).2 x1 x2 0 (Nat.le_refl _) (show 0 ≤ 0 from by omega) (show 0 ≤ 300 from by omega) (show x1 = x1 from by omega) (show x2 = x2 from by omega) (show 0 ≤ 0 from by omega) (by first | (intro c hc; exact hne c (by omega)) | (intro c hc; omega))
def jW_X12_clock : List (Nat × Nat) := [(146, 0)]
abbrev jQ_X12_clock (x1 : Int) (a0 b0 : Nat → Nat → Int) : List jxV → (Nat → Nat → Int) → (Nat → Nat → Int) → Prop := rI (fun r a b => (iv a) ∧ (jfr jW_X12_clock a0 a) ∧ (b0 = b) ∧ ((0 ≤ r ∧ r ≤ 1)) ∧ (((((r = 1 ∧ a0 146 0 ≤ x1) ∧ x1 ≤ 1999) ∧ a 146 0 = x1) ∨ ((r = 0 ∧ (x1 < a0 146 0 ∨ 1999 < x1)) ∧ a 146 0 = a0 146 0))))
theorem sp_X12_clock (E : jxE) (d : Nat) (hd : Nat.ble 2 d = true) (x1 : Int) (a0 b0 : Nat → Nat → Int) (hv0 : iv a0) : jt (jxC E d 208 [.inr (.inr (.inl 146)), .inl x1] (jxSH, a0, b0)) (jQ_X12_clock x1 a0 b0) := by
  obtain ⟨d, rfl⟩ := jd_succ hd
  refine jt_eq (bq_X12_clock E d x1 a0 b0) ?_
  refine jt_eI (eq_X12_in E d (jd_le hd rfl) x1 (a0 146 0) 1999 a0 b0) ?_
  have h360_ := iv_get hv0 (k := 146) (j := 0) (l := 0) (u := 1999) rfl
  have h361_ := f_X12_in_eq a0 b0 x1 (a0 146 0) 1999
  refine jt_ite (fun c362_ => ?_) (fun c362_ => ?_)
  ·
    exact jt_rI ⟨hv0, (jfr_rf _ _), rfl, (show (0 ≤ 0 ∧ 0 ≤ 1) from by omega), (show ((((0 = 1 ∧ a0 146 0 ≤ x1) ∧ x1 ≤ 1999) ∧ a0 146 0 = x1) ∨ ((0 = 0 ∧ (x1 < a0 146 0 ∨ 1999 < x1)) ∧ a0 146 0 = a0 146 0)) from by omega)⟩
  ·
    have hv363_ : iv (jxu a0 146 0 x1) := iv_put hv0 (l := 0) (u := 1999) rfl (by omega) (by omega)
    have hf364_ : jfr jW_X12_clock a0 (jxu a0 146 0 x1) := jfr_put (jfr_rf _ _) rfl
    exact jt_rI ⟨hv363_, hf364_, rfl, (show (0 ≤ 1 ∧ 1 ≤ 1) from by omega), (show ((((1 = 1 ∧ a0 146 0 ≤ x1) ∧ x1 ≤ 1999) ∧ x1 = x1) ∨ ((1 = 0 ∧ (x1 < a0 146 0 ∨ 1999 < x1)) ∧ x1 = a0 146 0)) from by omega)⟩
abbrev jQ_X12_count (x1 : Int) (a0 b0 : Nat → Nat → Int) : List jxV → (Nat → Nat → Int) → (Nat → Nat → Int) → Prop := rI (fun r a b => (a0 = a) ∧ (b0 = b) ∧ ((x1 = 0 → r = a0 146 0)) ∧ ((x1 = 1 → r = a0 146 2)) ∧ ((x1 = 3 → r = a0 146 9)) ∧ ((x1 = 4 → r = a0 146 17)) ∧ ((x1 = 5 → r = a0 146 49)) ∧ ((x1 = 6 → r = a0 146 55)) ∧ ((x1 = 7 → r = a0 146 68)) ∧ ((x1 = 8 → r = a0 146 22)) ∧ ((x1 = 9 → r = a0 146 42)) ∧ (((x1 = 2 ∧ a0 146 2 = 0) → r = 0)) ∧ (10 ≤ x1 ∧ x1 ≤ 14 → r = a0 171 (jxw (x1 - 10)).toNat) ∧ (20 ≤ x1 ∧ x1 ≤ 27 → r = a0 197 (jxw (x1 - 20)).toNat) ∧ (30 ≤ x1 ∧ x1 ≤ 37 → r = a0 196 (jxw (x1 - 30)).toNat) ∧ (((((x1 < 0 ∨ (14 < x1 ∧ x1 < 20)) ∨ (27 < x1 ∧ x1 < 30)) ∨ 37 < x1) → r = 0 - 1)))
theorem cp_X12_count_68 (E : jxE) (d : Nat) (hd : Nat.ble 2 (d + 1) = true) (x1 : Int) (a0 b0 : Nat → Nat → Int) (hv0 : iv a0) : ∀ n : Nat, (∀ (y2 y3 : Int), (((40 - y3) * 1) + 0).toNat ≤ n → 0 ≤ y3 → y3 ≤ 39 → x1 = 2 → (a0 146 2 = 0 → y2 = 0) → jt (jxX E d 289 93 [some (.inr (.inr (.inl 146))), none, some (.inl y2), some (.inl y3)] [] (jxSH, a0, b0)) (jQ_X12_count x1 a0 b0)) ∧ (∀ (y2 y3 : Int), (((40 - y3) * 1) + 0).toNat ≤ n → 0 ≤ y3 → y3 ≤ 40 → x1 = 2 → (a0 146 2 = 0 → y2 = 0) → jt (jxX E d 289 68 [some (.inr (.inr (.inl 146))), none, some (.inl y2), some (.inl y3)] [] (jxSH, a0, b0)) (jQ_X12_count x1 a0 b0)) := by
  refine jx_ind fun n ih => ?_
  have ih93 : ∀ (y2 y3 : Int), (((40 - y3) * 1) + 0).toNat < n → 0 ≤ y3 → y3 ≤ 39 → x1 = 2 → (a0 146 2 = 0 → y2 = 0) → jt (jxX E d 289 93 [some (.inr (.inr (.inl 146))), none, some (.inl y2), some (.inl y3)] [] (jxSH, a0, b0)) (jQ_X12_count x1 a0 b0) := fun y2 y3 hlt i0 i1 i2 i3 => (ih _ hlt).1 y2 y3 (Nat.le_refl _) i0 i1 i2 i3
  have ih68 : ∀ (y2 y3 : Int), (((40 - y3) * 1) + 0).toNat < n → 0 ≤ y3 → y3 ≤ 40 → x1 = 2 → (a0 146 2 = 0 → y2 = 0) → jt (jxX E d 289 68 [some (.inr (.inr (.inl 146))), none, some (.inl y2), some (.inl y3)] [] (jxSH, a0, b0)) (jQ_X12_count x1 a0 b0) := fun y2 y3 hlt i0 i1 i2 i3 => (ih _ hlt).2 y2 y3 (Nat.le_refl _) i0 i1 i2 i3
  have hc93 : ∀ (y2 y3 : Int), (((40 - y3) * 1) + 0).toNat ≤ n → 0 ≤ y3 → y3 ≤ 39 → x1 = 2 → (a0 146 2 = 0 → y2 = 0) → jt (jxX E d 289 93 [some (.inr (.inr (.inl 146))), none, some (.inl y2), some (.inl y3)] [] (jxSH, a0, b0)) (jQ_X12_count x1 a0 b0) := by
    intro y2 y3 hm hi0 hi1 hi2 hi3
    refine jt_eq (bq_X12_count_93 E d y2 y3 a0 b0) ?_
    have h365_ := iv_get hv0 (k := 146) (j := 2) (l := 0) (u := 40) rfl
    have h366_ : jxw (y3 + 1) = y3 + 1 := jxw_id (by omega) (by omega)
    exact ih68 y2 (jxw (y3 + 1)) (show (((40 - (jxw (y3 + 1))) * 1) + 0).toNat < n from by omega) (show 0 ≤ jxw (y3 + 1) from by omega) (show jxw (y3 + 1) ≤ 40 from by omega) (show x1 = 2 from by omega) (show (a0 146 2 = 0 → y2 = 0) from by omega)
  have hc68 : ∀ (y2 y3 : Int), (((40 - y3) * 1) + 0).toNat ≤ n → 0 ≤ y3 → y3 ≤ 40 → x1 = 2 → (a0 146 2 = 0 → y2 = 0) → jt (jxX E d 289 68 [some (.inr (.inr (.inl 146))), none, some (.inl y2), some (.inl y3)] [] (jxSH, a0, b0)) (jQ_X12_count x1 a0 b0) := by
    intro y2 y3 hm hi0 hi1 hi2 hi3
    refine jt_eq (bq_X12_count_68 E d y2 y3 a0 b0) ?_
    have h367_ := iv_get hv0 (k := 146) (j := 2) (l := 0) (u := 40) rfl
    refine jt_ite (fun c368_ => ?_) (fun c368_ => ?_)
    ·
      refine jt_grd (by omega) ?_
      have h369_ := iv_get hv0 (k := 152) (j := y3.toNat) (l := 0) (u := 1) rfl
      refine jt_ite (fun c370_ => ?_) (fun c370_ => ?_)
      ·
        have h371_ := jxw_im (y2 + 0)
        have h372_ := jxw_rg (y2 + 0)
        exact hc93 (jxw (y2 + 0)) y3 (show (((40 - y3) * 1) + 0).toNat ≤ n from by omega) (show 0 ≤ y3 from by omega) (show y3 ≤ 39 from by omega) (show x1 = 2 from by omega) (show (a0 146 2 = 0 → jxw (y2 + 0) = 0) from by omega)
      ·
        have h373_ := jxw_im (y2 + 1)
        have h374_ := jxw_rg (y2 + 1)
        exact hc93 (jxw (y2 + 1)) y3 (show (((40 - y3) * 1) + 0).toNat ≤ n from by omega) (show 0 ≤ y3 from by omega) (show y3 ≤ 39 from by omega) (show x1 = 2 from by omega) (show (a0 146 2 = 0 → jxw (y2 + 1) = 0) from by omega)
    ·
      have h375_ := iv_get hv0 (k := 146) (j := 0) (l := 0) (u := 1999) rfl
      have h376_ := iv_get hv0 (k := 146) (j := 9) (l := 0) (u := 300) rfl
      have h377_ := iv_get hv0 (k := 146) (j := 17) (l := 0) (u := 600) rfl
      have h378_ := iv_get hv0 (k := 146) (j := 49) (l := 0) (u := 20) rfl
      have h379_ := iv_get hv0 (k := 146) (j := 68) (l := 0) (u := 10) rfl
      have h380_ := iv_get hv0 (k := 146) (j := 22) (l := 0) (u := 200) rfl
      have h381_ := iv_get hv0 (k := 146) (j := 42) (l := 0) (u := 8) rfl
      exact jt_rI ⟨rfl, rfl, (show (x1 = 0 → y2 = a0 146 0) from by omega), (show (x1 = 1 → y2 = a0 146 2) from by omega), (show (x1 = 3 → y2 = a0 146 9) from by omega), (show (x1 = 4 → y2 = a0 146 17) from by omega), (show (x1 = 5 → y2 = a0 146 49) from by omega), (show (x1 = 6 → y2 = a0 146 55) from by omega), (show (x1 = 7 → y2 = a0 146 68) from by omega), (show (x1 = 8 → y2 = a0 146 22) from by omega), (show (x1 = 9 → y2 = a0 146 42) from by omega), (show ((x1 = 2 ∧ a0 146 2 = 0) → y2 = 0) from by omega), (by first | omega | (rw [← hyx]; omega)), (by first | omega | (rw [← hyx]; omega)), (by first | omega | (rw [← hyx]; omega)), (show ((((x1 < 0 ∨ (14 < x1 ∧ x1 < 20)) ∨ (27 < x1 ∧ x1 < 30)) ∨ 37 < x1) → y2 = 0 - 1) from by omega)⟩
  exact ⟨hc93, hc68⟩
theorem cp_X12_count_168 (E : jxE) (d : Nat) (hd : Nat.ble 2 (d + 1) = true) (x1 : Int) (a0 b0 : Nat → Nat → Int) (hv0 : iv a0) : ∀ (y1 : Int), 20 ≤ y1 → y1 ≤ 27 → (y1 = x1) → (20 ≤ x1 ∧ x1 ≤ 27) → jt (jxX E d 289 168 [some (.inr (.inr (.inl 146))), some (.inl y1), none, none] [] (jxSH, a0, b0)) (jQ_X12_count x1 a0 b0) := by
  intro y1 hi0 hi1 hyx hi3
  refine jt_eq (bq_X12_count_168 E d y1 a0 b0) ?_
  have h382_ : jxw (y1 - 20) = y1 - 20 := jxw_id (by omega) (by omega)
  refine jt_grd (by omega) ?_
  have h383_ := iv_get hv0 (k := 197) (j := (jxw (y1 - 20)).toNat) (l := 0) (u := 50) rfl
  have h384_ := iv_get hv0 (k := 146) (j := 0) (l := 0) (u := 1999) rfl
  have h385_ := iv_get hv0 (k := 146) (j := 2) (l := 0) (u := 40) rfl
  have h386_ := iv_get hv0 (k := 146) (j := 9) (l := 0) (u := 300) rfl
  have h387_ := iv_get hv0 (k := 146) (j := 17) (l := 0) (u := 600) rfl
  have h388_ := iv_get hv0 (k := 146) (j := 49) (l := 0) (u := 20) rfl
  have h389_ := iv_get hv0 (k := 146) (j := 68) (l := 0) (u := 10) rfl
  have h390_ := iv_get hv0 (k := 146) (j := 22) (l := 0) (u := 200) rfl
  have h391_ := iv_get hv0 (k := 146) (j := 42) (l := 0) (u := 8) rfl
  exact jt_rI ⟨rfl, rfl, (show (x1 = 0 → a0 197 ((jxw (y1 - 20)).toNat) = a0 146 0) from by omega), (show (x1 = 1 → a0 197 ((jxw (y1 - 20)).toNat) = a0 146 2) from by omega), (show (x1 = 3 → a0 197 ((jxw (y1 - 20)).toNat) = a0 146 9) from by omega), (show (x1 = 4 → a0 197 ((jxw (y1 - 20)).toNat) = a0 146 17) from by omega), (show (x1 = 5 → a0 197 ((jxw (y1 - 20)).toNat) = a0 146 49) from by omega), (show (x1 = 6 → a0 197 ((jxw (y1 - 20)).toNat) = a0 146 55) from by omega), (show (x1 = 7 → a0 197 ((jxw (y1 - 20)).toNat) = a0 146 68) from by omega), (show (x1 = 8 → a0 197 ((jxw (y1 - 20)).toNat) = a0 146 22) from by omega), (show (x1 = 9 → a0 197 ((jxw (y1 - 20)).toNat) = a0 146 42) from by omega), (show ((x1 = 2 ∧ a0 146 2 = 0) → a0 197 ((jxw (y1 - 20)).toNat) = 0) from by omega), (by first | omega | (rw [← hyx]; omega)), (by first | omega | (rw [← hyx]; omega)), (by first | omega | (rw [← hyx]; omega)), (show ((((x1 < 0 ∨ (14 < x1 ∧ x1 < 20)) ∨ (27 < x1 ∧ x1 < 30)) ∨ 37 < x1) → a0 197 ((jxw (y1 - 20)).toNat) = 0 - 1) from by omega)⟩
theorem cp_X12_count_178 (E : jxE) (d : Nat) (hd : Nat.ble 2 (d + 1) = true) (x1 : Int) (a0 b0 : Nat → Nat → Int) (hv0 : iv a0) : ∀ (y1 : Int), (y1 = x1) → (x1 < 0 ∨ 14 < x1) → (x1 < 20 ∨ 27 < x1) → jt (jxX E d 289 178 [some (.inr (.inr (.inl 146))), some (.inl y1), none, none] [] (jxSH, a0, b0)) (jQ_X12_count x1 a0 b0) := by
  intro y1 hyx hi1 hi2
  refine jt_eq (bq_X12_count_178 E d y1 a0 b0) ?_
  refine jt_eI (eq_X12_in E d (jd_le hd rfl) y1 30 37 a0 b0) ?_
  have h392_ := f_X12_in_eq a0 b0 y1 30 37
  refine jt_ite (fun c393_ => ?_) (fun c393_ => ?_)
  ·
    have h394_ := iv_get hv0 (k := 146) (j := 0) (l := 0) (u := 1999) rfl
    have h395_ := iv_get hv0 (k := 146) (j := 2) (l := 0) (u := 40) rfl
    have h396_ := iv_get hv0 (k := 146) (j := 9) (l := 0) (u := 300) rfl
    have h397_ := iv_get hv0 (k := 146) (j := 17) (l := 0) (u := 600) rfl
    have h398_ := iv_get hv0 (k := 146) (j := 49) (l := 0) (u := 20) rfl
    have h399_ := iv_get hv0 (k := 146) (j := 68) (l := 0) (u := 10) rfl
    have h400_ := iv_get hv0 (k := 146) (j := 22) (l := 0) (u := 200) rfl
    have h401_ := iv_get hv0 (k := 146) (j := 42) (l := 0) (u := 8) rfl
    exact jt_rI ⟨rfl, rfl, (show (x1 = 0 → (-1) = a0 146 0) from by omega), (show (x1 = 1 → (-1) = a0 146 2) from by omega), (show (x1 = 3 → (-1) = a0 146 9) from by omega), (show (x1 = 4 → (-1) = a0 146 17) from by omega), (show (x1 = 5 → (-1) = a0 146 49) from by omega), (show (x1 = 6 → (-1) = a0 146 55) from by omega), (show (x1 = 7 → (-1) = a0 146 68) from by omega), (show (x1 = 8 → (-1) = a0 146 22) from by omega), (show (x1 = 9 → (-1) = a0 146 42) from by omega), (show ((x1 = 2 ∧ a0 146 2 = 0) → (-1) = 0) from by omega), (by first | omega | (rw [← hyx]; omega)), (by first | omega | (rw [← hyx]; omega)), (by first | omega | (rw [← hyx]; omega)), (show ((((x1 < 0 ∨ (14 < x1 ∧ x1 < 20)) ∨ (27 < x1 ∧ x1 < 30)) ∨ 37 < x1) → (-1) = 0 - 1) from by omega)⟩
  ·
    have h402_ : jxw (y1 - 30) = y1 - 30 := jxw_id (by omega) (by omega)
    refine jt_grd (by omega) ?_
    have h403_ := iv_get hv0 (k := 196) (j := (jxw (y1 - 30)).toNat) (l := (-1)) (u := 500) rfl
    have h404_ := iv_get hv0 (k := 146) (j := 0) (l := 0) (u := 1999) rfl
    have h405_ := iv_get hv0 (k := 146) (j := 2) (l := 0) (u := 40) rfl
    have h406_ := iv_get hv0 (k := 146) (j := 9) (l := 0) (u := 300) rfl
    have h407_ := iv_get hv0 (k := 146) (j := 17) (l := 0) (u := 600) rfl
    have h408_ := iv_get hv0 (k := 146) (j := 49) (l := 0) (u := 20) rfl
    have h409_ := iv_get hv0 (k := 146) (j := 68) (l := 0) (u := 10) rfl
    have h410_ := iv_get hv0 (k := 146) (j := 22) (l := 0) (u := 200) rfl
    have h411_ := iv_get hv0 (k := 146) (j := 42) (l := 0) (u := 8) rfl
    exact jt_rI ⟨rfl, rfl, (show (x1 = 0 → a0 196 ((jxw (y1 - 30)).toNat) = a0 146 0) from by omega), (show (x1 = 1 → a0 196 ((jxw (y1 - 30)).toNat) = a0 146 2) from by omega), (show (x1 = 3 → a0 196 ((jxw (y1 - 30)).toNat) = a0 146 9) from by omega), (show (x1 = 4 → a0 196 ((jxw (y1 - 30)).toNat) = a0 146 17) from by omega), (show (x1 = 5 → a0 196 ((jxw (y1 - 30)).toNat) = a0 146 49) from by omega), (show (x1 = 6 → a0 196 ((jxw (y1 - 30)).toNat) = a0 146 55) from by omega), (show (x1 = 7 → a0 196 ((jxw (y1 - 30)).toNat) = a0 146 68) from by omega), (show (x1 = 8 → a0 196 ((jxw (y1 - 30)).toNat) = a0 146 22) from by omega), (show (x1 = 9 → a0 196 ((jxw (y1 - 30)).toNat) = a0 146 42) from by omega), (show ((x1 = 2 ∧ a0 146 2 = 0) → a0 196 ((jxw (y1 - 30)).toNat) = 0) from by omega), (by first | omega | (rw [← hyx]; omega)), (by first | omega | (rw [← hyx]; omega)), (by first | omega | (rw [← hyx]; omega)), (show ((((x1 < 0 ∨ (14 < x1 ∧ x1 < 20)) ∨ (27 < x1 ∧ x1 < 30)) ∨ 37 < x1) → a0 196 ((jxw (y1 - 30)).toNat) = 0 - 1) from by omega)⟩
theorem sp_X12_count (E : jxE) (d : Nat) (hd : Nat.ble 2 d = true) (x1 : Int) (a0 b0 : Nat → Nat → Int) (hv0 : iv a0) : jt (jxC E d 289 [.inr (.inr (.inl 146)), .inl x1] (jxSH, a0, b0)) (jQ_X12_count x1 a0 b0) := by
  obtain ⟨d, rfl⟩ := jd_succ hd
  refine jt_eq (bq_X12_count E d x1 a0 b0) ?_
  refine jt_ite (fun c412_ => ?_) (fun c412_ => ?_)
  ·
    refine jt_eI (eq_X12_in E d (jd_le hd rfl) x1 10 14 a0 b0) ?_
    have h413_ := f_X12_in_eq a0 b0 x1 10 14
    refine jt_ite (fun c414_ => ?_) (fun c414_ => ?_)
    ·
      refine jt_eI (eq_X12_in E d (jd_le hd rfl) x1 20 27 a0 b0) ?_
      have h415_ := f_X12_in_eq a0 b0 x1 20 27
      refine jt_ite (fun c416_ => ?_) (fun c416_ => ?_)
      ·
        exact cp_X12_count_178 E d hd x1 a0 b0 hv0 x1 (by first | rfl | assumption) (show (x1 < 0 ∨ 14 < x1) from by omega) (show (x1 < 20 ∨ 27 < x1) from by omega)
      ·
        exact cp_X12_count_168 E d hd x1 a0 b0 hv0 x1 (show 20 ≤ x1 from by omega) (show x1 ≤ 27 from by omega) (by first | rfl | assumption) (show (20 ≤ x1 ∧ x1 ≤ 27) from by omega)
    ·
      have h417_ : jxw (x1 - 10) = x1 - 10 := jxw_id (by omega) (by omega)
      refine jt_grd (by omega) ?_
      have h418_ := iv_get hv0 (k := 146) (j := 0) (l := 0) (u := 1999) rfl
      have h419_ := iv_get hv0 (k := 146) (j := 2) (l := 0) (u := 40) rfl
      have h420_ := iv_get hv0 (k := 146) (j := 9) (l := 0) (u := 300) rfl
      have h421_ := iv_get hv0 (k := 146) (j := 17) (l := 0) (u := 600) rfl
      have h422_ := iv_get hv0 (k := 146) (j := 49) (l := 0) (u := 20) rfl
      have h423_ := iv_get hv0 (k := 146) (j := 68) (l := 0) (u := 10) rfl
      have h424_ := iv_get hv0 (k := 146) (j := 22) (l := 0) (u := 200) rfl
      have h425_ := iv_get hv0 (k := 146) (j := 42) (l := 0) (u := 8) rfl
      exact jt_rI ⟨rfl, rfl, (show (x1 = 0 → a0 171 ((jxw (x1 - 10)).toNat) = a0 146 0) from by omega), (show (x1 = 1 → a0 171 ((jxw (x1 - 10)).toNat) = a0 146 2) from by omega), (show (x1 = 3 → a0 171 ((jxw (x1 - 10)).toNat) = a0 146 9) from by omega), (show (x1 = 4 → a0 171 ((jxw (x1 - 10)).toNat) = a0 146 17) from by omega), (show (x1 = 5 → a0 171 ((jxw (x1 - 10)).toNat) = a0 146 49) from by omega), (show (x1 = 6 → a0 171 ((jxw (x1 - 10)).toNat) = a0 146 55) from by omega), (show (x1 = 7 → a0 171 ((jxw (x1 - 10)).toNat) = a0 146 68) from by omega), (show (x1 = 8 → a0 171 ((jxw (x1 - 10)).toNat) = a0 146 22) from by omega), (show (x1 = 9 → a0 171 ((jxw (x1 - 10)).toNat) = a0 146 42) from by omega), (show ((x1 = 2 ∧ a0 146 2 = 0) → a0 171 ((jxw (x1 - 10)).toNat) = 0) from by omega), (by first | omega | (rw [← hyx]; omega)), (by first | omega | (rw [← hyx]; omega)), (by first | omega | (rw [← hyx]; omega)), (show ((((x1 < 0 ∨ (14 < x1 ∧ x1 < 20)) ∨ (27 < x1 ∧ x1 < 30)) ∨ 37 < x1) → a0 171 ((jxw (x1 - 10)).toNat) = 0 - 1) from by omega)⟩
  ·
    refine jt_ite (fun c426_ => ?_) (fun c426_ => ?_)
    ·
      have h427_ := iv_get hv0 (k := 146) (j := 0) (l := 0) (u := 1999) rfl
      have h428_ := iv_get hv0 (k := 146) (j := 2) (l := 0) (u := 40) rfl
      have h429_ := iv_get hv0 (k := 146) (j := 9) (l := 0) (u := 300) rfl
      have h430_ := iv_get hv0 (k := 146) (j := 17) (l := 0) (u := 600) rfl
      have h431_ := iv_get hv0 (k := 146) (j := 49) (l := 0) (u := 20) rfl
      have h432_ := iv_get hv0 (k := 146) (j := 68) (l := 0) (u := 10) rfl
      have h433_ := iv_get hv0 (k := 146) (j := 22) (l := 0) (u := 200) rfl
      have h434_ := iv_get hv0 (k := 146) (j := 42) (l := 0) (u := 8) rfl
      exact jt_rI ⟨rfl, rfl, (show (x1 = 0 → a0 146 0 = a0 146 0) from by omega), (show (x1 = 1 → a0 146 0 = a0 146 2) from by omega), (show (x1 = 3 → a0 146 0 = a0 146 9) from by omega), (show (x1 = 4 → a0 146 0 = a0 146 17) from by omega), (show (x1 = 5 → a0 146 0 = a0 146 49) from by omega), (show (x1 = 6 → a0 146 0 = a0 146 55) from by omega), (show (x1 = 7 → a0 146 0 = a0 146 68) from by omega), (show (x1 = 8 → a0 146 0 = a0 146 22) from by omega), (show (x1 = 9 → a0 146 0 = a0 146 42) from by omega), (show ((x1 = 2 ∧ a0 146 2 = 0) → a0 146 0 = 0) from by omega), (by first | omega | (rw [← hyx]; omega)), (by first | omega | (rw [← hyx]; omega)), (by first | omega | (rw [← hyx]; omega)), (show ((((x1 < 0 ∨ (14 < x1 ∧ x1 < 20)) ∨ (27 < x1 ∧ x1 < 30)) ∨ 37 < x1) → a0 146 0 = 0 - 1) from by omega)⟩
    ·
      refine jt_ite (fun c435_ => ?_) (fun c435_ => ?_)
      ·
        have h436_ := iv_get hv0 (k := 146) (j := 2) (l := 0) (u := 40) rfl
        have h437_ := iv_get hv0 (k := 146) (j := 0) (l := 0) (u := 1999) rfl
        have h438_ := iv_get hv0 (k := 146) (j := 9) (l := 0) (u := 300) rfl
        have h439_ := iv_get hv0 (k := 146) (j := 17) (l := 0) (u := 600) rfl
        have h440_ := iv_get hv0 (k := 146) (j := 49) (l := 0) (u := 20) rfl
        have h441_ := iv_get hv0 (k := 146) (j := 68) (l := 0) (u := 10) rfl
        have h442_ := iv_get hv0 (k := 146) (j := 22) (l := 0) (u := 200) rfl
        have h443_ := iv_get hv0 (k := 146) (j := 42) (l := 0) (u := 8) rfl
        exact jt_rI ⟨rfl, rfl, (show (x1 = 0 → a0 146 2 = a0 146 0) from by omega), (show (x1 = 1 → a0 146 2 = a0 146 2) from by omega), (show (x1 = 3 → a0 146 2 = a0 146 9) from by omega), (show (x1 = 4 → a0 146 2 = a0 146 17) from by omega), (show (x1 = 5 → a0 146 2 = a0 146 49) from by omega), (show (x1 = 6 → a0 146 2 = a0 146 55) from by omega), (show (x1 = 7 → a0 146 2 = a0 146 68) from by omega), (show (x1 = 8 → a0 146 2 = a0 146 22) from by omega), (show (x1 = 9 → a0 146 2 = a0 146 42) from by omega), (show ((x1 = 2 ∧ a0 146 2 = 0) → a0 146 2 = 0) from by omega), (by first | omega | (rw [← hyx]; omega)), (by first | omega | (rw [← hyx]; omega)), (by first | omega | (rw [← hyx]; omega)), (show ((((x1 < 0 ∨ (14 < x1 ∧ x1 < 20)) ∨ (27 < x1 ∧ x1 < 30)) ∨ 37 < x1) → a0 146 2 = 0 - 1) from by omega)⟩
      ·
        refine jt_ite (fun c444_ => ?_) (fun c444_ => ?_)
        ·
          have h445_ := iv_get hv0 (k := 146) (j := 2) (l := 0) (u := 40) rfl
          exact (cp_X12_count_68 E d hd x1 a0 b0 hv0 _).2 0 0 (Nat.le_refl _) (show 0 ≤ 0 from by omega) (show 0 ≤ 40 from by omega) (show x1 = 2 from by omega) (show (a0 146 2 = 0 → 0 = 0) from by omega)
        ·
          refine jt_ite (fun c446_ => ?_) (fun c446_ => ?_)
          ·
            have h447_ := iv_get hv0 (k := 146) (j := 9) (l := 0) (u := 300) rfl
            have h448_ := iv_get hv0 (k := 146) (j := 0) (l := 0) (u := 1999) rfl
            have h449_ := iv_get hv0 (k := 146) (j := 2) (l := 0) (u := 40) rfl
            have h450_ := iv_get hv0 (k := 146) (j := 17) (l := 0) (u := 600) rfl
            have h451_ := iv_get hv0 (k := 146) (j := 49) (l := 0) (u := 20) rfl
            have h452_ := iv_get hv0 (k := 146) (j := 68) (l := 0) (u := 10) rfl
            have h453_ := iv_get hv0 (k := 146) (j := 22) (l := 0) (u := 200) rfl
            have h454_ := iv_get hv0 (k := 146) (j := 42) (l := 0) (u := 8) rfl
            exact jt_rI ⟨rfl, rfl, (show (x1 = 0 → a0 146 9 = a0 146 0) from by omega), (show (x1 = 1 → a0 146 9 = a0 146 2) from by omega), (show (x1 = 3 → a0 146 9 = a0 146 9) from by omega), (show (x1 = 4 → a0 146 9 = a0 146 17) from by omega), (show (x1 = 5 → a0 146 9 = a0 146 49) from by omega), (show (x1 = 6 → a0 146 9 = a0 146 55) from by omega), (show (x1 = 7 → a0 146 9 = a0 146 68) from by omega), (show (x1 = 8 → a0 146 9 = a0 146 22) from by omega), (show (x1 = 9 → a0 146 9 = a0 146 42) from by omega), (show ((x1 = 2 ∧ a0 146 2 = 0) → a0 146 9 = 0) from by omega), (by first | omega | (rw [← hyx]; omega)), (by first | omega | (rw [← hyx]; omega)), (by first | omega | (rw [← hyx]; omega)), (show ((((x1 < 0 ∨ (14 < x1 ∧ x1 < 20)) ∨ (27 < x1 ∧ x1 < 30)) ∨ 37 < x1) → a0 146 9 = 0 - 1) from by omega)⟩
          ·
            refine jt_ite (fun c455_ => ?_) (fun c455_ => ?_)
            ·
              have h456_ := iv_get hv0 (k := 146) (j := 17) (l := 0) (u := 600) rfl
              have h457_ := iv_get hv0 (k := 146) (j := 0) (l := 0) (u := 1999) rfl
              have h458_ := iv_get hv0 (k := 146) (j := 2) (l := 0) (u := 40) rfl
              have h459_ := iv_get hv0 (k := 146) (j := 9) (l := 0) (u := 300) rfl
              have h460_ := iv_get hv0 (k := 146) (j := 49) (l := 0) (u := 20) rfl
              have h461_ := iv_get hv0 (k := 146) (j := 68) (l := 0) (u := 10) rfl
              have h462_ := iv_get hv0 (k := 146) (j := 22) (l := 0) (u := 200) rfl
              have h463_ := iv_get hv0 (k := 146) (j := 42) (l := 0) (u := 8) rfl
              exact jt_rI ⟨rfl, rfl, (show (x1 = 0 → a0 146 17 = a0 146 0) from by omega), (show (x1 = 1 → a0 146 17 = a0 146 2) from by omega), (show (x1 = 3 → a0 146 17 = a0 146 9) from by omega), (show (x1 = 4 → a0 146 17 = a0 146 17) from by omega), (show (x1 = 5 → a0 146 17 = a0 146 49) from by omega), (show (x1 = 6 → a0 146 17 = a0 146 55) from by omega), (show (x1 = 7 → a0 146 17 = a0 146 68) from by omega), (show (x1 = 8 → a0 146 17 = a0 146 22) from by omega), (show (x1 = 9 → a0 146 17 = a0 146 42) from by omega), (show ((x1 = 2 ∧ a0 146 2 = 0) → a0 146 17 = 0) from by omega), (by first | omega | (rw [← hyx]; omega)), (by first | omega | (rw [← hyx]; omega)), (by first | omega | (rw [← hyx]; omega)), (show ((((x1 < 0 ∨ (14 < x1 ∧ x1 < 20)) ∨ (27 < x1 ∧ x1 < 30)) ∨ 37 < x1) → a0 146 17 = 0 - 1) from by omega)⟩
            ·
              refine jt_ite (fun c464_ => ?_) (fun c464_ => ?_)
              ·
                have h465_ := iv_get hv0 (k := 146) (j := 49) (l := 0) (u := 20) rfl
                have h466_ := iv_get hv0 (k := 146) (j := 0) (l := 0) (u := 1999) rfl
                have h467_ := iv_get hv0 (k := 146) (j := 2) (l := 0) (u := 40) rfl
                have h468_ := iv_get hv0 (k := 146) (j := 9) (l := 0) (u := 300) rfl
                have h469_ := iv_get hv0 (k := 146) (j := 17) (l := 0) (u := 600) rfl
                have h470_ := iv_get hv0 (k := 146) (j := 68) (l := 0) (u := 10) rfl
                have h471_ := iv_get hv0 (k := 146) (j := 22) (l := 0) (u := 200) rfl
                have h472_ := iv_get hv0 (k := 146) (j := 42) (l := 0) (u := 8) rfl
                exact jt_rI ⟨rfl, rfl, (show (x1 = 0 → a0 146 49 = a0 146 0) from by omega), (show (x1 = 1 → a0 146 49 = a0 146 2) from by omega), (show (x1 = 3 → a0 146 49 = a0 146 9) from by omega), (show (x1 = 4 → a0 146 49 = a0 146 17) from by omega), (show (x1 = 5 → a0 146 49 = a0 146 49) from by omega), (show (x1 = 6 → a0 146 49 = a0 146 55) from by omega), (show (x1 = 7 → a0 146 49 = a0 146 68) from by omega), (show (x1 = 8 → a0 146 49 = a0 146 22) from by omega), (show (x1 = 9 → a0 146 49 = a0 146 42) from by omega), (show ((x1 = 2 ∧ a0 146 2 = 0) → a0 146 49 = 0) from by omega), (by first | omega | (rw [← hyx]; omega)), (by first | omega | (rw [← hyx]; omega)), (by first | omega | (rw [← hyx]; omega)), (show ((((x1 < 0 ∨ (14 < x1 ∧ x1 < 20)) ∨ (27 < x1 ∧ x1 < 30)) ∨ 37 < x1) → a0 146 49 = 0 - 1) from by omega)⟩
              ·
                refine jt_ite (fun c473_ => ?_) (fun c473_ => ?_)
                ·
                  have h474_ := iv_get hv0 (k := 146) (j := 0) (l := 0) (u := 1999) rfl
                  have h475_ := iv_get hv0 (k := 146) (j := 2) (l := 0) (u := 40) rfl
                  have h476_ := iv_get hv0 (k := 146) (j := 9) (l := 0) (u := 300) rfl
                  have h477_ := iv_get hv0 (k := 146) (j := 17) (l := 0) (u := 600) rfl
                  have h478_ := iv_get hv0 (k := 146) (j := 49) (l := 0) (u := 20) rfl
                  have h479_ := iv_get hv0 (k := 146) (j := 68) (l := 0) (u := 10) rfl
                  have h480_ := iv_get hv0 (k := 146) (j := 22) (l := 0) (u := 200) rfl
                  have h481_ := iv_get hv0 (k := 146) (j := 42) (l := 0) (u := 8) rfl
                  exact jt_rI ⟨rfl, rfl, (show (x1 = 0 → a0 146 55 = a0 146 0) from by omega), (show (x1 = 1 → a0 146 55 = a0 146 2) from by omega), (show (x1 = 3 → a0 146 55 = a0 146 9) from by omega), (show (x1 = 4 → a0 146 55 = a0 146 17) from by omega), (show (x1 = 5 → a0 146 55 = a0 146 49) from by omega), (show (x1 = 6 → a0 146 55 = a0 146 55) from by omega), (show (x1 = 7 → a0 146 55 = a0 146 68) from by omega), (show (x1 = 8 → a0 146 55 = a0 146 22) from by omega), (show (x1 = 9 → a0 146 55 = a0 146 42) from by omega), (show ((x1 = 2 ∧ a0 146 2 = 0) → a0 146 55 = 0) from by omega), (by first | omega | (rw [← hyx]; omega)), (by first | omega | (rw [← hyx]; omega)), (by first | omega | (rw [← hyx]; omega)), (show ((((x1 < 0 ∨ (14 < x1 ∧ x1 < 20)) ∨ (27 < x1 ∧ x1 < 30)) ∨ 37 < x1) → a0 146 55 = 0 - 1) from by omega)⟩
                ·
                  refine jt_ite (fun c482_ => ?_) (fun c482_ => ?_)
                  ·
                    have h483_ := iv_get hv0 (k := 146) (j := 68) (l := 0) (u := 10) rfl
                    have h484_ := iv_get hv0 (k := 146) (j := 0) (l := 0) (u := 1999) rfl
                    have h485_ := iv_get hv0 (k := 146) (j := 2) (l := 0) (u := 40) rfl
                    have h486_ := iv_get hv0 (k := 146) (j := 9) (l := 0) (u := 300) rfl
                    have h487_ := iv_get hv0 (k := 146) (j := 17) (l := 0) (u := 600) rfl
                    have h488_ := iv_get hv0 (k := 146) (j := 49) (l := 0) (u := 20) rfl
                    have h489_ := iv_get hv0 (k := 146) (j := 22) (l := 0) (u := 200) rfl
                    have h490_ := iv_get hv0 (k := 146) (j := 42) (l := 0) (u := 8) rfl
                    exact jt_rI ⟨rfl, rfl, (show (x1 = 0 → a0 146 68 = a0 146 0) from by omega), (show (x1 = 1 → a0 146 68 = a0 146 2) from by omega), (show (x1 = 3 → a0 146 68 = a0 146 9) from by omega), (show (x1 = 4 → a0 146 68 = a0 146 17) from by omega), (show (x1 = 5 → a0 146 68 = a0 146 49) from by omega), (show (x1 = 6 → a0 146 68 = a0 146 55) from by omega), (show (x1 = 7 → a0 146 68 = a0 146 68) from by omega), (show (x1 = 8 → a0 146 68 = a0 146 22) from by omega), (show (x1 = 9 → a0 146 68 = a0 146 42) from by omega), (show ((x1 = 2 ∧ a0 146 2 = 0) → a0 146 68 = 0) from by omega), (by first | omega | (rw [← hyx]; omega)), (by first | omega | (rw [← hyx]; omega)), (by first | omega | (rw [← hyx]; omega)), (show ((((x1 < 0 ∨ (14 < x1 ∧ x1 < 20)) ∨ (27 < x1 ∧ x1 < 30)) ∨ 37 < x1) → a0 146 68 = 0 - 1) from by omega)⟩
                  ·
                    refine jt_ite (fun c491_ => ?_) (fun c491_ => ?_)
                    ·
                      have h492_ := iv_get hv0 (k := 146) (j := 22) (l := 0) (u := 200) rfl
                      have h493_ := iv_get hv0 (k := 146) (j := 0) (l := 0) (u := 1999) rfl
                      have h494_ := iv_get hv0 (k := 146) (j := 2) (l := 0) (u := 40) rfl
                      have h495_ := iv_get hv0 (k := 146) (j := 9) (l := 0) (u := 300) rfl
                      have h496_ := iv_get hv0 (k := 146) (j := 17) (l := 0) (u := 600) rfl
                      have h497_ := iv_get hv0 (k := 146) (j := 49) (l := 0) (u := 20) rfl
                      have h498_ := iv_get hv0 (k := 146) (j := 68) (l := 0) (u := 10) rfl
                      have h499_ := iv_get hv0 (k := 146) (j := 42) (l := 0) (u := 8) rfl
                      exact jt_rI ⟨rfl, rfl, (show (x1 = 0 → a0 146 22 = a0 146 0) from by omega), (show (x1 = 1 → a0 146 22 = a0 146 2) from by omega), (show (x1 = 3 → a0 146 22 = a0 146 9) from by omega), (show (x1 = 4 → a0 146 22 = a0 146 17) from by omega), (show (x1 = 5 → a0 146 22 = a0 146 49) from by omega), (show (x1 = 6 → a0 146 22 = a0 146 55) from by omega), (show (x1 = 7 → a0 146 22 = a0 146 68) from by omega), (show (x1 = 8 → a0 146 22 = a0 146 22) from by omega), (show (x1 = 9 → a0 146 22 = a0 146 42) from by omega), (show ((x1 = 2 ∧ a0 146 2 = 0) → a0 146 22 = 0) from by omega), (by first | omega | (rw [← hyx]; omega)), (by first | omega | (rw [← hyx]; omega)), (by first | omega | (rw [← hyx]; omega)), (show ((((x1 < 0 ∨ (14 < x1 ∧ x1 < 20)) ∨ (27 < x1 ∧ x1 < 30)) ∨ 37 < x1) → a0 146 22 = 0 - 1) from by omega)⟩
                    ·
                      refine jt_ite (fun c500_ => ?_) (fun c500_ => ?_)
                      ·
                        have h501_ := iv_get hv0 (k := 146) (j := 42) (l := 0) (u := 8) rfl
                        have h502_ := iv_get hv0 (k := 146) (j := 0) (l := 0) (u := 1999) rfl
                        have h503_ := iv_get hv0 (k := 146) (j := 2) (l := 0) (u := 40) rfl
                        have h504_ := iv_get hv0 (k := 146) (j := 9) (l := 0) (u := 300) rfl
                        have h505_ := iv_get hv0 (k := 146) (j := 17) (l := 0) (u := 600) rfl
                        have h506_ := iv_get hv0 (k := 146) (j := 49) (l := 0) (u := 20) rfl
                        have h507_ := iv_get hv0 (k := 146) (j := 68) (l := 0) (u := 10) rfl
                        have h508_ := iv_get hv0 (k := 146) (j := 22) (l := 0) (u := 200) rfl
                        exact jt_rI ⟨rfl, rfl, (show (x1 = 0 → a0 146 42 = a0 146 0) from by omega), (show (x1 = 1 → a0 146 42 = a0 146 2) from by omega), (show (x1 = 3 → a0 146 42 = a0 146 9) from by omega), (show (x1 = 4 → a0 146 42 = a0 146 17) from by omega), (show (x1 = 5 → a0 146 42 = a0 146 49) from by omega), (show (x1 = 6 → a0 146 42 = a0 146 55) from by omega), (show (x1 = 7 → a0 146 42 = a0 146 68) from by omega), (show (x1 = 8 → a0 146 42 = a0 146 22) from by omega), (show (x1 = 9 → a0 146 42 = a0 146 42) from by omega), (show ((x1 = 2 ∧ a0 146 2 = 0) → a0 146 42 = 0) from by omega), (by first | omega | (rw [← hyx]; omega)), (by first | omega | (rw [← hyx]; omega)), (by first | omega | (rw [← hyx]; omega)), (show ((((x1 < 0 ∨ (14 < x1 ∧ x1 < 20)) ∨ (27 < x1 ∧ x1 < 30)) ∨ 37 < x1) → a0 146 42 = 0 - 1) from by omega)⟩
                      ·
                        exact absurd (by omega : False) id
abbrev jQ_X12_offerIn (x1 x2 : Int) (a0 b0 : Nat → Nat → Int) : List jxV → (Nat → Nat → Int) → (Nat → Nat → Int) → Prop := rI (fun r a b => (a0 = a) ∧ (b0 = b) ∧ (0 - 1 ≤ r) ∧ (r ≤ 19) ∧ (r < a0 146 49) ∧ ((0 ≤ r → (a0 181 (r.toNat) = 1 ∧ a0 182 (r.toNat) = x1))))
theorem cp_X12_offerIn_2 (E : jxE) (d : Nat) (hd : Nat.ble 1 (d + 1) = true) (x1 x2 : Int) (a0 b0 : Nat → Nat → Int) (hv0 : iv a0) : ∀ n : Nat, (∀ (y1 y2 y3 : Int), (((20 - y3) * 1) + 0).toNat ≤ n → 0 ≤ y3 → y3 ≤ 19 → y1 = x1 → jt (jxX E d 276 42 [some (.inr (.inr (.inl 146))), some (.inl y1), some (.inl y2), some (.inl y3)] [] (jxSH, a0, b0)) (jQ_X12_offerIn x1 x2 a0 b0)) ∧ (∀ (y1 y2 y3 : Int), (((20 - y3) * 1) + 0).toNat ≤ n → 0 ≤ y3 → y3 ≤ 19 → y3 < a0 146 49 → a0 181 (y3.toNat) = 1 → a0 182 (y3.toNat) = x1 → y1 = x1 → jt (jxX E d 276 30 [some (.inr (.inr (.inl 146))), some (.inl y1), some (.inl y2), some (.inl y3)] [] (jxSH, a0, b0)) (jQ_X12_offerIn x1 x2 a0 b0)) ∧ (∀ (y1 y2 y3 : Int), (((20 - y3) * 1) + 0).toNat ≤ n → 0 ≤ y3 → y3 ≤ 20 → y1 = x1 → jt (jxX E d 276 2 [some (.inr (.inr (.inl 146))), some (.inl y1), some (.inl y2), some (.inl y3)] [] (jxSH, a0, b0)) (jQ_X12_offerIn x1 x2 a0 b0)) := by
  refine jx_ind fun n ih => ?_
  have ih42 : ∀ (y1 y2 y3 : Int), (((20 - y3) * 1) + 0).toNat < n → 0 ≤ y3 → y3 ≤ 19 → y1 = x1 → jt (jxX E d 276 42 [some (.inr (.inr (.inl 146))), some (.inl y1), some (.inl y2), some (.inl y3)] [] (jxSH, a0, b0)) (jQ_X12_offerIn x1 x2 a0 b0) := fun y1 y2 y3 hlt i0 i1 i2 => (ih _ hlt).1 y1 y2 y3 (Nat.le_refl _) i0 i1 i2
  have ih30 : ∀ (y1 y2 y3 : Int), (((20 - y3) * 1) + 0).toNat < n → 0 ≤ y3 → y3 ≤ 19 → y3 < a0 146 49 → a0 181 (y3.toNat) = 1 → a0 182 (y3.toNat) = x1 → y1 = x1 → jt (jxX E d 276 30 [some (.inr (.inr (.inl 146))), some (.inl y1), some (.inl y2), some (.inl y3)] [] (jxSH, a0, b0)) (jQ_X12_offerIn x1 x2 a0 b0) := fun y1 y2 y3 hlt i0 i1 i2 i3 i4 i5 => (ih _ hlt).2.1 y1 y2 y3 (Nat.le_refl _) i0 i1 i2 i3 i4 i5
  have ih2 : ∀ (y1 y2 y3 : Int), (((20 - y3) * 1) + 0).toNat < n → 0 ≤ y3 → y3 ≤ 20 → y1 = x1 → jt (jxX E d 276 2 [some (.inr (.inr (.inl 146))), some (.inl y1), some (.inl y2), some (.inl y3)] [] (jxSH, a0, b0)) (jQ_X12_offerIn x1 x2 a0 b0) := fun y1 y2 y3 hlt i0 i1 i2 => (ih _ hlt).2.2 y1 y2 y3 (Nat.le_refl _) i0 i1 i2
  have hc42 : ∀ (y1 y2 y3 : Int), (((20 - y3) * 1) + 0).toNat ≤ n → 0 ≤ y3 → y3 ≤ 19 → y1 = x1 → jt (jxX E d 276 42 [some (.inr (.inr (.inl 146))), some (.inl y1), some (.inl y2), some (.inl y3)] [] (jxSH, a0, b0)) (jQ_X12_offerIn x1 x2 a0 b0) := by
    intro y1 y2 y3 hm hi0 hi1 hi2
    refine jt_eq (bq_X12_offerIn_42 E d y1 y2 y3 a0 b0) ?_
    have h509_ : jxw (y3 + 1) = y3 + 1 := jxw_id (by omega) (by omega)
    exact ih2 y1 y2 (jxw (y3 + 1)) (show (((20 - (jxw (y3 + 1))) * 1) + 0).toNat < n from by omega) (show 0 ≤ jxw (y3 + 1) from by omega) (show jxw (y3 + 1) ≤ 20 from by omega) (show y1 = x1 from by omega)
  have hc30 : ∀ (y1 y2 y3 : Int), (((20 - y3) * 1) + 0).toNat ≤ n → 0 ≤ y3 → y3 ≤ 19 → y3 < a0 146 49 → a0 181 (y3.toNat) = 1 → a0 182 (y3.toNat) = x1 → y1 = x1 → jt (jxX E d 276 30 [some (.inr (.inr (.inl 146))), some (.inl y1), some (.inl y2), some (.inl y3)] [] (jxSH, a0, b0)) (jQ_X12_offerIn x1 x2 a0 b0) := by
    intro y1 y2 y3 hm hi0 hi1 hi2 hi3 hi4 hi5
    refine jt_eq (bq_X12_offerIn_30 E d y1 y2 y3 a0 b0) ?_
    have h510_ := iv_get hv0 (k := 146) (j := 49) (l := 0) (u := 20) rfl
    have h511_ := iv_get hv0 (k := 181) (j := y3.toNat) (l := 0) (u := 2) rfl
    refine jt_grd (by omega) ?_
    have h512_ := iv_get hv0 (k := 178) (j := y3.toNat) (l := 0) (u := 39) rfl
    refine jt_ite (fun c513_ => ?_) (fun c513_ => ?_)
    ·
      exact jt_rI ⟨rfl, rfl, (show 0 - 1 ≤ y3 from by omega), (show y3 ≤ 19 from by omega), (show y3 < a0 146 49 from by omega), (show (0 ≤ y3 → (a0 181 (y3.toNat) = 1 ∧ a0 182 (y3.toNat) = x1)) from by omega)⟩
    ·
      exact hc42 y1 y2 y3 (show (((20 - y3) * 1) + 0).toNat ≤ n from by omega) (show 0 ≤ y3 from by omega) (show y3 ≤ 19 from by omega) (show y1 = x1 from by omega)
  have hc2 : ∀ (y1 y2 y3 : Int), (((20 - y3) * 1) + 0).toNat ≤ n → 0 ≤ y3 → y3 ≤ 20 → y1 = x1 → jt (jxX E d 276 2 [some (.inr (.inr (.inl 146))), some (.inl y1), some (.inl y2), some (.inl y3)] [] (jxSH, a0, b0)) (jQ_X12_offerIn x1 x2 a0 b0) := by
    intro y1 y2 y3 hm hi0 hi1 hi2
    refine jt_eq (bq_X12_offerIn_2 E d y1 y2 y3 a0 b0) ?_
    have h514_ := iv_get hv0 (k := 146) (j := 49) (l := 0) (u := 20) rfl
    refine jt_ite (fun c515_ => ?_) (fun c515_ => ?_)
    ·
      refine jt_grd (by omega) ?_
      have h516_ := iv_get hv0 (k := 181) (j := y3.toNat) (l := 0) (u := 2) rfl
      refine jt_ite (fun c517_ => ?_) (fun c517_ => ?_)
      ·
        refine jt_grd (by omega) ?_
        refine jt_ite (fun c518_ => ?_) (fun c518_ => ?_)
        ·
          exact hc30 y1 y2 y3 (show (((20 - y3) * 1) + 0).toNat ≤ n from by omega) (show 0 ≤ y3 from by omega) (show y3 ≤ 19 from by omega) (show y3 < a0 146 49 from by omega) (show a0 181 (y3.toNat) = 1 from by omega) (show a0 182 (y3.toNat) = x1 from by omega) (show y1 = x1 from by omega)
        ·
          exact hc42 y1 y2 y3 (show (((20 - y3) * 1) + 0).toNat ≤ n from by omega) (show 0 ≤ y3 from by omega) (show y3 ≤ 19 from by omega) (show y1 = x1 from by omega)
      ·
        exact hc42 y1 y2 y3 (show (((20 - y3) * 1) + 0).toNat ≤ n from by omega) (show 0 ≤ y3 from by omega) (show y3 ≤ 19 from by omega) (show y1 = x1 from by omega)
    ·
      have h519_ := iv_get hv0 (k := 181) (j := (-1 : Int).toNat) (l := 0) (u := 2) rfl
      exact jt_rI ⟨rfl, rfl, (show 0 - 1 ≤ (-1) from by omega), (show (-1) ≤ 19 from by omega), (show (-1) < a0 146 49 from by omega), (show (0 ≤ (-1) → (a0 181 ((-1 : Int).toNat) = 1 ∧ a0 182 ((-1 : Int).toNat) = x1)) from by omega)⟩
  exact ⟨hc42, hc30, hc2⟩
theorem sp_X12_offerIn (E : jxE) (d : Nat) (hd : Nat.ble 1 d = true) (x1 x2 : Int) (a0 b0 : Nat → Nat → Int) (hv0 : iv a0) : jt (jxC E d 276 [.inr (.inr (.inl 146)), .inl x1, .inl x2] (jxSH, a0, b0)) (jQ_X12_offerIn x1 x2 a0 b0) := by
  obtain ⟨d, rfl⟩ := jd_succ hd
  refine jt_eq (bq_X12_offerIn E d x1 x2 a0 b0) ?_
  exact (cp_X12_offerIn_2 E d hd x1 x2 a0 b0 hv0 _).2.2 x1 x2 0 (Nat.le_refl _) (show 0 ≤ 0 from by omega) (show 0 ≤ 20 from by omega) (show x1 = x1 from by omega)
def jW_X12_end : List (Nat × Nat) := [(146, 22)]
abbrev jQ_X12_end (x1 : Int) (a0 b0 : Nat → Nat → Int) : List jxV → (Nat → Nat → Int) → (Nat → Nat → Int) → Prop := rI (fun r a b => (iv a) ∧ (jfr jW_X12_end a0 a) ∧ (b0 = b) ∧ (((((0 ≤ x1 ∧ x1 ≤ a0 146 22) ∧ r = x1) ∧ a 146 22 = x1) ∨ (((x1 < 0 ∨ a0 146 22 < x1) ∧ r = 0 - 1) ∧ a 146 22 = a0 146 22))))
theorem sp_X12_end (E : jxE) (d : Nat) (hd : Nat.ble 1 d = true) (x1 : Int) (a0 b0 : Nat → Nat → Int) (hv0 : iv a0) : jt (jxC E d 213 [.inr (.inr (.inl 146)), .inl x1] (jxSH, a0, b0)) (jQ_X12_end x1 a0 b0) := by
  obtain ⟨d, rfl⟩ := jd_succ hd
  refine jt_eq (bq_X12_end E d x1 a0 b0) ?_
  refine jt_ite (fun c520_ => ?_) (fun c520_ => ?_)
  ·
    have h521_ := iv_get hv0 (k := 146) (j := 22) (l := 0) (u := 200) rfl
    exact jt_rI ⟨hv0, (jfr_rf _ _), rfl, (show ((((0 ≤ x1 ∧ x1 ≤ a0 146 22) ∧ (-1) = x1) ∧ a0 146 22 = x1) ∨ (((x1 < 0 ∨ a0 146 22 < x1) ∧ (-1) = 0 - 1) ∧ a0 146 22 = a0 146 22)) from by omega)⟩
  ·
    have h522_ := iv_get hv0 (k := 146) (j := 22) (l := 0) (u := 200) rfl
    refine jt_ite (fun c523_ => ?_) (fun c523_ => ?_)
    ·
      exact jt_rI ⟨hv0, (jfr_rf _ _), rfl, (show ((((0 ≤ x1 ∧ x1 ≤ a0 146 22) ∧ (-1) = x1) ∧ a0 146 22 = x1) ∨ (((x1 < 0 ∨ a0 146 22 < x1) ∧ (-1) = 0 - 1) ∧ a0 146 22 = a0 146 22)) from by omega)⟩
    ·
      have hv524_ : iv (jxu a0 146 22 x1) := iv_put hv0 (l := 0) (u := 200) rfl (by omega) (by omega)
      have hf525_ : jfr jW_X12_end a0 (jxu a0 146 22 x1) := jfr_put (jfr_rf _ _) rfl
      exact jt_rI ⟨hv524_, hf525_, rfl, (show ((((0 ≤ x1 ∧ x1 ≤ a0 146 22) ∧ x1 = x1) ∧ x1 = x1) ∨ (((x1 < 0 ∨ a0 146 22 < x1) ∧ x1 = 0 - 1) ∧ x1 = a0 146 22)) from by omega)⟩
def jWe_X12_far : List (Nat × Nat) := []
def jW_X12_far : List (Nat × Nat) := [(147, 9999)]
abbrev jQ_X12_far (x1 x2 x3 : Int) (a0 b0 : Nat → Nat → Int) : List jxV → (Nat → Nat → Int) → (Nat → Nat → Int) → Prop := rI (fun r a b => (iv a) ∧ (jfr jW_X12_far a0 a) ∧ (b0 = b) ∧ (FarP (a0 147) (a 147) x1 x2 x3 r))
theorem cp_X12_far_29 (E : jxE) (d : Nat) (hd : Nat.ble 3 (d + 1) = true) (x1 x2 x3 : Int) (a0 b0 : Nat → Nat → Int) (hv0 : iv a0) : ∀ (a : Nat → Nat → Int), iv a → jfr jW_X12_far a0 a → ((((((x1 < 0 ∨ 15 < x1) ∨ x2 < 0) ∨ 15 < x2) ∨ x1 = x2) ∨ x3 < 0) ∨ 99 < x3) → (jfr jWe_X12_far a0 a) → jt (jxX E d 209 29 [none, none, none, none, none] [] (jxSH, a, b0)) (jQ_X12_far x1 x2 x3 a0 b0) := by
  intro a hv hf hi0 hfe
  refine jt_eq (bq_X12_far_29 E d a b0) ?_
  exact jt_rI ⟨hv, hf, rfl, (Or.inr ⟨by omega, rfl, fun j => hfe 147 j rfl⟩)⟩
theorem cp_X12_far_56 (E : jxE) (d : Nat) (hd : Nat.ble 3 (d + 1) = true) (x1 x2 x3 : Int) (a0 b0 : Nat → Nat → Int) (hv0 : iv a0) : ∀ (y1 y2 y3 y4 : Int) (a : Nat → Nat → Int), iv a → jfr jW_X12_far a0 a → 0 ≤ y1 → y1 ≤ 15 → 0 ≤ y2 → y2 ≤ 15 → 0 ≤ y3 → y3 ≤ 99 → 0 ≤ y4 → y4 ≤ 99 → y1 = x1 → y2 = x2 → y3 = x3 → ((((((0 ≤ x1 ∧ x1 ≤ 15) ∧ 0 ≤ x2) ∧ x2 ≤ 15) ∧ ¬ x1 = x2) ∧ 0 ≤ x3) ∧ x3 ≤ 99) → (∀ j, a 147 j = if j = (16 * x1 + x2).toNat then x3 else a0 147 j) → (y4 = a0 147 (16 * x1 + x2).toNat) → jt (jxX E d 209 56 [some (.inr (.inr (.inl 146))), some (.inl y1), some (.inl y2), some (.inl y3), some (.inl y4)] [] (jxSH, a, b0)) (jQ_X12_far x1 x2 x3 a0 b0) := by
  intro y1 y2 y3 y4 a hv hf hi0 hi1 hi2 hi3 hi4 hi5 hi6 hi7 hi8 hi9 hi10 hi11 hf56 hy4
  refine jt_eq (bq_X12_far_56 E d y1 y2 y3 y4 a b0) ?_
  have hix2 : (jxw ((jxw (16 * y2)) + y1)).toNat = (16 * x2 + x1).toNat := by rw [jxw_id (x := 16 * y2) (by omega) (by omega), jxw_id (by omega) (by omega)]; omega
  have h526_ : jxw (16 * y2) = 16 * y2 := jxw_id (by omega) (by omega)
  have h527_ : jxw ((jxw (16 * y2)) + y1) = (jxw (16 * y2)) + y1 := jxw_id (by omega) (by omega)
  refine jt_grd (by omega) ?_
  have hv528_ : iv (jxu a 147 ((jxw ((jxw (16 * y2)) + y1)).toNat) y3) := iv_put hv (l := 0) (u := 99) rfl (by omega) (by omega)
  have hf529_ : jfr jW_X12_far a0 (jxu a 147 ((jxw ((jxw (16 * y2)) + y1)).toNat) y3) := jfr_put hf rfl
  exact jt_rI ⟨hv528_, hf529_, rfl, (Or.inl ⟨by omega, by omega, by omega, by omega, by omega, by omega, by omega, hy4, fun j => by rw [hix2]; simp only [jxu]; rw [hf56 j, show y3 = x3 from (by omega)]; simp⟩)⟩
theorem cp_X12_far_31 (E : jxE) (d : Nat) (hd : Nat.ble 3 (d + 1) = true) (x1 x2 x3 : Int) (a0 b0 : Nat → Nat → Int) (hv0 : iv a0) : ∀ (y1 y2 y3 : Int) (a : Nat → Nat → Int), iv a → jfr jW_X12_far a0 a → 0 ≤ y1 → y1 ≤ 15 → 0 ≤ y2 → y2 ≤ 15 → 0 ≤ y3 → y3 ≤ 99 → y1 = x1 → y2 = x2 → y3 = x3 → ((((((0 ≤ x1 ∧ x1 ≤ 15) ∧ 0 ≤ x2) ∧ x2 ≤ 15) ∧ ¬ x1 = x2) ∧ 0 ≤ x3) ∧ x3 ≤ 99) → (jfr jWe_X12_far a0 a) → jt (jxX E d 209 31 [some (.inr (.inr (.inl 146))), some (.inl y1), some (.inl y2), some (.inl y3), none] [] (jxSH, a, b0)) (jQ_X12_far x1 x2 x3 a0 b0) := by
  intro y1 y2 y3 a hv hf hi0 hi1 hi2 hi3 hi4 hi5 hi6 hi7 hi8 hi9 hfe
  refine jt_eq (bq_X12_far_31 E d y1 y2 y3 a b0) ?_
  have hix : (jxw ((jxw (16 * y1)) + y2)).toNat = (16 * x1 + x2).toNat := by rw [jxw_id (x := 16 * y1) (by omega) (by omega), jxw_id (by omega) (by omega)]; omega
  have h530_ : jxw (16 * y1) = 16 * y1 := jxw_id (by omega) (by omega)
  have h531_ : jxw ((jxw (16 * y1)) + y2) = (jxw (16 * y1)) + y2 := jxw_id (by omega) (by omega)
  refine jt_grd (by omega) ?_
  refine jt_grd (by omega) ?_
  have hv532_ : iv (jxu a 147 ((jxw ((jxw (16 * y1)) + y2)).toNat) y3) := iv_put hv (l := 0) (u := 99) rfl (by omega) (by omega)
  have hf533_ : jfr jW_X12_far a0 (jxu a 147 ((jxw ((jxw (16 * y1)) + y2)).toNat) y3) := jfr_put hf rfl
  have h534_ := iv_get hv (k := 147) (j := (jxw ((jxw (16 * y1)) + y2)).toNat) (l := 0) (u := 99) rfl
  exact cp_X12_far_56 E d hd x1 x2 x3 a0 b0 hv0 y1 y2 y3 (a 147 ((jxw ((jxw (16 * y1)) + y2)).toNat)) (jxu a 147 ((jxw ((jxw (16 * y1)) + y2)).toNat) y3) hv532_ hf533_ (show 0 ≤ y1 from by omega) (show y1 ≤ 15 from by omega) (show 0 ≤ y2 from by omega) (show y2 ≤ 15 from by omega) (show 0 ≤ y3 from by omega) (show y3 ≤ 99 from by omega) (show 0 ≤ a 147 ((jxw ((jxw (16 * y1)) + y2)).toNat) from by omega) (show a 147 ((jxw ((jxw (16 * y1)) + y2)).toNat) ≤ 99 from by omega) (show y1 = x1 from by omega) (show y2 = x2 from by omega) (show y3 = x3 from by omega) (show ((((((0 ≤ x1 ∧ x1 ≤ 15) ∧ 0 ≤ x2) ∧ x2 ≤ 15) ∧ ¬ x1 = x2) ∧ 0 ≤ x3) ∧ x3 ≤ 99) from by omega) (by intro j; rw [hix]; simp only [jxu]; rw [hfe 147 j rfl, show y3 = x3 from (by omega)]; simp) (by rw [hix]; exact hfe 147 _ rfl)
theorem sp_X12_far (E : jxE) (d : Nat) (hd : Nat.ble 3 d = true) (x1 x2 x3 : Int) (a0 b0 : Nat → Nat → Int) (hv0 : iv a0) : jt (jxC E d 209 [.inr (.inr (.inl 146)), .inl x1, .inl x2, .inl x3] (jxSH, a0, b0)) (jQ_X12_far x1 x2 x3 a0 b0) := by
  obtain ⟨d, rfl⟩ := jd_succ hd
  refine jt_eq (bq_X12_far E d x1 x2 x3 a0 b0) ?_
  refine jt_eI (eq_X12_isLand E d (jd_le hd rfl) x1 a0 b0) ?_
  have h535_ := f_X12_isLand_eq a0 b0 x1
  have h536_ := f_X12_in_eq a0 b0 x1 0 15
  refine jt_ite (fun c537_ => ?_) (fun c537_ => ?_)
  ·
    exact cp_X12_far_29 E d hd x1 x2 x3 a0 b0 hv0 a0 hv0 (jfr_rf _ _) (show ((((((x1 < 0 ∨ 15 < x1) ∨ x2 < 0) ∨ 15 < x2) ∨ x1 = x2) ∨ x3 < 0) ∨ 99 < x3) from by omega) (jfr_rf _ _)
  ·
    refine jt_eI (eq_X12_isLand E d (jd_le hd rfl) x2 a0 b0) ?_
    have h538_ := f_X12_isLand_eq a0 b0 x2
    have h539_ := f_X12_in_eq a0 b0 x2 0 15
    refine jt_ite (fun c540_ => ?_) (fun c540_ => ?_)
    ·
      exact cp_X12_far_29 E d hd x1 x2 x3 a0 b0 hv0 a0 hv0 (jfr_rf _ _) (show ((((((x1 < 0 ∨ 15 < x1) ∨ x2 < 0) ∨ 15 < x2) ∨ x1 = x2) ∨ x3 < 0) ∨ 99 < x3) from by omega) (jfr_rf _ _)
    ·
      refine jt_ite (fun c541_ => ?_) (fun c541_ => ?_)
      ·
        exact cp_X12_far_29 E d hd x1 x2 x3 a0 b0 hv0 a0 hv0 (jfr_rf _ _) (show ((((((x1 < 0 ∨ 15 < x1) ∨ x2 < 0) ∨ 15 < x2) ∨ x1 = x2) ∨ x3 < 0) ∨ 99 < x3) from by omega) (jfr_rf _ _)
      ·
        refine jt_eI (eq_X12_in E d (jd_le hd rfl) x3 0 99 a0 b0) ?_
        have h542_ := f_X12_in_eq a0 b0 x3 0 99
        refine jt_ite (fun c543_ => ?_) (fun c543_ => ?_)
        ·
          exact cp_X12_far_29 E d hd x1 x2 x3 a0 b0 hv0 a0 hv0 (jfr_rf _ _) (show ((((((x1 < 0 ∨ 15 < x1) ∨ x2 < 0) ∨ 15 < x2) ∨ x1 = x2) ∨ x3 < 0) ∨ 99 < x3) from by omega) (jfr_rf _ _)
        ·
          exact cp_X12_far_31 E d hd x1 x2 x3 a0 b0 hv0 x1 x2 x3 a0 hv0 (jfr_rf _ _) (show 0 ≤ x1 from by omega) (show x1 ≤ 15 from by omega) (show 0 ≤ x2 from by omega) (show x2 ≤ 15 from by omega) (show 0 ≤ x3 from by omega) (show x3 ≤ 99 from by omega) (show x1 = x1 from by omega) (show x2 = x2 from by omega) (show x3 = x3 from by omega) (show ((((((0 ≤ x1 ∧ x1 ≤ 15) ∧ 0 ≤ x2) ∧ x2 ≤ 15) ∧ ¬ x1 = x2) ∧ 0 ≤ x3) ∧ x3 ≤ 99) from by omega) (jfr_rf _ _)
def jW_X12_four : List (Nat × Nat) := [(146, 22), (164, 9999)]
abbrev jQ_X12_four (x1 : Int) (a0 b0 : Nat → Nat → Int) : List jxV → (Nat → Nat → Int) → (Nat → Nat → Int) → Prop := rV (fun a b => (iv a) ∧ (jfr jW_X12_four a0 a) ∧ (b0 = b) ∧ (a 146 22 = (a0 146 22) + 4) ∧ (APP (UB (a0 164)) (UB (a 164)) (a0 146 22) x1 (a0 146 22 + 4)))
theorem cp_X12_four_3 (E : jxE) (d : Nat) (hd : Nat.ble 1 (d + 1) = true) (x1 : Int) (a0 b0 : Nat → Nat → Int) (hv0 : iv a0) (hp0 : a0 146 22 ≤ 196) : ∀ n : Nat, (∀ (y1 y2 : Int) (a : Nat → Nat → Int), (((y2 + 8) * 1) + 0).toNat ≤ n → iv a → jfr jW_X12_four a0 a → 0 ≤ y2 → y2 ≤ 24 → (8 * (a 146 22)) + y2 = (8 * (a0 146 22)) + 32 → (y1 = x1) → (APP (UB (a0 164)) (UB (a 164)) (a0 146 22) x1 (a 146 22)) → jt (jxX E d 211 30 [some (.inr (.inr (.inl 146))), some (.inl y1), some (.inl y2)] [] (jxSH, a, b0)) (jQ_X12_four x1 a0 b0)) ∧ (∀ (y1 y2 : Int) (a : Nat → Nat → Int), (((y2 + 8) * 1) + 0).toNat ≤ n → iv a → jfr jW_X12_four a0 a → 0 - 8 ≤ y2 → y2 ≤ 24 → (8 * (a 146 22)) + y2 = (8 * (a0 146 22)) + 24 → (y1 = x1) → (APP (UB (a0 164)) (UB (a 164)) (a0 146 22) x1 (a 146 22)) → jt (jxX E d 211 3 [some (.inr (.inr (.inl 146))), some (.inl y1), some (.inl y2)] [] (jxSH, a, b0)) (jQ_X12_four x1 a0 b0)) := by
  refine jx_ind fun n ih => ?_
  have ih30 : ∀ (y1 y2 : Int) (a : Nat → Nat → Int), (((y2 + 8) * 1) + 0).toNat < n → iv a → jfr jW_X12_four a0 a → 0 ≤ y2 → y2 ≤ 24 → (8 * (a 146 22)) + y2 = (8 * (a0 146 22)) + 32 → (y1 = x1) → (APP (UB (a0 164)) (UB (a 164)) (a0 146 22) x1 (a 146 22)) → jt (jxX E d 211 30 [some (.inr (.inr (.inl 146))), some (.inl y1), some (.inl y2)] [] (jxSH, a, b0)) (jQ_X12_four x1 a0 b0) := fun y1 y2 a hlt i0 i1 i2 i3 i4 i5 i6 => (ih _ hlt).1 y1 y2 a (Nat.le_refl _) i0 i1 i2 i3 i4 i5 i6
  have ih3 : ∀ (y1 y2 : Int) (a : Nat → Nat → Int), (((y2 + 8) * 1) + 0).toNat < n → iv a → jfr jW_X12_four a0 a → 0 - 8 ≤ y2 → y2 ≤ 24 → (8 * (a 146 22)) + y2 = (8 * (a0 146 22)) + 24 → (y1 = x1) → (APP (UB (a0 164)) (UB (a 164)) (a0 146 22) x1 (a 146 22)) → jt (jxX E d 211 3 [some (.inr (.inr (.inl 146))), some (.inl y1), some (.inl y2)] [] (jxSH, a, b0)) (jQ_X12_four x1 a0 b0) := fun y1 y2 a hlt i0 i1 i2 i3 i4 i5 i6 => (ih _ hlt).2 y1 y2 a (Nat.le_refl _) i0 i1 i2 i3 i4 i5 i6
  have hc30 : ∀ (y1 y2 : Int) (a : Nat → Nat → Int), (((y2 + 8) * 1) + 0).toNat ≤ n → iv a → jfr jW_X12_four a0 a → 0 ≤ y2 → y2 ≤ 24 → (8 * (a 146 22)) + y2 = (8 * (a0 146 22)) + 32 → (y1 = x1) → (APP (UB (a0 164)) (UB (a 164)) (a0 146 22) x1 (a 146 22)) → jt (jxX E d 211 30 [some (.inr (.inr (.inl 146))), some (.inl y1), some (.inl y2)] [] (jxSH, a, b0)) (jQ_X12_four x1 a0 b0) := by
    intro y1 y2 a hm hv hf hi0 hi1 hi2 hy1 hap
    refine jt_eq (bq_X12_four_30 E d y1 y2 a b0) ?_
    have h544_ := iv_get hv (k := 146) (j := 22) (l := 0) (u := 200) rfl
    have h545_ := iv_get hv0 (k := 146) (j := 22) (l := 0) (u := 200) rfl
    have h546_ : jxw (y2 + (-8)) = y2 + (-8) := jxw_id (by omega) (by omega)
    exact ih3 y1 (jxw (y2 + (-8))) a (show ((((jxw (y2 + (-8))) + 8) * 1) + 0).toNat < n from by omega) hv hf (show 0 - 8 ≤ jxw (y2 + (-8)) from by omega) (show jxw (y2 + (-8)) ≤ 24 from by omega) (show (8 * (a 146 22)) + (jxw (y2 + (-8))) = (8 * (a0 146 22)) + 24 from by omega) (by first | rfl | assumption) hap
  have hc3 : ∀ (y1 y2 : Int) (a : Nat → Nat → Int), (((y2 + 8) * 1) + 0).toNat ≤ n → iv a → jfr jW_X12_four a0 a → 0 - 8 ≤ y2 → y2 ≤ 24 → (8 * (a 146 22)) + y2 = (8 * (a0 146 22)) + 24 → (y1 = x1) → (APP (UB (a0 164)) (UB (a 164)) (a0 146 22) x1 (a 146 22)) → jt (jxX E d 211 3 [some (.inr (.inr (.inl 146))), some (.inl y1), some (.inl y2)] [] (jxSH, a, b0)) (jQ_X12_four x1 a0 b0) := by
    intro y1 y2 a hm hv hf hi0 hi1 hi2 hy1 hap
    refine jt_eq (bq_X12_four_3 E d y1 y2 a b0) ?_
    have h547_ := iv_get hv (k := 146) (j := 22) (l := 0) (u := 200) rfl
    have h548_ := iv_get hv0 (k := 146) (j := 22) (l := 0) (u := 200) rfl
    refine jt_ite (fun c549_ => ?_) (fun c549_ => ?_)
    ·
      exact jt_rV ⟨hv, hf, rfl, (show a 146 22 = (a0 146 22) + 4 from by omega), (by rw [show a0 146 22 + 4 = a 146 22 from by omega]; exact hap)⟩
    ·
      refine jt_grd (by omega) ?_
      have h550_ := jxshr_b y1 y2
      have h551_ := jxi2b_b (jxshr y1 y2)
      refine jt_grd (by omega) ?_
      have hv552_ : iv (jxu a 164 ((a 146 22).toNat) (jxi2b (jxshr y1 y2))) := iv_put hv (l := (-128)) (u := 127) rfl (by omega) (by omega)
      have h554_ : jxw ((a 146 22) + 1) = (a 146 22) + 1 := jxw_id (by omega) (by omega)
      have hv553_ : iv (jxu (jxu a 164 ((a 146 22).toNat) (jxi2b (jxshr y1 y2))) 146 22 (jxw ((a 146 22) + 1))) := iv_put hv552_ (l := 0) (u := 200) rfl (by omega) (by omega)
      have hf555_ : jfr jW_X12_four a0 (jxu a 164 ((a 146 22).toNat) (jxi2b (jxshr y1 y2))) := jfr_put hf rfl
      have hf556_ : jfr jW_X12_four a0 (jxu (jxu a 164 ((a 146 22).toNat) (jxi2b (jxshr y1 y2))) 146 22 (jxw ((a 146 22) + 1))) := jfr_put hf555_ rfl
      exact hc30 y1 y2 (jxu (jxu a 164 ((a 146 22).toNat) (jxi2b (jxshr y1 y2))) 146 22 (jxw ((a 146 22) + 1))) (show (((y2 + 8) * 1) + 0).toNat ≤ n from by omega) hv553_ hf556_ (show 0 ≤ y2 from by omega) (show y2 ≤ 24 from by omega) (show (8 * (jxw ((a 146 22) + 1))) + y2 = (8 * (a0 146 22)) + 32 from by omega) (by first | rfl | assumption) (by rw [show jxu (jxu a 164 ((a 146 22).toNat) (jxi2b (jxshr y1 y2))) 146 22 (jxw ((a 146 22) + 1)) 146 22 = a 146 22 + 1 from (show jxw ((a 146 22) + 1) = _ from by omega)]; exact APP_s (s := y2) hap (UP_UB (UP_put (fun _ => rfl)) (i2b_and _)) (by omega) (by omega) (by omega) (by rw [← hy1]))
  exact ⟨hc30, hc3⟩
theorem sp_X12_four (E : jxE) (d : Nat) (hd : Nat.ble 1 d = true) (x1 : Int) (a0 b0 : Nat → Nat → Int) (hv0 : iv a0) (hp0 : a0 146 22 ≤ 196) : jt (jxC E d 211 [.inr (.inr (.inl 146)), .inl x1] (jxSH, a0, b0)) (jQ_X12_four x1 a0 b0) := by
  obtain ⟨d, rfl⟩ := jd_succ hd
  refine jt_eq (bq_X12_four E d x1 a0 b0) ?_
  have h557_ := iv_get hv0 (k := 146) (j := 22) (l := 0) (u := 200) rfl
  exact (cp_X12_four_3 E d hd x1 a0 b0 hv0 hp0 _).2 x1 24 a0 (Nat.le_refl _) hv0 (jfr_rf _ _) (show 0 - 8 ≤ 24 from by omega) (show 24 ≤ 24 from by omega) (show (8 * (a0 146 22)) + 24 = (8 * (a0 146 22)) + 24 from by omega) (by first | rfl | assumption) (APP_0 _ _ _)
def jW_X12_feed : List (Nat × Nat) := [(146, 22), (164, 9999)]
abbrev jQ_X12_feed (x1 x2 x3 x4 x5 : Int) (a0 b0 : Nat → Nat → Int) : List jxV → (Nat → Nat → Int) → (Nat → Nat → Int) → Prop := rI (fun r a b => (iv a) ∧ (jfr jW_X12_feed a0 a) ∧ (b0 = b) ∧ ((((a0 146 22 ≤ 180 ∧ r = (a0 146 22) + 20) ∧ a 146 22 = (a0 146 22) + 20) ∨ ((180 < a0 146 22 ∧ r = 0 - 1) ∧ a 146 22 = a0 146 22))) ∧ (a0 146 22 ≤ 180 → FED (UB (a0 164)) (UB (a 164)) (a0 146 22) x1 x2 x3 x4 x5) ∧ (180 < a0 146 22 → ∀ j, a 164 j = a0 164 j))
theorem cp_X12_feed_30 (E : jxE) (d : Nat) (hd : Nat.ble 2 (d + 1) = true) (x1 x2 x3 x4 x5 : Int) (a0 b0 : Nat → Nat → Int) (hv0 : iv a0) : ∀ (y4 y5 : Int) (a : Nat → Nat → Int), iv a → jfr jW_X12_feed a0 a → a 146 22 = (a0 146 22) + 12 → a0 146 22 ≤ 180 → (∃ g1 g2 : Nat → Int, APP (UB (a0 164)) g1 (a0 146 22) x1 ((a0 146 22) + 4) ∧ APP g1 g2 ((a0 146 22) + 4) x2 ((a0 146 22) + 8) ∧ APP g2 (UB (a 164)) ((a0 146 22) + 8) x3 ((a0 146 22) + 12)) → (y4 = x4) → (y5 = x5) → jt (jxX E d 212 30 [some (.inr (.inr (.inl 146))), none, none, none, some (.inl y4), some (.inl y5)] [] (jxSH, a, b0)) (jQ_X12_feed x1 x2 x3 x4 x5 a0 b0) := by
  intro y4 y5 a hv hf hi0 hi1 hfd hy4 hy5
  refine jt_eq (bq_X12_feed_30 E d y4 y5 a b0) ?_
  have h558_ := iv_get hv (k := 146) (j := 22) (l := 0) (u := 200) rfl
  have h559_ := iv_get hv0 (k := 146) (j := 22) (l := 0) (u := 200) rfl
  refine jt_bV (sp_X12_four E d (jd_le hd rfl) y4 a b0 hv (show a 146 22 ≤ 196 from by omega)) (fun a560_ b560_ h560_ => ?_)
  obtain ⟨hv560_, hf560_, rfl, hq560_0, hq560_1⟩ := h560_
  have h561_ := iv_get hv560_ (k := 146) (j := 22) (l := 0) (u := 200) rfl
  refine jt_bV (sp_X12_four E d (jd_le hd rfl) y5 a560_ b0 hv560_ (show a560_ 146 22 ≤ 196 from by omega)) (fun a562_ b562_ h562_ => ?_)
  obtain ⟨hv562_, hf562_, rfl, hq562_0, hq562_1⟩ := h562_
  have h563_ := iv_get hv562_ (k := 146) (j := 22) (l := 0) (u := 200) rfl
  have hf564_ : jfr jW_X12_feed a0 a560_ := jfr_tr hf hf560_ rfl
  have hf565_ : jfr jW_X12_feed a0 a562_ := jfr_tr hf564_ hf562_ rfl
  exact jt_rI ⟨hv562_, hf565_, rfl, (show (((a0 146 22 ≤ 180 ∧ a562_ 146 22 = (a0 146 22) + 20) ∧ a562_ 146 22 = (a0 146 22) + 20) ∨ ((180 < a0 146 22 ∧ a562_ 146 22 = 0 - 1) ∧ a562_ 146 22 = a0 146 22)) from by omega), (fun _ => by obtain ⟨g1, g2, p1, p2, p3⟩ := hfd; subst hy4; subst hy5; exact ⟨g1, g2, (UB (a 164)), (UB (a560_ 164)), p1, p2, p3, APP_c (hq560_1) (by omega) (by omega), APP_c (hq562_1) (by omega) (by omega)⟩), (fun h => absurd h (by omega))⟩
theorem sp_X12_feed (E : jxE) (d : Nat) (hd : Nat.ble 2 d = true) (x1 x2 x3 x4 x5 : Int) (a0 b0 : Nat → Nat → Int) (hv0 : iv a0) : jt (jxC E d 212 [.inr (.inr (.inl 146)), .inl x1, .inl x2, .inl x3, .inl x4, .inl x5] (jxSH, a0, b0)) (jQ_X12_feed x1 x2 x3 x4 x5 a0 b0) := by
  obtain ⟨d, rfl⟩ := jd_succ hd
  refine jt_eq (bq_X12_feed E d x1 x2 x3 x4 x5 a0 b0) ?_
  have h566_ := iv_get hv0 (k := 146) (j := 22) (l := 0) (u := 200) rfl
  have h567_ : jxw ((a0 146 22) + 20) = (a0 146 22) + 20 := jxw_id (by omega) (by omega)
  refine jt_ite (fun c568_ => ?_) (fun c568_ => ?_)
  ·
    exact jt_rI ⟨hv0, (jfr_rf _ _), rfl, (show (((a0 146 22 ≤ 180 ∧ (-1) = (a0 146 22) + 20) ∧ a0 146 22 = (a0 146 22) + 20) ∨ ((180 < a0 146 22 ∧ (-1) = 0 - 1) ∧ a0 146 22 = a0 146 22)) from by omega), (fun h => absurd h (by omega)), (fun _ _ => rfl)⟩
  ·
    refine jt_bV (sp_X12_four E d (jd_le hd rfl) x1 a0 b0 hv0 (show a0 146 22 ≤ 196 from by omega)) (fun a569_ b569_ h569_ => ?_)
    obtain ⟨hv569_, hf569_, rfl, hq569_0, hq569_1⟩ := h569_
    have h570_ := iv_get hv569_ (k := 146) (j := 22) (l := 0) (u := 200) rfl
    refine jt_bV (sp_X12_four E d (jd_le hd rfl) x2 a569_ b0 hv569_ (show a569_ 146 22 ≤ 196 from by omega)) (fun a571_ b571_ h571_ => ?_)
    obtain ⟨hv571_, hf571_, rfl, hq571_0, hq571_1⟩ := h571_
    have h572_ := iv_get hv571_ (k := 146) (j := 22) (l := 0) (u := 200) rfl
    refine jt_bV (sp_X12_four E d (jd_le hd rfl) x3 a571_ b0 hv571_ (show a571_ 146 22 ≤ 196 from by omega)) (fun a573_ b573_ h573_ => ?_)
    obtain ⟨hv573_, hf573_, rfl, hq573_0, hq573_1⟩ := h573_
    have h574_ := iv_get hv573_ (k := 146) (j := 22) (l := 0) (u := 200) rfl
    have hf575_ : jfr jW_X12_feed a0 a569_ := jfr_tr (jfr_rf _ _) hf569_ rfl
    have hf576_ : jfr jW_X12_feed a0 a571_ := jfr_tr hf575_ hf571_ rfl
    have hf577_ : jfr jW_X12_feed a0 a573_ := jfr_tr hf576_ hf573_ rfl
    exact cp_X12_feed_30 E d hd x1 x2 x3 x4 x5 a0 b0 hv0 x4 x5 a573_ hv573_ hf577_ (show a573_ 146 22 = (a0 146 22) + 12 from by omega) (show a0 146 22 ≤ 180 from by omega) ⟨_, _, hq569_1, APP_c (hq571_1) (by omega) (by omega), APP_c (hq573_1) (by omega) (by omega)⟩ rfl rfl
def jW_X12_list : List (Nat × Nat) := [(146, 42), (173, 9999)]
abbrev jQ_X12_list (x1 : Int) (a0 b0 : Nat → Nat → Int) : List jxV → (Nat → Nat → Int) → (Nat → Nat → Int) → Prop := rI (fun r a b => (iv a) ∧ (jfr jW_X12_list a0 a) ∧ (b0 = b) ∧ ((a0 146 2 = 0 → r = 0 - 1)))
theorem cp_X12_list_67 (E : jxE) (d : Nat) (hd : Nat.ble 3 (d + 1) = true) (x1 : Int) (a0 b0 : Nat → Nat → Int) (hv0 : iv a0) : ∀ (a : Nat → Nat → Int), iv a → jfr jW_X12_list a0 a → 1 ≤ a 146 42 → 1 ≤ a0 146 2 → jt (jxX E d 252 67 [some (.inr (.inr (.inl 146))), none, none] [] (jxSH, a, b0)) (jQ_X12_list x1 a0 b0) := by
  intro a hv hf hi0 hi1
  refine jt_eq (bq_X12_list_67 E d a b0) ?_
  have h578_ := iv_get hv (k := 146) (j := 42) (l := 0) (u := 8) rfl
  have h579_ := iv_get hv0 (k := 146) (j := 2) (l := 0) (u := 40) rfl
  exact jt_rI ⟨hv, hf, rfl, (show (a0 146 2 = 0 → a 146 42 = 0 - 1) from by omega)⟩
theorem cp_X12_list_21 (E : jxE) (d : Nat) (hd : Nat.ble 3 (d + 1) = true) (x1 : Int) (a0 b0 : Nat → Nat → Int) (hv0 : iv a0) : ∀ n : Nat, (∀ (y1 y2 : Int) (a : Nat → Nat → Int), (((7 - y2) * 1) + 0).toNat ≤ n → iv a → jfr jW_X12_list a0 a → 0 ≤ y1 → y1 ≤ 39 → 0 ≤ y2 → y2 ≤ 7 → a 146 42 ≤ 7 → 1 ≤ a0 146 2 → jt (jxX E d 252 21 [some (.inr (.inr (.inl 146))), some (.inl y1), some (.inl y2)] [] (jxSH, a, b0)) (jQ_X12_list x1 a0 b0)) := by
  refine jx_ind fun n ih => ?_
  have ih21 : ∀ (y1 y2 : Int) (a : Nat → Nat → Int), (((7 - y2) * 1) + 0).toNat < n → iv a → jfr jW_X12_list a0 a → 0 ≤ y1 → y1 ≤ 39 → 0 ≤ y2 → y2 ≤ 7 → a 146 42 ≤ 7 → 1 ≤ a0 146 2 → jt (jxX E d 252 21 [some (.inr (.inr (.inl 146))), some (.inl y1), some (.inl y2)] [] (jxSH, a, b0)) (jQ_X12_list x1 a0 b0) := fun y1 y2 a hlt i0 i1 i2 i3 i4 i5 i6 i7 => (ih _ hlt) y1 y2 a (Nat.le_refl _) i0 i1 i2 i3 i4 i5 i6 i7
  have hc21 : ∀ (y1 y2 : Int) (a : Nat → Nat → Int), (((7 - y2) * 1) + 0).toNat ≤ n → iv a → jfr jW_X12_list a0 a → 0 ≤ y1 → y1 ≤ 39 → 0 ≤ y2 → y2 ≤ 7 → a 146 42 ≤ 7 → 1 ≤ a0 146 2 → jt (jxX E d 252 21 [some (.inr (.inr (.inl 146))), some (.inl y1), some (.inl y2)] [] (jxSH, a, b0)) (jQ_X12_list x1 a0 b0) := by
    intro y1 y2 a hm hv hf hi0 hi1 hi2 hi3 hi4 hi5
    refine jt_eq (bq_X12_list_21 E d y1 y2 a b0) ?_
    have h580_ := iv_get hv (k := 146) (j := 42) (l := 0) (u := 8) rfl
    have h581_ := iv_get hv0 (k := 146) (j := 2) (l := 0) (u := 40) rfl
    refine jt_ite (fun c582_ => ?_) (fun c582_ => ?_)
    ·
      refine jt_grd (by omega) ?_
      have h583_ := iv_get hv (k := 173) (j := y2.toNat) (l := 0) (u := 39) rfl
      refine jt_ite (fun c584_ => ?_) (fun c584_ => ?_)
      ·
        exact jt_rI ⟨hv, hf, rfl, (show (a0 146 2 = 0 → (-1) = 0 - 1) from by omega)⟩
      ·
        have h585_ : jxw (y2 + 1) = y2 + 1 := jxw_id (by omega) (by omega)
        exact ih21 y1 (jxw (y2 + 1)) a (show (((7 - (jxw (y2 + 1))) * 1) + 0).toNat < n from by omega) hv hf (show 0 ≤ y1 from by omega) (show y1 ≤ 39 from by omega) (show 0 ≤ jxw (y2 + 1) from by omega) (show jxw (y2 + 1) ≤ 7 from by omega) (show a 146 42 ≤ 7 from by omega) (show 1 ≤ a0 146 2 from by omega)
    ·
      refine jt_grd (by omega) ?_
      have hv586_ : iv (jxu a 173 ((a 146 42).toNat) y1) := iv_put hv (l := 0) (u := 39) rfl (by omega) (by omega)
      have h588_ : jxw ((a 146 42) + 1) = (a 146 42) + 1 := jxw_id (by omega) (by omega)
      have hv587_ : iv (jxu (jxu a 173 ((a 146 42).toNat) y1) 146 42 (jxw ((a 146 42) + 1))) := iv_put hv586_ (l := 0) (u := 8) rfl (by omega) (by omega)
      have hf589_ : jfr jW_X12_list a0 (jxu a 173 ((a 146 42).toNat) y1) := jfr_put hf rfl
      have hf590_ : jfr jW_X12_list a0 (jxu (jxu a 173 ((a 146 42).toNat) y1) 146 42 (jxw ((a 146 42) + 1))) := jfr_put hf589_ rfl
      exact cp_X12_list_67 E d hd x1 a0 b0 hv0 (jxu (jxu a 173 ((a 146 42).toNat) y1) 146 42 (jxw ((a 146 42) + 1))) hv587_ hf590_ (show 1 ≤ jxw ((a 146 42) + 1) from by omega) (show 1 ≤ a0 146 2 from by omega)
  exact hc21
theorem sp_X12_list (E : jxE) (d : Nat) (hd : Nat.ble 3 d = true) (x1 : Int) (a0 b0 : Nat → Nat → Int) (hv0 : iv a0) : jt (jxC E d 252 [.inr (.inr (.inl 146)), .inl x1] (jxSH, a0, b0)) (jQ_X12_list x1 a0 b0) := by
  obtain ⟨d, rfl⟩ := jd_succ hd
  refine jt_eq (bq_X12_list E d x1 a0 b0) ?_
  refine jt_eI (eq_X12_isMember E d (jd_le hd rfl) x1 a0 b0) ?_
  have h591_ := f_X12_isMember_eq a0 b0 x1
  have h592_ := iv_get hv0 (k := 146) (j := 2) (l := 0) (u := 40) rfl
  have h593_ : jxw ((a0 146 2) - 1) = (a0 146 2) - 1 := jxw_id (by omega) (by omega)
  have h594_ := f_X12_in_eq a0 b0 x1 0 (jxw ((a0 146 2) - 1))
  refine jt_ite (fun c595_ => ?_) (fun c595_ => ?_)
  ·
    exact jt_rI ⟨hv0, (jfr_rf _ _), rfl, (show (a0 146 2 = 0 → (-1) = 0 - 1) from by omega)⟩
  ·
    have h596_ := iv_get hv0 (k := 146) (j := 42) (l := 0) (u := 8) rfl
    refine jt_ite (fun c597_ => ?_) (fun c597_ => ?_)
    ·
      exact jt_rI ⟨hv0, (jfr_rf _ _), rfl, (show (a0 146 2 = 0 → (-1) = 0 - 1) from by omega)⟩
    ·
      exact (cp_X12_list_21 E d hd x1 a0 b0 hv0 _) x1 0 a0 (Nat.le_refl _) hv0 (jfr_rf _ _) (show 0 ≤ x1 from by omega) (show x1 ≤ 39 from by omega) (show 0 ≤ 0 from by omega) (show 0 ≤ 7 from by omega) (show a0 146 42 ≤ 7 from by omega) (show 1 ≤ a0 146 2 from by omega)
def jWeM2 : List (Nat × Nat) := []
def jW_X12_member : List (Nat × Nat) := [(146, 2), (148, 9999), (149, 9999), (150, 9999), (151, 9999), (152, 9999)]
abbrev jQ_X12_member (x1 x2 x3 : Int) (a0 b0 : Nat → Nat → Int) : List jxV → (Nat → Nat → Int) → (Nat → Nat → Int) → Prop := rI (fun r a b => (iv a) ∧ (jfr jW_X12_member a0 a) ∧ (b0 = b) ∧ ((((((((((0 ≤ x1 ∧ x1 ≤ 15) ∧ 0 ≤ x2) ∧ x2 ≤ 65535) ∧ 0 - 1 ≤ x3) ∧ x3 ≤ 19) ∧ a0 146 2 < 40) ∧ r = a0 146 2) ∧ a 146 2 = (a0 146 2) + 1) ∨ ((((((((x1 < 0 ∨ 15 < x1) ∨ x2 < 0) ∨ 65535 < x2) ∨ x3 < 0 - 1) ∨ 19 < x3) ∨ 40 ≤ a0 146 2) ∧ r = 0 - 1) ∧ a 146 2 = a0 146 2))) ∧ (0 ≤ r → MAD a0 a 148 149 150 151 152 r.toNat x1 x2 x3 (a0 146 0)) ∧ (r < 0 → MSA a0 a 148 149 150 151 152))
theorem cp_X12_member_36 (E : jxE) (d : Nat) (hd : Nat.ble 3 (d + 1) = true) (x1 x2 x3 : Int) (a0 b0 : Nat → Nat → Int) (hv0 : iv a0) : ∀ (a : Nat → Nat → Int), iv a → jfr jW_X12_member a0 a → ((((((x1 < 0 ∨ 15 < x1) ∨ x2 < 0) ∨ 65535 < x2) ∨ x3 < 0 - 1) ∨ 19 < x3) ∨ 40 ≤ a 146 2) → a 146 2 = a0 146 2 → (jfr jWeM2 a0 a) → jt (jxX E d 210 36 [none, none, none, none] [] (jxSH, a, b0)) (jQ_X12_member x1 x2 x3 a0 b0) := by
  intro a hv hf hi0 hi1 hfe
  refine jt_eq (bq_X12_member_36 E d a b0) ?_
  have h598_ := iv_get hv (k := 146) (j := 2) (l := 0) (u := 40) rfl
  have h599_ := iv_get hv0 (k := 146) (j := 2) (l := 0) (u := 40) rfl
  exact jt_rI ⟨hv, hf, rfl, (show (((((((((0 ≤ x1 ∧ x1 ≤ 15) ∧ 0 ≤ x2) ∧ x2 ≤ 65535) ∧ 0 - 1 ≤ x3) ∧ x3 ≤ 19) ∧ a0 146 2 < 40) ∧ (-1) = a0 146 2) ∧ a 146 2 = (a0 146 2) + 1) ∨ ((((((((x1 < 0 ∨ 15 < x1) ∨ x2 < 0) ∨ 65535 < x2) ∨ x3 < 0 - 1) ∨ 19 < x3) ∨ 40 ≤ a0 146 2) ∧ (-1) = 0 - 1) ∧ a 146 2 = a0 146 2)) from by omega), (by first | (intro h; exact absurd h (by decide)) | (intro _; rw [show (jxw ((a 146 2) - 1)).toNat = (a0 146 2).toNat from by omega]; exact hmad)), (by first | (intro _; exact MSA_e hfe) | (intro h; exact absurd h (by omega)))⟩
theorem cp_X12_member_101 (E : jxE) (d : Nat) (hd : Nat.ble 3 (d + 1) = true) (x1 x2 x3 : Int) (a0 b0 : Nat → Nat → Int) (hv0 : iv a0) : ∀ (a : Nat → Nat → Int), iv a → jfr jW_X12_member a0 a → 1 ≤ a 146 2 → (((((0 ≤ x1 ∧ x1 ≤ 15) ∧ 0 ≤ x2) ∧ x2 ≤ 65535) ∧ 0 - 1 ≤ x3) ∧ x3 ≤ 19) → a0 146 2 ≤ 39 → a 146 2 = (a0 146 2) + 1 → (MAD a0 a 148 149 150 151 152 (a0 146 2).toNat x1 x2 x3 (a0 146 0)) → jt (jxX E d 210 101 [some (.inr (.inr (.inl 146))), none, none, none] [] (jxSH, a, b0)) (jQ_X12_member x1 x2 x3 a0 b0) := by
  intro a hv hf hi0 hi1 hi2 hi3 hmad
  refine jt_eq (bq_X12_member_101 E d a b0) ?_
  have h600_ := iv_get hv (k := 146) (j := 2) (l := 0) (u := 40) rfl
  have h601_ := iv_get hv0 (k := 146) (j := 2) (l := 0) (u := 40) rfl
  have h602_ : jxw ((a 146 2) - 1) = (a 146 2) - 1 := jxw_id (by omega) (by omega)
  exact jt_rI ⟨hv, hf, rfl, (show (((((((((0 ≤ x1 ∧ x1 ≤ 15) ∧ 0 ≤ x2) ∧ x2 ≤ 65535) ∧ 0 - 1 ≤ x3) ∧ x3 ≤ 19) ∧ a0 146 2 < 40) ∧ jxw ((a 146 2) - 1) = a0 146 2) ∧ a 146 2 = (a0 146 2) + 1) ∨ ((((((((x1 < 0 ∨ 15 < x1) ∨ x2 < 0) ∨ 65535 < x2) ∨ x3 < 0 - 1) ∨ 19 < x3) ∨ 40 ≤ a0 146 2) ∧ jxw ((a 146 2) - 1) = 0 - 1) ∧ a 146 2 = a0 146 2)) from by omega), (by first | (intro h; exact absurd h (by decide)) | (intro _; rw [show (jxw ((a 146 2) - 1)).toNat = (a0 146 2).toNat from by omega]; exact hmad)), (by first | (intro _; exact MSA_e hfe) | (intro h; exact absurd h (by omega)))⟩
theorem cp_X12_member_68 (E : jxE) (d : Nat) (hd : Nat.ble 3 (d + 1) = true) (x1 x2 x3 : Int) (a0 b0 : Nat → Nat → Int) (hv0 : iv a0) : ∀ (a : Nat → Nat → Int), iv a → jfr jW_X12_member a0 a → a 146 2 ≤ 39 → (((((0 ≤ x1 ∧ x1 ≤ 15) ∧ 0 ≤ x2) ∧ x2 ≤ 65535) ∧ 0 - 1 ≤ x3) ∧ x3 ≤ 19) → a 146 2 ≤ 39 → a 146 2 = a0 146 2 → (UP (a0 148) (a 148) (a0 146 2).toNat x1 ∧ UP (a0 149) (a 149) (a0 146 2).toNat x2 ∧ UP (a0 150) (a 150) (a0 146 2).toNat x3 ∧ (∀ j, a 151 j = a0 151 j) ∧ (∀ j, a 152 j = a0 152 j)) → jt (jxX E d 210 68 [some (.inr (.inr (.inl 146))), none, none, none] [] (jxSH, a, b0)) (jQ_X12_member x1 x2 x3 a0 b0) := by
  intro a hv hf hi0 hi1 hi2 hi3 hu
  refine jt_eq (bq_X12_member_68 E d a b0) ?_
  have h603_ := iv_get hv (k := 146) (j := 2) (l := 0) (u := 40) rfl
  have h604_ := iv_get hv0 (k := 146) (j := 2) (l := 0) (u := 40) rfl
  refine jt_grd (by omega) ?_
  refine jt_grd (by omega) ?_
  have hv605_ : iv (jxu a 151 ((a 146 2).toNat) (a 146 0)) := iv_putf hv rfl
  have hv606_ : iv (jxu (jxu a 151 ((a 146 2).toNat) (a 146 0)) 152 ((a 146 2).toNat) 1) := iv_put hv605_ (l := 0) (u := 1) rfl (by omega) (by omega)
  have h608_ : jxw ((a 146 2) + 1) = (a 146 2) + 1 := jxw_id (by omega) (by omega)
  have hv607_ : iv (jxu (jxu (jxu a 151 ((a 146 2).toNat) (a 146 0)) 152 ((a 146 2).toNat) 1) 146 2 (jxw ((a 146 2) + 1))) := iv_put hv606_ (l := 0) (u := 40) rfl (by omega) (by omega)
  have hf609_ : jfr jW_X12_member a0 (jxu a 151 ((a 146 2).toNat) (a 146 0)) := jfr_put hf rfl
  have hf610_ : jfr jW_X12_member a0 (jxu (jxu a 151 ((a 146 2).toNat) (a 146 0)) 152 ((a 146 2).toNat) 1) := jfr_put hf609_ rfl
  have hf611_ : jfr jW_X12_member a0 (jxu (jxu (jxu a 151 ((a 146 2).toNat) (a 146 0)) 152 ((a 146 2).toNat) 1) 146 2 (jxw ((a 146 2) + 1))) := jfr_put hf610_ rfl
  exact cp_X12_member_101 E d hd x1 x2 x3 a0 b0 hv0 (jxu (jxu (jxu a 151 ((a 146 2).toNat) (a 146 0)) 152 ((a 146 2).toNat) 1) 146 2 (jxw ((a 146 2) + 1))) hv607_ hf611_ (show 1 ≤ jxw ((a 146 2) + 1) from by omega) (show (((((0 ≤ x1 ∧ x1 ≤ 15) ∧ 0 ≤ x2) ∧ x2 ≤ 65535) ∧ 0 - 1 ≤ x3) ∧ x3 ≤ 19) from by omega) (show a0 146 2 ≤ 39 from by omega) (show jxw ((a 146 2) + 1) = (a0 146 2) + 1 from by omega) (by rw [show a0 146 0 = a 146 0 from (hf 146 0 rfl).symm]; have e : (a0 146 2).toNat = (a 146 2).toNat := (by omega); rw [e] at hu ⊢; exact ⟨hu.1, hu.2.1, hu.2.2.1, UP_put hu.2.2.2.1, UP_put hu.2.2.2.2⟩)
theorem cp_X12_member_38 (E : jxE) (d : Nat) (hd : Nat.ble 3 (d + 1) = true) (x1 x2 x3 : Int) (a0 b0 : Nat → Nat → Int) (hv0 : iv a0) : ∀ (y1 y2 y3 : Int) (a : Nat → Nat → Int), iv a → jfr jW_X12_member a0 a → 0 ≤ y1 → y1 ≤ 15 → 0 ≤ y2 → y2 ≤ 65535 → 0 - 1 ≤ y3 → y3 ≤ 19 → a 146 2 ≤ 39 → y1 = x1 → y2 = x2 → y3 = x3 → (((((0 ≤ x1 ∧ x1 ≤ 15) ∧ 0 ≤ x2) ∧ x2 ≤ 65535) ∧ 0 - 1 ≤ x3) ∧ x3 ≤ 19) → a 146 2 ≤ 39 → a 146 2 = a0 146 2 → (jfr jWeM2 a0 a) → jt (jxX E d 210 38 [some (.inr (.inr (.inl 146))), some (.inl y1), some (.inl y2), some (.inl y3)] [] (jxSH, a, b0)) (jQ_X12_member x1 x2 x3 a0 b0) := by
  intro y1 y2 y3 a hv hf hi0 hi1 hi2 hi3 hi4 hi5 hi6 hi7 hi8 hi9 hi10 hi11 hi12 hfe
  refine jt_eq (bq_X12_member_38 E d y1 y2 y3 a b0) ?_
  have h612_ := iv_get hv (k := 146) (j := 2) (l := 0) (u := 40) rfl
  have h613_ := iv_get hv0 (k := 146) (j := 2) (l := 0) (u := 40) rfl
  refine jt_grd (by omega) ?_
  refine jt_grd (by omega) ?_
  refine jt_grd (by omega) ?_
  have hv614_ : iv (jxu a 148 ((a 146 2).toNat) y1) := iv_put hv (l := 0) (u := 15) rfl (by omega) (by omega)
  have hv615_ : iv (jxu (jxu a 148 ((a 146 2).toNat) y1) 149 ((a 146 2).toNat) y2) := iv_putf hv614_ rfl
  have hv616_ : iv (jxu (jxu (jxu a 148 ((a 146 2).toNat) y1) 149 ((a 146 2).toNat) y2) 150 ((a 146 2).toNat) y3) := iv_put hv615_ (l := (-1)) (u := 19) rfl (by omega) (by omega)
  have hf617_ : jfr jW_X12_member a0 (jxu a 148 ((a 146 2).toNat) y1) := jfr_put hf rfl
  have hf618_ : jfr jW_X12_member a0 (jxu (jxu a 148 ((a 146 2).toNat) y1) 149 ((a 146 2).toNat) y2) := jfr_put hf617_ rfl
  have hf619_ : jfr jW_X12_member a0 (jxu (jxu (jxu a 148 ((a 146 2).toNat) y1) 149 ((a 146 2).toNat) y2) 150 ((a 146 2).toNat) y3) := jfr_put hf618_ rfl
  exact cp_X12_member_68 E d hd x1 x2 x3 a0 b0 hv0 (jxu (jxu (jxu a 148 ((a 146 2).toNat) y1) 149 ((a 146 2).toNat) y2) 150 ((a 146 2).toNat) y3) hv616_ hf619_ (show a 146 2 ≤ 39 from by omega) (show (((((0 ≤ x1 ∧ x1 ≤ 15) ∧ 0 ≤ x2) ∧ x2 ≤ 65535) ∧ 0 - 1 ≤ x3) ∧ x3 ≤ 19) from by omega) (show a 146 2 ≤ 39 from by omega) (show a 146 2 = a0 146 2 from by omega) (by rw [show x1 = y1 from by omega, show x2 = y2 from by omega, show x3 = y3 from by omega, show (a0 146 2).toNat = (a 146 2).toNat from by omega]; exact ⟨UP_put (fun j => hfe 148 j rfl), UP_put (fun j => hfe 149 j rfl), UP_put (fun j => hfe 150 j rfl), fun j => hfe 151 j rfl, fun j => hfe 152 j rfl⟩)
theorem sp_X12_member (E : jxE) (d : Nat) (hd : Nat.ble 3 d = true) (x1 x2 x3 : Int) (a0 b0 : Nat → Nat → Int) (hv0 : iv a0) : jt (jxC E d 210 [.inr (.inr (.inl 146)), .inl x1, .inl x2, .inl x3] (jxSH, a0, b0)) (jQ_X12_member x1 x2 x3 a0 b0) := by
  obtain ⟨d, rfl⟩ := jd_succ hd
  refine jt_eq (bq_X12_member E d x1 x2 x3 a0 b0) ?_
  have h620_ := iv_get hv0 (k := 146) (j := 2) (l := 0) (u := 40) rfl
  refine jt_ite (fun c621_ => ?_) (fun c621_ => ?_)
  ·
    exact cp_X12_member_36 E d hd x1 x2 x3 a0 b0 hv0 a0 hv0 (jfr_rf _ _) (show ((((((x1 < 0 ∨ 15 < x1) ∨ x2 < 0) ∨ 65535 < x2) ∨ x3 < 0 - 1) ∨ 19 < x3) ∨ 40 ≤ a0 146 2) from by omega) (show a0 146 2 = a0 146 2 from by omega) (jfr_rf _ _)
  ·
    refine jt_eI (eq_X12_isLand E d (jd_le hd rfl) x1 a0 b0) ?_
    have h622_ := f_X12_isLand_eq a0 b0 x1
    have h623_ := f_X12_in_eq a0 b0 x1 0 15
    refine jt_ite (fun c624_ => ?_) (fun c624_ => ?_)
    ·
      exact cp_X12_member_36 E d hd x1 x2 x3 a0 b0 hv0 a0 hv0 (jfr_rf _ _) (show ((((((x1 < 0 ∨ 15 < x1) ∨ x2 < 0) ∨ 65535 < x2) ∨ x3 < 0 - 1) ∨ 19 < x3) ∨ 40 ≤ a0 146 2) from by omega) (show a0 146 2 = a0 146 2 from by omega) (jfr_rf _ _)
    ·
      refine jt_eI (eq_X12_in E d (jd_le hd rfl) x2 0 65535 a0 b0) ?_
      have h625_ := f_X12_in_eq a0 b0 x2 0 65535
      refine jt_ite (fun c626_ => ?_) (fun c626_ => ?_)
      ·
        exact cp_X12_member_36 E d hd x1 x2 x3 a0 b0 hv0 a0 hv0 (jfr_rf _ _) (show ((((((x1 < 0 ∨ 15 < x1) ∨ x2 < 0) ∨ 65535 < x2) ∨ x3 < 0 - 1) ∨ 19 < x3) ∨ 40 ≤ a0 146 2) from by omega) (show a0 146 2 = a0 146 2 from by omega) (jfr_rf _ _)
      ·
        refine jt_eI (eq_X12_in E d (jd_le hd rfl) x3 (-1) 19 a0 b0) ?_
        have h627_ := f_X12_in_eq a0 b0 x3 (-1) 19
        refine jt_ite (fun c628_ => ?_) (fun c628_ => ?_)
        ·
          exact cp_X12_member_36 E d hd x1 x2 x3 a0 b0 hv0 a0 hv0 (jfr_rf _ _) (show ((((((x1 < 0 ∨ 15 < x1) ∨ x2 < 0) ∨ 65535 < x2) ∨ x3 < 0 - 1) ∨ 19 < x3) ∨ 40 ≤ a0 146 2) from by omega) (show a0 146 2 = a0 146 2 from by omega) (jfr_rf _ _)
        ·
          exact cp_X12_member_38 E d hd x1 x2 x3 a0 b0 hv0 x1 x2 x3 a0 hv0 (jfr_rf _ _) (show 0 ≤ x1 from by omega) (show x1 ≤ 15 from by omega) (show 0 ≤ x2 from by omega) (show x2 ≤ 65535 from by omega) (show 0 - 1 ≤ x3 from by omega) (show x3 ≤ 19 from by omega) (show a0 146 2 ≤ 39 from by omega) (show x1 = x1 from by omega) (show x2 = x2 from by omega) (show x3 = x3 from by omega) (show (((((0 ≤ x1 ∧ x1 ≤ 15) ∧ 0 ≤ x2) ∧ x2 ≤ 65535) ∧ 0 - 1 ≤ x3) ∧ x3 ≤ 19) from by omega) (show a0 146 2 ≤ 39 from by omega) (show a0 146 2 = a0 146 2 from by omega) (jfr_rf _ _)
abbrev jQ_X12_priceOf (x1 x2 x3 x4 : Int) (a0 b0 : Nat → Nat → Int) : List jxV → (Nat → Nat → Int) → (Nat → Nat → Int) → Prop := rI (fun r a b => (a0 = a) ∧ (b0 = b) ∧ (0 - 2 ≤ r) ∧ (r ≤ 900) ∧ ((a0 146 68 = 0 → r = 0 - 2)) ∧ (r = PR2 a0 (ZN x1 x2 (a0 147 (16 * x1 + x2).toNat)) x3 x4))
theorem cp_X12_priceOf_166 (E : jxE) (d : Nat) (hd : Nat.ble 1 (d + 1) = true) (x1 x2 x3 x4 : Int) (a0 b0 : Nat → Nat → Int) (hv0 : iv a0) (hp0 : (0 ≤ x1 ∧ x1 ≤ 15)) (hp1 : (0 ≤ x2 ∧ x2 ≤ 15)) : ∀ (y9 : Int), 0 ≤ y9 → y9 ≤ 357 → 1 ≤ a0 146 68 → 0 ≤ y9 → y9 ≤ 357 → (0 ≤ HO (a0 192) x4 (a0 146 68).toNat ∧ a0 194 (jxw (y9 + 2)).toNat = CO (fun c => a0 194 (36 * (HO (a0 192) x4 (a0 146 68).toNat).toNat + 3 * c)) (fun c => a0 194 (36 * (HO (a0 192) x4 (a0 146 68).toNat).toNat + (3 * c + 1))) (fun c => a0 194 (36 * (HO (a0 192) x4 (a0 146 68).toNat).toNat + (3 * c + 2))) (a0 193 (HO (a0 192) x4 (a0 146 68).toNat).toNat).toNat (ZN x1 x2 (a0 147 (16 * x1 + x2).toNat)) x3 0) → jt (jxX E d 283 166 [some (.inr (.inr (.inl 146))), none, none, none, none, none, none, none, none, some (.inl y9)] [] (jxSH, a0, b0)) (jQ_X12_priceOf x1 x2 x3 x4 a0 b0) := by
  intro y9 hi0 hi1 hi2 hi3 hi4 hit
  refine jt_eq (bq_X12_priceOf_166 E d y9 a0 b0) ?_
  have h629_ := iv_get hv0 (k := 146) (j := 68) (l := 0) (u := 10) rfl
  have h630_ : jxw (y9 + 2) = y9 + 2 := jxw_id (by omega) (by omega)
  refine jt_grd (by omega) ?_
  have h631_ := iv_get hv0 (k := 194) (j := (jxw (y9 + 2)).toNat) (l := 0) (u := 900) rfl
  exact jt_rI ⟨rfl, rfl, (show 0 - 2 ≤ a0 194 ((jxw (y9 + 2)).toNat) from by omega), (show a0 194 ((jxw (y9 + 2)).toNat) ≤ 900 from by omega), (show (a0 146 68 = 0 → a0 194 ((jxw (y9 + 2)).toNat) = 0 - 2) from by omega), (by unfold PR2 PRC; have i194 := iv_get hv0 (k := 194) (j := (jxw (y9 + 2)).toNat) (l := 0) (u := 900) rfl; have h2 := hit.2; rw [if_neg (by have h1 := hit.1; omega), if_neg (fun h => by have h3 := h2.trans h; omega)]; exact h2)⟩
theorem cp_X12_priceOf_117 (E : jxE) (d : Nat) (hd : Nat.ble 1 (d + 1) = true) (x1 x2 x3 x4 : Int) (a0 b0 : Nat → Nat → Int) (hv0 : iv a0) (hp0 : (0 ≤ x1 ∧ x1 ≤ 15)) (hp1 : (0 ≤ x2 ∧ x2 ≤ 15)) : ∀ n : Nat, (∀ (y3 y5 y7 y8 : Int), (((12 - y8) * 1) + 0).toNat ≤ n → 0 ≤ y5 → y5 ≤ 9 → 0 ≤ y7 → y7 ≤ 3 → 0 ≤ y8 → y8 ≤ 11 → 1 ≤ a0 146 68 → (y3 = x3) → (y5 = HO (a0 192) x4 (a0 146 68).toNat) → 0 ≤ y5 → (y7 = (ZN x1 x2 (a0 147 (16 * x1 + x2).toNat))) → 0 ≤ y8 → y8 < a0 193 (y5.toNat) → (CO (fun c => a0 194 (36 * (HO (a0 192) x4 (a0 146 68).toNat).toNat + 3 * c)) (fun c => a0 194 (36 * (HO (a0 192) x4 (a0 146 68).toNat).toNat + (3 * c + 1))) (fun c => a0 194 (36 * (HO (a0 192) x4 (a0 146 68).toNat).toNat + (3 * c + 2))) (a0 193 (HO (a0 192) x4 (a0 146 68).toNat).toNat).toNat (ZN x1 x2 (a0 147 (16 * x1 + x2).toNat)) x3 (y8.toNat + 1) = CO (fun c => a0 194 (36 * (HO (a0 192) x4 (a0 146 68).toNat).toNat + 3 * c)) (fun c => a0 194 (36 * (HO (a0 192) x4 (a0 146 68).toNat).toNat + (3 * c + 1))) (fun c => a0 194 (36 * (HO (a0 192) x4 (a0 146 68).toNat).toNat + (3 * c + 2))) (a0 193 (HO (a0 192) x4 (a0 146 68).toNat).toNat).toNat (ZN x1 x2 (a0 147 (16 * x1 + x2).toNat)) x3 0) → jt (jxX E d 283 176 [some (.inr (.inr (.inl 146))), none, none, some (.inl y3), none, some (.inl y5), none, some (.inl y7), some (.inl y8), none] [] (jxSH, a0, b0)) (jQ_X12_priceOf x1 x2 x3 x4 a0 b0)) ∧ (∀ (y3 y5 y7 y8 y9 : Int), (((12 - y8) * 1) + 0).toNat ≤ n → 0 ≤ y5 → y5 ≤ 9 → 0 ≤ y7 → y7 ≤ 3 → 0 ≤ y8 → y8 ≤ 11 → 0 ≤ y9 → y9 ≤ 357 → 1 ≤ a0 146 68 → (y3 = x3) → (y5 = HO (a0 192) x4 (a0 146 68).toNat) → 0 ≤ y5 → (y7 = (ZN x1 x2 (a0 147 (16 * x1 + x2).toNat))) → 0 ≤ y8 → y8 < a0 193 (y5.toNat) → (CO (fun c => a0 194 (36 * (HO (a0 192) x4 (a0 146 68).toNat).toNat + 3 * c)) (fun c => a0 194 (36 * (HO (a0 192) x4 (a0 146 68).toNat).toNat + (3 * c + 1))) (fun c => a0 194 (36 * (HO (a0 192) x4 (a0 146 68).toNat).toNat + (3 * c + 2))) (a0 193 (HO (a0 192) x4 (a0 146 68).toNat).toNat).toNat (ZN x1 x2 (a0 147 (16 * x1 + x2).toNat)) x3 y8.toNat = CO (fun c => a0 194 (36 * (HO (a0 192) x4 (a0 146 68).toNat).toNat + 3 * c)) (fun c => a0 194 (36 * (HO (a0 192) x4 (a0 146 68).toNat).toNat + (3 * c + 1))) (fun c => a0 194 (36 * (HO (a0 192) x4 (a0 146 68).toNat).toNat + (3 * c + 2))) (a0 193 (HO (a0 192) x4 (a0 146 68).toNat).toNat).toNat (ZN x1 x2 (a0 147 (16 * x1 + x2).toNat)) x3 0) → (y9.toNat = 36 * y5.toNat + 3 * y8.toNat) → 0 ≤ y9 → y9 ≤ 357 → jt (jxX E d 283 141 [some (.inr (.inr (.inl 146))), none, none, some (.inl y3), none, some (.inl y5), none, some (.inl y7), some (.inl y8), some (.inl y9)] [] (jxSH, a0, b0)) (jQ_X12_priceOf x1 x2 x3 x4 a0 b0)) ∧ (∀ (y3 y5 y7 y8 : Int), (((12 - y8) * 1) + 0).toNat ≤ n → 0 ≤ y5 → y5 ≤ 9 → 0 ≤ y7 → y7 ≤ 3 → 0 ≤ y8 → y8 ≤ 12 → 1 ≤ a0 146 68 → (y3 = x3) → (y5 = HO (a0 192) x4 (a0 146 68).toNat) → 0 ≤ y5 → (y7 = (ZN x1 x2 (a0 147 (16 * x1 + x2).toNat))) → 0 ≤ y8 → (CO (fun c => a0 194 (36 * (HO (a0 192) x4 (a0 146 68).toNat).toNat + 3 * c)) (fun c => a0 194 (36 * (HO (a0 192) x4 (a0 146 68).toNat).toNat + (3 * c + 1))) (fun c => a0 194 (36 * (HO (a0 192) x4 (a0 146 68).toNat).toNat + (3 * c + 2))) (a0 193 (HO (a0 192) x4 (a0 146 68).toNat).toNat).toNat (ZN x1 x2 (a0 147 (16 * x1 + x2).toNat)) x3 y8.toNat = CO (fun c => a0 194 (36 * (HO (a0 192) x4 (a0 146 68).toNat).toNat + 3 * c)) (fun c => a0 194 (36 * (HO (a0 192) x4 (a0 146 68).toNat).toNat + (3 * c + 1))) (fun c => a0 194 (36 * (HO (a0 192) x4 (a0 146 68).toNat).toNat + (3 * c + 2))) (a0 193 (HO (a0 192) x4 (a0 146 68).toNat).toNat).toNat (ZN x1 x2 (a0 147 (16 * x1 + x2).toNat)) x3 0) → jt (jxX E d 283 117 [some (.inr (.inr (.inl 146))), none, none, some (.inl y3), none, some (.inl y5), none, some (.inl y7), some (.inl y8), none] [] (jxSH, a0, b0)) (jQ_X12_priceOf x1 x2 x3 x4 a0 b0)) := by
  refine jx_ind fun n ih => ?_
  have ih176 : ∀ (y3 y5 y7 y8 : Int), (((12 - y8) * 1) + 0).toNat < n → 0 ≤ y5 → y5 ≤ 9 → 0 ≤ y7 → y7 ≤ 3 → 0 ≤ y8 → y8 ≤ 11 → 1 ≤ a0 146 68 → (y3 = x3) → (y5 = HO (a0 192) x4 (a0 146 68).toNat) → 0 ≤ y5 → (y7 = (ZN x1 x2 (a0 147 (16 * x1 + x2).toNat))) → 0 ≤ y8 → y8 < a0 193 (y5.toNat) → (CO (fun c => a0 194 (36 * (HO (a0 192) x4 (a0 146 68).toNat).toNat + 3 * c)) (fun c => a0 194 (36 * (HO (a0 192) x4 (a0 146 68).toNat).toNat + (3 * c + 1))) (fun c => a0 194 (36 * (HO (a0 192) x4 (a0 146 68).toNat).toNat + (3 * c + 2))) (a0 193 (HO (a0 192) x4 (a0 146 68).toNat).toNat).toNat (ZN x1 x2 (a0 147 (16 * x1 + x2).toNat)) x3 (y8.toNat + 1) = CO (fun c => a0 194 (36 * (HO (a0 192) x4 (a0 146 68).toNat).toNat + 3 * c)) (fun c => a0 194 (36 * (HO (a0 192) x4 (a0 146 68).toNat).toNat + (3 * c + 1))) (fun c => a0 194 (36 * (HO (a0 192) x4 (a0 146 68).toNat).toNat + (3 * c + 2))) (a0 193 (HO (a0 192) x4 (a0 146 68).toNat).toNat).toNat (ZN x1 x2 (a0 147 (16 * x1 + x2).toNat)) x3 0) → jt (jxX E d 283 176 [some (.inr (.inr (.inl 146))), none, none, some (.inl y3), none, some (.inl y5), none, some (.inl y7), some (.inl y8), none] [] (jxSH, a0, b0)) (jQ_X12_priceOf x1 x2 x3 x4 a0 b0) := fun y3 y5 y7 y8 hlt i0 i1 i2 i3 i4 i5 i6 i7 i8 i9 i10 i11 i12 i13 => (ih _ hlt).1 y3 y5 y7 y8 (Nat.le_refl _) i0 i1 i2 i3 i4 i5 i6 i7 i8 i9 i10 i11 i12 i13
  have ih141 : ∀ (y3 y5 y7 y8 y9 : Int), (((12 - y8) * 1) + 0).toNat < n → 0 ≤ y5 → y5 ≤ 9 → 0 ≤ y7 → y7 ≤ 3 → 0 ≤ y8 → y8 ≤ 11 → 0 ≤ y9 → y9 ≤ 357 → 1 ≤ a0 146 68 → (y3 = x3) → (y5 = HO (a0 192) x4 (a0 146 68).toNat) → 0 ≤ y5 → (y7 = (ZN x1 x2 (a0 147 (16 * x1 + x2).toNat))) → 0 ≤ y8 → y8 < a0 193 (y5.toNat) → (CO (fun c => a0 194 (36 * (HO (a0 192) x4 (a0 146 68).toNat).toNat + 3 * c)) (fun c => a0 194 (36 * (HO (a0 192) x4 (a0 146 68).toNat).toNat + (3 * c + 1))) (fun c => a0 194 (36 * (HO (a0 192) x4 (a0 146 68).toNat).toNat + (3 * c + 2))) (a0 193 (HO (a0 192) x4 (a0 146 68).toNat).toNat).toNat (ZN x1 x2 (a0 147 (16 * x1 + x2).toNat)) x3 y8.toNat = CO (fun c => a0 194 (36 * (HO (a0 192) x4 (a0 146 68).toNat).toNat + 3 * c)) (fun c => a0 194 (36 * (HO (a0 192) x4 (a0 146 68).toNat).toNat + (3 * c + 1))) (fun c => a0 194 (36 * (HO (a0 192) x4 (a0 146 68).toNat).toNat + (3 * c + 2))) (a0 193 (HO (a0 192) x4 (a0 146 68).toNat).toNat).toNat (ZN x1 x2 (a0 147 (16 * x1 + x2).toNat)) x3 0) → (y9.toNat = 36 * y5.toNat + 3 * y8.toNat) → 0 ≤ y9 → y9 ≤ 357 → jt (jxX E d 283 141 [some (.inr (.inr (.inl 146))), none, none, some (.inl y3), none, some (.inl y5), none, some (.inl y7), some (.inl y8), some (.inl y9)] [] (jxSH, a0, b0)) (jQ_X12_priceOf x1 x2 x3 x4 a0 b0) := fun y3 y5 y7 y8 y9 hlt i0 i1 i2 i3 i4 i5 i6 i7 i8 i9 i10 i11 i12 i13 i14 i15 i16 i17 i18 => (ih _ hlt).2.1 y3 y5 y7 y8 y9 (Nat.le_refl _) i0 i1 i2 i3 i4 i5 i6 i7 i8 i9 i10 i11 i12 i13 i14 i15 i16 i17 i18
  have ih117 : ∀ (y3 y5 y7 y8 : Int), (((12 - y8) * 1) + 0).toNat < n → 0 ≤ y5 → y5 ≤ 9 → 0 ≤ y7 → y7 ≤ 3 → 0 ≤ y8 → y8 ≤ 12 → 1 ≤ a0 146 68 → (y3 = x3) → (y5 = HO (a0 192) x4 (a0 146 68).toNat) → 0 ≤ y5 → (y7 = (ZN x1 x2 (a0 147 (16 * x1 + x2).toNat))) → 0 ≤ y8 → (CO (fun c => a0 194 (36 * (HO (a0 192) x4 (a0 146 68).toNat).toNat + 3 * c)) (fun c => a0 194 (36 * (HO (a0 192) x4 (a0 146 68).toNat).toNat + (3 * c + 1))) (fun c => a0 194 (36 * (HO (a0 192) x4 (a0 146 68).toNat).toNat + (3 * c + 2))) (a0 193 (HO (a0 192) x4 (a0 146 68).toNat).toNat).toNat (ZN x1 x2 (a0 147 (16 * x1 + x2).toNat)) x3 y8.toNat = CO (fun c => a0 194 (36 * (HO (a0 192) x4 (a0 146 68).toNat).toNat + 3 * c)) (fun c => a0 194 (36 * (HO (a0 192) x4 (a0 146 68).toNat).toNat + (3 * c + 1))) (fun c => a0 194 (36 * (HO (a0 192) x4 (a0 146 68).toNat).toNat + (3 * c + 2))) (a0 193 (HO (a0 192) x4 (a0 146 68).toNat).toNat).toNat (ZN x1 x2 (a0 147 (16 * x1 + x2).toNat)) x3 0) → jt (jxX E d 283 117 [some (.inr (.inr (.inl 146))), none, none, some (.inl y3), none, some (.inl y5), none, some (.inl y7), some (.inl y8), none] [] (jxSH, a0, b0)) (jQ_X12_priceOf x1 x2 x3 x4 a0 b0) := fun y3 y5 y7 y8 hlt i0 i1 i2 i3 i4 i5 i6 i7 i8 i9 i10 i11 i12 => (ih _ hlt).2.2 y3 y5 y7 y8 (Nat.le_refl _) i0 i1 i2 i3 i4 i5 i6 i7 i8 i9 i10 i11 i12
  have hc176 : ∀ (y3 y5 y7 y8 : Int), (((12 - y8) * 1) + 0).toNat ≤ n → 0 ≤ y5 → y5 ≤ 9 → 0 ≤ y7 → y7 ≤ 3 → 0 ≤ y8 → y8 ≤ 11 → 1 ≤ a0 146 68 → (y3 = x3) → (y5 = HO (a0 192) x4 (a0 146 68).toNat) → 0 ≤ y5 → (y7 = (ZN x1 x2 (a0 147 (16 * x1 + x2).toNat))) → 0 ≤ y8 → y8 < a0 193 (y5.toNat) → (CO (fun c => a0 194 (36 * (HO (a0 192) x4 (a0 146 68).toNat).toNat + 3 * c)) (fun c => a0 194 (36 * (HO (a0 192) x4 (a0 146 68).toNat).toNat + (3 * c + 1))) (fun c => a0 194 (36 * (HO (a0 192) x4 (a0 146 68).toNat).toNat + (3 * c + 2))) (a0 193 (HO (a0 192) x4 (a0 146 68).toNat).toNat).toNat (ZN x1 x2 (a0 147 (16 * x1 + x2).toNat)) x3 (y8.toNat + 1) = CO (fun c => a0 194 (36 * (HO (a0 192) x4 (a0 146 68).toNat).toNat + 3 * c)) (fun c => a0 194 (36 * (HO (a0 192) x4 (a0 146 68).toNat).toNat + (3 * c + 1))) (fun c => a0 194 (36 * (HO (a0 192) x4 (a0 146 68).toNat).toNat + (3 * c + 2))) (a0 193 (HO (a0 192) x4 (a0 146 68).toNat).toNat).toNat (ZN x1 x2 (a0 147 (16 * x1 + x2).toNat)) x3 0) → jt (jxX E d 283 176 [some (.inr (.inr (.inl 146))), none, none, some (.inl y3), none, some (.inl y5), none, some (.inl y7), some (.inl y8), none] [] (jxSH, a0, b0)) (jQ_X12_priceOf x1 x2 x3 x4 a0 b0) := by
    intro y3 y5 y7 y8 hm hi0 hi1 hi2 hi3 hi4 hi5 hi6 hy3 h5y hi9 hy7 hi11 hi12 hco
    refine jt_eq (bq_X12_priceOf_176 E d y3 y5 y7 y8 a0 b0) ?_
    have h632_ := iv_get hv0 (k := 146) (j := 68) (l := 0) (u := 10) rfl
    have h633_ := iv_get hv0 (k := 193) (j := y5.toNat) (l := 0) (u := 12) rfl
    have h634_ : jxw (y8 + 1) = y8 + 1 := jxw_id (by omega) (by omega)
    exact ih117 y3 y5 y7 (jxw (y8 + 1)) (show (((12 - (jxw (y8 + 1))) * 1) + 0).toNat < n from by omega) (show 0 ≤ y5 from by omega) (show y5 ≤ 9 from by omega) (show 0 ≤ y7 from by omega) (show y7 ≤ 3 from by omega) (show 0 ≤ jxw (y8 + 1) from by omega) (show jxw (y8 + 1) ≤ 12 from by omega) (show 1 ≤ a0 146 68 from by omega) (by first | rfl | assumption) (by first | exact h5y | (rw [show (a0 146 68).toNat = y6.toNat from by omega]; exact hho)) (show 0 ≤ y5 from by omega) (by first | exact hy7 | (rw [← hy6, ← hy1, ← hy2]; unfold ZN; first | (rw [if_pos (by assumption)]) | (rw [if_neg (by assumption), if_pos (by assumption)]) | (rw [if_neg (by assumption), if_neg (by assumption), if_pos (by assumption)]) | (rw [if_neg (by assumption), if_neg (by assumption), if_neg (by assumption)]))) (show 0 ≤ jxw (y8 + 1) from by omega) (by first | rfl | (rw [show (jxw (y8 + 1)).toNat = y8.toNat + 1 from by omega]; exact hco))
  have hc141 : ∀ (y3 y5 y7 y8 y9 : Int), (((12 - y8) * 1) + 0).toNat ≤ n → 0 ≤ y5 → y5 ≤ 9 → 0 ≤ y7 → y7 ≤ 3 → 0 ≤ y8 → y8 ≤ 11 → 0 ≤ y9 → y9 ≤ 357 → 1 ≤ a0 146 68 → (y3 = x3) → (y5 = HO (a0 192) x4 (a0 146 68).toNat) → 0 ≤ y5 → (y7 = (ZN x1 x2 (a0 147 (16 * x1 + x2).toNat))) → 0 ≤ y8 → y8 < a0 193 (y5.toNat) → (CO (fun c => a0 194 (36 * (HO (a0 192) x4 (a0 146 68).toNat).toNat + 3 * c)) (fun c => a0 194 (36 * (HO (a0 192) x4 (a0 146 68).toNat).toNat + (3 * c + 1))) (fun c => a0 194 (36 * (HO (a0 192) x4 (a0 146 68).toNat).toNat + (3 * c + 2))) (a0 193 (HO (a0 192) x4 (a0 146 68).toNat).toNat).toNat (ZN x1 x2 (a0 147 (16 * x1 + x2).toNat)) x3 y8.toNat = CO (fun c => a0 194 (36 * (HO (a0 192) x4 (a0 146 68).toNat).toNat + 3 * c)) (fun c => a0 194 (36 * (HO (a0 192) x4 (a0 146 68).toNat).toNat + (3 * c + 1))) (fun c => a0 194 (36 * (HO (a0 192) x4 (a0 146 68).toNat).toNat + (3 * c + 2))) (a0 193 (HO (a0 192) x4 (a0 146 68).toNat).toNat).toNat (ZN x1 x2 (a0 147 (16 * x1 + x2).toNat)) x3 0) → (y9.toNat = 36 * y5.toNat + 3 * y8.toNat) → 0 ≤ y9 → y9 ≤ 357 → jt (jxX E d 283 141 [some (.inr (.inr (.inl 146))), none, none, some (.inl y3), none, some (.inl y5), none, some (.inl y7), some (.inl y8), some (.inl y9)] [] (jxSH, a0, b0)) (jQ_X12_priceOf x1 x2 x3 x4 a0 b0) := by
    intro y3 y5 y7 y8 y9 hm hi0 hi1 hi2 hi3 hi4 hi5 hi6 hi7 hi8 hy3 h5y hi11 hy7 hi13 hi14 hco hy9 hi17 hi18
    refine jt_eq (bq_X12_priceOf_141 E d y3 y5 y7 y8 y9 a0 b0) ?_
    have h635_ := iv_get hv0 (k := 146) (j := 68) (l := 0) (u := 10) rfl
    have h636_ := iv_get hv0 (k := 193) (j := y5.toNat) (l := 0) (u := 12) rfl
    refine jt_grd (by omega) ?_
    have h637_ := iv_get hv0 (k := 194) (j := y9.toNat) (l := 0) (u := 900) rfl
    refine jt_ite (fun c638_ => ?_) (fun c638_ => ?_)
    ·
      have h639_ : jxw (y9 + 1) = y9 + 1 := jxw_id (by omega) (by omega)
      refine jt_grd (by omega) ?_
      have h640_ := iv_get hv0 (k := 194) (j := (jxw (y9 + 1)).toNat) (l := 0) (u := 900) rfl
      refine jt_ite (fun c641_ => ?_) (fun c641_ => ?_)
      ·
        exact hc176 y3 y5 y7 y8 (show (((12 - y8) * 1) + 0).toNat ≤ n from by omega) (show 0 ≤ y5 from by omega) (show y5 ≤ 9 from by omega) (show 0 ≤ y7 from by omega) (show y7 ≤ 3 from by omega) (show 0 ≤ y8 from by omega) (show y8 ≤ 11 from by omega) (show 1 ≤ a0 146 68 from by omega) (by first | rfl | assumption) (by first | exact h5y | (rw [show (a0 146 68).toNat = y6.toNat from by omega]; exact hho)) (show 0 ≤ y5 from by omega) (by first | exact hy7 | (rw [← hy6, ← hy1, ← hy2]; unfold ZN; first | (rw [if_pos (by assumption)]) | (rw [if_neg (by assumption), if_pos (by assumption)]) | (rw [if_neg (by assumption), if_neg (by assumption), if_pos (by assumption)]) | (rw [if_neg (by assumption), if_neg (by assumption), if_neg (by assumption)]))) (show 0 ≤ y8 from by omega) (show y8 < a0 193 (y5.toNat) from by omega) (by rw [← hco]; rw [← h5y]; refine (CO_on (by omega) ?_).symm; first | (left; show ¬ a0 194 (36 * y5.toNat + 3 * y8.toNat) = _; rw [← hy7, ← hy9]; assumption) | (right; show a0 194 (36 * y5.toNat + (3 * y8.toNat + 1)) < x3; rw [← hy3, ← (show (jxw (y9 + 1)).toNat = 36 * y5.toNat + (3 * y8.toNat + 1) from by omega)]; assumption))
      ·
        exact cp_X12_priceOf_166 E d hd x1 x2 x3 x4 a0 b0 hv0 hp0 hp1 y9 (show 0 ≤ y9 from by omega) (show y9 ≤ 357 from by omega) (show 1 ≤ a0 146 68 from by omega) (show 0 ≤ y9 from by omega) (show y9 ≤ 357 from by omega) (by rw [← hco, ← h5y, (show (jxw (y9 + 2)).toNat = 36 * y5.toNat + (3 * y8.toNat + 2) from by rw [jxw_id (by omega) (by omega)]; omega)]; exact ⟨by omega, (CO_hit (z := fun c => a0 194 (36 * y5.toNat + 3 * c)) (g := fun c => a0 194 (36 * y5.toNat + (3 * c + 1))) (k := fun c => a0 194 (36 * y5.toNat + (3 * c + 2))) (c := y8.toNat) (by omega) (by show a0 194 (36 * y5.toNat + 3 * y8.toNat) = _; rw [← hy7, ← hy9]; assumption) (by show x3 ≤ a0 194 (36 * y5.toNat + (3 * y8.toNat + 1)); rw [← hy3, ← (show (jxw (y9 + 1)).toNat = 36 * y5.toNat + (3 * y8.toNat + 1) from by omega)]; omega)).symm⟩)
    ·
      exact hc176 y3 y5 y7 y8 (show (((12 - y8) * 1) + 0).toNat ≤ n from by omega) (show 0 ≤ y5 from by omega) (show y5 ≤ 9 from by omega) (show 0 ≤ y7 from by omega) (show y7 ≤ 3 from by omega) (show 0 ≤ y8 from by omega) (show y8 ≤ 11 from by omega) (show 1 ≤ a0 146 68 from by omega) (by first | rfl | assumption) (by first | exact h5y | (rw [show (a0 146 68).toNat = y6.toNat from by omega]; exact hho)) (show 0 ≤ y5 from by omega) (by first | exact hy7 | (rw [← hy6, ← hy1, ← hy2]; unfold ZN; first | (rw [if_pos (by assumption)]) | (rw [if_neg (by assumption), if_pos (by assumption)]) | (rw [if_neg (by assumption), if_neg (by assumption), if_pos (by assumption)]) | (rw [if_neg (by assumption), if_neg (by assumption), if_neg (by assumption)]))) (show 0 ≤ y8 from by omega) (show y8 < a0 193 (y5.toNat) from by omega) (by rw [← hco]; rw [← h5y]; refine (CO_on (by omega) ?_).symm; first | (left; show ¬ a0 194 (36 * y5.toNat + 3 * y8.toNat) = _; rw [← hy7, ← hy9]; assumption) | (right; show a0 194 (36 * y5.toNat + (3 * y8.toNat + 1)) < x3; rw [← hy3, ← (show (jxw (y9 + 1)).toNat = 36 * y5.toNat + (3 * y8.toNat + 1) from by omega)]; assumption))
  have hc117 : ∀ (y3 y5 y7 y8 : Int), (((12 - y8) * 1) + 0).toNat ≤ n → 0 ≤ y5 → y5 ≤ 9 → 0 ≤ y7 → y7 ≤ 3 → 0 ≤ y8 → y8 ≤ 12 → 1 ≤ a0 146 68 → (y3 = x3) → (y5 = HO (a0 192) x4 (a0 146 68).toNat) → 0 ≤ y5 → (y7 = (ZN x1 x2 (a0 147 (16 * x1 + x2).toNat))) → 0 ≤ y8 → (CO (fun c => a0 194 (36 * (HO (a0 192) x4 (a0 146 68).toNat).toNat + 3 * c)) (fun c => a0 194 (36 * (HO (a0 192) x4 (a0 146 68).toNat).toNat + (3 * c + 1))) (fun c => a0 194 (36 * (HO (a0 192) x4 (a0 146 68).toNat).toNat + (3 * c + 2))) (a0 193 (HO (a0 192) x4 (a0 146 68).toNat).toNat).toNat (ZN x1 x2 (a0 147 (16 * x1 + x2).toNat)) x3 y8.toNat = CO (fun c => a0 194 (36 * (HO (a0 192) x4 (a0 146 68).toNat).toNat + 3 * c)) (fun c => a0 194 (36 * (HO (a0 192) x4 (a0 146 68).toNat).toNat + (3 * c + 1))) (fun c => a0 194 (36 * (HO (a0 192) x4 (a0 146 68).toNat).toNat + (3 * c + 2))) (a0 193 (HO (a0 192) x4 (a0 146 68).toNat).toNat).toNat (ZN x1 x2 (a0 147 (16 * x1 + x2).toNat)) x3 0) → jt (jxX E d 283 117 [some (.inr (.inr (.inl 146))), none, none, some (.inl y3), none, some (.inl y5), none, some (.inl y7), some (.inl y8), none] [] (jxSH, a0, b0)) (jQ_X12_priceOf x1 x2 x3 x4 a0 b0) := by
    intro y3 y5 y7 y8 hm hi0 hi1 hi2 hi3 hi4 hi5 hi6 hy3 h5y hi9 hy7 hi11 hco
    refine jt_eq (bq_X12_priceOf_117 E d y3 y5 y7 y8 a0 b0) ?_
    have h642_ := iv_get hv0 (k := 146) (j := 68) (l := 0) (u := 10) rfl
    refine jt_grd (by omega) ?_
    have h643_ := iv_get hv0 (k := 193) (j := y5.toNat) (l := 0) (u := 12) rfl
    refine jt_ite (fun c644_ => ?_) (fun c644_ => ?_)
    ·
      have h645_ : jxw (36 * y5) = 36 * y5 := jxw_id (by omega) (by omega)
      have h646_ : jxw (3 * y8) = 3 * y8 := jxw_id (by omega) (by omega)
      have h647_ : jxw ((jxw (36 * y5)) + (jxw (3 * y8))) = (jxw (36 * y5)) + (jxw (3 * y8)) := jxw_id (by omega) (by omega)
      exact hc141 y3 y5 y7 y8 (jxw ((jxw (36 * y5)) + (jxw (3 * y8)))) (show (((12 - y8) * 1) + 0).toNat ≤ n from by omega) (show 0 ≤ y5 from by omega) (show y5 ≤ 9 from by omega) (show 0 ≤ y7 from by omega) (show y7 ≤ 3 from by omega) (show 0 ≤ y8 from by omega) (show y8 ≤ 11 from by omega) (show 0 ≤ jxw ((jxw (36 * y5)) + (jxw (3 * y8))) from by omega) (show jxw ((jxw (36 * y5)) + (jxw (3 * y8))) ≤ 357 from by omega) (show 1 ≤ a0 146 68 from by omega) (by first | rfl | assumption) (by first | exact h5y | (rw [show (a0 146 68).toNat = y6.toNat from by omega]; exact hho)) (show 0 ≤ y5 from by omega) (by first | exact hy7 | (rw [← hy6, ← hy1, ← hy2]; unfold ZN; first | (rw [if_pos (by assumption)]) | (rw [if_neg (by assumption), if_pos (by assumption)]) | (rw [if_neg (by assumption), if_neg (by assumption), if_pos (by assumption)]) | (rw [if_neg (by assumption), if_neg (by assumption), if_neg (by assumption)]))) (show 0 ≤ y8 from by omega) (show y8 < a0 193 (y5.toNat) from by omega) hco (by omega) (show 0 ≤ jxw ((jxw (36 * y5)) + (jxw (3 * y8))) from by omega) (show jxw ((jxw (36 * y5)) + (jxw (3 * y8))) ≤ 357 from by omega)
    ·
      exact jt_rI ⟨rfl, rfl, (show 0 - 2 ≤ (-2) from by omega), (show (-2) ≤ 900 from by omega), (show (a0 146 68 = 0 → (-2) = 0 - 2) from by omega), (by unfold PR2 PRC; rw [if_neg (by rw [← h5y]; omega), if_pos (by have h := hco; rw [← h, ← h5y]; rw [CO_end (by omega)])])⟩
  exact ⟨hc176, hc141, hc117⟩
theorem cp_X12_priceOf_80 (E : jxE) (d : Nat) (hd : Nat.ble 1 (d + 1) = true) (x1 x2 x3 x4 : Int) (a0 b0 : Nat → Nat → Int) (hv0 : iv a0) (hp0 : (0 ≤ x1 ∧ x1 ≤ 15)) (hp1 : (0 ≤ x2 ∧ x2 ≤ 15)) : ∀ (y1 y2 y3 y5 y6 : Int), 0 ≤ y1 → y1 ≤ 15 → 0 ≤ y2 → y2 ≤ 15 → 0 ≤ y5 → y5 ≤ 9 → 0 ≤ y6 → y6 ≤ 99 → 1 ≤ a0 146 68 → (y1 = x1) → (y2 = x2) → (y3 = x3) → (y5 = HO (a0 192) x4 (a0 146 68).toNat) → 0 ≤ y5 → (y6 = a0 147 (16 * x1 + x2).toNat) → jt (jxX E d 283 80 [some (.inr (.inr (.inl 146))), some (.inl y1), some (.inl y2), some (.inl y3), none, some (.inl y5), some (.inl y6), none, none, none] [] (jxSH, a0, b0)) (jQ_X12_priceOf x1 x2 x3 x4 a0 b0) := by
  intro y1 y2 y3 y5 y6 hi0 hi1 hi2 hi3 hi4 hi5 hi6 hi7 hi8 hy1 hy2 hy3 h5y hi13 hy6
  refine jt_eq (bq_X12_priceOf_80 E d y1 y2 y3 y5 y6 a0 b0) ?_
  have h648_ := iv_get hv0 (k := 146) (j := 68) (l := 0) (u := 10) rfl
  refine jt_ite (fun c649_ => ?_) (fun c649_ => ?_)
  ·
    exact (cp_X12_priceOf_117 E d hd x1 x2 x3 x4 a0 b0 hv0 hp0 hp1 _).2.2 y3 y5 0 0 (Nat.le_refl _) (show 0 ≤ y5 from by omega) (show y5 ≤ 9 from by omega) (show 0 ≤ 0 from by omega) (show 0 ≤ 3 from by omega) (show 0 ≤ 0 from by omega) (show 0 ≤ 12 from by omega) (show 1 ≤ a0 146 68 from by omega) (by first | rfl | assumption) (by first | exact h5y | (rw [show (a0 146 68).toNat = y6.toNat from by omega]; exact hho)) (show 0 ≤ y5 from by omega) (by first | exact hy7 | (rw [← hy6, ← hy1, ← hy2]; unfold ZN; first | (rw [if_pos (by assumption)]) | (rw [if_neg (by assumption), if_pos (by assumption)]) | (rw [if_neg (by assumption), if_neg (by assumption), if_pos (by assumption)]) | (rw [if_neg (by assumption), if_neg (by assumption), if_neg (by assumption)]))) (show 0 ≤ 0 from by omega) (by first | rfl | (rw [show (jxw (y8 + 1)).toNat = y8.toNat + 1 from by omega]; exact hco))
  ·
    refine jt_ite (fun c650_ => ?_) (fun c650_ => ?_)
    ·
      exact (cp_X12_priceOf_117 E d hd x1 x2 x3 x4 a0 b0 hv0 hp0 hp1 _).2.2 y3 y5 1 0 (Nat.le_refl _) (show 0 ≤ y5 from by omega) (show y5 ≤ 9 from by omega) (show 0 ≤ 1 from by omega) (show 1 ≤ 3 from by omega) (show 0 ≤ 0 from by omega) (show 0 ≤ 12 from by omega) (show 1 ≤ a0 146 68 from by omega) (by first | rfl | assumption) (by first | exact h5y | (rw [show (a0 146 68).toNat = y6.toNat from by omega]; exact hho)) (show 0 ≤ y5 from by omega) (by first | exact hy7 | (rw [← hy6, ← hy1, ← hy2]; unfold ZN; first | (rw [if_pos (by assumption)]) | (rw [if_neg (by assumption), if_pos (by assumption)]) | (rw [if_neg (by assumption), if_neg (by assumption), if_pos (by assumption)]) | (rw [if_neg (by assumption), if_neg (by assumption), if_neg (by assumption)]))) (show 0 ≤ 0 from by omega) (by first | rfl | (rw [show (jxw (y8 + 1)).toNat = y8.toNat + 1 from by omega]; exact hco))
    ·
      refine jt_ite (fun c651_ => ?_) (fun c651_ => ?_)
      ·
        exact (cp_X12_priceOf_117 E d hd x1 x2 x3 x4 a0 b0 hv0 hp0 hp1 _).2.2 y3 y5 2 0 (Nat.le_refl _) (show 0 ≤ y5 from by omega) (show y5 ≤ 9 from by omega) (show 0 ≤ 2 from by omega) (show 2 ≤ 3 from by omega) (show 0 ≤ 0 from by omega) (show 0 ≤ 12 from by omega) (show 1 ≤ a0 146 68 from by omega) (by first | rfl | assumption) (by first | exact h5y | (rw [show (a0 146 68).toNat = y6.toNat from by omega]; exact hho)) (show 0 ≤ y5 from by omega) (by first | exact hy7 | (rw [← hy6, ← hy1, ← hy2]; unfold ZN; first | (rw [if_pos (by assumption)]) | (rw [if_neg (by assumption), if_pos (by assumption)]) | (rw [if_neg (by assumption), if_neg (by assumption), if_pos (by assumption)]) | (rw [if_neg (by assumption), if_neg (by assumption), if_neg (by assumption)]))) (show 0 ≤ 0 from by omega) (by first | rfl | (rw [show (jxw (y8 + 1)).toNat = y8.toNat + 1 from by omega]; exact hco))
      ·
        exact (cp_X12_priceOf_117 E d hd x1 x2 x3 x4 a0 b0 hv0 hp0 hp1 _).2.2 y3 y5 3 0 (Nat.le_refl _) (show 0 ≤ y5 from by omega) (show y5 ≤ 9 from by omega) (show 0 ≤ 3 from by omega) (show 3 ≤ 3 from by omega) (show 0 ≤ 0 from by omega) (show 0 ≤ 12 from by omega) (show 1 ≤ a0 146 68 from by omega) (by first | rfl | assumption) (by first | exact h5y | (rw [show (a0 146 68).toNat = y6.toNat from by omega]; exact hho)) (show 0 ≤ y5 from by omega) (by first | exact hy7 | (rw [← hy6, ← hy1, ← hy2]; unfold ZN; first | (rw [if_pos (by assumption)]) | (rw [if_neg (by assumption), if_pos (by assumption)]) | (rw [if_neg (by assumption), if_neg (by assumption), if_pos (by assumption)]) | (rw [if_neg (by assumption), if_neg (by assumption), if_neg (by assumption)]))) (show 0 ≤ 0 from by omega) (by first | rfl | (rw [show (jxw (y8 + 1)).toNat = y8.toNat + 1 from by omega]; exact hco))
theorem cp_X12_priceOf_6 (E : jxE) (d : Nat) (hd : Nat.ble 1 (d + 1) = true) (x1 x2 x3 x4 : Int) (a0 b0 : Nat → Nat → Int) (hv0 : iv a0) (hp0 : (0 ≤ x1 ∧ x1 ≤ 15)) (hp1 : (0 ≤ x2 ∧ x2 ≤ 15)) : ∀ n : Nat, (∀ (y1 y2 y3 y4 y5 y6 : Int), (((10 - y6) * 1) + 0).toNat ≤ n → 0 ≤ y1 → y1 ≤ 15 → 0 ≤ y2 → y2 ≤ 15 → 0 - 1 ≤ y5 → y5 ≤ 9 → 0 ≤ y6 → y6 ≤ 9 → 1 ≤ a0 146 68 → (y1 = x1) → (y2 = x2) → (y3 = x3) → (y4 = x4) → y6 < a0 146 68 → (y5 = HO (a0 192) x4 (y6.toNat + 1)) → jt (jxX E d 283 53 [some (.inr (.inr (.inl 146))), some (.inl y1), some (.inl y2), some (.inl y3), some (.inl y4), some (.inl y5), some (.inl y6), none, none, none] [] (jxSH, a0, b0)) (jQ_X12_priceOf x1 x2 x3 x4 a0 b0)) ∧ (∀ (y1 y2 y3 y4 y6 : Int), (((10 - y6) * 1) + 0).toNat ≤ n → 0 ≤ y1 → y1 ≤ 15 → 0 ≤ y2 → y2 ≤ 15 → 0 ≤ y6 → y6 ≤ 9 → 1 ≤ a0 146 68 → (y1 = x1) → (y2 = x2) → (y3 = x3) → (y4 = x4) → y6 < a0 146 68 → (HO (a0 192) x4 (y6.toNat + 1) = y6) → jt (jxX E d 283 49 [some (.inr (.inr (.inl 146))), some (.inl y1), some (.inl y2), some (.inl y3), some (.inl y4), none, some (.inl y6), none, none, none] [] (jxSH, a0, b0)) (jQ_X12_priceOf x1 x2 x3 x4 a0 b0)) ∧ (∀ (y1 y2 y3 y4 y5 y6 : Int), (((10 - y6) * 1) + 0).toNat ≤ n → 0 ≤ y1 → y1 ≤ 15 → 0 ≤ y2 → y2 ≤ 15 → 0 - 1 ≤ y5 → y5 ≤ 9 → 0 ≤ y6 → y6 ≤ 10 → (a0 146 68 = 0 → y5 < 0) → (y1 = x1) → (y2 = x2) → (y3 = x3) → (y4 = x4) → y6 ≤ a0 146 68 → (y5 = HO (a0 192) x4 y6.toNat) → jt (jxX E d 283 6 [some (.inr (.inr (.inl 146))), some (.inl y1), some (.inl y2), some (.inl y3), some (.inl y4), some (.inl y5), some (.inl y6), none, none, none] [] (jxSH, a0, b0)) (jQ_X12_priceOf x1 x2 x3 x4 a0 b0)) := by
  refine jx_ind fun n ih => ?_
  have ih53 : ∀ (y1 y2 y3 y4 y5 y6 : Int), (((10 - y6) * 1) + 0).toNat < n → 0 ≤ y1 → y1 ≤ 15 → 0 ≤ y2 → y2 ≤ 15 → 0 - 1 ≤ y5 → y5 ≤ 9 → 0 ≤ y6 → y6 ≤ 9 → 1 ≤ a0 146 68 → (y1 = x1) → (y2 = x2) → (y3 = x3) → (y4 = x4) → y6 < a0 146 68 → (y5 = HO (a0 192) x4 (y6.toNat + 1)) → jt (jxX E d 283 53 [some (.inr (.inr (.inl 146))), some (.inl y1), some (.inl y2), some (.inl y3), some (.inl y4), some (.inl y5), some (.inl y6), none, none, none] [] (jxSH, a0, b0)) (jQ_X12_priceOf x1 x2 x3 x4 a0 b0) := fun y1 y2 y3 y4 y5 y6 hlt i0 i1 i2 i3 i4 i5 i6 i7 i8 i9 i10 i11 i12 i13 i14 => (ih _ hlt).1 y1 y2 y3 y4 y5 y6 (Nat.le_refl _) i0 i1 i2 i3 i4 i5 i6 i7 i8 i9 i10 i11 i12 i13 i14
  have ih49 : ∀ (y1 y2 y3 y4 y6 : Int), (((10 - y6) * 1) + 0).toNat < n → 0 ≤ y1 → y1 ≤ 15 → 0 ≤ y2 → y2 ≤ 15 → 0 ≤ y6 → y6 ≤ 9 → 1 ≤ a0 146 68 → (y1 = x1) → (y2 = x2) → (y3 = x3) → (y4 = x4) → y6 < a0 146 68 → (HO (a0 192) x4 (y6.toNat + 1) = y6) → jt (jxX E d 283 49 [some (.inr (.inr (.inl 146))), some (.inl y1), some (.inl y2), some (.inl y3), some (.inl y4), none, some (.inl y6), none, none, none] [] (jxSH, a0, b0)) (jQ_X12_priceOf x1 x2 x3 x4 a0 b0) := fun y1 y2 y3 y4 y6 hlt i0 i1 i2 i3 i4 i5 i6 i7 i8 i9 i10 i11 i12 => (ih _ hlt).2.1 y1 y2 y3 y4 y6 (Nat.le_refl _) i0 i1 i2 i3 i4 i5 i6 i7 i8 i9 i10 i11 i12
  have ih6 : ∀ (y1 y2 y3 y4 y5 y6 : Int), (((10 - y6) * 1) + 0).toNat < n → 0 ≤ y1 → y1 ≤ 15 → 0 ≤ y2 → y2 ≤ 15 → 0 - 1 ≤ y5 → y5 ≤ 9 → 0 ≤ y6 → y6 ≤ 10 → (a0 146 68 = 0 → y5 < 0) → (y1 = x1) → (y2 = x2) → (y3 = x3) → (y4 = x4) → y6 ≤ a0 146 68 → (y5 = HO (a0 192) x4 y6.toNat) → jt (jxX E d 283 6 [some (.inr (.inr (.inl 146))), some (.inl y1), some (.inl y2), some (.inl y3), some (.inl y4), some (.inl y5), some (.inl y6), none, none, none] [] (jxSH, a0, b0)) (jQ_X12_priceOf x1 x2 x3 x4 a0 b0) := fun y1 y2 y3 y4 y5 y6 hlt i0 i1 i2 i3 i4 i5 i6 i7 i8 i9 i10 i11 i12 i13 i14 => (ih _ hlt).2.2 y1 y2 y3 y4 y5 y6 (Nat.le_refl _) i0 i1 i2 i3 i4 i5 i6 i7 i8 i9 i10 i11 i12 i13 i14
  have hc53 : ∀ (y1 y2 y3 y4 y5 y6 : Int), (((10 - y6) * 1) + 0).toNat ≤ n → 0 ≤ y1 → y1 ≤ 15 → 0 ≤ y2 → y2 ≤ 15 → 0 - 1 ≤ y5 → y5 ≤ 9 → 0 ≤ y6 → y6 ≤ 9 → 1 ≤ a0 146 68 → (y1 = x1) → (y2 = x2) → (y3 = x3) → (y4 = x4) → y6 < a0 146 68 → (y5 = HO (a0 192) x4 (y6.toNat + 1)) → jt (jxX E d 283 53 [some (.inr (.inr (.inl 146))), some (.inl y1), some (.inl y2), some (.inl y3), some (.inl y4), some (.inl y5), some (.inl y6), none, none, none] [] (jxSH, a0, b0)) (jQ_X12_priceOf x1 x2 x3 x4 a0 b0) := by
    intro y1 y2 y3 y4 y5 y6 hm hi0 hi1 hi2 hi3 hi4 hi5 hi6 hi7 hi8 hy1 hy2 hy3 hy4 hi13 hho
    refine jt_eq (bq_X12_priceOf_53 E d y1 y2 y3 y4 y5 y6 a0 b0) ?_
    have h652_ := iv_get hv0 (k := 146) (j := 68) (l := 0) (u := 10) rfl
    have h653_ : jxw (y6 + 1) = y6 + 1 := jxw_id (by omega) (by omega)
    exact ih6 y1 y2 y3 y4 y5 (jxw (y6 + 1)) (show (((10 - (jxw (y6 + 1))) * 1) + 0).toNat < n from by omega) (show 0 ≤ y1 from by omega) (show y1 ≤ 15 from by omega) (show 0 ≤ y2 from by omega) (show y2 ≤ 15 from by omega) (show 0 - 1 ≤ y5 from by omega) (show y5 ≤ 9 from by omega) (show 0 ≤ jxw (y6 + 1) from by omega) (show jxw (y6 + 1) ≤ 10 from by omega) (show (a0 146 68 = 0 → y5 < 0) from by omega) (by first | rfl | assumption) (by first | rfl | assumption) (by first | rfl | assumption) (by first | rfl | assumption) (show jxw (y6 + 1) ≤ a0 146 68 from by omega) (by first | rfl | (rw [show (jxw (y6 + 1)).toNat = y6.toNat + 1 from by omega]; exact hho))
  have hc49 : ∀ (y1 y2 y3 y4 y6 : Int), (((10 - y6) * 1) + 0).toNat ≤ n → 0 ≤ y1 → y1 ≤ 15 → 0 ≤ y2 → y2 ≤ 15 → 0 ≤ y6 → y6 ≤ 9 → 1 ≤ a0 146 68 → (y1 = x1) → (y2 = x2) → (y3 = x3) → (y4 = x4) → y6 < a0 146 68 → (HO (a0 192) x4 (y6.toNat + 1) = y6) → jt (jxX E d 283 49 [some (.inr (.inr (.inl 146))), some (.inl y1), some (.inl y2), some (.inl y3), some (.inl y4), none, some (.inl y6), none, none, none] [] (jxSH, a0, b0)) (jQ_X12_priceOf x1 x2 x3 x4 a0 b0) := by
    intro y1 y2 y3 y4 y6 hm hi0 hi1 hi2 hi3 hi4 hi5 hi6 hy1 hy2 hy3 hy4 hi11 hh
    refine jt_eq (bq_X12_priceOf_49 E d y1 y2 y3 y4 y6 a0 b0) ?_
    have h654_ := iv_get hv0 (k := 146) (j := 68) (l := 0) (u := 10) rfl
    exact hc53 y1 y2 y3 y4 y6 y6 (show (((10 - y6) * 1) + 0).toNat ≤ n from by omega) (show 0 ≤ y1 from by omega) (show y1 ≤ 15 from by omega) (show 0 ≤ y2 from by omega) (show y2 ≤ 15 from by omega) (show 0 - 1 ≤ y6 from by omega) (show y6 ≤ 9 from by omega) (show 0 ≤ y6 from by omega) (show y6 ≤ 9 from by omega) (show 1 ≤ a0 146 68 from by omega) (by first | rfl | assumption) (by first | rfl | assumption) (by first | rfl | assumption) (by first | rfl | assumption) (show y6 < a0 146 68 from by omega) (by first | (rw [HO_s2 (Or.inl (by rw [← hy4]; omega))]; exact hho) | (rw [HO_s2 (Or.inr ⟨by rw [← hho]; omega, by rw [← hho]; omega⟩)]; exact hho) | exact hh.symm)
  have hc6 : ∀ (y1 y2 y3 y4 y5 y6 : Int), (((10 - y6) * 1) + 0).toNat ≤ n → 0 ≤ y1 → y1 ≤ 15 → 0 ≤ y2 → y2 ≤ 15 → 0 - 1 ≤ y5 → y5 ≤ 9 → 0 ≤ y6 → y6 ≤ 10 → (a0 146 68 = 0 → y5 < 0) → (y1 = x1) → (y2 = x2) → (y3 = x3) → (y4 = x4) → y6 ≤ a0 146 68 → (y5 = HO (a0 192) x4 y6.toNat) → jt (jxX E d 283 6 [some (.inr (.inr (.inl 146))), some (.inl y1), some (.inl y2), some (.inl y3), some (.inl y4), some (.inl y5), some (.inl y6), none, none, none] [] (jxSH, a0, b0)) (jQ_X12_priceOf x1 x2 x3 x4 a0 b0) := by
    intro y1 y2 y3 y4 y5 y6 hm hi0 hi1 hi2 hi3 hi4 hi5 hi6 hi7 hi8 hy1 hy2 hy3 hy4 hi13 hho
    refine jt_eq (bq_X12_priceOf_6 E d y1 y2 y3 y4 y5 y6 a0 b0) ?_
    have h655_ := iv_get hv0 (k := 146) (j := 68) (l := 0) (u := 10) rfl
    refine jt_ite (fun c656_ => ?_) (fun c656_ => ?_)
    ·
      refine jt_grd (by omega) ?_
      refine jt_ite (fun c657_ => ?_) (fun c657_ => ?_)
      ·
        exact hc53 y1 y2 y3 y4 y5 y6 (show (((10 - y6) * 1) + 0).toNat ≤ n from by omega) (show 0 ≤ y1 from by omega) (show y1 ≤ 15 from by omega) (show 0 ≤ y2 from by omega) (show y2 ≤ 15 from by omega) (show 0 - 1 ≤ y5 from by omega) (show y5 ≤ 9 from by omega) (show 0 ≤ y6 from by omega) (show y6 ≤ 9 from by omega) (show 1 ≤ a0 146 68 from by omega) (by first | rfl | assumption) (by first | rfl | assumption) (by first | rfl | assumption) (by first | rfl | assumption) (show y6 < a0 146 68 from by omega) (by first | (rw [HO_s2 (Or.inl (by rw [← hy4]; omega))]; exact hho) | (rw [HO_s2 (Or.inr ⟨by rw [← hho]; omega, by rw [← hho]; omega⟩)]; exact hho) | exact hh.symm)
      ·
        refine jt_ite (fun c658_ => ?_) (fun c658_ => ?_)
        ·
          exact hc49 y1 y2 y3 y4 y6 (show (((10 - y6) * 1) + 0).toNat ≤ n from by omega) (show 0 ≤ y1 from by omega) (show y1 ≤ 15 from by omega) (show 0 ≤ y2 from by omega) (show y2 ≤ 15 from by omega) (show 0 ≤ y6 from by omega) (show y6 ≤ 9 from by omega) (show 1 ≤ a0 146 68 from by omega) (by first | rfl | assumption) (by first | rfl | assumption) (by first | rfl | assumption) (by first | rfl | assumption) (show y6 < a0 146 68 from by omega) (by have e := HO_s1 (f := a0 192) (d := x4) (m := y6.toNat) (by rw [← hy4]; omega) (by rw [← hho]; first | (left; omega) | (right; omega)); rw [e]; omega)
        ·
          refine jt_grd (by omega) ?_
          refine jt_grd (by omega) ?_
          refine jt_ite (fun c659_ => ?_) (fun c659_ => ?_)
          ·
            exact hc53 y1 y2 y3 y4 y5 y6 (show (((10 - y6) * 1) + 0).toNat ≤ n from by omega) (show 0 ≤ y1 from by omega) (show y1 ≤ 15 from by omega) (show 0 ≤ y2 from by omega) (show y2 ≤ 15 from by omega) (show 0 - 1 ≤ y5 from by omega) (show y5 ≤ 9 from by omega) (show 0 ≤ y6 from by omega) (show y6 ≤ 9 from by omega) (show 1 ≤ a0 146 68 from by omega) (by first | rfl | assumption) (by first | rfl | assumption) (by first | rfl | assumption) (by first | rfl | assumption) (show y6 < a0 146 68 from by omega) (by first | (rw [HO_s2 (Or.inl (by rw [← hy4]; omega))]; exact hho) | (rw [HO_s2 (Or.inr ⟨by rw [← hho]; omega, by rw [← hho]; omega⟩)]; exact hho) | exact hh.symm)
          ·
            exact hc49 y1 y2 y3 y4 y6 (show (((10 - y6) * 1) + 0).toNat ≤ n from by omega) (show 0 ≤ y1 from by omega) (show y1 ≤ 15 from by omega) (show 0 ≤ y2 from by omega) (show y2 ≤ 15 from by omega) (show 0 ≤ y6 from by omega) (show y6 ≤ 9 from by omega) (show 1 ≤ a0 146 68 from by omega) (by first | rfl | assumption) (by first | rfl | assumption) (by first | rfl | assumption) (by first | rfl | assumption) (show y6 < a0 146 68 from by omega) (by have e := HO_s1 (f := a0 192) (d := x4) (m := y6.toNat) (by rw [← hy4]; omega) (by rw [← hho]; first | (left; omega) | (right; omega)); rw [e]; omega)
    ·
      refine jt_ite (fun c660_ => ?_) (fun c660_ => ?_)
      ·
        exact jt_rI ⟨rfl, rfl, (show 0 - 2 ≤ (-2) from by omega), (show (-2) ≤ 900 from by omega), (show (a0 146 68 = 0 → (-2) = 0 - 2) from by omega), (by unfold PR2 PRC; rw [if_pos (by rw [show (a0 146 68).toNat = y6.toNat from by omega, ← hho]; omega)])⟩
      ·
        have h661_ : jxw (16 * y1) = 16 * y1 := jxw_id (by omega) (by omega)
        have h662_ : jxw ((jxw (16 * y1)) + y2) = (jxw (16 * y1)) + y2 := jxw_id (by omega) (by omega)
        refine jt_grd (by omega) ?_
        have h663_ := iv_get hv0 (k := 147) (j := (jxw ((jxw (16 * y1)) + y2)).toNat) (l := 0) (u := 99) rfl
        exact cp_X12_priceOf_80 E d hd x1 x2 x3 x4 a0 b0 hv0 hp0 hp1 y1 y2 y3 y5 (a0 147 ((jxw ((jxw (16 * y1)) + y2)).toNat)) (show 0 ≤ y1 from by omega) (show y1 ≤ 15 from by omega) (show 0 ≤ y2 from by omega) (show y2 ≤ 15 from by omega) (show 0 ≤ y5 from by omega) (show y5 ≤ 9 from by omega) (show 0 ≤ a0 147 ((jxw ((jxw (16 * y1)) + y2)).toNat) from by omega) (show a0 147 ((jxw ((jxw (16 * y1)) + y2)).toNat) ≤ 99 from by omega) (show 1 ≤ a0 146 68 from by omega) (by first | rfl | assumption) (by first | rfl | assumption) (by first | rfl | assumption) (by first | exact h5y | (rw [show (a0 146 68).toNat = y6.toNat from by omega]; exact hho)) (show 0 ≤ y5 from by omega) (by rw [show (16 * x1 + x2).toNat = (jxw ((jxw (16 * y1)) + y2)).toNat from by omega])
  exact ⟨hc53, hc49, hc6⟩
theorem sp_X12_priceOf (E : jxE) (d : Nat) (hd : Nat.ble 1 d = true) (x1 x2 x3 x4 : Int) (a0 b0 : Nat → Nat → Int) (hv0 : iv a0) (hp0 : (0 ≤ x1 ∧ x1 ≤ 15)) (hp1 : (0 ≤ x2 ∧ x2 ≤ 15)) : jt (jxC E d 283 [.inr (.inr (.inl 146)), .inl x1, .inl x2, .inl x3, .inl x4] (jxSH, a0, b0)) (jQ_X12_priceOf x1 x2 x3 x4 a0 b0) := by
  obtain ⟨d, rfl⟩ := jd_succ hd
  refine jt_eq (bq_X12_priceOf E d x1 x2 x3 x4 a0 b0) ?_
  have h664_ := iv_get hv0 (k := 146) (j := 68) (l := 0) (u := 10) rfl
  exact (cp_X12_priceOf_6 E d hd x1 x2 x3 x4 a0 b0 hv0 hp0 hp1 _).2.2 x1 x2 x3 x4 (-1) 0 (Nat.le_refl _) (show 0 ≤ x1 from by omega) (show x1 ≤ 15 from by omega) (show 0 ≤ x2 from by omega) (show x2 ≤ 15 from by omega) (show 0 - 1 ≤ (-1) from by omega) (show (-1) ≤ 9 from by omega) (show 0 ≤ 0 from by omega) (show 0 ≤ 10 from by omega) (show (a0 146 68 = 0 → (-1) < 0) from by omega) (by first | rfl | assumption) (by first | rfl | assumption) (by first | rfl | assumption) (by first | rfl | assumption) (show 0 ≤ a0 146 68 from by omega) (by first | rfl | (rw [show (jxw (y6 + 1)).toNat = y6.toNat + 1 from by omega]; exact hho))
abbrev jQ_X12_price (x1 x2 x3 x4 : Int) (a0 b0 : Nat → Nat → Int) : List jxV → (Nat → Nat → Int) → (Nat → Nat → Int) → Prop := rI (fun r a b => (a0 = a) ∧ (b0 = b) ∧ ((a0 146 68 = 0 → (((((((((0 ≤ x1 ∧ x1 ≤ 15) ∧ 0 ≤ x2) ∧ x2 ≤ 15) ∧ 1 ≤ x3) ∧ x3 ≤ 500) ∧ 0 ≤ x4) ∧ x4 ≤ 1999) ∧ r = 0 - 2) ∨ ((((((((x1 < 0 ∨ 15 < x1) ∨ x2 < 0) ∨ 15 < x2) ∨ x3 < 1) ∨ 500 < x3) ∨ x4 < 0) ∨ 1999 < x4) ∧ r = 0 - 1)))) ∧ (0 ≤ x1 ∧ x1 ≤ 15 ∧ 0 ≤ x2 ∧ x2 ≤ 15 ∧ 1 ≤ x3 ∧ x3 ≤ 500 ∧ 0 ≤ x4 ∧ x4 ≤ 1999 → r = PR2 a0 (ZN x1 x2 (a0 147 (16 * x1 + x2).toNat)) x3 x4) ∧ (((((((((x1 < 0 ∨ 15 < x1) ∨ x2 < 0) ∨ 15 < x2) ∨ x3 < 1) ∨ 500 < x3) ∨ x4 < 0) ∨ 1999 < x4) → r = 0 - 1)))
theorem cp_X12_price_33 (E : jxE) (d : Nat) (hd : Nat.ble 3 (d + 1) = true) (x1 x2 x3 x4 : Int) (a0 b0 : Nat → Nat → Int) (hv0 : iv a0) : ∀ (y1 y2 y3 y4 : Int), 0 ≤ y1 → y1 ≤ 15 → 0 ≤ y2 → y2 ≤ 15 → 1 ≤ y3 → y3 ≤ 500 → 0 ≤ y4 → y4 ≤ 1999 → (((((((0 ≤ x1 ∧ x1 ≤ 15) ∧ 0 ≤ x2) ∧ x2 ≤ 15) ∧ 1 ≤ x3) ∧ x3 ≤ 500) ∧ 0 ≤ x4) ∧ x4 ≤ 1999) → (y1 = x1) → (y2 = x2) → (y3 = x3) → (y4 = x4) → jt (jxX E d 284 33 [some (.inr (.inr (.inl 146))), some (.inl y1), some (.inl y2), some (.inl y3), some (.inl y4)] [] (jxSH, a0, b0)) (jQ_X12_price x1 x2 x3 x4 a0 b0) := by
  intro y1 y2 y3 y4 hi0 hi1 hi2 hi3 hi4 hi5 hi6 hi7 hi8 hy1 hy2 hy3 hy4
  refine jt_eq (bq_X12_price_33 E d y1 y2 y3 y4 a0 b0) ?_
  refine jt_bI (sp_X12_priceOf E d (jd_le hd rfl) y1 y2 y3 y4 a0 b0 hv0 (show (0 ≤ y1 ∧ y1 ≤ 15) from by omega) (show (0 ≤ y2 ∧ y2 ≤ 15) from by omega)) (fun r665_ a665_ b665_ h665_ => ?_)
  obtain ⟨rfl, rfl, hq665_0, hq665_1, hq665_2, hq665_3⟩ := h665_
  have h666_ := iv_get hv0 (k := 146) (j := 68) (l := 0) (u := 10) rfl
  exact jt_rI ⟨rfl, rfl, (show (a0 146 68 = 0 → (((((((((0 ≤ x1 ∧ x1 ≤ 15) ∧ 0 ≤ x2) ∧ x2 ≤ 15) ∧ 1 ≤ x3) ∧ x3 ≤ 500) ∧ 0 ≤ x4) ∧ x4 ≤ 1999) ∧ r665_ = 0 - 2) ∨ ((((((((x1 < 0 ∨ 15 < x1) ∨ x2 < 0) ∨ 15 < x2) ∨ x3 < 1) ∨ 500 < x3) ∨ x4 < 0) ∨ 1999 < x4) ∧ r665_ = 0 - 1))) from by omega), (fun _ => by have e := hq665_3; rw [hy1, hy2, hy3, hy4] at e; exact e), (show ((((((((x1 < 0 ∨ 15 < x1) ∨ x2 < 0) ∨ 15 < x2) ∨ x3 < 1) ∨ 500 < x3) ∨ x4 < 0) ∨ 1999 < x4) → r665_ = 0 - 1) from by omega)⟩
theorem cp_X12_price_45 (E : jxE) (d : Nat) (hd : Nat.ble 3 (d + 1) = true) (x1 x2 x3 x4 : Int) (a0 b0 : Nat → Nat → Int) (hv0 : iv a0) : (((((((x1 < 0 ∨ 15 < x1) ∨ x2 < 0) ∨ 15 < x2) ∨ x3 < 1) ∨ 500 < x3) ∨ x4 < 0) ∨ 1999 < x4) → jt (jxX E d 284 45 [none, none, none, none, none] [] (jxSH, a0, b0)) (jQ_X12_price x1 x2 x3 x4 a0 b0) := by
  intro hi0
  refine jt_eq (bq_X12_price_45 E d a0 b0) ?_
  have h667_ := iv_get hv0 (k := 146) (j := 68) (l := 0) (u := 10) rfl
  exact jt_rI ⟨rfl, rfl, (show (a0 146 68 = 0 → (((((((((0 ≤ x1 ∧ x1 ≤ 15) ∧ 0 ≤ x2) ∧ x2 ≤ 15) ∧ 1 ≤ x3) ∧ x3 ≤ 500) ∧ 0 ≤ x4) ∧ x4 ≤ 1999) ∧ (-1) = 0 - 2) ∨ ((((((((x1 < 0 ∨ 15 < x1) ∨ x2 < 0) ∨ 15 < x2) ∨ x3 < 1) ∨ 500 < x3) ∨ x4 < 0) ∨ 1999 < x4) ∧ (-1) = 0 - 1))) from by omega), (fun h => absurd h (by omega)), (show ((((((((x1 < 0 ∨ 15 < x1) ∨ x2 < 0) ∨ 15 < x2) ∨ x3 < 1) ∨ 500 < x3) ∨ x4 < 0) ∨ 1999 < x4) → (-1) = 0 - 1) from by omega)⟩
theorem sp_X12_price (E : jxE) (d : Nat) (hd : Nat.ble 3 d = true) (x1 x2 x3 x4 : Int) (a0 b0 : Nat → Nat → Int) (hv0 : iv a0) : jt (jxC E d 284 [.inr (.inr (.inl 146)), .inl x1, .inl x2, .inl x3, .inl x4] (jxSH, a0, b0)) (jQ_X12_price x1 x2 x3 x4 a0 b0) := by
  obtain ⟨d, rfl⟩ := jd_succ hd
  refine jt_eq (bq_X12_price E d x1 x2 x3 x4 a0 b0) ?_
  refine jt_eI (eq_X12_isLand E d (jd_le hd rfl) x1 a0 b0) ?_
  have h668_ := f_X12_isLand_eq a0 b0 x1
  have h669_ := f_X12_in_eq a0 b0 x1 0 15
  refine jt_ite (fun c670_ => ?_) (fun c670_ => ?_)
  ·
    exact cp_X12_price_45 E d hd x1 x2 x3 x4 a0 b0 hv0 (show (((((((x1 < 0 ∨ 15 < x1) ∨ x2 < 0) ∨ 15 < x2) ∨ x3 < 1) ∨ 500 < x3) ∨ x4 < 0) ∨ 1999 < x4) from by omega)
  ·
    refine jt_eI (eq_X12_isLand E d (jd_le hd rfl) x2 a0 b0) ?_
    have h671_ := f_X12_isLand_eq a0 b0 x2
    have h672_ := f_X12_in_eq a0 b0 x2 0 15
    refine jt_ite (fun c673_ => ?_) (fun c673_ => ?_)
    ·
      exact cp_X12_price_45 E d hd x1 x2 x3 x4 a0 b0 hv0 (show (((((((x1 < 0 ∨ 15 < x1) ∨ x2 < 0) ∨ 15 < x2) ∨ x3 < 1) ∨ 500 < x3) ∨ x4 < 0) ∨ 1999 < x4) from by omega)
    ·
      refine jt_eI (eq_X12_in E d (jd_le hd rfl) x3 1 500 a0 b0) ?_
      have h674_ := f_X12_in_eq a0 b0 x3 1 500
      refine jt_ite (fun c675_ => ?_) (fun c675_ => ?_)
      ·
        exact cp_X12_price_45 E d hd x1 x2 x3 x4 a0 b0 hv0 (show (((((((x1 < 0 ∨ 15 < x1) ∨ x2 < 0) ∨ 15 < x2) ∨ x3 < 1) ∨ 500 < x3) ∨ x4 < 0) ∨ 1999 < x4) from by omega)
      ·
        refine jt_eI (eq_X12_isDay E d (jd_le hd rfl) x4 a0 b0) ?_
        have h676_ := f_X12_isDay_eq a0 b0 x4
        have h677_ := f_X12_in_eq a0 b0 x4 0 1999
        refine jt_ite (fun c678_ => ?_) (fun c678_ => ?_)
        ·
          exact cp_X12_price_45 E d hd x1 x2 x3 x4 a0 b0 hv0 (show (((((((x1 < 0 ∨ 15 < x1) ∨ x2 < 0) ∨ 15 < x2) ∨ x3 < 1) ∨ 500 < x3) ∨ x4 < 0) ∨ 1999 < x4) from by omega)
        ·
          exact cp_X12_price_33 E d hd x1 x2 x3 x4 a0 b0 hv0 x1 x2 x3 x4 (show 0 ≤ x1 from by omega) (show x1 ≤ 15 from by omega) (show 0 ≤ x2 from by omega) (show x2 ≤ 15 from by omega) (show 1 ≤ x3 from by omega) (show x3 ≤ 500 from by omega) (show 0 ≤ x4 from by omega) (show x4 ≤ 1999 from by omega) (show (((((((0 ≤ x1 ∧ x1 ≤ 15) ∧ 0 ≤ x2) ∧ x2 ≤ 15) ∧ 1 ≤ x3) ∧ x3 ≤ 500) ∧ 0 ≤ x4) ∧ x4 ≤ 1999) from by omega) (by first | rfl | assumption) (by first | rfl | assumption) (by first | rfl | assumption) (by first | rfl | assumption)
def jW_X12_span : List (Nat × Nat) := [(146, 39), (146, 40), (146, 41)]
abbrev jQ_X12_span (x1 x2 x3 : Int) (a0 b0 : Nat → Nat → Int) : List jxV → (Nat → Nat → Int) → (Nat → Nat → Int) → Prop := rI (fun r a b => (iv a) ∧ (jfr jW_X12_span a0 a) ∧ (b0 = b) ∧ ((a0 146 17 = 0 → ((((((0 ≤ x1 ∧ x1 ≤ 15) ∧ 0 ≤ x2) ∧ x2 ≤ 15) ∧ x3 = 2) ∧ r = 0) ∨ (((((x1 < 0 ∨ 15 < x1) ∨ x2 < 0) ∨ 15 < x2) ∨ ¬ x3 = 2) ∧ r = 0 - 1)))))
theorem cp_X12_span_39 (E : jxE) (d : Nat) (hd : Nat.ble 3 (d + 1) = true) (x1 x2 x3 : Int) (a0 b0 : Nat → Nat → Int) (hv0 : iv a0) : ∀ (a : Nat → Nat → Int), iv a → jfr jW_X12_span a0 a → a 146 39 ≤ 0 → (a0 146 17 = 0 → ¬ x3 = 2) → jt (jxX E d 239 39 [none, none, none, none] [] (jxSH, a, b0)) (jQ_X12_span x1 x2 x3 a0 b0) := by
  intro a hv hf hi0 hi1
  refine jt_eq (bq_X12_span_39 E d a b0) ?_
  have h679_ := iv_get hv (k := 146) (j := 39) (l := 0) (u := 10) rfl
  have h680_ := iv_get hv0 (k := 146) (j := 17) (l := 0) (u := 600) rfl
  exact jt_rI ⟨hv, hf, rfl, (show (a0 146 17 = 0 → ((((((0 ≤ x1 ∧ x1 ≤ 15) ∧ 0 ≤ x2) ∧ x2 ≤ 15) ∧ x3 = 2) ∧ (-1) = 0) ∨ (((((x1 < 0 ∨ 15 < x1) ∨ x2 < 0) ∨ 15 < x2) ∨ ¬ x3 = 2) ∧ (-1) = 0 - 1))) from by omega)⟩
theorem cp_X12_span_43 (E : jxE) (d : Nat) (hd : Nat.ble 3 (d + 1) = true) (x1 x2 x3 : Int) (a0 b0 : Nat → Nat → Int) (hv0 : iv a0) : ∀ (y3 : Int) (a : Nat → Nat → Int), iv a → jfr jW_X12_span a0 a → 1 ≤ a 146 39 → 1 ≤ a0 146 17 → jt (jxX E d 239 43 [some (.inr (.inr (.inl 146))), none, none, some (.inl y3)] [] (jxSH, a, b0)) (jQ_X12_span x1 x2 x3 a0 b0) := by
  intro y3 a hv hf hi0 hi1
  refine jt_eq (bq_X12_span_43 E d y3 a b0) ?_
  have h681_ := iv_get hv (k := 146) (j := 39) (l := 0) (u := 10) rfl
  have h682_ := iv_get hv0 (k := 146) (j := 17) (l := 0) (u := 600) rfl
  refine jt_ite (fun c683_ => ?_) (fun c683_ => ?_)
  ·
    exact jt_rI ⟨hv, hf, rfl, (show (a0 146 17 = 0 → ((((((0 ≤ x1 ∧ x1 ≤ 15) ∧ 0 ≤ x2) ∧ x2 ≤ 15) ∧ x3 = 2) ∧ a 146 40 = 0) ∨ (((((x1 < 0 ∨ 15 < x1) ∨ x2 < 0) ∨ 15 < x2) ∨ ¬ x3 = 2) ∧ a 146 40 = 0 - 1))) from by omega)⟩
  ·
    refine jt_ite (fun c684_ => ?_) (fun c684_ => ?_)
    ·
      exact jt_rI ⟨hv, hf, rfl, (show (a0 146 17 = 0 → ((((((0 ≤ x1 ∧ x1 ≤ 15) ∧ 0 ≤ x2) ∧ x2 ≤ 15) ∧ x3 = 2) ∧ a 146 41 = 0) ∨ (((((x1 < 0 ∨ 15 < x1) ∨ x2 < 0) ∨ 15 < x2) ∨ ¬ x3 = 2) ∧ a 146 41 = 0 - 1))) from by omega)⟩
    ·
      exact jt_rI ⟨hv, hf, rfl, (show (a0 146 17 = 0 → ((((((0 ≤ x1 ∧ x1 ≤ 15) ∧ 0 ≤ x2) ∧ x2 ≤ 15) ∧ x3 = 2) ∧ (-1) = 0) ∨ (((((x1 < 0 ∨ 15 < x1) ∨ x2 < 0) ∨ 15 < x2) ∨ ¬ x3 = 2) ∧ (-1) = 0 - 1))) from by omega)⟩
theorem sp_X12_span (E : jxE) (d : Nat) (hd : Nat.ble 3 d = true) (x1 x2 x3 : Int) (a0 b0 : Nat → Nat → Int) (hv0 : iv a0) : jt (jxC E d 239 [.inr (.inr (.inl 146)), .inl x1, .inl x2, .inl x3] (jxSH, a0, b0)) (jQ_X12_span x1 x2 x3 a0 b0) := by
  obtain ⟨d, rfl⟩ := jd_succ hd
  refine jt_eq (bq_X12_span E d x1 x2 x3 a0 b0) ?_
  refine jt_eI (eq_X12_isLand E d (jd_le hd rfl) x1 a0 b0) ?_
  have h685_ := f_X12_isLand_eq a0 b0 x1
  have h686_ := f_X12_in_eq a0 b0 x1 0 15
  refine jt_ite (fun c687_ => ?_) (fun c687_ => ?_)
  ·
    have h688_ := iv_get hv0 (k := 146) (j := 17) (l := 0) (u := 600) rfl
    exact jt_rI ⟨hv0, (jfr_rf _ _), rfl, (show (a0 146 17 = 0 → ((((((0 ≤ x1 ∧ x1 ≤ 15) ∧ 0 ≤ x2) ∧ x2 ≤ 15) ∧ x3 = 2) ∧ (-1) = 0) ∨ (((((x1 < 0 ∨ 15 < x1) ∨ x2 < 0) ∨ 15 < x2) ∨ ¬ x3 = 2) ∧ (-1) = 0 - 1))) from by omega)⟩
  ·
    refine jt_eI (eq_X12_isLand E d (jd_le hd rfl) x2 a0 b0) ?_
    have h689_ := f_X12_isLand_eq a0 b0 x2
    have h690_ := f_X12_in_eq a0 b0 x2 0 15
    refine jt_ite (fun c691_ => ?_) (fun c691_ => ?_)
    ·
      have h692_ := iv_get hv0 (k := 146) (j := 17) (l := 0) (u := 600) rfl
      exact jt_rI ⟨hv0, (jfr_rf _ _), rfl, (show (a0 146 17 = 0 → ((((((0 ≤ x1 ∧ x1 ≤ 15) ∧ 0 ≤ x2) ∧ x2 ≤ 15) ∧ x3 = 2) ∧ (-1) = 0) ∨ (((((x1 < 0 ∨ 15 < x1) ∨ x2 < 0) ∨ 15 < x2) ∨ ¬ x3 = 2) ∧ (-1) = 0 - 1))) from by omega)⟩
    ·
      refine jt_bV (sp_X12_spans E d (jd_le hd rfl) x1 x2 a0 b0 hv0) (fun a693_ b693_ h693_ => ?_)
      obtain ⟨hv693_, hf693_, rfl, hq693_0⟩ := h693_
      have h694_ := iv_get hv0 (k := 146) (j := 17) (l := 0) (u := 600) rfl
      have h695_ := iv_get hv693_ (k := 146) (j := 39) (l := 0) (u := 10) rfl
      refine jt_ite (fun c696_ => ?_) (fun c696_ => ?_)
      ·
        have hf697_ : jfr jW_X12_span a0 a693_ := jfr_tr (jfr_rf _ _) hf693_ rfl
        exact jt_rI ⟨hv693_, hf697_, rfl, (show (a0 146 17 = 0 → ((((((0 ≤ x1 ∧ x1 ≤ 15) ∧ 0 ≤ x2) ∧ x2 ≤ 15) ∧ x3 = 2) ∧ a693_ 146 39 = 0) ∨ (((((x1 < 0 ∨ 15 < x1) ∨ x2 < 0) ∨ 15 < x2) ∨ ¬ x3 = 2) ∧ a693_ 146 39 = 0 - 1))) from by omega)⟩
      ·
        refine jt_ite (fun c698_ => ?_) (fun c698_ => ?_)
        ·
          have hf699_ : jfr jW_X12_span a0 a693_ := jfr_tr (jfr_rf _ _) hf693_ rfl
          exact cp_X12_span_39 E d hd x1 x2 x3 a0 b0 hv0 a693_ hv693_ hf699_ (show a693_ 146 39 ≤ 0 from by omega) (show (a0 146 17 = 0 → ¬ x3 = 2) from by omega)
        ·
          have hf700_ : jfr jW_X12_span a0 a693_ := jfr_tr (jfr_rf _ _) hf693_ rfl
          exact cp_X12_span_43 E d hd x1 x2 x3 a0 b0 hv0 x3 a693_ hv693_ hf700_ (show 1 ≤ a693_ 146 39 from by omega) (show 1 ≤ a0 146 17 from by omega)
abbrev jQ_X12_state (x1 x2 x3 : Int) (a0 b0 : Nat → Nat → Int) : List jxV → (Nat → Nat → Int) → (Nat → Nat → Int) → Prop := rI (fun r a b => (a0 = a) ∧ (b0 = b) ∧ ((a0 146 9 = 0 → r = 0 - 1)))
theorem cp_X12_state_38 (E : jxE) (d : Nat) (hd : Nat.ble 3 (d + 1) = true) (x1 x2 x3 : Int) (a0 b0 : Nat → Nat → Int) (hv0 : iv a0) : jt (jxX E d 237 38 [none, none, none, none] [] (jxSH, a0, b0)) (jQ_X12_state x1 x2 x3 a0 b0) := by
  refine jt_eq (bq_X12_state_38 E d a0 b0) ?_
  have h701_ := iv_get hv0 (k := 146) (j := 9) (l := 0) (u := 300) rfl
  exact jt_rI ⟨rfl, rfl, (show (a0 146 9 = 0 → (-1) = 0 - 1) from by omega)⟩
theorem cp_X12_state_28 (E : jxE) (d : Nat) (hd : Nat.ble 3 (d + 1) = true) (x1 x2 x3 : Int) (a0 b0 : Nat → Nat → Int) (hv0 : iv a0) : ∀ (y1 y2 y3 : Int), 0 ≤ y1 → y1 ≤ 299 → 0 ≤ y2 → y2 ≤ 1999 → 0 ≤ y3 → y3 ≤ 1999 → 1 ≤ a0 146 9 → jt (jxX E d 237 28 [some (.inr (.inr (.inl 146))), some (.inl y1), some (.inl y2), some (.inl y3)] [] (jxSH, a0, b0)) (jQ_X12_state x1 x2 x3 a0 b0) := by
  intro y1 y2 y3 hi0 hi1 hi2 hi3 hi4 hi5 hi6
  refine jt_eq (bq_X12_state_28 E d y1 y2 y3 a0 b0) ?_
  have h702_ := iv_get hv0 (k := 146) (j := 9) (l := 0) (u := 300) rfl
  refine jt_grd (by omega) ?_
  have h703_ := iv_get hv0 (k := 156) (j := y1.toNat) (l := 0) (u := 1999) rfl
  refine jt_ite (fun c704_ => ?_) (fun c704_ => ?_)
  ·
    exact cp_X12_state_38 E d hd x1 x2 x3 a0 b0 hv0
  ·
    refine jt_bI (sp_X12_stateAt E d (jd_le hd rfl) y1 y2 y3 a0 b0 hv0 (show (0 ≤ y1 ∧ y1 ≤ 299) from by omega)) (fun r705_ a705_ b705_ h705_ => ?_)
    obtain ⟨rfl, rfl, hq705_0, hq705_1⟩ := h705_
    exact jt_rI ⟨rfl, rfl, (show (a0 146 9 = 0 → r705_ = 0 - 1) from by omega)⟩
theorem sp_X12_state (E : jxE) (d : Nat) (hd : Nat.ble 3 d = true) (x1 x2 x3 : Int) (a0 b0 : Nat → Nat → Int) (hv0 : iv a0) : jt (jxC E d 237 [.inr (.inr (.inl 146)), .inl x1, .inl x2, .inl x3] (jxSH, a0, b0)) (jQ_X12_state x1 x2 x3 a0 b0) := by
  obtain ⟨d, rfl⟩ := jd_succ hd
  refine jt_eq (bq_X12_state E d x1 x2 x3 a0 b0) ?_
  refine jt_eI (eq_X12_in E d (jd_le hd rfl) x1 0 (jxw ((a0 146 9) - 1)) a0 b0) ?_
  have h706_ := iv_get hv0 (k := 146) (j := 9) (l := 0) (u := 300) rfl
  have h707_ : jxw ((a0 146 9) - 1) = (a0 146 9) - 1 := jxw_id (by omega) (by omega)
  have h708_ := f_X12_in_eq a0 b0 x1 0 (jxw ((a0 146 9) - 1))
  refine jt_ite (fun c709_ => ?_) (fun c709_ => ?_)
  ·
    exact cp_X12_state_38 E d hd x1 x2 x3 a0 b0 hv0
  ·
    refine jt_eI (eq_X12_isDay E d (jd_le hd rfl) x2 a0 b0) ?_
    have h710_ := f_X12_isDay_eq a0 b0 x2
    have h711_ := f_X12_in_eq a0 b0 x2 0 1999
    refine jt_ite (fun c712_ => ?_) (fun c712_ => ?_)
    ·
      exact cp_X12_state_38 E d hd x1 x2 x3 a0 b0 hv0
    ·
      refine jt_eI (eq_X12_isDay E d (jd_le hd rfl) x3 a0 b0) ?_
      have h713_ := f_X12_isDay_eq a0 b0 x3
      have h714_ := f_X12_in_eq a0 b0 x3 0 1999
      refine jt_ite (fun c715_ => ?_) (fun c715_ => ?_)
      ·
        exact cp_X12_state_38 E d hd x1 x2 x3 a0 b0 hv0
      ·
        exact cp_X12_state_28 E d hd x1 x2 x3 a0 b0 hv0 x1 x2 x3 (show 0 ≤ x1 from by omega) (show x1 ≤ 299 from by omega) (show 0 ≤ x2 from by omega) (show x2 ≤ 1999 from by omega) (show 0 ≤ x3 from by omega) (show x3 ≤ 1999 from by omega) (show 1 ≤ a0 146 9 from by omega)
