abbrev jQ_X12_arrival (x1 x2 : Int) (a0 b0 : Nat → Nat → Int) : List jxV → (Nat → Nat → Int) → (Nat → Nat → Int) → Prop := rI (fun r a b => (a0 = a) ∧ (b0 = b))
theorem cp_X12_arrival_38 (E : jxE) (d : Nat) (hd : Nat.ble 1 (d + 1) = true) (x1 x2 : Int) (a0 b0 : Nat → Nat → Int) (hv0 : iv a0) (hp0 : (0 ≤ x1 ∧ x1 ≤ 299)) : ∀ n : Nat, (∀ (y1 y2 y3 y4 : Int), (((600 - y4) * 1) + 0).toNat ≤ n → 0 ≤ y1 → y1 ≤ 299 → y2 ≤ 1998 → 0 ≤ y4 → y4 ≤ 599 → jt (jxX E d 233 77 [some (.inr (.inr (.inl 146))), some (.inl y1), some (.inl y2), some (.inl y3), some (.inl y4)] [] (jxSH, a0, b0)) (jQ_X12_arrival x1 x2 a0 b0)) ∧ (∀ (y1 y2 y4 : Int), (((600 - y4) * 1) + 0).toNat ≤ n → 0 ≤ y1 → y1 ≤ 299 → y2 ≤ 1998 → 0 ≤ y4 → y4 ≤ 599 → jt (jxX E d 233 69 [some (.inr (.inr (.inl 146))), some (.inl y1), some (.inl y2), none, some (.inl y4)] [] (jxSH, a0, b0)) (jQ_X12_arrival x1 x2 a0 b0)) ∧ (∀ (y1 y2 y3 y4 : Int), (((600 - y4) * 1) + 0).toNat ≤ n → 0 ≤ y1 → y1 ≤ 299 → y2 ≤ 1998 → 0 ≤ y4 → y4 ≤ 600 → jt (jxX E d 233 38 [some (.inr (.inr (.inl 146))), some (.inl y1), some (.inl y2), some (.inl y3), some (.inl y4)] [] (jxSH, a0, b0)) (jQ_X12_arrival x1 x2 a0 b0)) := by
  refine jx_ind fun n ih => ?_
  have ih77 : ∀ (y1 y2 y3 y4 : Int), (((600 - y4) * 1) + 0).toNat < n → 0 ≤ y1 → y1 ≤ 299 → y2 ≤ 1998 → 0 ≤ y4 → y4 ≤ 599 → jt (jxX E d 233 77 [some (.inr (.inr (.inl 146))), some (.inl y1), some (.inl y2), some (.inl y3), some (.inl y4)] [] (jxSH, a0, b0)) (jQ_X12_arrival x1 x2 a0 b0) := fun y1 y2 y3 y4 hlt i0 i1 i2 i3 i4 => (ih _ hlt).1 y1 y2 y3 y4 (Nat.le_refl _) i0 i1 i2 i3 i4
  have ih69 : ∀ (y1 y2 y4 : Int), (((600 - y4) * 1) + 0).toNat < n → 0 ≤ y1 → y1 ≤ 299 → y2 ≤ 1998 → 0 ≤ y4 → y4 ≤ 599 → jt (jxX E d 233 69 [some (.inr (.inr (.inl 146))), some (.inl y1), some (.inl y2), none, some (.inl y4)] [] (jxSH, a0, b0)) (jQ_X12_arrival x1 x2 a0 b0) := fun y1 y2 y4 hlt i0 i1 i2 i3 i4 => (ih _ hlt).2.1 y1 y2 y4 (Nat.le_refl _) i0 i1 i2 i3 i4
  have ih38 : ∀ (y1 y2 y3 y4 : Int), (((600 - y4) * 1) + 0).toNat < n → 0 ≤ y1 → y1 ≤ 299 → y2 ≤ 1998 → 0 ≤ y4 → y4 ≤ 600 → jt (jxX E d 233 38 [some (.inr (.inr (.inl 146))), some (.inl y1), some (.inl y2), some (.inl y3), some (.inl y4)] [] (jxSH, a0, b0)) (jQ_X12_arrival x1 x2 a0 b0) := fun y1 y2 y3 y4 hlt i0 i1 i2 i3 i4 => (ih _ hlt).2.2 y1 y2 y3 y4 (Nat.le_refl _) i0 i1 i2 i3 i4
  have hc77 : ∀ (y1 y2 y3 y4 : Int), (((600 - y4) * 1) + 0).toNat ≤ n → 0 ≤ y1 → y1 ≤ 299 → y2 ≤ 1998 → 0 ≤ y4 → y4 ≤ 599 → jt (jxX E d 233 77 [some (.inr (.inr (.inl 146))), some (.inl y1), some (.inl y2), some (.inl y3), some (.inl y4)] [] (jxSH, a0, b0)) (jQ_X12_arrival x1 x2 a0 b0) := by
    intro y1 y2 y3 y4 hm hi0 hi1 hi2 hi3 hi4
    refine jt_eq (bq_X12_arrival_77 E d y1 y2 y3 y4 a0 b0) ?_
    have h1_ : jxw (y4 + 1) = y4 + 1 := jxw_id (by omega) (by omega)
    exact ih38 y1 y2 y3 (jxw (y4 + 1)) (show (((600 - (jxw (y4 + 1))) * 1) + 0).toNat < n from by omega) (show 0 ≤ y1 from by omega) (show y1 ≤ 299 from by omega) (show y2 ≤ 1998 from by omega) (show 0 ≤ jxw (y4 + 1) from by omega) (show jxw (y4 + 1) ≤ 600 from by omega)
  have hc69 : ∀ (y1 y2 y4 : Int), (((600 - y4) * 1) + 0).toNat ≤ n → 0 ≤ y1 → y1 ≤ 299 → y2 ≤ 1998 → 0 ≤ y4 → y4 ≤ 599 → jt (jxX E d 233 69 [some (.inr (.inr (.inl 146))), some (.inl y1), some (.inl y2), none, some (.inl y4)] [] (jxSH, a0, b0)) (jQ_X12_arrival x1 x2 a0 b0) := by
    intro y1 y2 y4 hm hi0 hi1 hi2 hi3 hi4
    refine jt_eq (bq_X12_arrival_69 E d y1 y2 y4 a0 b0) ?_
    refine jt_grd (by omega) ?_
    exact hc77 y1 y2 (a0 162 (y4.toNat)) y4 (show (((600 - y4) * 1) + 0).toNat ≤ n from by omega) (show 0 ≤ y1 from by omega) (show y1 ≤ 299 from by omega) (show y2 ≤ 1998 from by omega) (show 0 ≤ y4 from by omega) (show y4 ≤ 599 from by omega)
  have hc38 : ∀ (y1 y2 y3 y4 : Int), (((600 - y4) * 1) + 0).toNat ≤ n → 0 ≤ y1 → y1 ≤ 299 → y2 ≤ 1998 → 0 ≤ y4 → y4 ≤ 600 → jt (jxX E d 233 38 [some (.inr (.inr (.inl 146))), some (.inl y1), some (.inl y2), some (.inl y3), some (.inl y4)] [] (jxSH, a0, b0)) (jQ_X12_arrival x1 x2 a0 b0) := by
    intro y1 y2 y3 y4 hm hi0 hi1 hi2 hi3 hi4
    refine jt_eq (bq_X12_arrival_38 E d y1 y2 y3 y4 a0 b0) ?_
    have h2_ := iv_get hv0 (k := 146) (j := 17) (l := 0) (u := 600) rfl
    refine jt_ite (fun c3_ => ?_) (fun c3_ => ?_)
    ·
      refine jt_grd (by omega) ?_
      have h4_ := iv_get hv0 (k := 161) (j := y4.toNat) (l := 0) (u := 299) rfl
      refine jt_ite (fun c5_ => ?_) (fun c5_ => ?_)
      ·
        refine jt_grd (by omega) ?_
        refine jt_ite (fun c6_ => ?_) (fun c6_ => ?_)
        ·
          exact hc77 y1 y2 y3 y4 (show (((600 - y4) * 1) + 0).toNat ≤ n from by omega) (show 0 ≤ y1 from by omega) (show y1 ≤ 299 from by omega) (show y2 ≤ 1998 from by omega) (show 0 ≤ y4 from by omega) (show y4 ≤ 599 from by omega)
        ·
          exact hc69 y1 y2 y4 (show (((600 - y4) * 1) + 0).toNat ≤ n from by omega) (show 0 ≤ y1 from by omega) (show y1 ≤ 299 from by omega) (show y2 ≤ 1998 from by omega) (show 0 ≤ y4 from by omega) (show y4 ≤ 599 from by omega)
      ·
        exact hc77 y1 y2 y3 y4 (show (((600 - y4) * 1) + 0).toNat ≤ n from by omega) (show 0 ≤ y1 from by omega) (show y1 ≤ 299 from by omega) (show y2 ≤ 1998 from by omega) (show 0 ≤ y4 from by omega) (show y4 ≤ 599 from by omega)
    ·
      exact jt_rI ⟨rfl, rfl⟩
  exact ⟨hc77, hc69, hc38⟩
theorem sp_X12_arrival (E : jxE) (d : Nat) (hd : Nat.ble 1 d = true) (x1 x2 : Int) (a0 b0 : Nat → Nat → Int) (hv0 : iv a0) (hp0 : (0 ≤ x1 ∧ x1 ≤ 299)) : jt (jxC E d 233 [.inr (.inr (.inl 146)), .inl x1, .inl x2] (jxSH, a0, b0)) (jQ_X12_arrival x1 x2 a0 b0) := by
  obtain ⟨d, rfl⟩ := jd_succ hd
  refine jt_eq (bq_X12_arrival E d x1 x2 a0 b0) ?_
  have h7_ := iv_get hv0 (k := 146) (j := 0) (l := 0) (u := 1999) rfl
  refine jt_ite (fun c8_ => ?_) (fun c8_ => ?_)
  ·
    exact (cp_X12_arrival_38 E d hd x1 x2 a0 b0 hv0 hp0 _).2.2 x1 x2 (-1) 0 (Nat.le_refl _) (show 0 ≤ x1 from by omega) (show x1 ≤ 299 from by omega) (show x2 ≤ 1998 from by omega) (show 0 ≤ 0 from by omega) (show 0 ≤ 600 from by omega)
  ·
    refine jt_grd (by omega) ?_
    have h9_ := iv_get hv0 (k := 160) (j := x1.toNat) (l := (-1)) (u := 599) rfl
    refine jt_ite (fun c10_ => ?_) (fun c10_ => ?_)
    ·
      exact jt_rI ⟨rfl, rfl⟩
    ·
      refine jt_grd (by omega) ?_
      refine jt_grd (by omega) ?_
      exact jt_rI ⟨rfl, rfl⟩
abbrev jQ_X12_stateAt (x1 x2 x3 : Int) (a0 b0 : Nat → Nat → Int) : List jxV → (Nat → Nat → Int) → (Nat → Nat → Int) → Prop := rI (fun r a b => (a0 = a) ∧ (b0 = b) ∧ (0 ≤ r) ∧ (r ≤ 4))
theorem cp_X12_stateAt_30 (E : jxE) (d : Nat) (hd : Nat.ble 2 (d + 1) = true) (x1 x2 x3 : Int) (a0 b0 : Nat → Nat → Int) (hv0 : iv a0) (hp0 : (0 ≤ x1 ∧ x1 ≤ 299)) : jt (jxX E d 234 30 [none, none, none, none, none] [] (jxSH, a0, b0)) (jQ_X12_stateAt x1 x2 x3 a0 b0) := by
  refine jt_eq (bq_X12_stateAt_30 E d a0 b0) ?_
  exact jt_rI ⟨rfl, rfl, (show 0 ≤ 4 from by omega), (show 4 ≤ 4 from by omega)⟩
theorem cp_X12_stateAt_74 (E : jxE) (d : Nat) (hd : Nat.ble 2 (d + 1) = true) (x1 x2 x3 : Int) (a0 b0 : Nat → Nat → Int) (hv0 : iv a0) (hp0 : (0 ≤ x1 ∧ x1 ≤ 299)) : jt (jxX E d 234 74 [none, none, none, none, none] [] (jxSH, a0, b0)) (jQ_X12_stateAt x1 x2 x3 a0 b0) := by
  refine jt_eq (bq_X12_stateAt_74 E d a0 b0) ?_
  exact jt_rI ⟨rfl, rfl, (show 0 ≤ 1 from by omega), (show 1 ≤ 4 from by omega)⟩
theorem cp_X12_stateAt_76 (E : jxE) (d : Nat) (hd : Nat.ble 2 (d + 1) = true) (x1 x2 x3 : Int) (a0 b0 : Nat → Nat → Int) (hv0 : iv a0) (hp0 : (0 ≤ x1 ∧ x1 ≤ 299)) : ∀ (y1 y2 : Int), 0 ≤ y1 → y1 ≤ 299 → jt (jxX E d 234 76 [some (.inr (.inr (.inl 146))), some (.inl y1), some (.inl y2), none, none] [] (jxSH, a0, b0)) (jQ_X12_stateAt x1 x2 x3 a0 b0) := by
  intro y1 y2 hi0 hi1
  refine jt_eq (bq_X12_stateAt_76 E d y1 y2 a0 b0) ?_
  refine jt_grd (by omega) ?_
  refine jt_grd (by omega) ?_
  have h11_ := iv_get hv0 (k := 156) (j := y1.toNat) (l := 0) (u := 1999) rfl
  have h12_ := jxw_im (y2 - (a0 156 (y1.toNat)))
  have h13_ := jxw_rg (y2 - (a0 156 (y1.toNat)))
  refine jt_ite (fun c14_ => ?_) (fun c14_ => ?_)
  ·
    exact jt_rI ⟨rfl, rfl, (show 0 ≤ 0 from by omega), (show 0 ≤ 4 from by omega)⟩
  ·
    exact jt_rI ⟨rfl, rfl, (show 0 ≤ 2 from by omega), (show 2 ≤ 4 from by omega)⟩
theorem cp_X12_stateAt_70 (E : jxE) (d : Nat) (hd : Nat.ble 2 (d + 1) = true) (x1 x2 x3 : Int) (a0 b0 : Nat → Nat → Int) (hv0 : iv a0) (hp0 : (0 ≤ x1 ∧ x1 ≤ 299)) : jt (jxX E d 234 70 [none, none, none, none, none] [] (jxSH, a0, b0)) (jQ_X12_stateAt x1 x2 x3 a0 b0) := by
  refine jt_eq (bq_X12_stateAt_70 E d a0 b0) ?_
  exact jt_rI ⟨rfl, rfl, (show 0 ≤ 3 from by omega), (show 3 ≤ 4 from by omega)⟩
theorem cp_X12_stateAt_32 (E : jxE) (d : Nat) (hd : Nat.ble 2 (d + 1) = true) (x1 x2 x3 : Int) (a0 b0 : Nat → Nat → Int) (hv0 : iv a0) (hp0 : (0 ≤ x1 ∧ x1 ≤ 299)) : ∀ (y1 y2 y3 : Int), 0 ≤ y1 → y1 ≤ 299 → jt (jxX E d 234 32 [some (.inr (.inr (.inl 146))), some (.inl y1), some (.inl y2), some (.inl y3), none] [] (jxSH, a0, b0)) (jQ_X12_stateAt x1 x2 x3 a0 b0) := by
  intro y1 y2 y3 hi0 hi1
  refine jt_eq (bq_X12_stateAt_32 E d y1 y2 y3 a0 b0) ?_
  refine jt_bI (sp_X12_arrival E d (jd_le hd rfl) y1 y3 a0 b0 hv0 (show (0 ≤ y1 ∧ y1 ≤ 299) from by omega)) (fun r15_ a15_ b15_ h15_ => ?_)
  obtain ⟨rfl, rfl⟩ := h15_
  refine jt_ite (fun c16_ => ?_) (fun c16_ => ?_)
  ·
    exact cp_X12_stateAt_76 E d hd x1 x2 x3 a0 b0 hv0 hp0 y1 y2 (show 0 ≤ y1 from by omega) (show y1 ≤ 299 from by omega)
  ·
    refine jt_ite (fun c17_ => ?_) (fun c17_ => ?_)
    ·
      exact cp_X12_stateAt_76 E d hd x1 x2 x3 a0 b0 hv0 hp0 y1 y2 (show 0 ≤ y1 from by omega) (show y1 ≤ 299 from by omega)
    ·
      refine jt_grd (by omega) ?_
      refine jt_grd (by omega) ?_
      have h18_ := iv_get hv0 (k := 156) (j := y1.toNat) (l := 0) (u := 1999) rfl
      have h19_ := jxw_im (r15_ - (a0 156 (y1.toNat)))
      have h20_ := jxw_rg (r15_ - (a0 156 (y1.toNat)))
      refine jt_ite (fun c21_ => ?_) (fun c21_ => ?_)
      ·
        exact cp_X12_stateAt_74 E d hd x1 x2 x3 a0 b0 hv0 hp0
      ·
        exact cp_X12_stateAt_70 E d hd x1 x2 x3 a0 b0 hv0 hp0
theorem sp_X12_stateAt (E : jxE) (d : Nat) (hd : Nat.ble 2 d = true) (x1 x2 x3 : Int) (a0 b0 : Nat → Nat → Int) (hv0 : iv a0) (hp0 : (0 ≤ x1 ∧ x1 ≤ 299)) : jt (jxC E d 234 [.inr (.inr (.inl 146)), .inl x1, .inl x2, .inl x3] (jxSH, a0, b0)) (jQ_X12_stateAt x1 x2 x3 a0 b0) := by
  obtain ⟨d, rfl⟩ := jd_succ hd
  refine jt_eq (bq_X12_stateAt E d x1 x2 x3 a0 b0) ?_
  refine jt_grd (by omega) ?_
  refine jt_ite (fun c22_ => ?_) (fun c22_ => ?_)
  ·
    exact cp_X12_stateAt_32 E d hd x1 x2 x3 a0 b0 hv0 hp0 x1 x2 x3 (show 0 ≤ x1 from by omega) (show x1 ≤ 299 from by omega)
  ·
    refine jt_grd (by omega) ?_
    refine jt_ite (fun c23_ => ?_) (fun c23_ => ?_)
    ·
      exact cp_X12_stateAt_32 E d hd x1 x2 x3 a0 b0 hv0 hp0 x1 x2 x3 (show 0 ≤ x1 from by omega) (show x1 ≤ 299 from by omega)
    ·
      refine jt_grd (by omega) ?_
      refine jt_ite (fun c24_ => ?_) (fun c24_ => ?_)
      ·
        exact cp_X12_stateAt_32 E d hd x1 x2 x3 a0 b0 hv0 hp0 x1 x2 x3 (show 0 ≤ x1 from by omega) (show x1 ≤ 299 from by omega)
      ·
        exact cp_X12_stateAt_30 E d hd x1 x2 x3 a0 b0 hv0 hp0
abbrev jQ_X12_stateNow (x1 : Int) (a0 b0 : Nat → Nat → Int) : List jxV → (Nat → Nat → Int) → (Nat → Nat → Int) → Prop := rI (fun r a b => (a0 = a) ∧ (b0 = b) ∧ (0 ≤ r) ∧ (r ≤ 4))
theorem sp_X12_stateNow (E : jxE) (d : Nat) (hd : Nat.ble 3 d = true) (x1 : Int) (a0 b0 : Nat → Nat → Int) (hv0 : iv a0) (hp0 : (0 ≤ x1 ∧ x1 ≤ 299)) : jt (jxC E d 235 [.inr (.inr (.inl 146)), .inl x1] (jxSH, a0, b0)) (jQ_X12_stateNow x1 a0 b0) := by
  obtain ⟨d, rfl⟩ := jd_succ hd
  refine jt_eq (bq_X12_stateNow E d x1 a0 b0) ?_
  refine jt_bI (sp_X12_stateAt E d (jd_le hd rfl) x1 (a0 146 0) (a0 146 0) a0 b0 hv0 (show (0 ≤ x1 ∧ x1 ≤ 299) from by omega)) (fun r25_ a25_ b25_ h25_ => ?_)
  obtain ⟨rfl, rfl, hq25_0, hq25_1⟩ := h25_
  exact jt_rI ⟨rfl, rfl, (show 0 ≤ r25_ from by omega), (show r25_ ≤ 4 from by omega)⟩
abbrev jQ_X12_coming (x1 : Int) (a0 b0 : Nat → Nat → Int) : List jxV → (Nat → Nat → Int) → (Nat → Nat → Int) → Prop := rI (fun r a b => (a0 = a) ∧ (b0 = b) ∧ (0 ≤ r) ∧ (r ≤ 300))
theorem cp_X12_coming_4 (E : jxE) (d : Nat) (hd : Nat.ble 4 (d + 1) = true) (x1 : Int) (a0 b0 : Nat → Nat → Int) (hv0 : iv a0) : ∀ n : Nat, (∀ (y1 y2 y3 : Int), (((300 - y3) * 1) + 0).toNat ≤ n → 0 ≤ y2 → y2 ≤ 300 → 0 ≤ y3 → y3 ≤ 299 → y2 ≤ y3 + 1 → jt (jxX E d 243 38 [some (.inr (.inr (.inl 146))), some (.inl y1), some (.inl y2), some (.inl y3)] [] (jxSH, a0, b0)) (jQ_X12_coming x1 a0 b0)) ∧ (∀ (y1 y2 y3 : Int), (((300 - y3) * 1) + 0).toNat ≤ n → 0 ≤ y2 → y2 ≤ 300 → 0 ≤ y3 → y3 ≤ 300 → y2 ≤ y3 → jt (jxX E d 243 4 [some (.inr (.inr (.inl 146))), some (.inl y1), some (.inl y2), some (.inl y3)] [] (jxSH, a0, b0)) (jQ_X12_coming x1 a0 b0)) := by
  refine jx_ind fun n ih => ?_
  have ih38 : ∀ (y1 y2 y3 : Int), (((300 - y3) * 1) + 0).toNat < n → 0 ≤ y2 → y2 ≤ 300 → 0 ≤ y3 → y3 ≤ 299 → y2 ≤ y3 + 1 → jt (jxX E d 243 38 [some (.inr (.inr (.inl 146))), some (.inl y1), some (.inl y2), some (.inl y3)] [] (jxSH, a0, b0)) (jQ_X12_coming x1 a0 b0) := fun y1 y2 y3 hlt i0 i1 i2 i3 i4 => (ih _ hlt).1 y1 y2 y3 (Nat.le_refl _) i0 i1 i2 i3 i4
  have ih4 : ∀ (y1 y2 y3 : Int), (((300 - y3) * 1) + 0).toNat < n → 0 ≤ y2 → y2 ≤ 300 → 0 ≤ y3 → y3 ≤ 300 → y2 ≤ y3 → jt (jxX E d 243 4 [some (.inr (.inr (.inl 146))), some (.inl y1), some (.inl y2), some (.inl y3)] [] (jxSH, a0, b0)) (jQ_X12_coming x1 a0 b0) := fun y1 y2 y3 hlt i0 i1 i2 i3 i4 => (ih _ hlt).2 y1 y2 y3 (Nat.le_refl _) i0 i1 i2 i3 i4
  have hc38 : ∀ (y1 y2 y3 : Int), (((300 - y3) * 1) + 0).toNat ≤ n → 0 ≤ y2 → y2 ≤ 300 → 0 ≤ y3 → y3 ≤ 299 → y2 ≤ y3 + 1 → jt (jxX E d 243 38 [some (.inr (.inr (.inl 146))), some (.inl y1), some (.inl y2), some (.inl y3)] [] (jxSH, a0, b0)) (jQ_X12_coming x1 a0 b0) := by
    intro y1 y2 y3 hm hi0 hi1 hi2 hi3 hi4
    refine jt_eq (bq_X12_coming_38 E d y1 y2 y3 a0 b0) ?_
    have h26_ : jxw (y3 + 1) = y3 + 1 := jxw_id (by omega) (by omega)
    exact ih4 y1 y2 (jxw (y3 + 1)) (show (((300 - (jxw (y3 + 1))) * 1) + 0).toNat < n from by omega) (show 0 ≤ y2 from by omega) (show y2 ≤ 300 from by omega) (show 0 ≤ jxw (y3 + 1) from by omega) (show jxw (y3 + 1) ≤ 300 from by omega) (show y2 ≤ jxw (y3 + 1) from by omega)
  have hc4 : ∀ (y1 y2 y3 : Int), (((300 - y3) * 1) + 0).toNat ≤ n → 0 ≤ y2 → y2 ≤ 300 → 0 ≤ y3 → y3 ≤ 300 → y2 ≤ y3 → jt (jxX E d 243 4 [some (.inr (.inr (.inl 146))), some (.inl y1), some (.inl y2), some (.inl y3)] [] (jxSH, a0, b0)) (jQ_X12_coming x1 a0 b0) := by
    intro y1 y2 y3 hm hi0 hi1 hi2 hi3 hi4
    refine jt_eq (bq_X12_coming_4 E d y1 y2 y3 a0 b0) ?_
    have h27_ := iv_get hv0 (k := 146) (j := 9) (l := 0) (u := 300) rfl
    refine jt_ite (fun c28_ => ?_) (fun c28_ => ?_)
    ·
      refine jt_grd (by omega) ?_
      have h29_ := iv_get hv0 (k := 155) (j := y3.toNat) (l := 0) (u := 39) rfl
      refine jt_ite (fun c30_ => ?_) (fun c30_ => ?_)
      ·
        refine jt_bI (sp_X12_stateNow E d (jd_le hd rfl) y3 a0 b0 hv0 (show (0 ≤ y3 ∧ y3 ≤ 299) from by omega)) (fun r31_ a31_ b31_ h31_ => ?_)
        obtain ⟨rfl, rfl, hq31_0, hq31_1⟩ := h31_
        refine jt_ite (fun c32_ => ?_) (fun c32_ => ?_)
        ·
          have h33_ : jxw (y2 + 1) = y2 + 1 := jxw_id (by omega) (by omega)
          exact hc38 y1 (jxw (y2 + 1)) y3 (show (((300 - y3) * 1) + 0).toNat ≤ n from by omega) (show 0 ≤ jxw (y2 + 1) from by omega) (show jxw (y2 + 1) ≤ 300 from by omega) (show 0 ≤ y3 from by omega) (show y3 ≤ 299 from by omega) (show jxw (y2 + 1) ≤ y3 + 1 from by omega)
        ·
          have h34_ : jxw (y2 + 0) = y2 + 0 := jxw_id (by omega) (by omega)
          exact hc38 y1 (jxw (y2 + 0)) y3 (show (((300 - y3) * 1) + 0).toNat ≤ n from by omega) (show 0 ≤ jxw (y2 + 0) from by omega) (show jxw (y2 + 0) ≤ 300 from by omega) (show 0 ≤ y3 from by omega) (show y3 ≤ 299 from by omega) (show jxw (y2 + 0) ≤ y3 + 1 from by omega)
      ·
        have h35_ : jxw (y2 + 0) = y2 + 0 := jxw_id (by omega) (by omega)
        exact hc38 y1 (jxw (y2 + 0)) y3 (show (((300 - y3) * 1) + 0).toNat ≤ n from by omega) (show 0 ≤ jxw (y2 + 0) from by omega) (show jxw (y2 + 0) ≤ 300 from by omega) (show 0 ≤ y3 from by omega) (show y3 ≤ 299 from by omega) (show jxw (y2 + 0) ≤ y3 + 1 from by omega)
    ·
      exact jt_rI ⟨rfl, rfl, (show 0 ≤ y2 from by omega), (show y2 ≤ 300 from by omega)⟩
  exact ⟨hc38, hc4⟩
theorem sp_X12_coming (E : jxE) (d : Nat) (hd : Nat.ble 4 d = true) (x1 : Int) (a0 b0 : Nat → Nat → Int) (hv0 : iv a0) : jt (jxC E d 243 [.inr (.inr (.inl 146)), .inl x1] (jxSH, a0, b0)) (jQ_X12_coming x1 a0 b0) := by
  obtain ⟨d, rfl⟩ := jd_succ hd
  refine jt_eq (bq_X12_coming E d x1 a0 b0) ?_
  exact (cp_X12_coming_4 E d hd x1 a0 b0 hv0 _).2 x1 0 0 (Nat.le_refl _) (show 0 ≤ 0 from by omega) (show 0 ≤ 300 from by omega) (show 0 ≤ 0 from by omega) (show 0 ≤ 300 from by omega) (show 0 ≤ 0 from by omega)
abbrev jQ_X12_hasArrived (x1 : Int) (a0 b0 : Nat → Nat → Int) : List jxV → (Nat → Nat → Int) → (Nat → Nat → Int) → Prop := rI (fun r a b => (a0 = a) ∧ (b0 = b) ∧ ((0 ≤ r ∧ r ≤ 1)))
theorem sp_X12_hasArrived (E : jxE) (d : Nat) (hd : Nat.ble 4 d = true) (x1 : Int) (a0 b0 : Nat → Nat → Int) (hv0 : iv a0) (hp0 : (0 ≤ x1 ∧ x1 ≤ 299)) : jt (jxC E d 236 [.inr (.inr (.inl 146)), .inl x1] (jxSH, a0, b0)) (jQ_X12_hasArrived x1 a0 b0) := by
  obtain ⟨d, rfl⟩ := jd_succ hd
  refine jt_eq (bq_X12_hasArrived E d x1 a0 b0) ?_
  refine jt_bI (sp_X12_stateNow E d (jd_le hd rfl) x1 a0 b0 hv0 (show (0 ≤ x1 ∧ x1 ≤ 299) from by omega)) (fun r36_ a36_ b36_ h36_ => ?_)
  obtain ⟨rfl, rfl, hq36_0, hq36_1⟩ := h36_
  refine jt_ite (fun c37_ => ?_) (fun c37_ => ?_)
  ·
    exact jt_rI ⟨rfl, rfl, (show (0 ≤ 1 ∧ 1 ≤ 1) from by omega)⟩
  ·
    refine jt_ite (fun c38_ => ?_) (fun c38_ => ?_)
    ·
      exact jt_rI ⟨rfl, rfl, (show (0 ≤ 1 ∧ 1 ≤ 1) from by omega)⟩
    ·
      exact jt_rI ⟨rfl, rfl, (show (0 ≤ 0 ∧ 0 ≤ 1) from by omega)⟩
abbrev jQ_X12_given (x1 : Int) (a0 b0 : Nat → Nat → Int) : List jxV → (Nat → Nat → Int) → (Nat → Nat → Int) → Prop := rI (fun r a b => (a0 = a) ∧ (b0 = b) ∧ (0 ≤ r) ∧ (r ≤ 300))
theorem cp_X12_given_4 (E : jxE) (d : Nat) (hd : Nat.ble 5 (d + 1) = true) (x1 : Int) (a0 b0 : Nat → Nat → Int) (hv0 : iv a0) : ∀ n : Nat, (∀ (y1 y2 y3 : Int), (((300 - y3) * 1) + 0).toNat ≤ n → 0 ≤ y2 → y2 ≤ 300 → 0 ≤ y3 → y3 ≤ 299 → y2 ≤ y3 + 1 → jt (jxX E d 241 38 [some (.inr (.inr (.inl 146))), some (.inl y1), some (.inl y2), some (.inl y3)] [] (jxSH, a0, b0)) (jQ_X12_given x1 a0 b0)) ∧ (∀ (y1 y2 y3 : Int), (((300 - y3) * 1) + 0).toNat ≤ n → 0 ≤ y2 → y2 ≤ 300 → 0 ≤ y3 → y3 ≤ 300 → y2 ≤ y3 → jt (jxX E d 241 4 [some (.inr (.inr (.inl 146))), some (.inl y1), some (.inl y2), some (.inl y3)] [] (jxSH, a0, b0)) (jQ_X12_given x1 a0 b0)) := by
  refine jx_ind fun n ih => ?_
  have ih38 : ∀ (y1 y2 y3 : Int), (((300 - y3) * 1) + 0).toNat < n → 0 ≤ y2 → y2 ≤ 300 → 0 ≤ y3 → y3 ≤ 299 → y2 ≤ y3 + 1 → jt (jxX E d 241 38 [some (.inr (.inr (.inl 146))), some (.inl y1), some (.inl y2), some (.inl y3)] [] (jxSH, a0, b0)) (jQ_X12_given x1 a0 b0) := fun y1 y2 y3 hlt i0 i1 i2 i3 i4 => (ih _ hlt).1 y1 y2 y3 (Nat.le_refl _) i0 i1 i2 i3 i4
  have ih4 : ∀ (y1 y2 y3 : Int), (((300 - y3) * 1) + 0).toNat < n → 0 ≤ y2 → y2 ≤ 300 → 0 ≤ y3 → y3 ≤ 300 → y2 ≤ y3 → jt (jxX E d 241 4 [some (.inr (.inr (.inl 146))), some (.inl y1), some (.inl y2), some (.inl y3)] [] (jxSH, a0, b0)) (jQ_X12_given x1 a0 b0) := fun y1 y2 y3 hlt i0 i1 i2 i3 i4 => (ih _ hlt).2 y1 y2 y3 (Nat.le_refl _) i0 i1 i2 i3 i4
  have hc38 : ∀ (y1 y2 y3 : Int), (((300 - y3) * 1) + 0).toNat ≤ n → 0 ≤ y2 → y2 ≤ 300 → 0 ≤ y3 → y3 ≤ 299 → y2 ≤ y3 + 1 → jt (jxX E d 241 38 [some (.inr (.inr (.inl 146))), some (.inl y1), some (.inl y2), some (.inl y3)] [] (jxSH, a0, b0)) (jQ_X12_given x1 a0 b0) := by
    intro y1 y2 y3 hm hi0 hi1 hi2 hi3 hi4
    refine jt_eq (bq_X12_given_38 E d y1 y2 y3 a0 b0) ?_
    have h39_ : jxw (y3 + 1) = y3 + 1 := jxw_id (by omega) (by omega)
    exact ih4 y1 y2 (jxw (y3 + 1)) (show (((300 - (jxw (y3 + 1))) * 1) + 0).toNat < n from by omega) (show 0 ≤ y2 from by omega) (show y2 ≤ 300 from by omega) (show 0 ≤ jxw (y3 + 1) from by omega) (show jxw (y3 + 1) ≤ 300 from by omega) (show y2 ≤ jxw (y3 + 1) from by omega)
  have hc4 : ∀ (y1 y2 y3 : Int), (((300 - y3) * 1) + 0).toNat ≤ n → 0 ≤ y2 → y2 ≤ 300 → 0 ≤ y3 → y3 ≤ 300 → y2 ≤ y3 → jt (jxX E d 241 4 [some (.inr (.inr (.inl 146))), some (.inl y1), some (.inl y2), some (.inl y3)] [] (jxSH, a0, b0)) (jQ_X12_given x1 a0 b0) := by
    intro y1 y2 y3 hm hi0 hi1 hi2 hi3 hi4
    refine jt_eq (bq_X12_given_4 E d y1 y2 y3 a0 b0) ?_
    have h40_ := iv_get hv0 (k := 146) (j := 9) (l := 0) (u := 300) rfl
    refine jt_ite (fun c41_ => ?_) (fun c41_ => ?_)
    ·
      refine jt_grd (by omega) ?_
      have h42_ := iv_get hv0 (k := 154) (j := y3.toNat) (l := 0) (u := 39) rfl
      refine jt_ite (fun c43_ => ?_) (fun c43_ => ?_)
      ·
        refine jt_bI (sp_X12_hasArrived E d (jd_le hd rfl) y3 a0 b0 hv0 (show (0 ≤ y3 ∧ y3 ≤ 299) from by omega)) (fun r44_ a44_ b44_ h44_ => ?_)
        obtain ⟨rfl, rfl, hq44_0⟩ := h44_
        refine jt_ite (fun c45_ => ?_) (fun c45_ => ?_)
        ·
          have h46_ : jxw (y2 + 0) = y2 + 0 := jxw_id (by omega) (by omega)
          exact hc38 y1 (jxw (y2 + 0)) y3 (show (((300 - y3) * 1) + 0).toNat ≤ n from by omega) (show 0 ≤ jxw (y2 + 0) from by omega) (show jxw (y2 + 0) ≤ 300 from by omega) (show 0 ≤ y3 from by omega) (show y3 ≤ 299 from by omega) (show jxw (y2 + 0) ≤ y3 + 1 from by omega)
        ·
          have h47_ : jxw (y2 + 1) = y2 + 1 := jxw_id (by omega) (by omega)
          exact hc38 y1 (jxw (y2 + 1)) y3 (show (((300 - y3) * 1) + 0).toNat ≤ n from by omega) (show 0 ≤ jxw (y2 + 1) from by omega) (show jxw (y2 + 1) ≤ 300 from by omega) (show 0 ≤ y3 from by omega) (show y3 ≤ 299 from by omega) (show jxw (y2 + 1) ≤ y3 + 1 from by omega)
      ·
        have h48_ : jxw (y2 + 0) = y2 + 0 := jxw_id (by omega) (by omega)
        exact hc38 y1 (jxw (y2 + 0)) y3 (show (((300 - y3) * 1) + 0).toNat ≤ n from by omega) (show 0 ≤ jxw (y2 + 0) from by omega) (show jxw (y2 + 0) ≤ 300 from by omega) (show 0 ≤ y3 from by omega) (show y3 ≤ 299 from by omega) (show jxw (y2 + 0) ≤ y3 + 1 from by omega)
    ·
      exact jt_rI ⟨rfl, rfl, (show 0 ≤ y2 from by omega), (show y2 ≤ 300 from by omega)⟩
  exact ⟨hc38, hc4⟩
theorem sp_X12_given (E : jxE) (d : Nat) (hd : Nat.ble 5 d = true) (x1 : Int) (a0 b0 : Nat → Nat → Int) (hv0 : iv a0) : jt (jxC E d 241 [.inr (.inr (.inl 146)), .inl x1] (jxSH, a0, b0)) (jQ_X12_given x1 a0 b0) := by
  obtain ⟨d, rfl⟩ := jd_succ hd
  refine jt_eq (bq_X12_given E d x1 a0 b0) ?_
  exact (cp_X12_given_4 E d hd x1 a0 b0 hv0 _).2 x1 0 0 (Nat.le_refl _) (show 0 ≤ 0 from by omega) (show 0 ≤ 300 from by omega) (show 0 ≤ 0 from by omega) (show 0 ≤ 300 from by omega) (show 0 ≤ 0 from by omega)
abbrev jQ_X12_got (x1 : Int) (a0 b0 : Nat → Nat → Int) : List jxV → (Nat → Nat → Int) → (Nat → Nat → Int) → Prop := rI (fun r a b => (a0 = a) ∧ (b0 = b) ∧ (0 ≤ r) ∧ (r ≤ 300))
theorem cp_X12_got_4 (E : jxE) (d : Nat) (hd : Nat.ble 5 (d + 1) = true) (x1 : Int) (a0 b0 : Nat → Nat → Int) (hv0 : iv a0) : ∀ n : Nat, (∀ (y1 y2 y3 : Int), (((300 - y3) * 1) + 0).toNat ≤ n → 0 ≤ y2 → y2 ≤ 300 → 0 ≤ y3 → y3 ≤ 299 → y2 ≤ y3 + 1 → jt (jxX E d 242 38 [some (.inr (.inr (.inl 146))), some (.inl y1), some (.inl y2), some (.inl y3)] [] (jxSH, a0, b0)) (jQ_X12_got x1 a0 b0)) ∧ (∀ (y1 y2 y3 : Int), (((300 - y3) * 1) + 0).toNat ≤ n → 0 ≤ y2 → y2 ≤ 300 → 0 ≤ y3 → y3 ≤ 300 → y2 ≤ y3 → jt (jxX E d 242 4 [some (.inr (.inr (.inl 146))), some (.inl y1), some (.inl y2), some (.inl y3)] [] (jxSH, a0, b0)) (jQ_X12_got x1 a0 b0)) := by
  refine jx_ind fun n ih => ?_
  have ih38 : ∀ (y1 y2 y3 : Int), (((300 - y3) * 1) + 0).toNat < n → 0 ≤ y2 → y2 ≤ 300 → 0 ≤ y3 → y3 ≤ 299 → y2 ≤ y3 + 1 → jt (jxX E d 242 38 [some (.inr (.inr (.inl 146))), some (.inl y1), some (.inl y2), some (.inl y3)] [] (jxSH, a0, b0)) (jQ_X12_got x1 a0 b0) := fun y1 y2 y3 hlt i0 i1 i2 i3 i4 => (ih _ hlt).1 y1 y2 y3 (Nat.le_refl _) i0 i1 i2 i3 i4
  have ih4 : ∀ (y1 y2 y3 : Int), (((300 - y3) * 1) + 0).toNat < n → 0 ≤ y2 → y2 ≤ 300 → 0 ≤ y3 → y3 ≤ 300 → y2 ≤ y3 → jt (jxX E d 242 4 [some (.inr (.inr (.inl 146))), some (.inl y1), some (.inl y2), some (.inl y3)] [] (jxSH, a0, b0)) (jQ_X12_got x1 a0 b0) := fun y1 y2 y3 hlt i0 i1 i2 i3 i4 => (ih _ hlt).2 y1 y2 y3 (Nat.le_refl _) i0 i1 i2 i3 i4
  have hc38 : ∀ (y1 y2 y3 : Int), (((300 - y3) * 1) + 0).toNat ≤ n → 0 ≤ y2 → y2 ≤ 300 → 0 ≤ y3 → y3 ≤ 299 → y2 ≤ y3 + 1 → jt (jxX E d 242 38 [some (.inr (.inr (.inl 146))), some (.inl y1), some (.inl y2), some (.inl y3)] [] (jxSH, a0, b0)) (jQ_X12_got x1 a0 b0) := by
    intro y1 y2 y3 hm hi0 hi1 hi2 hi3 hi4
    refine jt_eq (bq_X12_got_38 E d y1 y2 y3 a0 b0) ?_
    have h49_ : jxw (y3 + 1) = y3 + 1 := jxw_id (by omega) (by omega)
    exact ih4 y1 y2 (jxw (y3 + 1)) (show (((300 - (jxw (y3 + 1))) * 1) + 0).toNat < n from by omega) (show 0 ≤ y2 from by omega) (show y2 ≤ 300 from by omega) (show 0 ≤ jxw (y3 + 1) from by omega) (show jxw (y3 + 1) ≤ 300 from by omega) (show y2 ≤ jxw (y3 + 1) from by omega)
  have hc4 : ∀ (y1 y2 y3 : Int), (((300 - y3) * 1) + 0).toNat ≤ n → 0 ≤ y2 → y2 ≤ 300 → 0 ≤ y3 → y3 ≤ 300 → y2 ≤ y3 → jt (jxX E d 242 4 [some (.inr (.inr (.inl 146))), some (.inl y1), some (.inl y2), some (.inl y3)] [] (jxSH, a0, b0)) (jQ_X12_got x1 a0 b0) := by
    intro y1 y2 y3 hm hi0 hi1 hi2 hi3 hi4
    refine jt_eq (bq_X12_got_4 E d y1 y2 y3 a0 b0) ?_
    have h50_ := iv_get hv0 (k := 146) (j := 9) (l := 0) (u := 300) rfl
    refine jt_ite (fun c51_ => ?_) (fun c51_ => ?_)
    ·
      refine jt_grd (by omega) ?_
      have h52_ := iv_get hv0 (k := 155) (j := y3.toNat) (l := 0) (u := 39) rfl
      refine jt_ite (fun c53_ => ?_) (fun c53_ => ?_)
      ·
        refine jt_bI (sp_X12_hasArrived E d (jd_le hd rfl) y3 a0 b0 hv0 (show (0 ≤ y3 ∧ y3 ≤ 299) from by omega)) (fun r54_ a54_ b54_ h54_ => ?_)
        obtain ⟨rfl, rfl, hq54_0⟩ := h54_
        refine jt_ite (fun c55_ => ?_) (fun c55_ => ?_)
        ·
          have h56_ : jxw (y2 + 0) = y2 + 0 := jxw_id (by omega) (by omega)
          exact hc38 y1 (jxw (y2 + 0)) y3 (show (((300 - y3) * 1) + 0).toNat ≤ n from by omega) (show 0 ≤ jxw (y2 + 0) from by omega) (show jxw (y2 + 0) ≤ 300 from by omega) (show 0 ≤ y3 from by omega) (show y3 ≤ 299 from by omega) (show jxw (y2 + 0) ≤ y3 + 1 from by omega)
        ·
          have h57_ : jxw (y2 + 1) = y2 + 1 := jxw_id (by omega) (by omega)
          exact hc38 y1 (jxw (y2 + 1)) y3 (show (((300 - y3) * 1) + 0).toNat ≤ n from by omega) (show 0 ≤ jxw (y2 + 1) from by omega) (show jxw (y2 + 1) ≤ 300 from by omega) (show 0 ≤ y3 from by omega) (show y3 ≤ 299 from by omega) (show jxw (y2 + 1) ≤ y3 + 1 from by omega)
      ·
        have h58_ : jxw (y2 + 0) = y2 + 0 := jxw_id (by omega) (by omega)
        exact hc38 y1 (jxw (y2 + 0)) y3 (show (((300 - y3) * 1) + 0).toNat ≤ n from by omega) (show 0 ≤ jxw (y2 + 0) from by omega) (show jxw (y2 + 0) ≤ 300 from by omega) (show 0 ≤ y3 from by omega) (show y3 ≤ 299 from by omega) (show jxw (y2 + 0) ≤ y3 + 1 from by omega)
    ·
      exact jt_rI ⟨rfl, rfl, (show 0 ≤ y2 from by omega), (show y2 ≤ 300 from by omega)⟩
  exact ⟨hc38, hc4⟩
theorem sp_X12_got (E : jxE) (d : Nat) (hd : Nat.ble 5 d = true) (x1 : Int) (a0 b0 : Nat → Nat → Int) (hv0 : iv a0) : jt (jxC E d 242 [.inr (.inr (.inl 146)), .inl x1] (jxSH, a0, b0)) (jQ_X12_got x1 a0 b0) := by
  obtain ⟨d, rfl⟩ := jd_succ hd
  refine jt_eq (bq_X12_got E d x1 a0 b0) ?_
  exact (cp_X12_got_4 E d hd x1 a0 b0 hv0 _).2 x1 0 0 (Nat.le_refl _) (show 0 ≤ 0 from by omega) (show 0 ≤ 300 from by omega) (show 0 ≤ 0 from by omega) (show 0 ≤ 300 from by omega) (show 0 ≤ 0 from by omega)
abbrev jQ_X12_ofHis (x1 x2 : Int) (a0 b0 : Nat → Nat → Int) : List jxV → (Nat → Nat → Int) → (Nat → Nat → Int) → Prop := rI (fun r a b => (a0 = a) ∧ (b0 = b) ∧ (0 ≤ r) ∧ (r ≤ 300))
theorem cp_X12_ofHis_5 (E : jxE) (d : Nat) (hd : Nat.ble 4 (d + 1) = true) (x1 x2 : Int) (a0 b0 : Nat → Nat → Int) (hv0 : iv a0) : ∀ n : Nat, (∀ (y1 y2 y3 y4 : Int), (((300 - y4) * 1) + 0).toNat ≤ n → 0 ≤ y3 → y3 ≤ 300 → 0 ≤ y4 → y4 ≤ 299 → y3 ≤ y4 + 1 → jt (jxX E d 244 43 [some (.inr (.inr (.inl 146))), some (.inl y1), some (.inl y2), some (.inl y3), some (.inl y4)] [] (jxSH, a0, b0)) (jQ_X12_ofHis x1 x2 a0 b0)) ∧ (∀ (y1 y2 y3 y4 : Int), (((300 - y4) * 1) + 0).toNat ≤ n → 0 ≤ y3 → y3 ≤ 300 → 0 ≤ y4 → y4 ≤ 300 → y3 ≤ y4 → jt (jxX E d 244 5 [some (.inr (.inr (.inl 146))), some (.inl y1), some (.inl y2), some (.inl y3), some (.inl y4)] [] (jxSH, a0, b0)) (jQ_X12_ofHis x1 x2 a0 b0)) := by
  refine jx_ind fun n ih => ?_
  have ih43 : ∀ (y1 y2 y3 y4 : Int), (((300 - y4) * 1) + 0).toNat < n → 0 ≤ y3 → y3 ≤ 300 → 0 ≤ y4 → y4 ≤ 299 → y3 ≤ y4 + 1 → jt (jxX E d 244 43 [some (.inr (.inr (.inl 146))), some (.inl y1), some (.inl y2), some (.inl y3), some (.inl y4)] [] (jxSH, a0, b0)) (jQ_X12_ofHis x1 x2 a0 b0) := fun y1 y2 y3 y4 hlt i0 i1 i2 i3 i4 => (ih _ hlt).1 y1 y2 y3 y4 (Nat.le_refl _) i0 i1 i2 i3 i4
  have ih5 : ∀ (y1 y2 y3 y4 : Int), (((300 - y4) * 1) + 0).toNat < n → 0 ≤ y3 → y3 ≤ 300 → 0 ≤ y4 → y4 ≤ 300 → y3 ≤ y4 → jt (jxX E d 244 5 [some (.inr (.inr (.inl 146))), some (.inl y1), some (.inl y2), some (.inl y3), some (.inl y4)] [] (jxSH, a0, b0)) (jQ_X12_ofHis x1 x2 a0 b0) := fun y1 y2 y3 y4 hlt i0 i1 i2 i3 i4 => (ih _ hlt).2 y1 y2 y3 y4 (Nat.le_refl _) i0 i1 i2 i3 i4
  have hc43 : ∀ (y1 y2 y3 y4 : Int), (((300 - y4) * 1) + 0).toNat ≤ n → 0 ≤ y3 → y3 ≤ 300 → 0 ≤ y4 → y4 ≤ 299 → y3 ≤ y4 + 1 → jt (jxX E d 244 43 [some (.inr (.inr (.inl 146))), some (.inl y1), some (.inl y2), some (.inl y3), some (.inl y4)] [] (jxSH, a0, b0)) (jQ_X12_ofHis x1 x2 a0 b0) := by
    intro y1 y2 y3 y4 hm hi0 hi1 hi2 hi3 hi4
    refine jt_eq (bq_X12_ofHis_43 E d y1 y2 y3 y4 a0 b0) ?_
    have h59_ : jxw (y4 + 1) = y4 + 1 := jxw_id (by omega) (by omega)
    exact ih5 y1 y2 y3 (jxw (y4 + 1)) (show (((300 - (jxw (y4 + 1))) * 1) + 0).toNat < n from by omega) (show 0 ≤ y3 from by omega) (show y3 ≤ 300 from by omega) (show 0 ≤ jxw (y4 + 1) from by omega) (show jxw (y4 + 1) ≤ 300 from by omega) (show y3 ≤ jxw (y4 + 1) from by omega)
  have hc5 : ∀ (y1 y2 y3 y4 : Int), (((300 - y4) * 1) + 0).toNat ≤ n → 0 ≤ y3 → y3 ≤ 300 → 0 ≤ y4 → y4 ≤ 300 → y3 ≤ y4 → jt (jxX E d 244 5 [some (.inr (.inr (.inl 146))), some (.inl y1), some (.inl y2), some (.inl y3), some (.inl y4)] [] (jxSH, a0, b0)) (jQ_X12_ofHis x1 x2 a0 b0) := by
    intro y1 y2 y3 y4 hm hi0 hi1 hi2 hi3 hi4
    refine jt_eq (bq_X12_ofHis_5 E d y1 y2 y3 y4 a0 b0) ?_
    have h60_ := iv_get hv0 (k := 146) (j := 9) (l := 0) (u := 300) rfl
    refine jt_ite (fun c61_ => ?_) (fun c61_ => ?_)
    ·
      refine jt_grd (by omega) ?_
      have h62_ := iv_get hv0 (k := 154) (j := y4.toNat) (l := 0) (u := 39) rfl
      refine jt_ite (fun c63_ => ?_) (fun c63_ => ?_)
      ·
        refine jt_bI (sp_X12_stateNow E d (jd_le hd rfl) y4 a0 b0 hv0 (show (0 ≤ y4 ∧ y4 ≤ 299) from by omega)) (fun r64_ a64_ b64_ h64_ => ?_)
        obtain ⟨rfl, rfl, hq64_0, hq64_1⟩ := h64_
        refine jt_ite (fun c65_ => ?_) (fun c65_ => ?_)
        ·
          have h66_ : jxw (y3 + 1) = y3 + 1 := jxw_id (by omega) (by omega)
          exact hc43 y1 y2 (jxw (y3 + 1)) y4 (show (((300 - y4) * 1) + 0).toNat ≤ n from by omega) (show 0 ≤ jxw (y3 + 1) from by omega) (show jxw (y3 + 1) ≤ 300 from by omega) (show 0 ≤ y4 from by omega) (show y4 ≤ 299 from by omega) (show jxw (y3 + 1) ≤ y4 + 1 from by omega)
        ·
          have h67_ : jxw (y3 + 0) = y3 + 0 := jxw_id (by omega) (by omega)
          exact hc43 y1 y2 (jxw (y3 + 0)) y4 (show (((300 - y4) * 1) + 0).toNat ≤ n from by omega) (show 0 ≤ jxw (y3 + 0) from by omega) (show jxw (y3 + 0) ≤ 300 from by omega) (show 0 ≤ y4 from by omega) (show y4 ≤ 299 from by omega) (show jxw (y3 + 0) ≤ y4 + 1 from by omega)
      ·
        have h68_ : jxw (y3 + 0) = y3 + 0 := jxw_id (by omega) (by omega)
        exact hc43 y1 y2 (jxw (y3 + 0)) y4 (show (((300 - y4) * 1) + 0).toNat ≤ n from by omega) (show 0 ≤ jxw (y3 + 0) from by omega) (show jxw (y3 + 0) ≤ 300 from by omega) (show 0 ≤ y4 from by omega) (show y4 ≤ 299 from by omega) (show jxw (y3 + 0) ≤ y4 + 1 from by omega)
    ·
      exact jt_rI ⟨rfl, rfl, (show 0 ≤ y3 from by omega), (show y3 ≤ 300 from by omega)⟩
  exact ⟨hc43, hc5⟩
theorem sp_X12_ofHis (E : jxE) (d : Nat) (hd : Nat.ble 4 d = true) (x1 x2 : Int) (a0 b0 : Nat → Nat → Int) (hv0 : iv a0) : jt (jxC E d 244 [.inr (.inr (.inl 146)), .inl x1, .inl x2] (jxSH, a0, b0)) (jQ_X12_ofHis x1 x2 a0 b0) := by
  obtain ⟨d, rfl⟩ := jd_succ hd
  refine jt_eq (bq_X12_ofHis E d x1 x2 a0 b0) ?_
  exact (cp_X12_ofHis_5 E d hd x1 x2 a0 b0 hv0 _).2 x1 x2 0 0 (Nat.le_refl _) (show 0 ≤ 0 from by omega) (show 0 ≤ 300 from by omega) (show 0 ≤ 0 from by omega) (show 0 ≤ 300 from by omega) (show 0 ≤ 0 from by omega)
abbrev jQ_X12_mayAsk (x1 : Int) (a0 b0 : Nat → Nat → Int) : List jxV → (Nat → Nat → Int) → (Nat → Nat → Int) → Prop := rI (fun r a b => (a0 = a) ∧ (b0 = b) ∧ ((0 ≤ r ∧ r ≤ 1)))
theorem cp_X12_mayAsk_50 (E : jxE) (d : Nat) (hd : Nat.ble 6 (d + 1) = true) (x1 : Int) (a0 b0 : Nat → Nat → Int) (hv0 : iv a0) (hp0 : (0 ≤ x1 ∧ x1 ≤ 39)) : jt (jxX E d 246 50 [none, none] [] (jxSH, a0, b0)) (jQ_X12_mayAsk x1 a0 b0) := by
  refine jt_eq (bq_X12_mayAsk_50 E d a0 b0) ?_
  exact jt_rI ⟨rfl, rfl, (show (0 ≤ 1 ∧ 1 ≤ 1) from by omega)⟩
theorem cp_X12_mayAsk_54 (E : jxE) (d : Nat) (hd : Nat.ble 6 (d + 1) = true) (x1 : Int) (a0 b0 : Nat → Nat → Int) (hv0 : iv a0) (hp0 : (0 ≤ x1 ∧ x1 ≤ 39)) : jt (jxX E d 246 54 [none, none] [] (jxSH, a0, b0)) (jQ_X12_mayAsk x1 a0 b0) := by
  refine jt_eq (bq_X12_mayAsk_54 E d a0 b0) ?_
  exact jt_rI ⟨rfl, rfl, (show (0 ≤ 0 ∧ 0 ≤ 1) from by omega)⟩
theorem sp_X12_mayAsk (E : jxE) (d : Nat) (hd : Nat.ble 6 d = true) (x1 : Int) (a0 b0 : Nat → Nat → Int) (hv0 : iv a0) (hp0 : (0 ≤ x1 ∧ x1 ≤ 39)) : jt (jxC E d 246 [.inr (.inr (.inl 146)), .inl x1] (jxSH, a0, b0)) (jQ_X12_mayAsk x1 a0 b0) := by
  obtain ⟨d, rfl⟩ := jd_succ hd
  refine jt_eq (bq_X12_mayAsk E d x1 a0 b0) ?_
  refine jt_grd (by omega) ?_
  have h69_ := iv_get hv0 (k := 152) (j := x1.toNat) (l := 0) (u := 1) rfl
  refine jt_ite (fun c70_ => ?_) (fun c70_ => ?_)
  ·
    exact cp_X12_mayAsk_54 E d hd x1 a0 b0 hv0 hp0
  ·
    refine jt_bI (sp_X12_ofHis E d (jd_le hd rfl) x1 0 a0 b0 hv0) (fun r71_ a71_ b71_ h71_ => ?_)
    obtain ⟨rfl, rfl, hq71_0, hq71_1⟩ := h71_
    refine jt_ite (fun c72_ => ?_) (fun c72_ => ?_)
    ·
      have h73_ := jxw_im ((a0 171 0) + 0)
      have h74_ := jxw_rg ((a0 171 0) + 0)
      refine jt_ite (fun c75_ => ?_) (fun c75_ => ?_)
      ·
        exact cp_X12_mayAsk_50 E d hd x1 a0 b0 hv0 hp0
      ·
        exact cp_X12_mayAsk_54 E d hd x1 a0 b0 hv0 hp0
    ·
      refine jt_bI (sp_X12_given E d (jd_le hd rfl) x1 a0 b0 hv0) (fun r76_ a76_ b76_ h76_ => ?_)
      obtain ⟨rfl, rfl, hq76_0, hq76_1⟩ := h76_
      refine jt_dvd (by omega) ?_
      have h77_ := jxw_im (Int.tdiv r76_ (a0 171 1))
      have h78_ := jxw_rg (Int.tdiv r76_ (a0 171 1))
      have h79_ := jxw_im ((a0 171 0) + (jxw (Int.tdiv r76_ (a0 171 1))))
      have h80_ := jxw_rg ((a0 171 0) + (jxw (Int.tdiv r76_ (a0 171 1))))
      refine jt_ite (fun c81_ => ?_) (fun c81_ => ?_)
      ·
        exact cp_X12_mayAsk_50 E d hd x1 a0 b0 hv0 hp0
      ·
        exact cp_X12_mayAsk_54 E d hd x1 a0 b0 hv0 hp0
abbrev jQ_X12_owed (x1 : Int) (a0 b0 : Nat → Nat → Int) : List jxV → (Nat → Nat → Int) → (Nat → Nat → Int) → Prop := rI (fun r a b => (a0 = a) ∧ (b0 = b))
theorem sp_X12_owed (E : jxE) (d : Nat) (hd : Nat.ble 6 d = true) (x1 : Int) (a0 b0 : Nat → Nat → Int) (hv0 : iv a0) (hp0 : (0 ≤ x1 ∧ x1 ≤ 39)) : jt (jxC E d 245 [.inr (.inr (.inl 146)), .inl x1] (jxSH, a0, b0)) (jQ_X12_owed x1 a0 b0) := by
  obtain ⟨d, rfl⟩ := jd_succ hd
  refine jt_eq (bq_X12_owed E d x1 a0 b0) ?_
  refine jt_bI (sp_X12_given E d (jd_le hd rfl) x1 a0 b0 hv0) (fun r82_ a82_ b82_ h82_ => ?_)
  obtain ⟨rfl, rfl, hq82_0, hq82_1⟩ := h82_
  refine jt_grd (by omega) ?_
  refine jt_bI (sp_X12_got E d (jd_le hd rfl) x1 a0 b0 hv0) (fun r83_ a83_ b83_ h83_ => ?_)
  obtain ⟨rfl, rfl, hq83_0, hq83_1⟩ := h83_
  refine jt_bI (sp_X12_coming E d (jd_le hd rfl) x1 a0 b0 hv0) (fun r84_ a84_ b84_ h84_ => ?_)
  obtain ⟨rfl, rfl, hq84_0, hq84_1⟩ := h84_
  exact jt_rI ⟨rfl, rfl⟩
abbrev jQ_X12_about (x1 x2 : Int) (a0 b0 : Nat → Nat → Int) : List jxV → (Nat → Nat → Int) → (Nat → Nat → Int) → Prop := rI (fun r a b => (a0 = a) ∧ (b0 = b))
theorem sp_X12_about (E : jxE) (d : Nat) (hd : Nat.ble 7 d = true) (x1 x2 : Int) (a0 b0 : Nat → Nat → Int) (hv0 : iv a0) : jt (jxC E d 260 [.inr (.inr (.inl 146)), .inl x1, .inl x2] (jxSH, a0, b0)) (jQ_X12_about x1 x2 a0 b0) := by
  obtain ⟨d, rfl⟩ := jd_succ hd
  refine jt_eq (bq_X12_about E d x1 x2 a0 b0) ?_
  refine jt_eI (eq_X12_isMember E d (jd_le hd rfl) x1 a0 b0) ?_
  have h85_ := f_X12_isMember_eq a0 b0 x1
  have h86_ := iv_get hv0 (k := 146) (j := 2) (l := 0) (u := 40) rfl
  have h87_ : jxw ((a0 146 2) - 1) = (a0 146 2) - 1 := jxw_id (by omega) (by omega)
  have h88_ := f_X12_in_eq a0 b0 x1 0 (jxw ((a0 146 2) - 1))
  refine jt_ite (fun c89_ => ?_) (fun c89_ => ?_)
  ·
    refine jt_ite (fun c90_ => ?_) (fun c90_ => ?_)
    ·
      exact jt_rI ⟨rfl, rfl⟩
    ·
      exact jt_rI ⟨rfl, rfl⟩
  ·
    refine jt_ite (fun c91_ => ?_) (fun c91_ => ?_)
    ·
      exact jt_rI ⟨rfl, rfl⟩
    ·
      refine jt_ite (fun c92_ => ?_) (fun c92_ => ?_)
      ·
        refine jt_bI (sp_X12_given E d (jd_le hd rfl) x1 a0 b0 hv0) (fun r93_ a93_ b93_ h93_ => ?_)
        obtain ⟨rfl, rfl, hq93_0, hq93_1⟩ := h93_
        exact jt_rI ⟨rfl, rfl⟩
      ·
        refine jt_ite (fun c94_ => ?_) (fun c94_ => ?_)
        ·
          refine jt_bI (sp_X12_got E d (jd_le hd rfl) x1 a0 b0 hv0) (fun r95_ a95_ b95_ h95_ => ?_)
          obtain ⟨rfl, rfl, hq95_0, hq95_1⟩ := h95_
          exact jt_rI ⟨rfl, rfl⟩
        ·
          refine jt_ite (fun c96_ => ?_) (fun c96_ => ?_)
          ·
            refine jt_bI (sp_X12_coming E d (jd_le hd rfl) x1 a0 b0 hv0) (fun r97_ a97_ b97_ h97_ => ?_)
            obtain ⟨rfl, rfl, hq97_0, hq97_1⟩ := h97_
            exact jt_rI ⟨rfl, rfl⟩
          ·
            refine jt_ite (fun c98_ => ?_) (fun c98_ => ?_)
            ·
              refine jt_bI (sp_X12_ofHis E d (jd_le hd rfl) x1 0 a0 b0 hv0) (fun r99_ a99_ b99_ h99_ => ?_)
              obtain ⟨rfl, rfl, hq99_0, hq99_1⟩ := h99_
              exact jt_rI ⟨rfl, rfl⟩
            ·
              refine jt_ite (fun c100_ => ?_) (fun c100_ => ?_)
              ·
                refine jt_grd (by omega) ?_
                exact jt_rI ⟨rfl, rfl⟩
              ·
                refine jt_ite (fun c101_ => ?_) (fun c101_ => ?_)
                ·
                  refine jt_bI (sp_X12_owed E d (jd_le hd rfl) x1 a0 b0 hv0 (show (0 ≤ x1 ∧ x1 ≤ 39) from by omega)) (fun r102_ a102_ b102_ h102_ => ?_)
                  obtain ⟨rfl, rfl⟩ := h102_
                  exact jt_rI ⟨rfl, rfl⟩
                ·
                  refine jt_ite (fun c103_ => ?_) (fun c103_ => ?_)
                  ·
                    refine jt_bI (sp_X12_mayAsk E d (jd_le hd rfl) x1 a0 b0 hv0 (show (0 ≤ x1 ∧ x1 ≤ 39) from by omega)) (fun r104_ a104_ b104_ h104_ => ?_)
                    obtain ⟨rfl, rfl, hq104_0⟩ := h104_
                    refine jt_ite (fun c105_ => ?_) (fun c105_ => ?_)
                    ·
                      exact jt_rI ⟨rfl, rfl⟩
                    ·
                      exact jt_rI ⟨rfl, rfl⟩
                  ·
                    refine jt_ite (fun c106_ => ?_) (fun c106_ => ?_)
                    ·
                      refine jt_grd (by omega) ?_
                      exact jt_rI ⟨rfl, rfl⟩
                    ·
                      refine jt_ite (fun c107_ => ?_) (fun c107_ => ?_)
                      ·
                        refine jt_grd (by omega) ?_
                        have h108_ := iv_get hv0 (k := 152) (j := x1.toNat) (l := 0) (u := 1) rfl
                        refine jt_ite (fun c109_ => ?_) (fun c109_ => ?_)
                        ·
                          exact jt_rI ⟨rfl, rfl⟩
                        ·
                          exact jt_rI ⟨rfl, rfl⟩
                      ·
                        refine jt_ite (fun c110_ => ?_) (fun c110_ => ?_)
                        ·
                          refine jt_grd (by omega) ?_
                          exact jt_rI ⟨rfl, rfl⟩
                        ·
                          refine jt_ite (fun c111_ => ?_) (fun c111_ => ?_)
                          ·
                            refine jt_bI (sp_X12_ofHis E d (jd_le hd rfl) x1 2 a0 b0 hv0) (fun r112_ a112_ b112_ h112_ => ?_)
                            obtain ⟨rfl, rfl, hq112_0, hq112_1⟩ := h112_
                            exact jt_rI ⟨rfl, rfl⟩
                          ·
                            exact absurd (by omega : False) id
abbrev jQ_X12_album (x1 : Int) (a0 b0 : Nat → Nat → Int) : List jxV → (Nat → Nat → Int) → (Nat → Nat → Int) → Prop := rI (fun r a b => (a0 = a) ∧ (b0 = b))
theorem cp_X12_album_14 (E : jxE) (d : Nat) (hd : Nat.ble 5 (d + 1) = true) (x1 : Int) (a0 b0 : Nat → Nat → Int) (hv0 : iv a0) : ∀ n : Nat, (∀ (y1 y2 y3 : Int), (((300 - y3) * 1) + 0).toNat ≤ n → 0 ≤ y1 → y1 ≤ 39 → 0 ≤ y3 → y3 ≤ 299 → jt (jxX E d 261 56 [some (.inr (.inr (.inl 146))), some (.inl y1), some (.inl y2), some (.inl y3)] [] (jxSH, a0, b0)) (jQ_X12_album x1 a0 b0)) ∧ (∀ (y1 y2 y3 : Int), (((300 - y3) * 1) + 0).toNat ≤ n → 0 ≤ y1 → y1 ≤ 39 → 0 ≤ y3 → y3 ≤ 299 → jt (jxX E d 261 40 [some (.inr (.inr (.inl 146))), some (.inl y1), some (.inl y2), some (.inl y3)] [] (jxSH, a0, b0)) (jQ_X12_album x1 a0 b0)) ∧ (∀ (y1 y2 y3 : Int), (((300 - y3) * 1) + 0).toNat ≤ n → 0 ≤ y1 → y1 ≤ 39 → 0 ≤ y3 → y3 ≤ 300 → jt (jxX E d 261 14 [some (.inr (.inr (.inl 146))), some (.inl y1), some (.inl y2), some (.inl y3)] [] (jxSH, a0, b0)) (jQ_X12_album x1 a0 b0)) := by
  refine jx_ind fun n ih => ?_
  have ih56 : ∀ (y1 y2 y3 : Int), (((300 - y3) * 1) + 0).toNat < n → 0 ≤ y1 → y1 ≤ 39 → 0 ≤ y3 → y3 ≤ 299 → jt (jxX E d 261 56 [some (.inr (.inr (.inl 146))), some (.inl y1), some (.inl y2), some (.inl y3)] [] (jxSH, a0, b0)) (jQ_X12_album x1 a0 b0) := fun y1 y2 y3 hlt i0 i1 i2 i3 => (ih _ hlt).1 y1 y2 y3 (Nat.le_refl _) i0 i1 i2 i3
  have ih40 : ∀ (y1 y2 y3 : Int), (((300 - y3) * 1) + 0).toNat < n → 0 ≤ y1 → y1 ≤ 39 → 0 ≤ y3 → y3 ≤ 299 → jt (jxX E d 261 40 [some (.inr (.inr (.inl 146))), some (.inl y1), some (.inl y2), some (.inl y3)] [] (jxSH, a0, b0)) (jQ_X12_album x1 a0 b0) := fun y1 y2 y3 hlt i0 i1 i2 i3 => (ih _ hlt).2.1 y1 y2 y3 (Nat.le_refl _) i0 i1 i2 i3
  have ih14 : ∀ (y1 y2 y3 : Int), (((300 - y3) * 1) + 0).toNat < n → 0 ≤ y1 → y1 ≤ 39 → 0 ≤ y3 → y3 ≤ 300 → jt (jxX E d 261 14 [some (.inr (.inr (.inl 146))), some (.inl y1), some (.inl y2), some (.inl y3)] [] (jxSH, a0, b0)) (jQ_X12_album x1 a0 b0) := fun y1 y2 y3 hlt i0 i1 i2 i3 => (ih _ hlt).2.2 y1 y2 y3 (Nat.le_refl _) i0 i1 i2 i3
  have hc56 : ∀ (y1 y2 y3 : Int), (((300 - y3) * 1) + 0).toNat ≤ n → 0 ≤ y1 → y1 ≤ 39 → 0 ≤ y3 → y3 ≤ 299 → jt (jxX E d 261 56 [some (.inr (.inr (.inl 146))), some (.inl y1), some (.inl y2), some (.inl y3)] [] (jxSH, a0, b0)) (jQ_X12_album x1 a0 b0) := by
    intro y1 y2 y3 hm hi0 hi1 hi2 hi3
    refine jt_eq (bq_X12_album_56 E d y1 y2 y3 a0 b0) ?_
    have h113_ : jxw (y3 + 1) = y3 + 1 := jxw_id (by omega) (by omega)
    exact ih14 y1 y2 (jxw (y3 + 1)) (show (((300 - (jxw (y3 + 1))) * 1) + 0).toNat < n from by omega) (show 0 ≤ y1 from by omega) (show y1 ≤ 39 from by omega) (show 0 ≤ jxw (y3 + 1) from by omega) (show jxw (y3 + 1) ≤ 300 from by omega)
  have hc40 : ∀ (y1 y2 y3 : Int), (((300 - y3) * 1) + 0).toNat ≤ n → 0 ≤ y1 → y1 ≤ 39 → 0 ≤ y3 → y3 ≤ 299 → jt (jxX E d 261 40 [some (.inr (.inr (.inl 146))), some (.inl y1), some (.inl y2), some (.inl y3)] [] (jxSH, a0, b0)) (jQ_X12_album x1 a0 b0) := by
    intro y1 y2 y3 hm hi0 hi1 hi2 hi3
    refine jt_eq (bq_X12_album_40 E d y1 y2 y3 a0 b0) ?_
    refine jt_grd (by omega) ?_
    have h114_ := iv_get hv0 (k := 154) (j := y3.toNat) (l := 0) (u := 39) rfl
    refine jt_grd (by omega) ?_
    exact hc56 y1 (jxor y2 (jxshl 1 (a0 148 ((a0 154 (y3.toNat)).toNat)))) y3 (show (((300 - y3) * 1) + 0).toNat ≤ n from by omega) (show 0 ≤ y1 from by omega) (show y1 ≤ 39 from by omega) (show 0 ≤ y3 from by omega) (show y3 ≤ 299 from by omega)
  have hc14 : ∀ (y1 y2 y3 : Int), (((300 - y3) * 1) + 0).toNat ≤ n → 0 ≤ y1 → y1 ≤ 39 → 0 ≤ y3 → y3 ≤ 300 → jt (jxX E d 261 14 [some (.inr (.inr (.inl 146))), some (.inl y1), some (.inl y2), some (.inl y3)] [] (jxSH, a0, b0)) (jQ_X12_album x1 a0 b0) := by
    intro y1 y2 y3 hm hi0 hi1 hi2 hi3
    refine jt_eq (bq_X12_album_14 E d y1 y2 y3 a0 b0) ?_
    have h115_ := iv_get hv0 (k := 146) (j := 9) (l := 0) (u := 300) rfl
    refine jt_ite (fun c116_ => ?_) (fun c116_ => ?_)
    ·
      refine jt_grd (by omega) ?_
      have h117_ := iv_get hv0 (k := 155) (j := y3.toNat) (l := 0) (u := 39) rfl
      refine jt_ite (fun c118_ => ?_) (fun c118_ => ?_)
      ·
        refine jt_bI (sp_X12_hasArrived E d (jd_le hd rfl) y3 a0 b0 hv0 (show (0 ≤ y3 ∧ y3 ≤ 299) from by omega)) (fun r119_ a119_ b119_ h119_ => ?_)
        obtain ⟨rfl, rfl, hq119_0⟩ := h119_
        refine jt_ite (fun c120_ => ?_) (fun c120_ => ?_)
        ·
          exact hc56 y1 y2 y3 (show (((300 - y3) * 1) + 0).toNat ≤ n from by omega) (show 0 ≤ y1 from by omega) (show y1 ≤ 39 from by omega) (show 0 ≤ y3 from by omega) (show y3 ≤ 299 from by omega)
        ·
          exact hc40 y1 y2 y3 (show (((300 - y3) * 1) + 0).toNat ≤ n from by omega) (show 0 ≤ y1 from by omega) (show y1 ≤ 39 from by omega) (show 0 ≤ y3 from by omega) (show y3 ≤ 299 from by omega)
      ·
        exact hc56 y1 y2 y3 (show (((300 - y3) * 1) + 0).toNat ≤ n from by omega) (show 0 ≤ y1 from by omega) (show y1 ≤ 39 from by omega) (show 0 ≤ y3 from by omega) (show y3 ≤ 299 from by omega)
    ·
      exact jt_rI ⟨rfl, rfl⟩
  exact ⟨hc56, hc40, hc14⟩
theorem sp_X12_album (E : jxE) (d : Nat) (hd : Nat.ble 5 d = true) (x1 : Int) (a0 b0 : Nat → Nat → Int) (hv0 : iv a0) : jt (jxC E d 261 [.inr (.inr (.inl 146)), .inl x1] (jxSH, a0, b0)) (jQ_X12_album x1 a0 b0) := by
  obtain ⟨d, rfl⟩ := jd_succ hd
  refine jt_eq (bq_X12_album E d x1 a0 b0) ?_
  refine jt_eI (eq_X12_isMember E d (jd_le hd rfl) x1 a0 b0) ?_
  have h121_ := f_X12_isMember_eq a0 b0 x1
  have h122_ := iv_get hv0 (k := 146) (j := 2) (l := 0) (u := 40) rfl
  have h123_ : jxw ((a0 146 2) - 1) = (a0 146 2) - 1 := jxw_id (by omega) (by omega)
  have h124_ := f_X12_in_eq a0 b0 x1 0 (jxw ((a0 146 2) - 1))
  refine jt_ite (fun c125_ => ?_) (fun c125_ => ?_)
  ·
    exact jt_rI ⟨rfl, rfl⟩
  ·
    exact (cp_X12_album_14 E d hd x1 a0 b0 hv0 _).2.2 x1 0 0 (Nat.le_refl _) (show 0 ≤ x1 from by omega) (show x1 ≤ 39 from by omega) (show 0 ≤ 0 from by omega) (show 0 ≤ 300 from by omega)
def jW_X12_tells : List (Nat × Nat) := [(146, 17), (160, 9999), (161, 9999), (162, 9999), (163, 9999)]
abbrev jQ_X12_tells (x1 x2 : Int) (a0 b0 : Nat → Nat → Int) : List jxV → (Nat → Nat → Int) → (Nat → Nat → Int) → Prop := rV (fun a b => (iv a) ∧ (jfr jW_X12_tells a0 a) ∧ (b0 = b))
theorem cp_X12_tells_33 (E : jxE) (d : Nat) (hd : Nat.ble 1 (d + 1) = true) (x1 x2 : Int) (a0 b0 : Nat → Nat → Int) (hv0 : iv a0) (hp0 : (0 ≤ x1 ∧ x1 ≤ 299)) (hp1 : a0 146 17 ≤ 599) : ∀ (y1 : Int) (a : Nat → Nat → Int), iv a → jfr jW_X12_tells a0 a → 0 ≤ y1 → y1 ≤ 299 → a 146 17 ≤ 599 → jt (jxX E d 256 33 [some (.inr (.inr (.inl 146))), some (.inl y1), none] [] (jxSH, a, b0)) (jQ_X12_tells x1 x2 a0 b0) := by
  intro y1 a hv hf hi0 hi1 hi2
  refine jt_eq (bq_X12_tells_33 E d y1 a b0) ?_
  have h126_ := iv_get hv (k := 146) (j := 17) (l := 0) (u := 600) rfl
  refine jt_grd (by omega) ?_
  have hv127_ : iv (jxu a 160 (y1.toNat) (a 146 17)) := iv_put hv (l := (-1)) (u := 599) rfl (by omega) (by omega)
  have h129_ : jxw ((a 146 17) + 1) = (a 146 17) + 1 := jxw_id (by omega) (by omega)
  have hv128_ : iv (jxu (jxu a 160 (y1.toNat) (a 146 17)) 146 17 (jxw ((a 146 17) + 1))) := iv_put hv127_ (l := 0) (u := 600) rfl (by omega) (by omega)
  have hf130_ : jfr jW_X12_tells a0 (jxu a 160 (y1.toNat) (a 146 17)) := jfr_put hf rfl
  have hf131_ : jfr jW_X12_tells a0 (jxu (jxu a 160 (y1.toNat) (a 146 17)) 146 17 (jxw ((a 146 17) + 1))) := jfr_put hf130_ rfl
  exact jt_rV ⟨hv128_, hf131_, rfl⟩
theorem sp_X12_tells (E : jxE) (d : Nat) (hd : Nat.ble 1 d = true) (x1 x2 : Int) (a0 b0 : Nat → Nat → Int) (hv0 : iv a0) (hp0 : (0 ≤ x1 ∧ x1 ≤ 299)) (hp1 : a0 146 17 ≤ 599) : jt (jxC E d 256 [.inr (.inr (.inl 146)), .inl x1, .inl x2] (jxSH, a0, b0)) (jQ_X12_tells x1 x2 a0 b0) := by
  obtain ⟨d, rfl⟩ := jd_succ hd
  refine jt_eq (bq_X12_tells E d x1 x2 a0 b0) ?_
  have h132_ := iv_get hv0 (k := 146) (j := 17) (l := 0) (u := 600) rfl
  refine jt_grd (by omega) ?_
  refine jt_grd (by omega) ?_
  refine jt_grd (by omega) ?_
  have hv133_ : iv (jxu a0 161 ((a0 146 17).toNat) x1) := iv_put hv0 (l := 0) (u := 299) rfl (by omega) (by omega)
  have hv134_ : iv (jxu (jxu a0 161 ((a0 146 17).toNat) x1) 162 ((a0 146 17).toNat) x2) := iv_putf hv133_ rfl
  have hv135_ : iv (jxu (jxu (jxu a0 161 ((a0 146 17).toNat) x1) 162 ((a0 146 17).toNat) x2) 163 ((a0 146 17).toNat) (a0 146 0)) := iv_putf hv134_ rfl
  have hf136_ : jfr jW_X12_tells a0 (jxu a0 161 ((a0 146 17).toNat) x1) := jfr_put (jfr_rf _ _) rfl
  have hf137_ : jfr jW_X12_tells a0 (jxu (jxu a0 161 ((a0 146 17).toNat) x1) 162 ((a0 146 17).toNat) x2) := jfr_put hf136_ rfl
  have hf138_ : jfr jW_X12_tells a0 (jxu (jxu (jxu a0 161 ((a0 146 17).toNat) x1) 162 ((a0 146 17).toNat) x2) 163 ((a0 146 17).toNat) (a0 146 0)) := jfr_put hf137_ rfl
  exact cp_X12_tells_33 E d hd x1 x2 a0 b0 hv0 hp0 hp1 x1 (jxu (jxu (jxu a0 161 ((a0 146 17).toNat) x1) 162 ((a0 146 17).toNat) x2) 163 ((a0 146 17).toNat) (a0 146 0)) hv135_ hf138_ (show 0 ≤ x1 from by omega) (show x1 ≤ 299 from by omega) (show a0 146 17 ≤ 599 from by omega)
def jW_X12_arrive : List (Nat × Nat) := [(146, 17), (160, 9999), (161, 9999), (162, 9999), (163, 9999)]
abbrev jQ_X12_arrive (x1 x2 : Int) (a0 b0 : Nat → Nat → Int) : List jxV → (Nat → Nat → Int) → (Nat → Nat → Int) → Prop := rI (fun r a b => (iv a) ∧ (jfr jW_X12_arrive a0 a) ∧ (b0 = b) ∧ ((0 ≤ r ∧ r ≤ 1)))
theorem cp_X12_arrive_59 (E : jxE) (d : Nat) (hd : Nat.ble 2 (d + 1) = true) (x1 x2 : Int) (a0 b0 : Nat → Nat → Int) (hv0 : iv a0) : ∀ (a : Nat → Nat → Int), iv a → jfr jW_X12_arrive a0 a → jt (jxX E d 257 59 [none, none, none] [] (jxSH, a, b0)) (jQ_X12_arrive x1 x2 a0 b0) := by
  intro a hv hf
  refine jt_eq (bq_X12_arrive_59 E d a b0) ?_
  exact jt_rI ⟨hv, hf, rfl, (show (0 ≤ 1 ∧ 1 ≤ 1) from by omega)⟩
theorem cp_X12_arrive_51 (E : jxE) (d : Nat) (hd : Nat.ble 2 (d + 1) = true) (x1 x2 : Int) (a0 b0 : Nat → Nat → Int) (hv0 : iv a0) : ∀ (a : Nat → Nat → Int), iv a → jfr jW_X12_arrive a0 a → jt (jxX E d 257 51 [none, none, none] [] (jxSH, a, b0)) (jQ_X12_arrive x1 x2 a0 b0) := by
  intro a hv hf
  refine jt_eq (bq_X12_arrive_51 E d a b0) ?_
  exact jt_rI ⟨hv, hf, rfl, (show (0 ≤ 0 ∧ 0 ≤ 1) from by omega)⟩
theorem cp_X12_arrive_24 (E : jxE) (d : Nat) (hd : Nat.ble 2 (d + 1) = true) (x1 x2 : Int) (a0 b0 : Nat → Nat → Int) (hv0 : iv a0) : ∀ (y1 y2 : Int) (a : Nat → Nat → Int), iv a → jfr jW_X12_arrive a0 a → 0 ≤ y1 → y1 ≤ 299 → jt (jxX E d 257 24 [some (.inr (.inr (.inl 146))), some (.inl y1), some (.inl y2)] [] (jxSH, a, b0)) (jQ_X12_arrive x1 x2 a0 b0) := by
  intro y1 y2 a hv hf hi0 hi1
  refine jt_eq (bq_X12_arrive_24 E d y1 y2 a b0) ?_
  have h139_ := iv_get hv (k := 146) (j := 17) (l := 0) (u := 600) rfl
  refine jt_ite (fun c140_ => ?_) (fun c140_ => ?_)
  ·
    exact cp_X12_arrive_51 E d hd x1 x2 a0 b0 hv0 a hv hf
  ·
    refine jt_grd (by omega) ?_
    refine jt_eI (eq_X12_in E d (jd_le hd rfl) y2 (a 156 (y1.toNat)) (a 146 0) a b0) ?_
    have h141_ := iv_get hv (k := 156) (j := y1.toNat) (l := 0) (u := 1999) rfl
    have h142_ : a 156 (y1.toNat) = a0 156 (y1.toNat) := hf 156 (y1.toNat) rfl
    have h143_ := iv_get hv0 (k := 156) (j := y1.toNat) (l := 0) (u := 1999) rfl
    have h144_ := iv_get hv (k := 146) (j := 0) (l := 0) (u := 1999) rfl
    have h145_ : a 146 0 = a0 146 0 := hf 146 0 rfl
    have h146_ := iv_get hv0 (k := 146) (j := 0) (l := 0) (u := 1999) rfl
    have h147_ := f_X12_in_eq a b0 y2 (a 156 (y1.toNat)) (a 146 0)
    refine jt_ite (fun c148_ => ?_) (fun c148_ => ?_)
    ·
      exact cp_X12_arrive_51 E d hd x1 x2 a0 b0 hv0 a hv hf
    ·
      refine jt_bV (sp_X12_tells E d (jd_le hd rfl) y1 y2 a b0 hv (show (0 ≤ y1 ∧ y1 ≤ 299) from by omega) (show a 146 17 ≤ 599 from by omega)) (fun a149_ b149_ h149_ => ?_)
      obtain ⟨hv149_, hf149_, rfl⟩ := h149_
      have hf150_ : jfr jW_X12_arrive a0 a149_ := jfr_tr hf hf149_ rfl
      exact cp_X12_arrive_59 E d hd x1 x2 a0 b0 hv0 a149_ hv149_ hf150_
theorem sp_X12_arrive (E : jxE) (d : Nat) (hd : Nat.ble 2 d = true) (x1 x2 : Int) (a0 b0 : Nat → Nat → Int) (hv0 : iv a0) : jt (jxC E d 257 [.inr (.inr (.inl 146)), .inl x1, .inl x2] (jxSH, a0, b0)) (jQ_X12_arrive x1 x2 a0 b0) := by
  obtain ⟨d, rfl⟩ := jd_succ hd
  refine jt_eq (bq_X12_arrive E d x1 x2 a0 b0) ?_
  refine jt_eI (eq_X12_in E d (jd_le hd rfl) x1 0 (jxw ((a0 146 9) - 1)) a0 b0) ?_
  have h151_ := iv_get hv0 (k := 146) (j := 9) (l := 0) (u := 300) rfl
  have h152_ : jxw ((a0 146 9) - 1) = (a0 146 9) - 1 := jxw_id (by omega) (by omega)
  have h153_ := f_X12_in_eq a0 b0 x1 0 (jxw ((a0 146 9) - 1))
  refine jt_ite (fun c154_ => ?_) (fun c154_ => ?_)
  ·
    exact cp_X12_arrive_51 E d hd x1 x2 a0 b0 hv0 a0 hv0 (jfr_rf _ _)
  ·
    refine jt_grd (by omega) ?_
    refine jt_ite (fun c155_ => ?_) (fun c155_ => ?_)
    ·
      exact cp_X12_arrive_24 E d hd x1 x2 a0 b0 hv0 x1 x2 a0 hv0 (jfr_rf _ _) (show 0 ≤ x1 from by omega) (show x1 ≤ 299 from by omega)
    ·
      exact cp_X12_arrive_51 E d hd x1 x2 a0 b0 hv0 a0 hv0 (jfr_rf _ _)
abbrev jQ_X12_lastSentTo (x1 : Int) (a0 b0 : Nat → Nat → Int) : List jxV → (Nat → Nat → Int) → (Nat → Nat → Int) → Prop := rI (fun r a b => (a0 = a) ∧ (b0 = b))
theorem cp_X12_lastSentTo_4 (E : jxE) (d : Nat) (hd : Nat.ble 1 (d + 1) = true) (x1 : Int) (a0 b0 : Nat → Nat → Int) (hv0 : iv a0) : ∀ n : Nat, (∀ (y1 y2 y3 : Int), (((300 - y3) * 1) + 0).toNat ≤ n → 0 - 1 ≤ y2 → y2 ≤ 1999 → 0 ≤ y3 → y3 ≤ 299 → jt (jxX E d 250 39 [some (.inr (.inr (.inl 146))), some (.inl y1), some (.inl y2), some (.inl y3)] [] (jxSH, a0, b0)) (jQ_X12_lastSentTo x1 a0 b0)) ∧ (∀ (y1 y3 : Int), (((300 - y3) * 1) + 0).toNat ≤ n → 0 ≤ y1 → y1 ≤ 39 → 0 ≤ y3 → y3 ≤ 299 → jt (jxX E d 250 32 [some (.inr (.inr (.inl 146))), some (.inl y1), none, some (.inl y3)] [] (jxSH, a0, b0)) (jQ_X12_lastSentTo x1 a0 b0)) ∧ (∀ (y1 y2 y3 : Int), (((300 - y3) * 1) + 0).toNat ≤ n → 0 - 1 ≤ y2 → y2 ≤ 1999 → 0 ≤ y3 → y3 ≤ 300 → jt (jxX E d 250 4 [some (.inr (.inr (.inl 146))), some (.inl y1), some (.inl y2), some (.inl y3)] [] (jxSH, a0, b0)) (jQ_X12_lastSentTo x1 a0 b0)) := by
  refine jx_ind fun n ih => ?_
  have ih39 : ∀ (y1 y2 y3 : Int), (((300 - y3) * 1) + 0).toNat < n → 0 - 1 ≤ y2 → y2 ≤ 1999 → 0 ≤ y3 → y3 ≤ 299 → jt (jxX E d 250 39 [some (.inr (.inr (.inl 146))), some (.inl y1), some (.inl y2), some (.inl y3)] [] (jxSH, a0, b0)) (jQ_X12_lastSentTo x1 a0 b0) := fun y1 y2 y3 hlt i0 i1 i2 i3 => (ih _ hlt).1 y1 y2 y3 (Nat.le_refl _) i0 i1 i2 i3
  have ih32 : ∀ (y1 y3 : Int), (((300 - y3) * 1) + 0).toNat < n → 0 ≤ y1 → y1 ≤ 39 → 0 ≤ y3 → y3 ≤ 299 → jt (jxX E d 250 32 [some (.inr (.inr (.inl 146))), some (.inl y1), none, some (.inl y3)] [] (jxSH, a0, b0)) (jQ_X12_lastSentTo x1 a0 b0) := fun y1 y3 hlt i0 i1 i2 i3 => (ih _ hlt).2.1 y1 y3 (Nat.le_refl _) i0 i1 i2 i3
  have ih4 : ∀ (y1 y2 y3 : Int), (((300 - y3) * 1) + 0).toNat < n → 0 - 1 ≤ y2 → y2 ≤ 1999 → 0 ≤ y3 → y3 ≤ 300 → jt (jxX E d 250 4 [some (.inr (.inr (.inl 146))), some (.inl y1), some (.inl y2), some (.inl y3)] [] (jxSH, a0, b0)) (jQ_X12_lastSentTo x1 a0 b0) := fun y1 y2 y3 hlt i0 i1 i2 i3 => (ih _ hlt).2.2 y1 y2 y3 (Nat.le_refl _) i0 i1 i2 i3
  have hc39 : ∀ (y1 y2 y3 : Int), (((300 - y3) * 1) + 0).toNat ≤ n → 0 - 1 ≤ y2 → y2 ≤ 1999 → 0 ≤ y3 → y3 ≤ 299 → jt (jxX E d 250 39 [some (.inr (.inr (.inl 146))), some (.inl y1), some (.inl y2), some (.inl y3)] [] (jxSH, a0, b0)) (jQ_X12_lastSentTo x1 a0 b0) := by
    intro y1 y2 y3 hm hi0 hi1 hi2 hi3
    refine jt_eq (bq_X12_lastSentTo_39 E d y1 y2 y3 a0 b0) ?_
    have h156_ : jxw (y3 + 1) = y3 + 1 := jxw_id (by omega) (by omega)
    exact ih4 y1 y2 (jxw (y3 + 1)) (show (((300 - (jxw (y3 + 1))) * 1) + 0).toNat < n from by omega) (show 0 - 1 ≤ y2 from by omega) (show y2 ≤ 1999 from by omega) (show 0 ≤ jxw (y3 + 1) from by omega) (show jxw (y3 + 1) ≤ 300 from by omega)
  have hc32 : ∀ (y1 y3 : Int), (((300 - y3) * 1) + 0).toNat ≤ n → 0 ≤ y1 → y1 ≤ 39 → 0 ≤ y3 → y3 ≤ 299 → jt (jxX E d 250 32 [some (.inr (.inr (.inl 146))), some (.inl y1), none, some (.inl y3)] [] (jxSH, a0, b0)) (jQ_X12_lastSentTo x1 a0 b0) := by
    intro y1 y3 hm hi0 hi1 hi2 hi3
    refine jt_eq (bq_X12_lastSentTo_32 E d y1 y3 a0 b0) ?_
    refine jt_grd (by omega) ?_
    have h157_ := iv_get hv0 (k := 156) (j := y3.toNat) (l := 0) (u := 1999) rfl
    exact hc39 y1 (a0 156 (y3.toNat)) y3 (show (((300 - y3) * 1) + 0).toNat ≤ n from by omega) (show 0 - 1 ≤ a0 156 (y3.toNat) from by omega) (show a0 156 (y3.toNat) ≤ 1999 from by omega) (show 0 ≤ y3 from by omega) (show y3 ≤ 299 from by omega)
  have hc4 : ∀ (y1 y2 y3 : Int), (((300 - y3) * 1) + 0).toNat ≤ n → 0 - 1 ≤ y2 → y2 ≤ 1999 → 0 ≤ y3 → y3 ≤ 300 → jt (jxX E d 250 4 [some (.inr (.inr (.inl 146))), some (.inl y1), some (.inl y2), some (.inl y3)] [] (jxSH, a0, b0)) (jQ_X12_lastSentTo x1 a0 b0) := by
    intro y1 y2 y3 hm hi0 hi1 hi2 hi3
    refine jt_eq (bq_X12_lastSentTo_4 E d y1 y2 y3 a0 b0) ?_
    have h158_ := iv_get hv0 (k := 146) (j := 9) (l := 0) (u := 300) rfl
    refine jt_ite (fun c159_ => ?_) (fun c159_ => ?_)
    ·
      refine jt_grd (by omega) ?_
      have h160_ := iv_get hv0 (k := 155) (j := y3.toNat) (l := 0) (u := 39) rfl
      refine jt_ite (fun c161_ => ?_) (fun c161_ => ?_)
      ·
        refine jt_grd (by omega) ?_
        have h162_ := iv_get hv0 (k := 156) (j := y3.toNat) (l := 0) (u := 1999) rfl
        refine jt_ite (fun c163_ => ?_) (fun c163_ => ?_)
        ·
          exact hc32 y1 y3 (show (((300 - y3) * 1) + 0).toNat ≤ n from by omega) (show 0 ≤ y1 from by omega) (show y1 ≤ 39 from by omega) (show 0 ≤ y3 from by omega) (show y3 ≤ 299 from by omega)
        ·
          exact hc39 y1 y2 y3 (show (((300 - y3) * 1) + 0).toNat ≤ n from by omega) (show 0 - 1 ≤ y2 from by omega) (show y2 ≤ 1999 from by omega) (show 0 ≤ y3 from by omega) (show y3 ≤ 299 from by omega)
      ·
        exact hc39 y1 y2 y3 (show (((300 - y3) * 1) + 0).toNat ≤ n from by omega) (show 0 - 1 ≤ y2 from by omega) (show y2 ≤ 1999 from by omega) (show 0 ≤ y3 from by omega) (show y3 ≤ 299 from by omega)
    ·
      exact jt_rI ⟨rfl, rfl⟩
  exact ⟨hc39, hc32, hc4⟩
theorem sp_X12_lastSentTo (E : jxE) (d : Nat) (hd : Nat.ble 1 d = true) (x1 : Int) (a0 b0 : Nat → Nat → Int) (hv0 : iv a0) : jt (jxC E d 250 [.inr (.inr (.inl 146)), .inl x1] (jxSH, a0, b0)) (jQ_X12_lastSentTo x1 a0 b0) := by
  obtain ⟨d, rfl⟩ := jd_succ hd
  refine jt_eq (bq_X12_lastSentTo E d x1 a0 b0) ?_
  exact (cp_X12_lastSentTo_4 E d hd x1 a0 b0 hv0 _).2.2 x1 (-1) 0 (Nat.le_refl _) (show 0 - 1 ≤ (-1) from by omega) (show (-1) ≤ 1999 from by omega) (show 0 ≤ 0 from by omega) (show 0 ≤ 300 from by omega)
def jW_X12_spans : List (Nat × Nat) := [(146, 39), (146, 40), (146, 41)]
abbrev jQ_X12_spans (x1 x2 : Int) (a0 b0 : Nat → Nat → Int) : List jxV → (Nat → Nat → Int) → (Nat → Nat → Int) → Prop := rV (fun a b => (iv a) ∧ (jfr jW_X12_spans a0 a) ∧ (b0 = b))
theorem cp_X12_spans_24 (E : jxE) (d : Nat) (hd : Nat.ble 1 (d + 1) = true) (x1 x2 : Int) (a0 b0 : Nat → Nat → Int) (hv0 : iv a0) : ∀ n : Nat, (∀ (y1 y2 y3 : Int) (a : Nat → Nat → Int), (((y3 + 1) * 1) + 0).toNat ≤ n → iv a → jfr jW_X12_spans a0 a → 0 ≤ y3 → y3 ≤ 599 → jt (jxX E d 238 182 [some (.inr (.inr (.inl 146))), some (.inl y1), some (.inl y2), some (.inl y3), none, none] [] (jxSH, a, b0)) (jQ_X12_spans x1 x2 a0 b0)) ∧ (∀ (y1 y2 y3 s1 : Int) (a : Nat → Nat → Int), (((y3 + 1) * 1) + 0).toNat ≤ n → iv a → jfr jW_X12_spans a0 a → 0 ≤ y1 → y1 ≤ 15 → 0 ≤ y2 → y2 ≤ 15 → 0 ≤ y3 → y3 ≤ 599 → a 146 39 ≤ 9 → jt (jxX E d 238 169 [some (.inr (.inr (.inl 146))), some (.inl y1), some (.inl y2), some (.inl y3), none, none] [.inl s1, .inr (.inr (.inl 146))] (jxSH, a, b0)) (jQ_X12_spans x1 x2 a0 b0)) ∧ (∀ (y1 y2 y3 y5 s1 : Int) (a : Nat → Nat → Int), (((y3 + 1) * 1) + 0).toNat ≤ n → iv a → jfr jW_X12_spans a0 a → 0 ≤ y1 → y1 ≤ 15 → 0 ≤ y2 → y2 ≤ 15 → 0 ≤ y3 → y3 ≤ 599 → a 146 39 ≤ 9 → jt (jxX E d 238 147 [some (.inr (.inr (.inl 146))), some (.inl y1), some (.inl y2), some (.inl y3), none, some (.inl y5)] [.inl s1, .inr (.inr (.inl 146))] (jxSH, a, b0)) (jQ_X12_spans x1 x2 a0 b0)) ∧ (∀ (y1 y2 y3 y5 : Int) (a : Nat → Nat → Int), (((y3 + 1) * 1) + 0).toNat ≤ n → iv a → jfr jW_X12_spans a0 a → 0 ≤ y1 → y1 ≤ 15 → 0 ≤ y2 → y2 ≤ 15 → 0 ≤ y3 → y3 ≤ 599 → a 146 39 ≤ 9 → jt (jxX E d 238 128 [some (.inr (.inr (.inl 146))), some (.inl y1), some (.inl y2), some (.inl y3), none, some (.inl y5)] [] (jxSH, a, b0)) (jQ_X12_spans x1 x2 a0 b0)) ∧ (∀ (y1 y2 y3 y4 : Int) (a : Nat → Nat → Int), (((y3 + 1) * 1) + 0).toNat ≤ n → iv a → jfr jW_X12_spans a0 a → 0 ≤ y1 → y1 ≤ 15 → 0 ≤ y3 → y3 ≤ 599 → 0 ≤ y4 → y4 ≤ 299 → a 146 39 ≤ 9 → jt (jxX E d 238 93 [some (.inr (.inr (.inl 146))), some (.inl y1), some (.inl y2), some (.inl y3), some (.inl y4), none] [] (jxSH, a, b0)) (jQ_X12_spans x1 x2 a0 b0)) ∧ (∀ (y1 y2 y3 y4 : Int) (a : Nat → Nat → Int), (((y3 + 1) * 1) + 0).toNat ≤ n → iv a → jfr jW_X12_spans a0 a → 0 ≤ y3 → y3 ≤ 599 → 0 ≤ y4 → y4 ≤ 299 → a 146 39 ≤ 9 → jt (jxX E d 238 56 [some (.inr (.inr (.inl 146))), some (.inl y1), some (.inl y2), some (.inl y3), some (.inl y4), none] [] (jxSH, a, b0)) (jQ_X12_spans x1 x2 a0 b0)) ∧ (∀ (y1 y2 y3 : Int) (a : Nat → Nat → Int), (((y3 + 1) * 1) + 0).toNat ≤ n → iv a → jfr jW_X12_spans a0 a → 0 - 1 ≤ y3 → y3 ≤ 599 → jt (jxX E d 238 24 [some (.inr (.inr (.inl 146))), some (.inl y1), some (.inl y2), some (.inl y3), none, none] [] (jxSH, a, b0)) (jQ_X12_spans x1 x2 a0 b0)) := by
  refine jx_ind fun n ih => ?_
  have ih182 : ∀ (y1 y2 y3 : Int) (a : Nat → Nat → Int), (((y3 + 1) * 1) + 0).toNat < n → iv a → jfr jW_X12_spans a0 a → 0 ≤ y3 → y3 ≤ 599 → jt (jxX E d 238 182 [some (.inr (.inr (.inl 146))), some (.inl y1), some (.inl y2), some (.inl y3), none, none] [] (jxSH, a, b0)) (jQ_X12_spans x1 x2 a0 b0) := fun y1 y2 y3 a hlt i0 i1 i2 i3 => (ih _ hlt).1 y1 y2 y3 a (Nat.le_refl _) i0 i1 i2 i3
  have ih169 : ∀ (y1 y2 y3 s1 : Int) (a : Nat → Nat → Int), (((y3 + 1) * 1) + 0).toNat < n → iv a → jfr jW_X12_spans a0 a → 0 ≤ y1 → y1 ≤ 15 → 0 ≤ y2 → y2 ≤ 15 → 0 ≤ y3 → y3 ≤ 599 → a 146 39 ≤ 9 → jt (jxX E d 238 169 [some (.inr (.inr (.inl 146))), some (.inl y1), some (.inl y2), some (.inl y3), none, none] [.inl s1, .inr (.inr (.inl 146))] (jxSH, a, b0)) (jQ_X12_spans x1 x2 a0 b0) := fun y1 y2 y3 s1 a hlt i0 i1 i2 i3 i4 i5 i6 i7 i8 => (ih _ hlt).2.1 y1 y2 y3 s1 a (Nat.le_refl _) i0 i1 i2 i3 i4 i5 i6 i7 i8
  have ih147 : ∀ (y1 y2 y3 y5 s1 : Int) (a : Nat → Nat → Int), (((y3 + 1) * 1) + 0).toNat < n → iv a → jfr jW_X12_spans a0 a → 0 ≤ y1 → y1 ≤ 15 → 0 ≤ y2 → y2 ≤ 15 → 0 ≤ y3 → y3 ≤ 599 → a 146 39 ≤ 9 → jt (jxX E d 238 147 [some (.inr (.inr (.inl 146))), some (.inl y1), some (.inl y2), some (.inl y3), none, some (.inl y5)] [.inl s1, .inr (.inr (.inl 146))] (jxSH, a, b0)) (jQ_X12_spans x1 x2 a0 b0) := fun y1 y2 y3 y5 s1 a hlt i0 i1 i2 i3 i4 i5 i6 i7 i8 => (ih _ hlt).2.2.1 y1 y2 y3 y5 s1 a (Nat.le_refl _) i0 i1 i2 i3 i4 i5 i6 i7 i8
  have ih128 : ∀ (y1 y2 y3 y5 : Int) (a : Nat → Nat → Int), (((y3 + 1) * 1) + 0).toNat < n → iv a → jfr jW_X12_spans a0 a → 0 ≤ y1 → y1 ≤ 15 → 0 ≤ y2 → y2 ≤ 15 → 0 ≤ y3 → y3 ≤ 599 → a 146 39 ≤ 9 → jt (jxX E d 238 128 [some (.inr (.inr (.inl 146))), some (.inl y1), some (.inl y2), some (.inl y3), none, some (.inl y5)] [] (jxSH, a, b0)) (jQ_X12_spans x1 x2 a0 b0) := fun y1 y2 y3 y5 a hlt i0 i1 i2 i3 i4 i5 i6 i7 i8 => (ih _ hlt).2.2.2.1 y1 y2 y3 y5 a (Nat.le_refl _) i0 i1 i2 i3 i4 i5 i6 i7 i8
  have ih93 : ∀ (y1 y2 y3 y4 : Int) (a : Nat → Nat → Int), (((y3 + 1) * 1) + 0).toNat < n → iv a → jfr jW_X12_spans a0 a → 0 ≤ y1 → y1 ≤ 15 → 0 ≤ y3 → y3 ≤ 599 → 0 ≤ y4 → y4 ≤ 299 → a 146 39 ≤ 9 → jt (jxX E d 238 93 [some (.inr (.inr (.inl 146))), some (.inl y1), some (.inl y2), some (.inl y3), some (.inl y4), none] [] (jxSH, a, b0)) (jQ_X12_spans x1 x2 a0 b0) := fun y1 y2 y3 y4 a hlt i0 i1 i2 i3 i4 i5 i6 i7 i8 => (ih _ hlt).2.2.2.2.1 y1 y2 y3 y4 a (Nat.le_refl _) i0 i1 i2 i3 i4 i5 i6 i7 i8
  have ih56 : ∀ (y1 y2 y3 y4 : Int) (a : Nat → Nat → Int), (((y3 + 1) * 1) + 0).toNat < n → iv a → jfr jW_X12_spans a0 a → 0 ≤ y3 → y3 ≤ 599 → 0 ≤ y4 → y4 ≤ 299 → a 146 39 ≤ 9 → jt (jxX E d 238 56 [some (.inr (.inr (.inl 146))), some (.inl y1), some (.inl y2), some (.inl y3), some (.inl y4), none] [] (jxSH, a, b0)) (jQ_X12_spans x1 x2 a0 b0) := fun y1 y2 y3 y4 a hlt i0 i1 i2 i3 i4 i5 i6 => (ih _ hlt).2.2.2.2.2.1 y1 y2 y3 y4 a (Nat.le_refl _) i0 i1 i2 i3 i4 i5 i6
  have ih24 : ∀ (y1 y2 y3 : Int) (a : Nat → Nat → Int), (((y3 + 1) * 1) + 0).toNat < n → iv a → jfr jW_X12_spans a0 a → 0 - 1 ≤ y3 → y3 ≤ 599 → jt (jxX E d 238 24 [some (.inr (.inr (.inl 146))), some (.inl y1), some (.inl y2), some (.inl y3), none, none] [] (jxSH, a, b0)) (jQ_X12_spans x1 x2 a0 b0) := fun y1 y2 y3 a hlt i0 i1 i2 i3 => (ih _ hlt).2.2.2.2.2.2 y1 y2 y3 a (Nat.le_refl _) i0 i1 i2 i3
  have hc182 : ∀ (y1 y2 y3 : Int) (a : Nat → Nat → Int), (((y3 + 1) * 1) + 0).toNat ≤ n → iv a → jfr jW_X12_spans a0 a → 0 ≤ y3 → y3 ≤ 599 → jt (jxX E d 238 182 [some (.inr (.inr (.inl 146))), some (.inl y1), some (.inl y2), some (.inl y3), none, none] [] (jxSH, a, b0)) (jQ_X12_spans x1 x2 a0 b0) := by
    intro y1 y2 y3 a hm hv hf hi0 hi1
    refine jt_eq (bq_X12_spans_182 E d y1 y2 y3 a b0) ?_
    have h164_ : jxw (y3 + (-1)) = y3 + (-1) := jxw_id (by omega) (by omega)
    exact ih24 y1 y2 (jxw (y3 + (-1))) a (show ((((jxw (y3 + (-1))) + 1) * 1) + 0).toNat < n from by omega) hv hf (show 0 - 1 ≤ jxw (y3 + (-1)) from by omega) (show jxw (y3 + (-1)) ≤ 599 from by omega)
  have hc169 : ∀ (y1 y2 y3 s1 : Int) (a : Nat → Nat → Int), (((y3 + 1) * 1) + 0).toNat ≤ n → iv a → jfr jW_X12_spans a0 a → 0 ≤ y1 → y1 ≤ 15 → 0 ≤ y2 → y2 ≤ 15 → 0 ≤ y3 → y3 ≤ 599 → a 146 39 ≤ 9 → jt (jxX E d 238 169 [some (.inr (.inr (.inl 146))), some (.inl y1), some (.inl y2), some (.inl y3), none, none] [.inl s1, .inr (.inr (.inl 146))] (jxSH, a, b0)) (jQ_X12_spans x1 x2 a0 b0) := by
    intro y1 y2 y3 s1 a hm hv hf hi0 hi1 hi2 hi3 hi4 hi5 hi6
    refine jt_eq (bq_X12_spans_169 E d y1 y2 y3 s1 a b0) ?_
    have h165_ := iv_get hv (k := 146) (j := 39) (l := 0) (u := 10) rfl
    have hv166_ : iv (jxu a 146 41 s1) := iv_putf hv rfl
    have h168_ : jxw ((a 146 39) + 1) = (a 146 39) + 1 := jxw_id (by omega) (by omega)
    have hv167_ : iv (jxu (jxu a 146 41 s1) 146 39 (jxw ((a 146 39) + 1))) := iv_put hv166_ (l := 0) (u := 10) rfl (by omega) (by omega)
    have hf169_ : jfr jW_X12_spans a0 (jxu a 146 41 s1) := jfr_put hf rfl
    have hf170_ : jfr jW_X12_spans a0 (jxu (jxu a 146 41 s1) 146 39 (jxw ((a 146 39) + 1))) := jfr_put hf169_ rfl
    exact hc182 y1 y2 y3 (jxu (jxu a 146 41 s1) 146 39 (jxw ((a 146 39) + 1))) (show (((y3 + 1) * 1) + 0).toNat ≤ n from by omega) hv167_ hf170_ (show 0 ≤ y3 from by omega) (show y3 ≤ 599 from by omega)
  have hc147 : ∀ (y1 y2 y3 y5 s1 : Int) (a : Nat → Nat → Int), (((y3 + 1) * 1) + 0).toNat ≤ n → iv a → jfr jW_X12_spans a0 a → 0 ≤ y1 → y1 ≤ 15 → 0 ≤ y2 → y2 ≤ 15 → 0 ≤ y3 → y3 ≤ 599 → a 146 39 ≤ 9 → jt (jxX E d 238 147 [some (.inr (.inr (.inl 146))), some (.inl y1), some (.inl y2), some (.inl y3), none, some (.inl y5)] [.inl s1, .inr (.inr (.inl 146))] (jxSH, a, b0)) (jQ_X12_spans x1 x2 a0 b0) := by
    intro y1 y2 y3 y5 s1 a hm hv hf hi0 hi1 hi2 hi3 hi4 hi5 hi6
    refine jt_eq (bq_X12_spans_147 E d y1 y2 y3 y5 s1 a b0) ?_
    have h171_ := iv_get hv (k := 146) (j := 39) (l := 0) (u := 10) rfl
    refine jt_ite (fun c172_ => ?_) (fun c172_ => ?_)
    ·
      have hv173_ : iv (jxu a 146 40 s1) := iv_putf hv rfl
      have hf174_ : jfr jW_X12_spans a0 (jxu a 146 40 s1) := jfr_put hf rfl
      exact hc169 y1 y2 y3 y5 (jxu a 146 40 s1) (show (((y3 + 1) * 1) + 0).toNat ≤ n from by omega) hv173_ hf174_ (show 0 ≤ y1 from by omega) (show y1 ≤ 15 from by omega) (show 0 ≤ y2 from by omega) (show y2 ≤ 15 from by omega) (show 0 ≤ y3 from by omega) (show y3 ≤ 599 from by omega) (show a 146 39 ≤ 9 from by omega)
    ·
      have hv175_ : iv (jxu a 146 40 s1) := iv_putf hv rfl
      have hf176_ : jfr jW_X12_spans a0 (jxu a 146 40 s1) := jfr_put hf rfl
      exact hc169 y1 y2 y3 (a 146 41) (jxu a 146 40 s1) (show (((y3 + 1) * 1) + 0).toNat ≤ n from by omega) hv175_ hf176_ (show 0 ≤ y1 from by omega) (show y1 ≤ 15 from by omega) (show 0 ≤ y2 from by omega) (show y2 ≤ 15 from by omega) (show 0 ≤ y3 from by omega) (show y3 ≤ 599 from by omega) (show a 146 39 ≤ 9 from by omega)
  have hc128 : ∀ (y1 y2 y3 y5 : Int) (a : Nat → Nat → Int), (((y3 + 1) * 1) + 0).toNat ≤ n → iv a → jfr jW_X12_spans a0 a → 0 ≤ y1 → y1 ≤ 15 → 0 ≤ y2 → y2 ≤ 15 → 0 ≤ y3 → y3 ≤ 599 → a 146 39 ≤ 9 → jt (jxX E d 238 128 [some (.inr (.inr (.inl 146))), some (.inl y1), some (.inl y2), some (.inl y3), none, some (.inl y5)] [] (jxSH, a, b0)) (jQ_X12_spans x1 x2 a0 b0) := by
    intro y1 y2 y3 y5 a hm hv hf hi0 hi1 hi2 hi3 hi4 hi5 hi6
    refine jt_eq (bq_X12_spans_128 E d y1 y2 y3 y5 a b0) ?_
    have h177_ := iv_get hv (k := 146) (j := 39) (l := 0) (u := 10) rfl
    refine jt_ite (fun c178_ => ?_) (fun c178_ => ?_)
    ·
      exact hc147 y1 y2 y3 y5 y5 a (show (((y3 + 1) * 1) + 0).toNat ≤ n from by omega) hv hf (show 0 ≤ y1 from by omega) (show y1 ≤ 15 from by omega) (show 0 ≤ y2 from by omega) (show y2 ≤ 15 from by omega) (show 0 ≤ y3 from by omega) (show y3 ≤ 599 from by omega) (show a 146 39 ≤ 9 from by omega)
    ·
      exact hc147 y1 y2 y3 y5 (a 146 40) a (show (((y3 + 1) * 1) + 0).toNat ≤ n from by omega) hv hf (show 0 ≤ y1 from by omega) (show y1 ≤ 15 from by omega) (show 0 ≤ y2 from by omega) (show y2 ≤ 15 from by omega) (show 0 ≤ y3 from by omega) (show y3 ≤ 599 from by omega) (show a 146 39 ≤ 9 from by omega)
  have hc93 : ∀ (y1 y2 y3 y4 : Int) (a : Nat → Nat → Int), (((y3 + 1) * 1) + 0).toNat ≤ n → iv a → jfr jW_X12_spans a0 a → 0 ≤ y1 → y1 ≤ 15 → 0 ≤ y3 → y3 ≤ 599 → 0 ≤ y4 → y4 ≤ 299 → a 146 39 ≤ 9 → jt (jxX E d 238 93 [some (.inr (.inr (.inl 146))), some (.inl y1), some (.inl y2), some (.inl y3), some (.inl y4), none] [] (jxSH, a, b0)) (jQ_X12_spans x1 x2 a0 b0) := by
    intro y1 y2 y3 y4 a hm hv hf hi0 hi1 hi2 hi3 hi4 hi5 hi6
    refine jt_eq (bq_X12_spans_93 E d y1 y2 y3 y4 a b0) ?_
    have h179_ := iv_get hv (k := 146) (j := 39) (l := 0) (u := 10) rfl
    refine jt_grd (by omega) ?_
    have h180_ := iv_get hv (k := 155) (j := y4.toNat) (l := 0) (u := 39) rfl
    have h181_ : a 155 (y4.toNat) = a0 155 (y4.toNat) := hf 155 (y4.toNat) rfl
    have h182_ := iv_get hv0 (k := 155) (j := y4.toNat) (l := 0) (u := 39) rfl
    refine jt_grd (by omega) ?_
    have h183_ := iv_get hv (k := 148) (j := (a 155 (y4.toNat)).toNat) (l := 0) (u := 15) rfl
    have h184_ : a 148 ((a 155 (y4.toNat)).toNat) = a0 148 ((a 155 (y4.toNat)).toNat) := hf 148 ((a 155 (y4.toNat)).toNat) rfl
    have h185_ := iv_get hv0 (k := 148) (j := (a 155 (y4.toNat)).toNat) (l := 0) (u := 15) rfl
    refine jt_ite (fun c186_ => ?_) (fun c186_ => ?_)
    ·
      refine jt_grd (by omega) ?_
      refine jt_grd (by omega) ?_
      exact hc128 y1 y2 y3 (jxw ((a 162 (y3.toNat)) - (a 156 (y4.toNat)))) a (show (((y3 + 1) * 1) + 0).toNat ≤ n from by omega) hv hf (show 0 ≤ y1 from by omega) (show y1 ≤ 15 from by omega) (show 0 ≤ y2 from by omega) (show y2 ≤ 15 from by omega) (show 0 ≤ y3 from by omega) (show y3 ≤ 599 from by omega) (show a 146 39 ≤ 9 from by omega)
    ·
      exact hc182 y1 y2 y3 a (show (((y3 + 1) * 1) + 0).toNat ≤ n from by omega) hv hf (show 0 ≤ y3 from by omega) (show y3 ≤ 599 from by omega)
  have hc56 : ∀ (y1 y2 y3 y4 : Int) (a : Nat → Nat → Int), (((y3 + 1) * 1) + 0).toNat ≤ n → iv a → jfr jW_X12_spans a0 a → 0 ≤ y3 → y3 ≤ 599 → 0 ≤ y4 → y4 ≤ 299 → a 146 39 ≤ 9 → jt (jxX E d 238 56 [some (.inr (.inr (.inl 146))), some (.inl y1), some (.inl y2), some (.inl y3), some (.inl y4), none] [] (jxSH, a, b0)) (jQ_X12_spans x1 x2 a0 b0) := by
    intro y1 y2 y3 y4 a hm hv hf hi0 hi1 hi2 hi3 hi4
    refine jt_eq (bq_X12_spans_56 E d y1 y2 y3 y4 a b0) ?_
    have h187_ := iv_get hv (k := 146) (j := 39) (l := 0) (u := 10) rfl
    refine jt_grd (by omega) ?_
    have h188_ : a 162 (y3.toNat) = a0 162 (y3.toNat) := hf 162 (y3.toNat) rfl
    refine jt_ite (fun c189_ => ?_) (fun c189_ => ?_)
    ·
      exact hc182 y1 y2 y3 a (show (((y3 + 1) * 1) + 0).toNat ≤ n from by omega) hv hf (show 0 ≤ y3 from by omega) (show y3 ≤ 599 from by omega)
    ·
      refine jt_grd (by omega) ?_
      have h190_ : a 159 (y4.toNat) = a0 159 (y4.toNat) := hf 159 (y4.toNat) rfl
      refine jt_ite (fun c191_ => ?_) (fun c191_ => ?_)
      ·
        refine jt_grd (by omega) ?_
        have h192_ := iv_get hv (k := 154) (j := y4.toNat) (l := 0) (u := 39) rfl
        have h193_ : a 154 (y4.toNat) = a0 154 (y4.toNat) := hf 154 (y4.toNat) rfl
        have h194_ := iv_get hv0 (k := 154) (j := y4.toNat) (l := 0) (u := 39) rfl
        refine jt_grd (by omega) ?_
        have h195_ := iv_get hv (k := 148) (j := (a 154 (y4.toNat)).toNat) (l := 0) (u := 15) rfl
        have h196_ : a 148 ((a 154 (y4.toNat)).toNat) = a0 148 ((a 154 (y4.toNat)).toNat) := hf 148 ((a 154 (y4.toNat)).toNat) rfl
        have h197_ := iv_get hv0 (k := 148) (j := (a 154 (y4.toNat)).toNat) (l := 0) (u := 15) rfl
        refine jt_ite (fun c198_ => ?_) (fun c198_ => ?_)
        ·
          exact hc93 y1 y2 y3 y4 a (show (((y3 + 1) * 1) + 0).toNat ≤ n from by omega) hv hf (show 0 ≤ y1 from by omega) (show y1 ≤ 15 from by omega) (show 0 ≤ y3 from by omega) (show y3 ≤ 599 from by omega) (show 0 ≤ y4 from by omega) (show y4 ≤ 299 from by omega) (show a 146 39 ≤ 9 from by omega)
        ·
          exact hc182 y1 y2 y3 a (show (((y3 + 1) * 1) + 0).toNat ≤ n from by omega) hv hf (show 0 ≤ y3 from by omega) (show y3 ≤ 599 from by omega)
      ·
        exact hc182 y1 y2 y3 a (show (((y3 + 1) * 1) + 0).toNat ≤ n from by omega) hv hf (show 0 ≤ y3 from by omega) (show y3 ≤ 599 from by omega)
  have hc24 : ∀ (y1 y2 y3 : Int) (a : Nat → Nat → Int), (((y3 + 1) * 1) + 0).toNat ≤ n → iv a → jfr jW_X12_spans a0 a → 0 - 1 ≤ y3 → y3 ≤ 599 → jt (jxX E d 238 24 [some (.inr (.inr (.inl 146))), some (.inl y1), some (.inl y2), some (.inl y3), none, none] [] (jxSH, a, b0)) (jQ_X12_spans x1 x2 a0 b0) := by
    intro y1 y2 y3 a hm hv hf hi0 hi1
    refine jt_eq (bq_X12_spans_24 E d y1 y2 y3 a b0) ?_
    refine jt_ite (fun c199_ => ?_) (fun c199_ => ?_)
    ·
      exact jt_rV ⟨hv, hf, rfl⟩
    ·
      have h200_ := iv_get hv (k := 146) (j := 39) (l := 0) (u := 10) rfl
      refine jt_ite (fun c201_ => ?_) (fun c201_ => ?_)
      ·
        refine jt_grd (by omega) ?_
        have h202_ := iv_get hv (k := 161) (j := y3.toNat) (l := 0) (u := 299) rfl
        have h203_ : a 161 (y3.toNat) = a0 161 (y3.toNat) := hf 161 (y3.toNat) rfl
        have h204_ := iv_get hv0 (k := 161) (j := y3.toNat) (l := 0) (u := 299) rfl
        refine jt_grd (by omega) ?_
        have h205_ := iv_get hv (k := 160) (j := (a 161 (y3.toNat)).toNat) (l := (-1)) (u := 599) rfl
        have h206_ : a 160 ((a 161 (y3.toNat)).toNat) = a0 160 ((a 161 (y3.toNat)).toNat) := hf 160 ((a 161 (y3.toNat)).toNat) rfl
        have h207_ := iv_get hv0 (k := 160) (j := (a 161 (y3.toNat)).toNat) (l := (-1)) (u := 599) rfl
        refine jt_ite (fun c208_ => ?_) (fun c208_ => ?_)
        ·
          exact hc56 y1 y2 y3 (a 161 (y3.toNat)) a (show (((y3 + 1) * 1) + 0).toNat ≤ n from by omega) hv hf (show 0 ≤ y3 from by omega) (show y3 ≤ 599 from by omega) (show 0 ≤ a 161 (y3.toNat) from by omega) (show a 161 (y3.toNat) ≤ 299 from by omega) (show a 146 39 ≤ 9 from by omega)
        ·
          exact hc182 y1 y2 y3 a (show (((y3 + 1) * 1) + 0).toNat ≤ n from by omega) hv hf (show 0 ≤ y3 from by omega) (show y3 ≤ 599 from by omega)
      ·
        exact jt_rV ⟨hv, hf, rfl⟩
  exact ⟨hc182, hc169, hc147, hc128, hc93, hc56, hc24⟩
theorem sp_X12_spans (E : jxE) (d : Nat) (hd : Nat.ble 1 d = true) (x1 x2 : Int) (a0 b0 : Nat → Nat → Int) (hv0 : iv a0) : jt (jxC E d 238 [.inr (.inr (.inl 146)), .inl x1, .inl x2] (jxSH, a0, b0)) (jQ_X12_spans x1 x2 a0 b0) := by
  obtain ⟨d, rfl⟩ := jd_succ hd
  refine jt_eq (bq_X12_spans E d x1 x2 a0 b0) ?_
  have hv209_ : iv (jxu a0 146 39 0) := iv_put hv0 (l := 0) (u := 10) rfl (by omega) (by omega)
  have hv210_ : iv (jxu (jxu a0 146 39 0) 146 40 1000000) := iv_putf hv209_ rfl
  have hv211_ : iv (jxu (jxu (jxu a0 146 39 0) 146 40 1000000) 146 41 0) := iv_putf hv210_ rfl
  have hf212_ : jfr jW_X12_spans a0 (jxu a0 146 39 0) := jfr_put (jfr_rf _ _) rfl
  have hf213_ : jfr jW_X12_spans a0 (jxu (jxu a0 146 39 0) 146 40 1000000) := jfr_put hf212_ rfl
  have hf214_ : jfr jW_X12_spans a0 (jxu (jxu (jxu a0 146 39 0) 146 40 1000000) 146 41 0) := jfr_put hf213_ rfl
  have h215_ := iv_get hv0 (k := 146) (j := 17) (l := 0) (u := 600) rfl
  have h216_ : jxw ((a0 146 17) - 1) = (a0 146 17) - 1 := jxw_id (by omega) (by omega)
  exact (cp_X12_spans_24 E d hd x1 x2 a0 b0 hv0 _).2.2.2.2.2.2 x1 x2 (jxw ((a0 146 17) - 1)) (jxu (jxu (jxu a0 146 39 0) 146 40 1000000) 146 41 0) (Nat.le_refl _) hv211_ hf214_ (show 0 - 1 ≤ jxw ((a0 146 17) - 1) from by omega) (show jxw ((a0 146 17) - 1) ≤ 599 from by omega)
def jW_X12_sends : List (Nat × Nat) := [(146, 9), (146, 39), (146, 40), (146, 41), (154, 9999), (155, 9999), (156, 9999), (157, 9999), (158, 9999), (159, 9999), (160, 9999)]
abbrev jQ_X12_sends (x1 x2 x3 : Int) (a0 b0 : Nat → Nat → Int) : List jxV → (Nat → Nat → Int) → (Nat → Nat → Int) → Prop := rI (fun r a b => (iv a) ∧ (jfr jW_X12_sends a0 a) ∧ (b0 = b) ∧ (a 146 9 = (a0 146 9) + 1) ∧ (a 154 (a0 146 9).toNat = x1 ∧ a 158 (a0 146 9).toNat = x3) ∧ (∀ c : Nat, (c : Int) < a0 146 9 → a 154 c = a0 154 c ∧ a 158 c = a0 158 c))
theorem cp_X12_sends_125 (E : jxE) (d : Nat) (hd : Nat.ble 2 (d + 1) = true) (x1 x2 x3 : Int) (a0 b0 : Nat → Nat → Int) (hv0 : iv a0) (hp0 : (0 ≤ x1 ∧ x1 ≤ 39)) (hp1 : (0 ≤ x2 ∧ x2 ≤ 39)) (hp2 : a0 146 9 ≤ 299) : ∀ (a : Nat → Nat → Int), iv a → jfr jW_X12_sends a0 a → (a 154 (a0 146 9).toNat = x1) → (a 158 (a0 146 9).toNat = x3) → a 146 9 = a0 146 9 → (∀ c : Nat, (c : Int) < a0 146 9 → a 154 c = a0 154 c ∧ a 158 c = a0 158 c) → jt (jxX E d 240 125 [some (.inr (.inr (.inl 146))), none, none, none, none] [] (jxSH, a, b0)) (jQ_X12_sends x1 x2 x3 a0 b0) := by
  intro a hv hf hi0 hi1 hi2 hol
  refine jt_eq (bq_X12_sends_125 E d a b0) ?_
  have h217_ := iv_get hv (k := 146) (j := 9) (l := 0) (u := 300) rfl
  have h218_ := iv_get hv0 (k := 146) (j := 9) (l := 0) (u := 300) rfl
  refine jt_grd (by omega) ?_
  have hv219_ : iv (jxu a 160 ((a 146 9).toNat) (-1)) := iv_put hv (l := (-1)) (u := 599) rfl (by omega) (by omega)
  have h221_ : jxw ((a 146 9) + 1) = (a 146 9) + 1 := jxw_id (by omega) (by omega)
  have hv220_ : iv (jxu (jxu a 160 ((a 146 9).toNat) (-1)) 146 9 (jxw ((a 146 9) + 1))) := iv_put hv219_ (l := 0) (u := 300) rfl (by omega) (by omega)
  have hf222_ : jfr jW_X12_sends a0 (jxu a 160 ((a 146 9).toNat) (-1)) := jfr_put hf rfl
  have hf223_ : jfr jW_X12_sends a0 (jxu (jxu a 160 ((a 146 9).toNat) (-1)) 146 9 (jxw ((a 146 9) + 1))) := jfr_put hf222_ rfl
  exact jt_rI ⟨hv220_, hf223_, rfl, (show jxw ((a 146 9) + 1) = (a0 146 9) + 1 from by omega), (by constructor <;> simp [jxu] <;> omega), (by intro c hc; have hne : ¬ c = (a 146 9).toNat := (by omega); have h9 := hol c hc; simp [jxu, hne, h9])⟩
theorem cp_X12_sends_94 (E : jxE) (d : Nat) (hd : Nat.ble 2 (d + 1) = true) (x1 x2 x3 : Int) (a0 b0 : Nat → Nat → Int) (hv0 : iv a0) (hp0 : (0 ≤ x1 ∧ x1 ≤ 39)) (hp1 : (0 ≤ x2 ∧ x2 ≤ 39)) (hp2 : a0 146 9 ≤ 299) : ∀ (y3 y4 : Int) (a : Nat → Nat → Int), iv a → jfr jW_X12_sends a0 a → y3 = x3 → (a 154 (a0 146 9).toNat = x1) → a 146 9 = a0 146 9 → (∀ c : Nat, (c : Int) < a0 146 9 → a 154 c = a0 154 c ∧ a 158 c = a0 158 c) → jt (jxX E d 240 94 [some (.inr (.inr (.inl 146))), none, none, some (.inl y3), some (.inl y4)] [] (jxSH, a, b0)) (jQ_X12_sends x1 x2 x3 a0 b0) := by
  intro y3 y4 a hv hf hi0 hi1 hi2 hol
  refine jt_eq (bq_X12_sends_94 E d y3 y4 a b0) ?_
  have h224_ := iv_get hv (k := 146) (j := 9) (l := 0) (u := 300) rfl
  have h225_ := iv_get hv0 (k := 146) (j := 9) (l := 0) (u := 300) rfl
  refine jt_grd (by omega) ?_
  refine jt_grd (by omega) ?_
  refine jt_grd (by omega) ?_
  have hv226_ : iv (jxu a 157 ((a 146 9).toNat) y4) := iv_putf hv rfl
  have hv227_ : iv (jxu (jxu a 157 ((a 146 9).toNat) y4) 158 ((a 146 9).toNat) y3) := iv_putf hv226_ rfl
  have hv228_ : iv (jxu (jxu (jxu a 157 ((a 146 9).toNat) y4) 158 ((a 146 9).toNat) y3) 159 ((a 146 9).toNat) (-1)) := iv_putf hv227_ rfl
  have hf229_ : jfr jW_X12_sends a0 (jxu a 157 ((a 146 9).toNat) y4) := jfr_put hf rfl
  have hf230_ : jfr jW_X12_sends a0 (jxu (jxu a 157 ((a 146 9).toNat) y4) 158 ((a 146 9).toNat) y3) := jfr_put hf229_ rfl
  have hf231_ : jfr jW_X12_sends a0 (jxu (jxu (jxu a 157 ((a 146 9).toNat) y4) 158 ((a 146 9).toNat) y3) 159 ((a 146 9).toNat) (-1)) := jfr_put hf230_ rfl
  exact cp_X12_sends_125 E d hd x1 x2 x3 a0 b0 hv0 hp0 hp1 hp2 (jxu (jxu (jxu a 157 ((a 146 9).toNat) y4) 158 ((a 146 9).toNat) y3) 159 ((a 146 9).toNat) (-1)) hv228_ hf231_ (by simp [jxu]; omega) (by rw [show (a0 146 9).toNat = (a 146 9).toNat from (by omega)]; simp [jxu]; omega) (show a 146 9 = a0 146 9 from by omega) (by intro c hc; have hne : ¬ c = (a 146 9).toNat := (by omega); have h9 := hol c hc; simp [jxu, hne, h9])
theorem cp_X12_sends_59 (E : jxE) (d : Nat) (hd : Nat.ble 2 (d + 1) = true) (x1 x2 x3 : Int) (a0 b0 : Nat → Nat → Int) (hv0 : iv a0) (hp0 : (0 ≤ x1 ∧ x1 ≤ 39)) (hp1 : (0 ≤ x2 ∧ x2 ≤ 39)) (hp2 : a0 146 9 ≤ 299) : ∀ (y1 y2 y3 s0 : Int) (a : Nat → Nat → Int), iv a → jfr jW_X12_sends a0 a → 0 ≤ y1 → y1 ≤ 39 → 0 ≤ y2 → y2 ≤ 39 → y1 = x1 → y2 = x2 → y3 = x3 → a 146 9 = a0 146 9 → (∀ c : Nat, (c : Int) < a0 146 9 → a 154 c = a0 154 c ∧ a 158 c = a0 158 c) → jt (jxX E d 240 59 [some (.inr (.inr (.inl 146))), some (.inl y1), some (.inl y2), some (.inl y3), none] [.inl s0] (jxSH, a, b0)) (jQ_X12_sends x1 x2 x3 a0 b0) := by
  intro y1 y2 y3 s0 a hv hf hi0 hi1 hi2 hi3 hi4 hi5 hi6 hi7 hol
  refine jt_eq (bq_X12_sends_59 E d y1 y2 y3 s0 a b0) ?_
  have h232_ := iv_get hv (k := 146) (j := 9) (l := 0) (u := 300) rfl
  have h233_ := iv_get hv0 (k := 146) (j := 9) (l := 0) (u := 300) rfl
  refine jt_grd (by omega) ?_
  refine jt_grd (by omega) ?_
  refine jt_grd (by omega) ?_
  have hv234_ : iv (jxu a 154 ((a 146 9).toNat) y1) := iv_put hv (l := 0) (u := 39) rfl (by omega) (by omega)
  have hv235_ : iv (jxu (jxu a 154 ((a 146 9).toNat) y1) 155 ((a 146 9).toNat) y2) := iv_put hv234_ (l := 0) (u := 39) rfl (by omega) (by omega)
  have h237_ := iv_get hv (k := 146) (j := 0) (l := 0) (u := 1999) rfl
  have h238_ : a 146 0 = a0 146 0 := hf 146 0 rfl
  have h239_ := iv_get hv0 (k := 146) (j := 0) (l := 0) (u := 1999) rfl
  have hv236_ : iv (jxu (jxu (jxu a 154 ((a 146 9).toNat) y1) 155 ((a 146 9).toNat) y2) 156 ((a 146 9).toNat) (a 146 0)) := iv_put hv235_ (l := 0) (u := 1999) rfl (by omega) (by omega)
  have hf240_ : jfr jW_X12_sends a0 (jxu a 154 ((a 146 9).toNat) y1) := jfr_put hf rfl
  have hf241_ : jfr jW_X12_sends a0 (jxu (jxu a 154 ((a 146 9).toNat) y1) 155 ((a 146 9).toNat) y2) := jfr_put hf240_ rfl
  have hf242_ : jfr jW_X12_sends a0 (jxu (jxu (jxu a 154 ((a 146 9).toNat) y1) 155 ((a 146 9).toNat) y2) 156 ((a 146 9).toNat) (a 146 0)) := jfr_put hf241_ rfl
  exact cp_X12_sends_94 E d hd x1 x2 x3 a0 b0 hv0 hp0 hp1 hp2 y3 s0 (jxu (jxu (jxu a 154 ((a 146 9).toNat) y1) 155 ((a 146 9).toNat) y2) 156 ((a 146 9).toNat) (a 146 0)) hv236_ hf242_ (show y3 = x3 from by omega) (by rw [show (a0 146 9).toNat = (a 146 9).toNat from (by omega)]; simp [jxu]; omega) (show a 146 9 = a0 146 9 from by omega) (by intro c hc; have hne : ¬ c = (a 146 9).toNat := (by omega); have h9 := hol c hc; simp [jxu, hne, h9])
theorem cp_X12_sends_41 (E : jxE) (d : Nat) (hd : Nat.ble 2 (d + 1) = true) (x1 x2 x3 : Int) (a0 b0 : Nat → Nat → Int) (hv0 : iv a0) (hp0 : (0 ≤ x1 ∧ x1 ≤ 39)) (hp1 : (0 ≤ x2 ∧ x2 ≤ 39)) (hp2 : a0 146 9 ≤ 299) : ∀ (y1 y2 y3 : Int) (a : Nat → Nat → Int), iv a → jfr jW_X12_sends a0 a → 0 ≤ y1 → y1 ≤ 39 → 0 ≤ y2 → y2 ≤ 39 → y1 = x1 → y2 = x2 → y3 = x3 → a 146 9 = a0 146 9 → (∀ c : Nat, (c : Int) < a0 146 9 → a 154 c = a0 154 c ∧ a 158 c = a0 158 c) → jt (jxX E d 240 41 [some (.inr (.inr (.inl 146))), some (.inl y1), some (.inl y2), some (.inl y3), none] [] (jxSH, a, b0)) (jQ_X12_sends x1 x2 x3 a0 b0) := by
  intro y1 y2 y3 a hv hf hi0 hi1 hi2 hi3 hi4 hi5 hi6 hi7 hol
  refine jt_eq (bq_X12_sends_41 E d y1 y2 y3 a b0) ?_
  have h243_ := iv_get hv (k := 146) (j := 9) (l := 0) (u := 300) rfl
  have h244_ := iv_get hv0 (k := 146) (j := 9) (l := 0) (u := 300) rfl
  exact cp_X12_sends_59 E d hd x1 x2 x3 a0 b0 hv0 hp0 hp1 hp2 y1 y2 y3 (a 171 3) a hv hf (show 0 ≤ y1 from by omega) (show y1 ≤ 39 from by omega) (show 0 ≤ y2 from by omega) (show y2 ≤ 39 from by omega) (show y1 = x1 from by omega) (show y2 = x2 from by omega) (show y3 = x3 from by omega) (show a 146 9 = a0 146 9 from by omega) hol
theorem cp_X12_sends_50 (E : jxE) (d : Nat) (hd : Nat.ble 2 (d + 1) = true) (x1 x2 x3 : Int) (a0 b0 : Nat → Nat → Int) (hv0 : iv a0) (hp0 : (0 ≤ x1 ∧ x1 ≤ 39)) (hp1 : (0 ≤ x2 ∧ x2 ≤ 39)) (hp2 : a0 146 9 ≤ 299) : ∀ (y1 y2 y3 : Int) (a : Nat → Nat → Int), iv a → jfr jW_X12_sends a0 a → 0 ≤ y1 → y1 ≤ 39 → 0 ≤ y2 → y2 ≤ 39 → 1 ≤ a 146 39 → y1 = x1 → y2 = x2 → y3 = x3 → a 146 9 = a0 146 9 → (∀ c : Nat, (c : Int) < a0 146 9 → a 154 c = a0 154 c ∧ a 158 c = a0 158 c) → jt (jxX E d 240 50 [some (.inr (.inr (.inl 146))), some (.inl y1), some (.inl y2), some (.inl y3), none] [] (jxSH, a, b0)) (jQ_X12_sends x1 x2 x3 a0 b0) := by
  intro y1 y2 y3 a hv hf hi0 hi1 hi2 hi3 hi4 hi5 hi6 hi7 hi8 hol
  refine jt_eq (bq_X12_sends_50 E d y1 y2 y3 a b0) ?_
  have h245_ := iv_get hv (k := 146) (j := 39) (l := 0) (u := 10) rfl
  have h246_ := iv_get hv (k := 146) (j := 9) (l := 0) (u := 300) rfl
  have h247_ := iv_get hv0 (k := 146) (j := 9) (l := 0) (u := 300) rfl
  exact cp_X12_sends_59 E d hd x1 x2 x3 a0 b0 hv0 hp0 hp1 hp2 y1 y2 y3 (jxw ((jxw (2 * (a 146 41))) + 7)) a hv hf (show 0 ≤ y1 from by omega) (show y1 ≤ 39 from by omega) (show 0 ≤ y2 from by omega) (show y2 ≤ 39 from by omega) (show y1 = x1 from by omega) (show y2 = x2 from by omega) (show y3 = x3 from by omega) (show a 146 9 = a0 146 9 from by omega) hol
theorem sp_X12_sends (E : jxE) (d : Nat) (hd : Nat.ble 2 d = true) (x1 x2 x3 : Int) (a0 b0 : Nat → Nat → Int) (hv0 : iv a0) (hp0 : (0 ≤ x1 ∧ x1 ≤ 39)) (hp1 : (0 ≤ x2 ∧ x2 ≤ 39)) (hp2 : a0 146 9 ≤ 299) : jt (jxC E d 240 [.inr (.inr (.inl 146)), .inl x1, .inl x2, .inl x3] (jxSH, a0, b0)) (jQ_X12_sends x1 x2 x3 a0 b0) := by
  obtain ⟨d, rfl⟩ := jd_succ hd
  refine jt_eq (bq_X12_sends E d x1 x2 x3 a0 b0) ?_
  have h248_ := iv_get hv0 (k := 146) (j := 9) (l := 0) (u := 300) rfl
  refine jt_grd (by omega) ?_
  refine jt_grd (by omega) ?_
  refine jt_bV (sp_X12_spans E d (jd_le hd rfl) (a0 148 (x1.toNat)) (a0 148 (x2.toNat)) a0 b0 hv0) (fun a249_ b249_ h249_ => ?_)
  obtain ⟨hv249_, hf249_, rfl⟩ := h249_
  have h250_ := iv_get hv249_ (k := 146) (j := 39) (l := 0) (u := 10) rfl
  refine jt_ite (fun c251_ => ?_) (fun c251_ => ?_)
  ·
    have hf252_ : jfr jW_X12_sends a0 a249_ := jfr_tr (jfr_rf _ _) hf249_ rfl
    have h253_ := iv_get hv249_ (k := 146) (j := 9) (l := 0) (u := 300) rfl
    have h254_ : a249_ 146 9 = a0 146 9 := hf249_ 146 9 rfl
    exact cp_X12_sends_41 E d hd x1 x2 x3 a0 b0 hv0 hp0 hp1 hp2 x1 x2 x3 a249_ hv249_ hf252_ (show 0 ≤ x1 from by omega) (show x1 ≤ 39 from by omega) (show 0 ≤ x2 from by omega) (show x2 ≤ 39 from by omega) (show x1 = x1 from by omega) (show x2 = x2 from by omega) (show x3 = x3 from by omega) (show a249_ 146 9 = a0 146 9 from by omega) (by intro c hc; exact ⟨hf249_ 154 c rfl, hf249_ 158 c rfl⟩)
  ·
    have h255_ : a249_ 171 3 = a0 171 3 := hf249_ 171 3 rfl
    have h256_ := jxw_im (2 * (a249_ 146 41))
    have h257_ := jxw_rg (2 * (a249_ 146 41))
    have h258_ := jxw_im ((jxw (2 * (a249_ 146 41))) + 7)
    have h259_ := jxw_rg ((jxw (2 * (a249_ 146 41))) + 7)
    refine jt_ite (fun c260_ => ?_) (fun c260_ => ?_)
    ·
      have hf261_ : jfr jW_X12_sends a0 a249_ := jfr_tr (jfr_rf _ _) hf249_ rfl
      have h262_ := iv_get hv249_ (k := 146) (j := 9) (l := 0) (u := 300) rfl
      have h263_ : a249_ 146 9 = a0 146 9 := hf249_ 146 9 rfl
      exact cp_X12_sends_41 E d hd x1 x2 x3 a0 b0 hv0 hp0 hp1 hp2 x1 x2 x3 a249_ hv249_ hf261_ (show 0 ≤ x1 from by omega) (show x1 ≤ 39 from by omega) (show 0 ≤ x2 from by omega) (show x2 ≤ 39 from by omega) (show x1 = x1 from by omega) (show x2 = x2 from by omega) (show x3 = x3 from by omega) (show a249_ 146 9 = a0 146 9 from by omega) (by intro c hc; exact ⟨hf249_ 154 c rfl, hf249_ 158 c rfl⟩)
    ·
      have hf264_ : jfr jW_X12_sends a0 a249_ := jfr_tr (jfr_rf _ _) hf249_ rfl
      have h265_ := iv_get hv249_ (k := 146) (j := 9) (l := 0) (u := 300) rfl
      have h266_ : a249_ 146 9 = a0 146 9 := hf249_ 146 9 rfl
      exact cp_X12_sends_50 E d hd x1 x2 x3 a0 b0 hv0 hp0 hp1 hp2 x1 x2 x3 a249_ hv249_ hf264_ (show 0 ≤ x1 from by omega) (show x1 ≤ 39 from by omega) (show 0 ≤ x2 from by omega) (show x2 ≤ 39 from by omega) (show 1 ≤ a249_ 146 39 from by omega) (show x1 = x1 from by omega) (show x2 = x2 from by omega) (show x3 = x3 from by omega) (show a249_ 146 9 = a0 146 9 from by omega) (by intro c hc; exact ⟨hf249_ 154 c rfl, hf249_ 158 c rfl⟩)
def jW_X12_back : List (Nat × Nat) := [(146, 17), (160, 9999), (161, 9999), (162, 9999), (163, 9999)]
abbrev jQ_X12_back (x1 : Int) (a0 b0 : Nat → Nat → Int) : List jxV → (Nat → Nat → Int) → (Nat → Nat → Int) → Prop := rI (fun r a b => (iv a) ∧ (jfr jW_X12_back a0 a) ∧ (b0 = b) ∧ ((0 ≤ r ∧ r ≤ 1)))
theorem cp_X12_back_58 (E : jxE) (d : Nat) (hd : Nat.ble 2 (d + 1) = true) (x1 : Int) (a0 b0 : Nat → Nat → Int) (hv0 : iv a0) : ∀ (a : Nat → Nat → Int), iv a → jfr jW_X12_back a0 a → jt (jxX E d 258 58 [none, none] [] (jxSH, a, b0)) (jQ_X12_back x1 a0 b0) := by
  intro a hv hf
  refine jt_eq (bq_X12_back_58 E d a b0) ?_
  exact jt_rI ⟨hv, hf, rfl, (show (0 ≤ 0 ∧ 0 ≤ 1) from by omega)⟩
theorem cp_X12_back_60 (E : jxE) (d : Nat) (hd : Nat.ble 2 (d + 1) = true) (x1 : Int) (a0 b0 : Nat → Nat → Int) (hv0 : iv a0) : ∀ (y1 : Int) (a : Nat → Nat → Int), iv a → jfr jW_X12_back a0 a → 0 ≤ y1 → y1 ≤ 299 → a 146 17 ≤ 599 → jt (jxX E d 258 60 [some (.inr (.inr (.inl 146))), some (.inl y1)] [] (jxSH, a, b0)) (jQ_X12_back x1 a0 b0) := by
  intro y1 a hv hf hi0 hi1 hi2
  refine jt_eq (bq_X12_back_60 E d y1 a b0) ?_
  have h267_ := iv_get hv (k := 146) (j := 17) (l := 0) (u := 600) rfl
  refine jt_bV (sp_X12_tells E d (jd_le hd rfl) y1 (-1) a b0 hv (show (0 ≤ y1 ∧ y1 ≤ 299) from by omega) (show a 146 17 ≤ 599 from by omega)) (fun a268_ b268_ h268_ => ?_)
  obtain ⟨hv268_, hf268_, rfl⟩ := h268_
  have hf269_ : jfr jW_X12_back a0 a268_ := jfr_tr hf hf268_ rfl
  exact jt_rI ⟨hv268_, hf269_, rfl, (show (0 ≤ 1 ∧ 1 ≤ 1) from by omega)⟩
theorem cp_X12_back_24 (E : jxE) (d : Nat) (hd : Nat.ble 2 (d + 1) = true) (x1 : Int) (a0 b0 : Nat → Nat → Int) (hv0 : iv a0) : ∀ (y1 : Int) (a : Nat → Nat → Int), iv a → jfr jW_X12_back a0 a → 0 ≤ y1 → y1 ≤ 299 → jt (jxX E d 258 24 [some (.inr (.inr (.inl 146))), some (.inl y1)] [] (jxSH, a, b0)) (jQ_X12_back x1 a0 b0) := by
  intro y1 a hv hf hi0 hi1
  refine jt_eq (bq_X12_back_24 E d y1 a b0) ?_
  have h270_ := iv_get hv (k := 146) (j := 17) (l := 0) (u := 600) rfl
  refine jt_ite (fun c271_ => ?_) (fun c271_ => ?_)
  ·
    exact cp_X12_back_58 E d hd x1 a0 b0 hv0 a hv hf
  ·
    refine jt_grd (by omega) ?_
    have h272_ := iv_get hv (k := 160) (j := y1.toNat) (l := (-1)) (u := 599) rfl
    refine jt_ite (fun c273_ => ?_) (fun c273_ => ?_)
    ·
      exact cp_X12_back_58 E d hd x1 a0 b0 hv0 a hv hf
    ·
      refine jt_grd (by omega) ?_
      refine jt_grd (by omega) ?_
      refine jt_ite (fun c274_ => ?_) (fun c274_ => ?_)
      ·
        exact cp_X12_back_58 E d hd x1 a0 b0 hv0 a hv hf
      ·
        exact cp_X12_back_60 E d hd x1 a0 b0 hv0 y1 a hv hf (show 0 ≤ y1 from by omega) (show y1 ≤ 299 from by omega) (show a 146 17 ≤ 599 from by omega)
theorem sp_X12_back (E : jxE) (d : Nat) (hd : Nat.ble 2 d = true) (x1 : Int) (a0 b0 : Nat → Nat → Int) (hv0 : iv a0) : jt (jxC E d 258 [.inr (.inr (.inl 146)), .inl x1] (jxSH, a0, b0)) (jQ_X12_back x1 a0 b0) := by
  obtain ⟨d, rfl⟩ := jd_succ hd
  refine jt_eq (bq_X12_back E d x1 a0 b0) ?_
  refine jt_eI (eq_X12_in E d (jd_le hd rfl) x1 0 (jxw ((a0 146 9) - 1)) a0 b0) ?_
  have h275_ := iv_get hv0 (k := 146) (j := 9) (l := 0) (u := 300) rfl
  have h276_ : jxw ((a0 146 9) - 1) = (a0 146 9) - 1 := jxw_id (by omega) (by omega)
  have h277_ := f_X12_in_eq a0 b0 x1 0 (jxw ((a0 146 9) - 1))
  refine jt_ite (fun c278_ => ?_) (fun c278_ => ?_)
  ·
    exact cp_X12_back_58 E d hd x1 a0 b0 hv0 a0 hv0 (jfr_rf _ _)
  ·
    refine jt_grd (by omega) ?_
    refine jt_ite (fun c279_ => ?_) (fun c279_ => ?_)
    ·
      exact cp_X12_back_24 E d hd x1 a0 b0 hv0 x1 a0 hv0 (jfr_rf _ _) (show 0 ≤ x1 from by omega) (show x1 ≤ 299 from by omega)
    ·
      exact cp_X12_back_58 E d hd x1 a0 b0 hv0 a0 hv0 (jfr_rf _ _)
abbrev jQ_X12_best (x1 x2 : Int) (a0 b0 : Nat → Nat → Int) : List jxV → (Nat → Nat → Int) → (Nat → Nat → Int) → Prop := rJ (fun r a b => (a0 = a))
theorem cp_X12_best_49 (E : jxE) (d : Nat) (hd : Nat.ble 1 (d + 1) = true) (x1 x2 : Int) (a0 b0 : Nat → Nat → Int) (hv0 : iv a0) (hp0 : (0 ≤ x1 ∧ x1 ≤ 255)) : ∀ n : Nat, (∀ (y1 y2 y4 y5 y6 y7 y9 : Int) (b : Nat → Nat → Int), (((((((y5 + 1) * 5677) + 0) + ((256 - y6) * 22)) + 0) + ((8 - y9) * 1)) + 0).toNat ≤ n → 0 ≤ y1 → y1 ≤ 255 → 1 ≤ y4 → y4 ≤ 256 → 0 ≤ y5 → y5 ≤ 39 → 0 ≤ y6 → y6 ≤ 255 → 0 ≤ y9 → y9 ≤ 7 → jt (jxX E d 253 192 [some (.inr (.inr (.inl 146))), some (.inl y1), some (.inr (.inl y2)), none, some (.inl y4), some (.inl y5), some (.inl y6), some (.inr (.inl y7)), none, some (.inl y9), none, none] [] (jxSH, a0, b)) (jQ_X12_best x1 x2 a0 b0)) ∧ (∀ (y1 y2 y4 y5 y6 y7 y9 y10 : Int) (b : Nat → Nat → Int), (((((((y5 + 1) * 5677) + 0) + ((256 - y6) * 22)) + 0) + ((8 - y9) * 1)) + 0).toNat ≤ n → 0 ≤ y1 → y1 ≤ 255 → 1 ≤ y4 → y4 ≤ 256 → 0 ≤ y5 → y5 ≤ 39 → 0 ≤ y6 → y6 ≤ 255 → 0 ≤ y9 → y9 ≤ 7 → jt (jxX E d 253 175 [some (.inr (.inr (.inl 146))), some (.inl y1), some (.inr (.inl y2)), none, some (.inl y4), some (.inl y5), some (.inl y6), some (.inr (.inl y7)), none, some (.inl y9), some (.inr (.inl y10)), none] [] (jxSH, a0, b)) (jQ_X12_best x1 x2 a0 b0)) ∧ (∀ (y1 y2 y4 y5 y6 y7 y9 : Int) (b : Nat → Nat → Int), (((((((y5 + 1) * 5677) + 0) + ((256 - y6) * 22)) + 0) + ((8 - y9) * 1)) + 0).toNat ≤ n → 0 ≤ y1 → y1 ≤ 255 → 1 ≤ y4 → y4 ≤ 256 → 0 ≤ y5 → y5 ≤ 39 → 0 ≤ y6 → y6 ≤ 255 → 0 ≤ y9 → y9 ≤ 7 → jt (jxX E d 253 115 [some (.inr (.inr (.inl 146))), some (.inl y1), some (.inr (.inl y2)), none, some (.inl y4), some (.inl y5), some (.inl y6), some (.inr (.inl y7)), none, some (.inl y9), none, none] [] (jxSH, a0, b)) (jQ_X12_best x1 x2 a0 b0)) ∧ (∀ (y1 y2 y4 y5 y6 : Int) (b : Nat → Nat → Int), (((((y5 + 1) * 5677) + 0) + ((256 - y6) * 22)) + 11).toNat ≤ n → 0 ≤ y1 → y1 ≤ 255 → 1 ≤ y4 → y4 ≤ 256 → 0 ≤ y5 → y5 ≤ 39 → 1 ≤ y6 → y6 ≤ 256 → jt (jxX E d 253 217 [some (.inr (.inr (.inl 146))), some (.inl y1), some (.inr (.inl y2)), none, some (.inl y4), some (.inl y5), some (.inl y6), none, none, none, none, none] [] (jxSH, a0, b)) (jQ_X12_best x1 x2 a0 b0)) ∧ (∀ (y1 y2 y4 y5 y6 y7 y9 : Int) (b : Nat → Nat → Int), (((((((y5 + 1) * 5677) + 0) + ((256 - y6) * 22)) + 0) + ((8 - y9) * 1)) + 0).toNat ≤ n → 0 ≤ y1 → y1 ≤ 255 → 1 ≤ y4 → y4 ≤ 256 → 0 ≤ y5 → y5 ≤ 39 → 0 ≤ y6 → y6 ≤ 255 → 0 ≤ y9 → y9 ≤ 8 → jt (jxX E d 253 85 [some (.inr (.inr (.inl 146))), some (.inl y1), some (.inr (.inl y2)), none, some (.inl y4), some (.inl y5), some (.inl y6), some (.inr (.inl y7)), none, some (.inl y9), none, none] [] (jxSH, a0, b)) (jQ_X12_best x1 x2 a0 b0)) ∧ (∀ (y1 y2 y4 y5 y6 y7 : Int) (b : Nat → Nat → Int), (((((y5 + 1) * 5677) + 0) + ((256 - y6) * 22)) + 10).toNat ≤ n → 0 ≤ y1 → y1 ≤ 255 → 1 ≤ y4 → y4 ≤ 256 → 0 ≤ y5 → y5 ≤ 39 → 0 ≤ y6 → y6 ≤ 255 → jt (jxX E d 253 82 [some (.inr (.inr (.inl 146))), some (.inl y1), some (.inr (.inl y2)), none, some (.inl y4), some (.inl y5), some (.inl y6), some (.inr (.inl y7)), none, none, none, none] [] (jxSH, a0, b)) (jQ_X12_best x1 x2 a0 b0)) ∧ (∀ (y1 y2 y4 y5 y6 : Int) (b : Nat → Nat → Int), (((((y5 + 1) * 5677) + 0) + ((256 - y6) * 22)) + 10).toNat ≤ n → 0 ≤ y1 → y1 ≤ 255 → 1 ≤ y4 → y4 ≤ 256 → 0 ≤ y5 → y5 ≤ 39 → 0 ≤ y6 → y6 ≤ 256 → jt (jxX E d 253 57 [some (.inr (.inr (.inl 146))), some (.inl y1), some (.inr (.inl y2)), none, some (.inl y4), some (.inl y5), some (.inl y6), none, none, none, none, none] [] (jxSH, a0, b)) (jQ_X12_best x1 x2 a0 b0)) ∧ (∀ (y1 y2 y4 y5 : Int) (b : Nat → Nat → Int), (((y5 + 1) * 5677) + 5676).toNat ≤ n → 0 ≤ y1 → y1 ≤ 255 → 1 ≤ y4 → y4 ≤ 256 → 0 - 1 ≤ y5 → y5 ≤ 39 → jt (jxX E d 253 49 [some (.inr (.inr (.inl 146))), some (.inl y1), some (.inr (.inl y2)), none, some (.inl y4), some (.inl y5), none, none, none, none, none, none] [] (jxSH, a0, b)) (jQ_X12_best x1 x2 a0 b0)) := by
  refine jx_ind fun n ih => ?_
  have ih192 : ∀ (y1 y2 y4 y5 y6 y7 y9 : Int) (b : Nat → Nat → Int), (((((((y5 + 1) * 5677) + 0) + ((256 - y6) * 22)) + 0) + ((8 - y9) * 1)) + 0).toNat < n → 0 ≤ y1 → y1 ≤ 255 → 1 ≤ y4 → y4 ≤ 256 → 0 ≤ y5 → y5 ≤ 39 → 0 ≤ y6 → y6 ≤ 255 → 0 ≤ y9 → y9 ≤ 7 → jt (jxX E d 253 192 [some (.inr (.inr (.inl 146))), some (.inl y1), some (.inr (.inl y2)), none, some (.inl y4), some (.inl y5), some (.inl y6), some (.inr (.inl y7)), none, some (.inl y9), none, none] [] (jxSH, a0, b)) (jQ_X12_best x1 x2 a0 b0) := fun y1 y2 y4 y5 y6 y7 y9 b hlt i0 i1 i2 i3 i4 i5 i6 i7 i8 i9 => (ih _ hlt).1 y1 y2 y4 y5 y6 y7 y9 b (Nat.le_refl _) i0 i1 i2 i3 i4 i5 i6 i7 i8 i9
  have ih175 : ∀ (y1 y2 y4 y5 y6 y7 y9 y10 : Int) (b : Nat → Nat → Int), (((((((y5 + 1) * 5677) + 0) + ((256 - y6) * 22)) + 0) + ((8 - y9) * 1)) + 0).toNat < n → 0 ≤ y1 → y1 ≤ 255 → 1 ≤ y4 → y4 ≤ 256 → 0 ≤ y5 → y5 ≤ 39 → 0 ≤ y6 → y6 ≤ 255 → 0 ≤ y9 → y9 ≤ 7 → jt (jxX E d 253 175 [some (.inr (.inr (.inl 146))), some (.inl y1), some (.inr (.inl y2)), none, some (.inl y4), some (.inl y5), some (.inl y6), some (.inr (.inl y7)), none, some (.inl y9), some (.inr (.inl y10)), none] [] (jxSH, a0, b)) (jQ_X12_best x1 x2 a0 b0) := fun y1 y2 y4 y5 y6 y7 y9 y10 b hlt i0 i1 i2 i3 i4 i5 i6 i7 i8 i9 => (ih _ hlt).2.1 y1 y2 y4 y5 y6 y7 y9 y10 b (Nat.le_refl _) i0 i1 i2 i3 i4 i5 i6 i7 i8 i9
  have ih115 : ∀ (y1 y2 y4 y5 y6 y7 y9 : Int) (b : Nat → Nat → Int), (((((((y5 + 1) * 5677) + 0) + ((256 - y6) * 22)) + 0) + ((8 - y9) * 1)) + 0).toNat < n → 0 ≤ y1 → y1 ≤ 255 → 1 ≤ y4 → y4 ≤ 256 → 0 ≤ y5 → y5 ≤ 39 → 0 ≤ y6 → y6 ≤ 255 → 0 ≤ y9 → y9 ≤ 7 → jt (jxX E d 253 115 [some (.inr (.inr (.inl 146))), some (.inl y1), some (.inr (.inl y2)), none, some (.inl y4), some (.inl y5), some (.inl y6), some (.inr (.inl y7)), none, some (.inl y9), none, none] [] (jxSH, a0, b)) (jQ_X12_best x1 x2 a0 b0) := fun y1 y2 y4 y5 y6 y7 y9 b hlt i0 i1 i2 i3 i4 i5 i6 i7 i8 i9 => (ih _ hlt).2.2.1 y1 y2 y4 y5 y6 y7 y9 b (Nat.le_refl _) i0 i1 i2 i3 i4 i5 i6 i7 i8 i9
  have ih217 : ∀ (y1 y2 y4 y5 y6 : Int) (b : Nat → Nat → Int), (((((y5 + 1) * 5677) + 0) + ((256 - y6) * 22)) + 11).toNat < n → 0 ≤ y1 → y1 ≤ 255 → 1 ≤ y4 → y4 ≤ 256 → 0 ≤ y5 → y5 ≤ 39 → 1 ≤ y6 → y6 ≤ 256 → jt (jxX E d 253 217 [some (.inr (.inr (.inl 146))), some (.inl y1), some (.inr (.inl y2)), none, some (.inl y4), some (.inl y5), some (.inl y6), none, none, none, none, none] [] (jxSH, a0, b)) (jQ_X12_best x1 x2 a0 b0) := fun y1 y2 y4 y5 y6 b hlt i0 i1 i2 i3 i4 i5 i6 i7 => (ih _ hlt).2.2.2.1 y1 y2 y4 y5 y6 b (Nat.le_refl _) i0 i1 i2 i3 i4 i5 i6 i7
  have ih85 : ∀ (y1 y2 y4 y5 y6 y7 y9 : Int) (b : Nat → Nat → Int), (((((((y5 + 1) * 5677) + 0) + ((256 - y6) * 22)) + 0) + ((8 - y9) * 1)) + 0).toNat < n → 0 ≤ y1 → y1 ≤ 255 → 1 ≤ y4 → y4 ≤ 256 → 0 ≤ y5 → y5 ≤ 39 → 0 ≤ y6 → y6 ≤ 255 → 0 ≤ y9 → y9 ≤ 8 → jt (jxX E d 253 85 [some (.inr (.inr (.inl 146))), some (.inl y1), some (.inr (.inl y2)), none, some (.inl y4), some (.inl y5), some (.inl y6), some (.inr (.inl y7)), none, some (.inl y9), none, none] [] (jxSH, a0, b)) (jQ_X12_best x1 x2 a0 b0) := fun y1 y2 y4 y5 y6 y7 y9 b hlt i0 i1 i2 i3 i4 i5 i6 i7 i8 i9 => (ih _ hlt).2.2.2.2.1 y1 y2 y4 y5 y6 y7 y9 b (Nat.le_refl _) i0 i1 i2 i3 i4 i5 i6 i7 i8 i9
  have ih82 : ∀ (y1 y2 y4 y5 y6 y7 : Int) (b : Nat → Nat → Int), (((((y5 + 1) * 5677) + 0) + ((256 - y6) * 22)) + 10).toNat < n → 0 ≤ y1 → y1 ≤ 255 → 1 ≤ y4 → y4 ≤ 256 → 0 ≤ y5 → y5 ≤ 39 → 0 ≤ y6 → y6 ≤ 255 → jt (jxX E d 253 82 [some (.inr (.inr (.inl 146))), some (.inl y1), some (.inr (.inl y2)), none, some (.inl y4), some (.inl y5), some (.inl y6), some (.inr (.inl y7)), none, none, none, none] [] (jxSH, a0, b)) (jQ_X12_best x1 x2 a0 b0) := fun y1 y2 y4 y5 y6 y7 b hlt i0 i1 i2 i3 i4 i5 i6 i7 => (ih _ hlt).2.2.2.2.2.1 y1 y2 y4 y5 y6 y7 b (Nat.le_refl _) i0 i1 i2 i3 i4 i5 i6 i7
  have ih57 : ∀ (y1 y2 y4 y5 y6 : Int) (b : Nat → Nat → Int), (((((y5 + 1) * 5677) + 0) + ((256 - y6) * 22)) + 10).toNat < n → 0 ≤ y1 → y1 ≤ 255 → 1 ≤ y4 → y4 ≤ 256 → 0 ≤ y5 → y5 ≤ 39 → 0 ≤ y6 → y6 ≤ 256 → jt (jxX E d 253 57 [some (.inr (.inr (.inl 146))), some (.inl y1), some (.inr (.inl y2)), none, some (.inl y4), some (.inl y5), some (.inl y6), none, none, none, none, none] [] (jxSH, a0, b)) (jQ_X12_best x1 x2 a0 b0) := fun y1 y2 y4 y5 y6 b hlt i0 i1 i2 i3 i4 i5 i6 i7 => (ih _ hlt).2.2.2.2.2.2.1 y1 y2 y4 y5 y6 b (Nat.le_refl _) i0 i1 i2 i3 i4 i5 i6 i7
  have ih49 : ∀ (y1 y2 y4 y5 : Int) (b : Nat → Nat → Int), (((y5 + 1) * 5677) + 5676).toNat < n → 0 ≤ y1 → y1 ≤ 255 → 1 ≤ y4 → y4 ≤ 256 → 0 - 1 ≤ y5 → y5 ≤ 39 → jt (jxX E d 253 49 [some (.inr (.inr (.inl 146))), some (.inl y1), some (.inr (.inl y2)), none, some (.inl y4), some (.inl y5), none, none, none, none, none, none] [] (jxSH, a0, b)) (jQ_X12_best x1 x2 a0 b0) := fun y1 y2 y4 y5 b hlt i0 i1 i2 i3 i4 i5 => (ih _ hlt).2.2.2.2.2.2.2 y1 y2 y4 y5 b (Nat.le_refl _) i0 i1 i2 i3 i4 i5
  have hc192 : ∀ (y1 y2 y4 y5 y6 y7 y9 : Int) (b : Nat → Nat → Int), (((((((y5 + 1) * 5677) + 0) + ((256 - y6) * 22)) + 0) + ((8 - y9) * 1)) + 0).toNat ≤ n → 0 ≤ y1 → y1 ≤ 255 → 1 ≤ y4 → y4 ≤ 256 → 0 ≤ y5 → y5 ≤ 39 → 0 ≤ y6 → y6 ≤ 255 → 0 ≤ y9 → y9 ≤ 7 → jt (jxX E d 253 192 [some (.inr (.inr (.inl 146))), some (.inl y1), some (.inr (.inl y2)), none, some (.inl y4), some (.inl y5), some (.inl y6), some (.inr (.inl y7)), none, some (.inl y9), none, none] [] (jxSH, a0, b)) (jQ_X12_best x1 x2 a0 b0) := by
    intro y1 y2 y4 y5 y6 y7 y9 b hm hi0 hi1 hi2 hi3 hi4 hi5 hi6 hi7 hi8 hi9
    refine jt_eq (bq_X12_best_192 E d y1 y2 y4 y5 y6 y7 y9 a0 b) ?_
    have h280_ : jxw (y9 + 1) = y9 + 1 := jxw_id (by omega) (by omega)
    exact ih85 y1 y2 y4 y5 y6 y7 (jxw (y9 + 1)) b (show (((((((y5 + 1) * 5677) + 0) + ((256 - y6) * 22)) + 0) + ((8 - (jxw (y9 + 1))) * 1)) + 0).toNat < n from by omega) (show 0 ≤ y1 from by omega) (show y1 ≤ 255 from by omega) (show 1 ≤ y4 from by omega) (show y4 ≤ 256 from by omega) (show 0 ≤ y5 from by omega) (show y5 ≤ 39 from by omega) (show 0 ≤ y6 from by omega) (show y6 ≤ 255 from by omega) (show 0 ≤ jxw (y9 + 1) from by omega) (show jxw (y9 + 1) ≤ 8 from by omega)
  have hc175 : ∀ (y1 y2 y4 y5 y6 y7 y9 y10 : Int) (b : Nat → Nat → Int), (((((((y5 + 1) * 5677) + 0) + ((256 - y6) * 22)) + 0) + ((8 - y9) * 1)) + 0).toNat ≤ n → 0 ≤ y1 → y1 ≤ 255 → 1 ≤ y4 → y4 ≤ 256 → 0 ≤ y5 → y5 ≤ 39 → 0 ≤ y6 → y6 ≤ 255 → 0 ≤ y9 → y9 ≤ 7 → jt (jxX E d 253 175 [some (.inr (.inr (.inl 146))), some (.inl y1), some (.inr (.inl y2)), none, some (.inl y4), some (.inl y5), some (.inl y6), some (.inr (.inl y7)), none, some (.inl y9), some (.inr (.inl y10)), none] [] (jxSH, a0, b)) (jQ_X12_best x1 x2 a0 b0) := by
    intro y1 y2 y4 y5 y6 y7 y9 y10 b hm hi0 hi1 hi2 hi3 hi4 hi5 hi6 hi7 hi8 hi9
    refine jt_eq (bq_X12_best_175 E d y1 y2 y4 y5 y6 y7 y9 y10 a0 b) ?_
    have h281_ := jxlcmp_b y10 y7
    refine jt_ite (fun c282_ => ?_) (fun c282_ => ?_)
    ·
      exact hc192 y1 y2 y4 y5 y6 y10 y9 b (show (((((((y5 + 1) * 5677) + 0) + ((256 - y6) * 22)) + 0) + ((8 - y9) * 1)) + 0).toNat ≤ n from by omega) (show 0 ≤ y1 from by omega) (show y1 ≤ 255 from by omega) (show 1 ≤ y4 from by omega) (show y4 ≤ 256 from by omega) (show 0 ≤ y5 from by omega) (show y5 ≤ 39 from by omega) (show 0 ≤ y6 from by omega) (show y6 ≤ 255 from by omega) (show 0 ≤ y9 from by omega) (show y9 ≤ 7 from by omega)
    ·
      exact hc192 y1 y2 y4 y5 y6 y7 y9 b (show (((((((y5 + 1) * 5677) + 0) + ((256 - y6) * 22)) + 0) + ((8 - y9) * 1)) + 0).toNat ≤ n from by omega) (show 0 ≤ y1 from by omega) (show y1 ≤ 255 from by omega) (show 1 ≤ y4 from by omega) (show y4 ≤ 256 from by omega) (show 0 ≤ y5 from by omega) (show y5 ≤ 39 from by omega) (show 0 ≤ y6 from by omega) (show y6 ≤ 255 from by omega) (show 0 ≤ y9 from by omega) (show y9 ≤ 7 from by omega)
  have hc115 : ∀ (y1 y2 y4 y5 y6 y7 y9 : Int) (b : Nat → Nat → Int), (((((((y5 + 1) * 5677) + 0) + ((256 - y6) * 22)) + 0) + ((8 - y9) * 1)) + 0).toNat ≤ n → 0 ≤ y1 → y1 ≤ 255 → 1 ≤ y4 → y4 ≤ 256 → 0 ≤ y5 → y5 ≤ 39 → 0 ≤ y6 → y6 ≤ 255 → 0 ≤ y9 → y9 ≤ 7 → jt (jxX E d 253 115 [some (.inr (.inr (.inl 146))), some (.inl y1), some (.inr (.inl y2)), none, some (.inl y4), some (.inl y5), some (.inl y6), some (.inr (.inl y7)), none, some (.inl y9), none, none] [] (jxSH, a0, b)) (jQ_X12_best x1 x2 a0 b0) := by
    intro y1 y2 y4 y5 y6 y7 y9 b hm hi0 hi1 hi2 hi3 hi4 hi5 hi6 hi7 hi8 hi9
    refine jt_eq (bq_X12_best_115 E d y1 y2 y4 y5 y6 y7 y9 a0 b) ?_
    have h283_ : jxw (40 * y9) = 40 * y9 := jxw_id (by omega) (by omega)
    have h284_ : jxw ((jxw (40 * y9)) + y5) = (jxw (40 * y9)) + y5 := jxw_id (by omega) (by omega)
    refine jt_grd (by omega) ?_
    have h285_ := jxlcmp_b (b 175 ((jxw ((jxw (40 * y9)) + y5)).toNat)) (-4000000000000000000)
    refine jt_ite (fun c286_ => ?_) (fun c286_ => ?_)
    ·
      exact hc192 y1 y2 y4 y5 y6 y7 y9 b (show (((((((y5 + 1) * 5677) + 0) + ((256 - y6) * 22)) + 0) + ((8 - y9) * 1)) + 0).toNat ≤ n from by omega) (show 0 ≤ y1 from by omega) (show y1 ≤ 255 from by omega) (show 1 ≤ y4 from by omega) (show y4 ≤ 256 from by omega) (show 0 ≤ y5 from by omega) (show y5 ≤ 39 from by omega) (show 0 ≤ y6 from by omega) (show y6 ≤ 255 from by omega) (show 0 ≤ y9 from by omega) (show y9 ≤ 7 from by omega)
    ·
      refine jt_grd (by omega) ?_
      have h287_ : jxw (y5 + 1) = y5 + 1 := jxw_id (by omega) (by omega)
      have h288_ : jxw (256 * (jxw (y5 + 1))) = 256 * (jxw (y5 + 1)) := jxw_id (by omega) (by omega)
      have h289_ := jxshl1_b y9
      have h290_ := jxxor_b y6 (jxshl 1 y9)
      have h291_ : jxw ((jxw (256 * (jxw (y5 + 1)))) + (jxxor y6 (jxshl 1 y9))) = (jxw (256 * (jxw (y5 + 1)))) + (jxxor y6 (jxshl 1 y9)) := jxw_id (by omega) (by omega)
      refine jt_grd (by omega) ?_
      exact hc175 y1 y2 y4 y5 y6 y7 y9 (jxwl ((b 175 ((jxw ((jxw (40 * y9)) + y5)).toNat)) + (b 177 ((jxw ((jxw (256 * (jxw (y5 + 1)))) + (jxxor y6 (jxshl 1 y9)))).toNat)))) b (show (((((((y5 + 1) * 5677) + 0) + ((256 - y6) * 22)) + 0) + ((8 - y9) * 1)) + 0).toNat ≤ n from by omega) (show 0 ≤ y1 from by omega) (show y1 ≤ 255 from by omega) (show 1 ≤ y4 from by omega) (show y4 ≤ 256 from by omega) (show 0 ≤ y5 from by omega) (show y5 ≤ 39 from by omega) (show 0 ≤ y6 from by omega) (show y6 ≤ 255 from by omega) (show 0 ≤ y9 from by omega) (show y9 ≤ 7 from by omega)
  have hc217 : ∀ (y1 y2 y4 y5 y6 : Int) (b : Nat → Nat → Int), (((((y5 + 1) * 5677) + 0) + ((256 - y6) * 22)) + 11).toNat ≤ n → 0 ≤ y1 → y1 ≤ 255 → 1 ≤ y4 → y4 ≤ 256 → 0 ≤ y5 → y5 ≤ 39 → 1 ≤ y6 → y6 ≤ 256 → jt (jxX E d 253 217 [some (.inr (.inr (.inl 146))), some (.inl y1), some (.inr (.inl y2)), none, some (.inl y4), some (.inl y5), some (.inl y6), none, none, none, none, none] [] (jxSH, a0, b)) (jQ_X12_best x1 x2 a0 b0) := by
    intro y1 y2 y4 y5 y6 b hm hi0 hi1 hi2 hi3 hi4 hi5 hi6 hi7
    refine jt_eq (bq_X12_best_217 E d y1 y2 y4 y5 y6 a0 b) ?_
    exact ih57 y1 y2 y4 y5 y6 b (show (((((y5 + 1) * 5677) + 0) + ((256 - y6) * 22)) + 10).toNat < n from by omega) (show 0 ≤ y1 from by omega) (show y1 ≤ 255 from by omega) (show 1 ≤ y4 from by omega) (show y4 ≤ 256 from by omega) (show 0 ≤ y5 from by omega) (show y5 ≤ 39 from by omega) (show 0 ≤ y6 from by omega) (show y6 ≤ 256 from by omega)
  have hc85 : ∀ (y1 y2 y4 y5 y6 y7 y9 : Int) (b : Nat → Nat → Int), (((((((y5 + 1) * 5677) + 0) + ((256 - y6) * 22)) + 0) + ((8 - y9) * 1)) + 0).toNat ≤ n → 0 ≤ y1 → y1 ≤ 255 → 1 ≤ y4 → y4 ≤ 256 → 0 ≤ y5 → y5 ≤ 39 → 0 ≤ y6 → y6 ≤ 255 → 0 ≤ y9 → y9 ≤ 8 → jt (jxX E d 253 85 [some (.inr (.inr (.inl 146))), some (.inl y1), some (.inr (.inl y2)), none, some (.inl y4), some (.inl y5), some (.inl y6), some (.inr (.inl y7)), none, some (.inl y9), none, none] [] (jxSH, a0, b)) (jQ_X12_best x1 x2 a0 b0) := by
    intro y1 y2 y4 y5 y6 y7 y9 b hm hi0 hi1 hi2 hi3 hi4 hi5 hi6 hi7 hi8 hi9
    refine jt_eq (bq_X12_best_85 E d y1 y2 y4 y5 y6 y7 y9 a0 b) ?_
    have h292_ := iv_get hv0 (k := 146) (j := 44) (l := 0) (u := 8) rfl
    refine jt_ite (fun c293_ => ?_) (fun c293_ => ?_)
    ·
      have h294_ := jxshr_b y6 y9
      have h295_ := jxand_r (jxshr y6 y9) 1 (by decide) (by decide)
      refine jt_ite (fun c296_ => ?_) (fun c296_ => ?_)
      ·
        exact hc192 y1 y2 y4 y5 y6 y7 y9 b (show (((((((y5 + 1) * 5677) + 0) + ((256 - y6) * 22)) + 0) + ((8 - y9) * 1)) + 0).toNat ≤ n from by omega) (show 0 ≤ y1 from by omega) (show y1 ≤ 255 from by omega) (show 1 ≤ y4 from by omega) (show y4 ≤ 256 from by omega) (show 0 ≤ y5 from by omega) (show y5 ≤ 39 from by omega) (show 0 ≤ y6 from by omega) (show y6 ≤ 255 from by omega) (show 0 ≤ y9 from by omega) (show y9 ≤ 7 from by omega)
      ·
        have h297_ := jxlcmp_b (jxandl (jxshrl y2 y5) 1) 1
        refine jt_ite (fun c298_ => ?_) (fun c298_ => ?_)
        ·
          exact hc192 y1 y2 y4 y5 y6 y7 y9 b (show (((((((y5 + 1) * 5677) + 0) + ((256 - y6) * 22)) + 0) + ((8 - y9) * 1)) + 0).toNat ≤ n from by omega) (show 0 ≤ y1 from by omega) (show y1 ≤ 255 from by omega) (show 1 ≤ y4 from by omega) (show y4 ≤ 256 from by omega) (show 0 ≤ y5 from by omega) (show y5 ≤ 39 from by omega) (show 0 ≤ y6 from by omega) (show y6 ≤ 255 from by omega) (show 0 ≤ y9 from by omega) (show y9 ≤ 7 from by omega)
        ·
          exact hc115 y1 y2 y4 y5 y6 y7 y9 b (show (((((((y5 + 1) * 5677) + 0) + ((256 - y6) * 22)) + 0) + ((8 - y9) * 1)) + 0).toNat ≤ n from by omega) (show 0 ≤ y1 from by omega) (show y1 ≤ 255 from by omega) (show 1 ≤ y4 from by omega) (show y4 ≤ 256 from by omega) (show 0 ≤ y5 from by omega) (show y5 ≤ 39 from by omega) (show 0 ≤ y6 from by omega) (show y6 ≤ 255 from by omega) (show 0 ≤ y9 from by omega) (show y9 ≤ 7 from by omega)
    ·
      have h299_ : jxw (256 * y5) = 256 * y5 := jxw_id (by omega) (by omega)
      have h300_ : jxw ((jxw (256 * y5)) + y6) = (jxw (256 * y5)) + y6 := jxw_id (by omega) (by omega)
      refine jt_grd (by omega) ?_
      have h301_ : jxw (y6 + 1) = y6 + 1 := jxw_id (by omega) (by omega)
      exact hc217 y1 y2 y4 y5 (jxw (y6 + 1)) (jxu b 177 ((jxw ((jxw (256 * y5)) + y6)).toNat) y7) (show (((((y5 + 1) * 5677) + 0) + ((256 - (jxw (y6 + 1))) * 22)) + 11).toNat ≤ n from by omega) (show 0 ≤ y1 from by omega) (show y1 ≤ 255 from by omega) (show 1 ≤ y4 from by omega) (show y4 ≤ 256 from by omega) (show 0 ≤ y5 from by omega) (show y5 ≤ 39 from by omega) (show 1 ≤ jxw (y6 + 1) from by omega) (show jxw (y6 + 1) ≤ 256 from by omega)
  have hc82 : ∀ (y1 y2 y4 y5 y6 y7 : Int) (b : Nat → Nat → Int), (((((y5 + 1) * 5677) + 0) + ((256 - y6) * 22)) + 10).toNat ≤ n → 0 ≤ y1 → y1 ≤ 255 → 1 ≤ y4 → y4 ≤ 256 → 0 ≤ y5 → y5 ≤ 39 → 0 ≤ y6 → y6 ≤ 255 → jt (jxX E d 253 82 [some (.inr (.inr (.inl 146))), some (.inl y1), some (.inr (.inl y2)), none, some (.inl y4), some (.inl y5), some (.inl y6), some (.inr (.inl y7)), none, none, none, none] [] (jxSH, a0, b)) (jQ_X12_best x1 x2 a0 b0) := by
    intro y1 y2 y4 y5 y6 y7 b hm hi0 hi1 hi2 hi3 hi4 hi5 hi6 hi7
    refine jt_eq (bq_X12_best_82 E d y1 y2 y4 y5 y6 y7 a0 b) ?_
    exact hc85 y1 y2 y4 y5 y6 y7 0 b (show (((((((y5 + 1) * 5677) + 0) + ((256 - y6) * 22)) + 0) + ((8 - 0) * 1)) + 0).toNat ≤ n from by omega) (show 0 ≤ y1 from by omega) (show y1 ≤ 255 from by omega) (show 1 ≤ y4 from by omega) (show y4 ≤ 256 from by omega) (show 0 ≤ y5 from by omega) (show y5 ≤ 39 from by omega) (show 0 ≤ y6 from by omega) (show y6 ≤ 255 from by omega) (show 0 ≤ 0 from by omega) (show 0 ≤ 8 from by omega)
  have hc57 : ∀ (y1 y2 y4 y5 y6 : Int) (b : Nat → Nat → Int), (((((y5 + 1) * 5677) + 0) + ((256 - y6) * 22)) + 10).toNat ≤ n → 0 ≤ y1 → y1 ≤ 255 → 1 ≤ y4 → y4 ≤ 256 → 0 ≤ y5 → y5 ≤ 39 → 0 ≤ y6 → y6 ≤ 256 → jt (jxX E d 253 57 [some (.inr (.inr (.inl 146))), some (.inl y1), some (.inr (.inl y2)), none, some (.inl y4), some (.inl y5), some (.inl y6), none, none, none, none, none] [] (jxSH, a0, b)) (jQ_X12_best x1 x2 a0 b0) := by
    intro y1 y2 y4 y5 y6 b hm hi0 hi1 hi2 hi3 hi4 hi5 hi6 hi7
    refine jt_eq (bq_X12_best_57 E d y1 y2 y4 y5 y6 a0 b) ?_
    refine jt_ite (fun c302_ => ?_) (fun c302_ => ?_)
    ·
      have h303_ : jxw (y5 + 1) = y5 + 1 := jxw_id (by omega) (by omega)
      have h304_ : jxw (256 * (jxw (y5 + 1))) = 256 * (jxw (y5 + 1)) := jxw_id (by omega) (by omega)
      have h305_ : jxw ((jxw (256 * (jxw (y5 + 1)))) + y6) = (jxw (256 * (jxw (y5 + 1)))) + y6 := jxw_id (by omega) (by omega)
      refine jt_grd (by omega) ?_
      exact hc82 y1 y2 y4 y5 y6 (b 177 ((jxw ((jxw (256 * (jxw (y5 + 1)))) + y6)).toNat)) b (show (((((y5 + 1) * 5677) + 0) + ((256 - y6) * 22)) + 10).toNat ≤ n from by omega) (show 0 ≤ y1 from by omega) (show y1 ≤ 255 from by omega) (show 1 ≤ y4 from by omega) (show y4 ≤ 256 from by omega) (show 0 ≤ y5 from by omega) (show y5 ≤ 39 from by omega) (show 0 ≤ y6 from by omega) (show y6 ≤ 255 from by omega)
    ·
      have h306_ : jxw (y5 + (-1)) = y5 + (-1) := jxw_id (by omega) (by omega)
      exact ih49 y1 y2 y4 (jxw (y5 + (-1))) b (show ((((jxw (y5 + (-1))) + 1) * 5677) + 5676).toNat < n from by omega) (show 0 ≤ y1 from by omega) (show y1 ≤ 255 from by omega) (show 1 ≤ y4 from by omega) (show y4 ≤ 256 from by omega) (show 0 - 1 ≤ jxw (y5 + (-1)) from by omega) (show jxw (y5 + (-1)) ≤ 39 from by omega)
  have hc49 : ∀ (y1 y2 y4 y5 : Int) (b : Nat → Nat → Int), (((y5 + 1) * 5677) + 5676).toNat ≤ n → 0 ≤ y1 → y1 ≤ 255 → 1 ≤ y4 → y4 ≤ 256 → 0 - 1 ≤ y5 → y5 ≤ 39 → jt (jxX E d 253 49 [some (.inr (.inr (.inl 146))), some (.inl y1), some (.inr (.inl y2)), none, some (.inl y4), some (.inl y5), none, none, none, none, none, none] [] (jxSH, a0, b)) (jQ_X12_best x1 x2 a0 b0) := by
    intro y1 y2 y4 y5 b hm hi0 hi1 hi2 hi3 hi4 hi5
    refine jt_eq (bq_X12_best_49 E d y1 y2 y4 y5 a0 b) ?_
    refine jt_ite (fun c307_ => ?_) (fun c307_ => ?_)
    ·
      refine jt_grd (by omega) ?_
      exact jt_rJ rfl
    ·
      exact hc57 y1 y2 y4 y5 0 b (show (((((y5 + 1) * 5677) + 0) + ((256 - 0) * 22)) + 10).toNat ≤ n from by omega) (show 0 ≤ y1 from by omega) (show y1 ≤ 255 from by omega) (show 1 ≤ y4 from by omega) (show y4 ≤ 256 from by omega) (show 0 ≤ y5 from by omega) (show y5 ≤ 39 from by omega) (show 0 ≤ 0 from by omega) (show 0 ≤ 256 from by omega)
  exact ⟨hc192, hc175, hc115, hc217, hc85, hc82, hc57, hc49⟩
theorem cp_X12_best_11 (E : jxE) (d : Nat) (hd : Nat.ble 1 (d + 1) = true) (x1 x2 : Int) (a0 b0 : Nat → Nat → Int) (hv0 : iv a0) (hp0 : (0 ≤ x1 ∧ x1 ≤ 255)) : ∀ n : Nat, (∀ (y1 y2 y4 y5 : Int) (b : Nat → Nat → Int), (((256 - y5) * 2) + 1).toNat ≤ n → 0 ≤ y1 → y1 ≤ 255 → 1 ≤ y4 → y4 ≤ 256 → 1 ≤ y5 → y5 ≤ 256 → jt (jxX E d 253 38 [some (.inr (.inr (.inl 146))), some (.inl y1), some (.inr (.inl y2)), none, some (.inl y4), some (.inl y5), none, none, none, none, none, none] [] (jxSH, a0, b)) (jQ_X12_best x1 x2 a0 b0)) ∧ (∀ (y1 y2 y4 y5 : Int) (b : Nat → Nat → Int), (((256 - y5) * 2) + 0).toNat ≤ n → 0 ≤ y1 → y1 ≤ 255 → 1 ≤ y4 → y4 ≤ 256 → 0 ≤ y5 → y5 ≤ 256 → jt (jxX E d 253 11 [some (.inr (.inr (.inl 146))), some (.inl y1), some (.inr (.inl y2)), none, some (.inl y4), some (.inl y5), none, none, none, none, none, none] [] (jxSH, a0, b)) (jQ_X12_best x1 x2 a0 b0)) := by
  refine jx_ind fun n ih => ?_
  have ih38 : ∀ (y1 y2 y4 y5 : Int) (b : Nat → Nat → Int), (((256 - y5) * 2) + 1).toNat < n → 0 ≤ y1 → y1 ≤ 255 → 1 ≤ y4 → y4 ≤ 256 → 1 ≤ y5 → y5 ≤ 256 → jt (jxX E d 253 38 [some (.inr (.inr (.inl 146))), some (.inl y1), some (.inr (.inl y2)), none, some (.inl y4), some (.inl y5), none, none, none, none, none, none] [] (jxSH, a0, b)) (jQ_X12_best x1 x2 a0 b0) := fun y1 y2 y4 y5 b hlt i0 i1 i2 i3 i4 i5 => (ih _ hlt).1 y1 y2 y4 y5 b (Nat.le_refl _) i0 i1 i2 i3 i4 i5
  have ih11 : ∀ (y1 y2 y4 y5 : Int) (b : Nat → Nat → Int), (((256 - y5) * 2) + 0).toNat < n → 0 ≤ y1 → y1 ≤ 255 → 1 ≤ y4 → y4 ≤ 256 → 0 ≤ y5 → y5 ≤ 256 → jt (jxX E d 253 11 [some (.inr (.inr (.inl 146))), some (.inl y1), some (.inr (.inl y2)), none, some (.inl y4), some (.inl y5), none, none, none, none, none, none] [] (jxSH, a0, b)) (jQ_X12_best x1 x2 a0 b0) := fun y1 y2 y4 y5 b hlt i0 i1 i2 i3 i4 i5 => (ih _ hlt).2 y1 y2 y4 y5 b (Nat.le_refl _) i0 i1 i2 i3 i4 i5
  have hc38 : ∀ (y1 y2 y4 y5 : Int) (b : Nat → Nat → Int), (((256 - y5) * 2) + 1).toNat ≤ n → 0 ≤ y1 → y1 ≤ 255 → 1 ≤ y4 → y4 ≤ 256 → 1 ≤ y5 → y5 ≤ 256 → jt (jxX E d 253 38 [some (.inr (.inr (.inl 146))), some (.inl y1), some (.inr (.inl y2)), none, some (.inl y4), some (.inl y5), none, none, none, none, none, none] [] (jxSH, a0, b)) (jQ_X12_best x1 x2 a0 b0) := by
    intro y1 y2 y4 y5 b hm hi0 hi1 hi2 hi3 hi4 hi5
    refine jt_eq (bq_X12_best_38 E d y1 y2 y4 y5 a0 b) ?_
    exact ih11 y1 y2 y4 y5 b (show (((256 - y5) * 2) + 0).toNat < n from by omega) (show 0 ≤ y1 from by omega) (show y1 ≤ 255 from by omega) (show 1 ≤ y4 from by omega) (show y4 ≤ 256 from by omega) (show 0 ≤ y5 from by omega) (show y5 ≤ 256 from by omega)
  have hc11 : ∀ (y1 y2 y4 y5 : Int) (b : Nat → Nat → Int), (((256 - y5) * 2) + 0).toNat ≤ n → 0 ≤ y1 → y1 ≤ 255 → 1 ≤ y4 → y4 ≤ 256 → 0 ≤ y5 → y5 ≤ 256 → jt (jxX E d 253 11 [some (.inr (.inr (.inl 146))), some (.inl y1), some (.inr (.inl y2)), none, some (.inl y4), some (.inl y5), none, none, none, none, none, none] [] (jxSH, a0, b)) (jQ_X12_best x1 x2 a0 b0) := by
    intro y1 y2 y4 y5 b hm hi0 hi1 hi2 hi3 hi4 hi5
    refine jt_eq (bq_X12_best_11 E d y1 y2 y4 y5 a0 b) ?_
    refine jt_ite (fun c308_ => ?_) (fun c308_ => ?_)
    ·
      have h309_ := iv_get hv0 (k := 146) (j := 2) (l := 0) (u := 40) rfl
      have h310_ : jxw (256 * (a0 146 2)) = 256 * (a0 146 2) := jxw_id (by omega) (by omega)
      have h311_ : jxw ((jxw (256 * (a0 146 2))) + y5) = (jxw (256 * (a0 146 2))) + y5 := jxw_id (by omega) (by omega)
      refine jt_grd (by omega) ?_
      have h312_ : jxw (y5 + 1) = y5 + 1 := jxw_id (by omega) (by omega)
      exact hc38 y1 y2 y4 (jxw (y5 + 1)) (jxu b 177 ((jxw ((jxw (256 * (a0 146 2))) + y5)).toNat) 0) (show (((256 - (jxw (y5 + 1))) * 2) + 1).toNat ≤ n from by omega) (show 0 ≤ y1 from by omega) (show y1 ≤ 255 from by omega) (show 1 ≤ y4 from by omega) (show y4 ≤ 256 from by omega) (show 1 ≤ jxw (y5 + 1) from by omega) (show jxw (y5 + 1) ≤ 256 from by omega)
    ·
      have h313_ := iv_get hv0 (k := 146) (j := 2) (l := 0) (u := 40) rfl
      have h314_ : jxw ((a0 146 2) - 1) = (a0 146 2) - 1 := jxw_id (by omega) (by omega)
      exact (cp_X12_best_49 E d hd x1 x2 a0 b0 hv0 hp0 _).2.2.2.2.2.2.2 y1 y2 y4 (jxw ((a0 146 2) - 1)) b (Nat.le_refl _) (show 0 ≤ y1 from by omega) (show y1 ≤ 255 from by omega) (show 1 ≤ y4 from by omega) (show y4 ≤ 256 from by omega) (show 0 - 1 ≤ jxw ((a0 146 2) - 1) from by omega) (show jxw ((a0 146 2) - 1) ≤ 39 from by omega)
  exact ⟨hc38, hc11⟩
theorem sp_X12_best (E : jxE) (d : Nat) (hd : Nat.ble 1 d = true) (x1 x2 : Int) (a0 b0 : Nat → Nat → Int) (hv0 : iv a0) (hp0 : (0 ≤ x1 ∧ x1 ≤ 255)) : jt (jxC E d 253 [.inr (.inr (.inl 146)), .inl x1, .inr (.inl x2)] (jxSH, a0, b0)) (jQ_X12_best x1 x2 a0 b0) := by
  obtain ⟨d, rfl⟩ := jd_succ hd
  refine jt_eq (bq_X12_best E d x1 x2 a0 b0) ?_
  have h315_ := iv_get hv0 (k := 146) (j := 44) (l := 0) (u := 8) rfl
  have h316_ := jxshl1_b (a0 146 44)
  exact (cp_X12_best_11 E d hd x1 x2 a0 b0 hv0 hp0 _).2 x1 x2 (jxshl 1 (a0 146 44)) 0 b0 (Nat.le_refl _) (show 0 ≤ x1 from by omega) (show x1 ≤ 255 from by omega) (show 1 ≤ jxshl 1 (a0 146 44) from by omega) (show jxshl 1 (a0 146 44) ≤ 256 from by omega) (show 0 ≤ 0 from by omega) (show 0 ≤ 256 from by omega)
abbrev jQ_X12_card (x1 x2 : Int) (a0 b0 : Nat → Nat → Int) : List jxV → (Nat → Nat → Int) → (Nat → Nat → Int) → Prop := rI (fun r a b => (a0 = a) ∧ (b0 = b))
theorem sp_X12_card (E : jxE) (d : Nat) (hd : Nat.ble 2 d = true) (x1 x2 : Int) (a0 b0 : Nat → Nat → Int) (hv0 : iv a0) : jt (jxC E d 259 [.inr (.inr (.inl 146)), .inl x1, .inl x2] (jxSH, a0, b0)) (jQ_X12_card x1 x2 a0 b0) := by
  obtain ⟨d, rfl⟩ := jd_succ hd
  refine jt_eq (bq_X12_card E d x1 x2 a0 b0) ?_
  refine jt_eI (eq_X12_in E d (jd_le hd rfl) x1 0 (jxw ((a0 146 9) - 1)) a0 b0) ?_
  have h317_ := iv_get hv0 (k := 146) (j := 9) (l := 0) (u := 300) rfl
  have h318_ : jxw ((a0 146 9) - 1) = (a0 146 9) - 1 := jxw_id (by omega) (by omega)
  have h319_ := f_X12_in_eq a0 b0 x1 0 (jxw ((a0 146 9) - 1))
  refine jt_ite (fun c320_ => ?_) (fun c320_ => ?_)
  ·
    exact jt_rI ⟨rfl, rfl⟩
  ·
    refine jt_ite (fun c321_ => ?_) (fun c321_ => ?_)
    ·
      exact jt_rI ⟨rfl, rfl⟩
    ·
      refine jt_ite (fun c322_ => ?_) (fun c322_ => ?_)
      ·
        refine jt_grd (by omega) ?_
        exact jt_rI ⟨rfl, rfl⟩
      ·
        refine jt_ite (fun c323_ => ?_) (fun c323_ => ?_)
        ·
          refine jt_grd (by omega) ?_
          exact jt_rI ⟨rfl, rfl⟩
        ·
          refine jt_ite (fun c324_ => ?_) (fun c324_ => ?_)
          ·
            refine jt_grd (by omega) ?_
            exact jt_rI ⟨rfl, rfl⟩
          ·
            refine jt_ite (fun c325_ => ?_) (fun c325_ => ?_)
            ·
              refine jt_grd (by omega) ?_
              exact jt_rI ⟨rfl, rfl⟩
            ·
              refine jt_ite (fun c326_ => ?_) (fun c326_ => ?_)
              ·
                refine jt_bI (sp_X12_arrival E d (jd_le hd rfl) x1 (a0 146 0) a0 b0 hv0 (show (0 ≤ x1 ∧ x1 ≤ 299) from by omega)) (fun r327_ a327_ b327_ h327_ => ?_)
                obtain ⟨rfl, rfl⟩ := h327_
                exact jt_rI ⟨rfl, rfl⟩
              ·
                refine jt_ite (fun c328_ => ?_) (fun c328_ => ?_)
                ·
                  refine jt_grd (by omega) ?_
                  exact jt_rI ⟨rfl, rfl⟩
                ·
                  refine jt_ite (fun c329_ => ?_) (fun c329_ => ?_)
                  ·
                    refine jt_grd (by omega) ?_
                    exact jt_rI ⟨rfl, rfl⟩
                  ·
                    exact absurd (by omega : False) id
abbrev jQ_X12_cardOf (x1 x2 : Int) (a0 b0 : Nat → Nat → Int) : List jxV → (Nat → Nat → Int) → (Nat → Nat → Int) → Prop := rI (fun r a b => (a0 = a) ∧ (b0 = b) ∧ (0 - 1 ≤ r) ∧ (r ≤ 299) ∧ (r < a0 146 9) ∧ ((∃ c : Nat, (c : Int) < a0 146 9 ∧ a0 158 c = x1 ∧ a0 154 c = x2) → 0 ≤ r))
theorem cp_X12_cardOf_30 (E : jxE) (d : Nat) (hd : Nat.ble 1 (d + 1) = true) (x1 x2 : Int) (a0 b0 : Nat → Nat → Int) (hv0 : iv a0) : ∀ (y3 : Int), 0 ≤ y3 → y3 ≤ 299 → 0 ≤ y3 → y3 < a0 146 9 → jt (jxX E d 275 30 [none, none, none, some (.inl y3)] [] (jxSH, a0, b0)) (jQ_X12_cardOf x1 x2 a0 b0) := by
  intro y3 hi0 hi1 hi2 hi3
  refine jt_eq (bq_X12_cardOf_30 E d y3 a0 b0) ?_
  have h330_ := iv_get hv0 (k := 146) (j := 9) (l := 0) (u := 300) rfl
  exact jt_rI ⟨rfl, rfl, (show 0 - 1 ≤ y3 from by omega), (show y3 ≤ 299 from by omega), (show y3 < a0 146 9 from by omega), (by first | (rintro ⟨c, h1, h2, h3⟩; exact absurd ⟨h2, h3⟩ (hne c (by omega))) | (intro _; omega))⟩
theorem cp_X12_cardOf_2 (E : jxE) (d : Nat) (hd : Nat.ble 1 (d + 1) = true) (x1 x2 : Int) (a0 b0 : Nat → Nat → Int) (hv0 : iv a0) : ∀ n : Nat, (∀ (y1 y2 y3 : Int), (((300 - y3) * 1) + 0).toNat ≤ n → 0 ≤ y3 → y3 ≤ 299 → y1 = x1 → y2 = x2 → 0 ≤ y3 → y3 < a0 146 9 → (∀ c : Nat, (c : Int) ≤ y3 → ¬ (a0 158 c = x1 ∧ a0 154 c = x2)) → jt (jxX E d 275 32 [some (.inr (.inr (.inl 146))), some (.inl y1), some (.inl y2), some (.inl y3)] [] (jxSH, a0, b0)) (jQ_X12_cardOf x1 x2 a0 b0)) ∧ (∀ (y1 y2 y3 : Int), (((300 - y3) * 1) + 0).toNat ≤ n → 0 ≤ y3 → y3 ≤ 300 → y1 = x1 → y2 = x2 → 0 ≤ y3 → (∀ c : Nat, (c : Int) < y3 → ¬ (a0 158 c = x1 ∧ a0 154 c = x2)) → jt (jxX E d 275 2 [some (.inr (.inr (.inl 146))), some (.inl y1), some (.inl y2), some (.inl y3)] [] (jxSH, a0, b0)) (jQ_X12_cardOf x1 x2 a0 b0)) := by
  refine jx_ind fun n ih => ?_
  have ih32 : ∀ (y1 y2 y3 : Int), (((300 - y3) * 1) + 0).toNat < n → 0 ≤ y3 → y3 ≤ 299 → y1 = x1 → y2 = x2 → 0 ≤ y3 → y3 < a0 146 9 → (∀ c : Nat, (c : Int) ≤ y3 → ¬ (a0 158 c = x1 ∧ a0 154 c = x2)) → jt (jxX E d 275 32 [some (.inr (.inr (.inl 146))), some (.inl y1), some (.inl y2), some (.inl y3)] [] (jxSH, a0, b0)) (jQ_X12_cardOf x1 x2 a0 b0) := fun y1 y2 y3 hlt i0 i1 i2 i3 i4 i5 i6 => (ih _ hlt).1 y1 y2 y3 (Nat.le_refl _) i0 i1 i2 i3 i4 i5 i6
  have ih2 : ∀ (y1 y2 y3 : Int), (((300 - y3) * 1) + 0).toNat < n → 0 ≤ y3 → y3 ≤ 300 → y1 = x1 → y2 = x2 → 0 ≤ y3 → (∀ c : Nat, (c : Int) < y3 → ¬ (a0 158 c = x1 ∧ a0 154 c = x2)) → jt (jxX E d 275 2 [some (.inr (.inr (.inl 146))), some (.inl y1), some (.inl y2), some (.inl y3)] [] (jxSH, a0, b0)) (jQ_X12_cardOf x1 x2 a0 b0) := fun y1 y2 y3 hlt i0 i1 i2 i3 i4 i5 => (ih _ hlt).2 y1 y2 y3 (Nat.le_refl _) i0 i1 i2 i3 i4 i5
  have hc32 : ∀ (y1 y2 y3 : Int), (((300 - y3) * 1) + 0).toNat ≤ n → 0 ≤ y3 → y3 ≤ 299 → y1 = x1 → y2 = x2 → 0 ≤ y3 → y3 < a0 146 9 → (∀ c : Nat, (c : Int) ≤ y3 → ¬ (a0 158 c = x1 ∧ a0 154 c = x2)) → jt (jxX E d 275 32 [some (.inr (.inr (.inl 146))), some (.inl y1), some (.inl y2), some (.inl y3)] [] (jxSH, a0, b0)) (jQ_X12_cardOf x1 x2 a0 b0) := by
    intro y1 y2 y3 hm hi0 hi1 hi2 hi3 hi4 hi5 hne
    refine jt_eq (bq_X12_cardOf_32 E d y1 y2 y3 a0 b0) ?_
    have h331_ := iv_get hv0 (k := 146) (j := 9) (l := 0) (u := 300) rfl
    have h332_ : jxw (y3 + 1) = y3 + 1 := jxw_id (by omega) (by omega)
    exact ih2 y1 y2 (jxw (y3 + 1)) (show (((300 - (jxw (y3 + 1))) * 1) + 0).toNat < n from by omega) (show 0 ≤ jxw (y3 + 1) from by omega) (show jxw (y3 + 1) ≤ 300 from by omega) (show y1 = x1 from by omega) (show y2 = x2 from by omega) (show 0 ≤ jxw (y3 + 1) from by omega) (by first | (intro c hc; exact hne c (by omega)) | (intro c hc; omega))
  have hc2 : ∀ (y1 y2 y3 : Int), (((300 - y3) * 1) + 0).toNat ≤ n → 0 ≤ y3 → y3 ≤ 300 → y1 = x1 → y2 = x2 → 0 ≤ y3 → (∀ c : Nat, (c : Int) < y3 → ¬ (a0 158 c = x1 ∧ a0 154 c = x2)) → jt (jxX E d 275 2 [some (.inr (.inr (.inl 146))), some (.inl y1), some (.inl y2), some (.inl y3)] [] (jxSH, a0, b0)) (jQ_X12_cardOf x1 x2 a0 b0) := by
    intro y1 y2 y3 hm hi0 hi1 hi2 hi3 hi4 hne
    refine jt_eq (bq_X12_cardOf_2 E d y1 y2 y3 a0 b0) ?_
    have h333_ := iv_get hv0 (k := 146) (j := 9) (l := 0) (u := 300) rfl
    refine jt_ite (fun c334_ => ?_) (fun c334_ => ?_)
    ·
      refine jt_grd (by omega) ?_
      refine jt_ite (fun c335_ => ?_) (fun c335_ => ?_)
      ·
        refine jt_grd (by omega) ?_
        have h336_ := iv_get hv0 (k := 154) (j := y3.toNat) (l := 0) (u := 39) rfl
        refine jt_ite (fun c337_ => ?_) (fun c337_ => ?_)
        ·
          exact cp_X12_cardOf_30 E d hd x1 x2 a0 b0 hv0 y3 (show 0 ≤ y3 from by omega) (show y3 ≤ 299 from by omega) (show 0 ≤ y3 from by omega) (show y3 < a0 146 9 from by omega)
        ·
          exact hc32 y1 y2 y3 (show (((300 - y3) * 1) + 0).toNat ≤ n from by omega) (show 0 ≤ y3 from by omega) (show y3 ≤ 299 from by omega) (show y1 = x1 from by omega) (show y2 = x2 from by omega) (show 0 ≤ y3 from by omega) (show y3 < a0 146 9 from by omega) (by intro c hc hh; rcases Int.lt_or_le (c : Int) y3 with h | h <;> first | exact hne c h hh | (obtain rfl : c = y3.toNat := (by omega); omega))
      ·
        exact hc32 y1 y2 y3 (show (((300 - y3) * 1) + 0).toNat ≤ n from by omega) (show 0 ≤ y3 from by omega) (show y3 ≤ 299 from by omega) (show y1 = x1 from by omega) (show y2 = x2 from by omega) (show 0 ≤ y3 from by omega) (show y3 < a0 146 9 from by omega) (by intro c hc hh; rcases Int.lt_or_le (c : Int) y3 with h | h <;> first | exact hne c h hh | (obtain rfl : c = y3.toNat := (by omega); omega))
    ·
      exact jt_rI ⟨rfl, rfl, (show 0 - 1 ≤ (-1) from by omega), (show (-1) ≤ 299 from by omega), (show (-1) < a0 146 9 from by omega), (by first | (rintro ⟨c, h1, h2, h3⟩; exact absurd ⟨h2, h3⟩ (hne c (by omega))) | (intro _; omega))⟩
  exact ⟨hc32, hc2⟩
theorem sp_X12_cardOf (E : jxE) (d : Nat) (hd : Nat.ble 1 d = true) (x1 x2 : Int) (a0 b0 : Nat → Nat → Int) (hv0 : iv a0) : jt (jxC E d 275 [.inr (.inr (.inl 146)), .inl x1, .inl x2] (jxSH, a0, b0)) (jQ_X12_cardOf x1 x2 a0 b0) := by
  obtain ⟨d, rfl⟩ := jd_succ hd
  refine jt_eq (bq_X12_cardOf E d x1 x2 a0 b0) ?_
  exact (cp_X12_cardOf_2 E d hd x1 x2 a0 b0 hv0 _).2 x1 x2 0 (Nat.le_refl _) (show 0 ≤ 0 from by omega) (show 0 ≤ 300 from by omega) (show x1 = x1 from by omega) (show x2 = x2 from by omega) (show 0 ≤ 0 from by omega) (by first | (intro c hc; exact hne c (by omega)) | (intro c hc; omega))
def jW_X12_clock : List (Nat × Nat) := [(146, 0)]
abbrev jQ_X12_clock (x1 : Int) (a0 b0 : Nat → Nat → Int) : List jxV → (Nat → Nat → Int) → (Nat → Nat → Int) → Prop := rI (fun r a b => (iv a) ∧ (jfr jW_X12_clock a0 a) ∧ (b0 = b) ∧ ((0 ≤ r ∧ r ≤ 1)) ∧ (((((r = 1 ∧ a0 146 0 ≤ x1) ∧ x1 ≤ 1999) ∧ a 146 0 = x1) ∨ ((r = 0 ∧ (x1 < a0 146 0 ∨ 1999 < x1)) ∧ a 146 0 = a0 146 0))))
theorem sp_X12_clock (E : jxE) (d : Nat) (hd : Nat.ble 2 d = true) (x1 : Int) (a0 b0 : Nat → Nat → Int) (hv0 : iv a0) : jt (jxC E d 208 [.inr (.inr (.inl 146)), .inl x1] (jxSH, a0, b0)) (jQ_X12_clock x1 a0 b0) := by
  obtain ⟨d, rfl⟩ := jd_succ hd
  refine jt_eq (bq_X12_clock E d x1 a0 b0) ?_
  refine jt_eI (eq_X12_in E d (jd_le hd rfl) x1 (a0 146 0) 1999 a0 b0) ?_
  have h338_ := iv_get hv0 (k := 146) (j := 0) (l := 0) (u := 1999) rfl
  have h339_ := f_X12_in_eq a0 b0 x1 (a0 146 0) 1999
  refine jt_ite (fun c340_ => ?_) (fun c340_ => ?_)
  ·
    exact jt_rI ⟨hv0, (jfr_rf _ _), rfl, (show (0 ≤ 0 ∧ 0 ≤ 1) from by omega), (show ((((0 = 1 ∧ a0 146 0 ≤ x1) ∧ x1 ≤ 1999) ∧ a0 146 0 = x1) ∨ ((0 = 0 ∧ (x1 < a0 146 0 ∨ 1999 < x1)) ∧ a0 146 0 = a0 146 0)) from by omega)⟩
  ·
    have hv341_ : iv (jxu a0 146 0 x1) := iv_put hv0 (l := 0) (u := 1999) rfl (by omega) (by omega)
    have hf342_ : jfr jW_X12_clock a0 (jxu a0 146 0 x1) := jfr_put (jfr_rf _ _) rfl
    exact jt_rI ⟨hv341_, hf342_, rfl, (show (0 ≤ 1 ∧ 1 ≤ 1) from by omega), (show ((((1 = 1 ∧ a0 146 0 ≤ x1) ∧ x1 ≤ 1999) ∧ x1 = x1) ∨ ((1 = 0 ∧ (x1 < a0 146 0 ∨ 1999 < x1)) ∧ x1 = a0 146 0)) from by omega)⟩
abbrev jQ_X12_count (x1 : Int) (a0 b0 : Nat → Nat → Int) : List jxV → (Nat → Nat → Int) → (Nat → Nat → Int) → Prop := rI (fun r a b => (a0 = a) ∧ (b0 = b))
theorem cp_X12_count_68 (E : jxE) (d : Nat) (hd : Nat.ble 2 (d + 1) = true) (x1 : Int) (a0 b0 : Nat → Nat → Int) (hv0 : iv a0) : ∀ n : Nat, (∀ (y2 y3 : Int), (((40 - y3) * 1) + 0).toNat ≤ n → 0 ≤ y3 → y3 ≤ 39 → jt (jxX E d 289 93 [some (.inr (.inr (.inl 146))), none, some (.inl y2), some (.inl y3)] [] (jxSH, a0, b0)) (jQ_X12_count x1 a0 b0)) ∧ (∀ (y2 y3 : Int), (((40 - y3) * 1) + 0).toNat ≤ n → 0 ≤ y3 → y3 ≤ 40 → jt (jxX E d 289 68 [some (.inr (.inr (.inl 146))), none, some (.inl y2), some (.inl y3)] [] (jxSH, a0, b0)) (jQ_X12_count x1 a0 b0)) := by
  refine jx_ind fun n ih => ?_
  have ih93 : ∀ (y2 y3 : Int), (((40 - y3) * 1) + 0).toNat < n → 0 ≤ y3 → y3 ≤ 39 → jt (jxX E d 289 93 [some (.inr (.inr (.inl 146))), none, some (.inl y2), some (.inl y3)] [] (jxSH, a0, b0)) (jQ_X12_count x1 a0 b0) := fun y2 y3 hlt i0 i1 => (ih _ hlt).1 y2 y3 (Nat.le_refl _) i0 i1
  have ih68 : ∀ (y2 y3 : Int), (((40 - y3) * 1) + 0).toNat < n → 0 ≤ y3 → y3 ≤ 40 → jt (jxX E d 289 68 [some (.inr (.inr (.inl 146))), none, some (.inl y2), some (.inl y3)] [] (jxSH, a0, b0)) (jQ_X12_count x1 a0 b0) := fun y2 y3 hlt i0 i1 => (ih _ hlt).2 y2 y3 (Nat.le_refl _) i0 i1
  have hc93 : ∀ (y2 y3 : Int), (((40 - y3) * 1) + 0).toNat ≤ n → 0 ≤ y3 → y3 ≤ 39 → jt (jxX E d 289 93 [some (.inr (.inr (.inl 146))), none, some (.inl y2), some (.inl y3)] [] (jxSH, a0, b0)) (jQ_X12_count x1 a0 b0) := by
    intro y2 y3 hm hi0 hi1
    refine jt_eq (bq_X12_count_93 E d y2 y3 a0 b0) ?_
    have h343_ : jxw (y3 + 1) = y3 + 1 := jxw_id (by omega) (by omega)
    exact ih68 y2 (jxw (y3 + 1)) (show (((40 - (jxw (y3 + 1))) * 1) + 0).toNat < n from by omega) (show 0 ≤ jxw (y3 + 1) from by omega) (show jxw (y3 + 1) ≤ 40 from by omega)
  have hc68 : ∀ (y2 y3 : Int), (((40 - y3) * 1) + 0).toNat ≤ n → 0 ≤ y3 → y3 ≤ 40 → jt (jxX E d 289 68 [some (.inr (.inr (.inl 146))), none, some (.inl y2), some (.inl y3)] [] (jxSH, a0, b0)) (jQ_X12_count x1 a0 b0) := by
    intro y2 y3 hm hi0 hi1
    refine jt_eq (bq_X12_count_68 E d y2 y3 a0 b0) ?_
    have h344_ := iv_get hv0 (k := 146) (j := 2) (l := 0) (u := 40) rfl
    refine jt_ite (fun c345_ => ?_) (fun c345_ => ?_)
    ·
      refine jt_grd (by omega) ?_
      have h346_ := iv_get hv0 (k := 152) (j := y3.toNat) (l := 0) (u := 1) rfl
      refine jt_ite (fun c347_ => ?_) (fun c347_ => ?_)
      ·
        exact hc93 (jxw (y2 + 0)) y3 (show (((40 - y3) * 1) + 0).toNat ≤ n from by omega) (show 0 ≤ y3 from by omega) (show y3 ≤ 39 from by omega)
      ·
        exact hc93 (jxw (y2 + 1)) y3 (show (((40 - y3) * 1) + 0).toNat ≤ n from by omega) (show 0 ≤ y3 from by omega) (show y3 ≤ 39 from by omega)
    ·
      exact jt_rI ⟨rfl, rfl⟩
  exact ⟨hc93, hc68⟩
theorem cp_X12_count_168 (E : jxE) (d : Nat) (hd : Nat.ble 2 (d + 1) = true) (x1 : Int) (a0 b0 : Nat → Nat → Int) (hv0 : iv a0) : ∀ (y1 : Int), 20 ≤ y1 → y1 ≤ 27 → jt (jxX E d 289 168 [some (.inr (.inr (.inl 146))), some (.inl y1), none, none] [] (jxSH, a0, b0)) (jQ_X12_count x1 a0 b0) := by
  intro y1 hi0 hi1
  refine jt_eq (bq_X12_count_168 E d y1 a0 b0) ?_
  have h348_ : jxw (y1 - 20) = y1 - 20 := jxw_id (by omega) (by omega)
  refine jt_grd (by omega) ?_
  exact jt_rI ⟨rfl, rfl⟩
theorem cp_X12_count_178 (E : jxE) (d : Nat) (hd : Nat.ble 2 (d + 1) = true) (x1 : Int) (a0 b0 : Nat → Nat → Int) (hv0 : iv a0) : ∀ (y1 : Int), jt (jxX E d 289 178 [some (.inr (.inr (.inl 146))), some (.inl y1), none, none] [] (jxSH, a0, b0)) (jQ_X12_count x1 a0 b0) := by
  intro y1
  refine jt_eq (bq_X12_count_178 E d y1 a0 b0) ?_
  refine jt_eI (eq_X12_in E d (jd_le hd rfl) y1 30 37 a0 b0) ?_
  have h349_ := f_X12_in_eq a0 b0 y1 30 37
  refine jt_ite (fun c350_ => ?_) (fun c350_ => ?_)
  ·
    exact jt_rI ⟨rfl, rfl⟩
  ·
    have h351_ : jxw (y1 - 30) = y1 - 30 := jxw_id (by omega) (by omega)
    refine jt_grd (by omega) ?_
    exact jt_rI ⟨rfl, rfl⟩
theorem sp_X12_count (E : jxE) (d : Nat) (hd : Nat.ble 2 d = true) (x1 : Int) (a0 b0 : Nat → Nat → Int) (hv0 : iv a0) : jt (jxC E d 289 [.inr (.inr (.inl 146)), .inl x1] (jxSH, a0, b0)) (jQ_X12_count x1 a0 b0) := by
  obtain ⟨d, rfl⟩ := jd_succ hd
  refine jt_eq (bq_X12_count E d x1 a0 b0) ?_
  refine jt_ite (fun c352_ => ?_) (fun c352_ => ?_)
  ·
    refine jt_eI (eq_X12_in E d (jd_le hd rfl) x1 10 14 a0 b0) ?_
    have h353_ := f_X12_in_eq a0 b0 x1 10 14
    refine jt_ite (fun c354_ => ?_) (fun c354_ => ?_)
    ·
      refine jt_eI (eq_X12_in E d (jd_le hd rfl) x1 20 27 a0 b0) ?_
      have h355_ := f_X12_in_eq a0 b0 x1 20 27
      refine jt_ite (fun c356_ => ?_) (fun c356_ => ?_)
      ·
        exact cp_X12_count_178 E d hd x1 a0 b0 hv0 x1
      ·
        exact cp_X12_count_168 E d hd x1 a0 b0 hv0 x1 (show 20 ≤ x1 from by omega) (show x1 ≤ 27 from by omega)
    ·
      have h357_ : jxw (x1 - 10) = x1 - 10 := jxw_id (by omega) (by omega)
      refine jt_grd (by omega) ?_
      exact jt_rI ⟨rfl, rfl⟩
  ·
    refine jt_ite (fun c358_ => ?_) (fun c358_ => ?_)
    ·
      exact jt_rI ⟨rfl, rfl⟩
    ·
      refine jt_ite (fun c359_ => ?_) (fun c359_ => ?_)
      ·
        exact jt_rI ⟨rfl, rfl⟩
      ·
        refine jt_ite (fun c360_ => ?_) (fun c360_ => ?_)
        ·
          exact (cp_X12_count_68 E d hd x1 a0 b0 hv0 _).2 0 0 (Nat.le_refl _) (show 0 ≤ 0 from by omega) (show 0 ≤ 40 from by omega)
        ·
          refine jt_ite (fun c361_ => ?_) (fun c361_ => ?_)
          ·
            exact jt_rI ⟨rfl, rfl⟩
          ·
            refine jt_ite (fun c362_ => ?_) (fun c362_ => ?_)
            ·
              exact jt_rI ⟨rfl, rfl⟩
            ·
              refine jt_ite (fun c363_ => ?_) (fun c363_ => ?_)
              ·
                exact jt_rI ⟨rfl, rfl⟩
              ·
                refine jt_ite (fun c364_ => ?_) (fun c364_ => ?_)
                ·
                  exact jt_rI ⟨rfl, rfl⟩
                ·
                  refine jt_ite (fun c365_ => ?_) (fun c365_ => ?_)
                  ·
                    exact jt_rI ⟨rfl, rfl⟩
                  ·
                    refine jt_ite (fun c366_ => ?_) (fun c366_ => ?_)
                    ·
                      exact jt_rI ⟨rfl, rfl⟩
                    ·
                      refine jt_ite (fun c367_ => ?_) (fun c367_ => ?_)
                      ·
                        exact jt_rI ⟨rfl, rfl⟩
                      ·
                        exact absurd (by omega : False) id
abbrev jQ_X12_offerIn (x1 x2 : Int) (a0 b0 : Nat → Nat → Int) : List jxV → (Nat → Nat → Int) → (Nat → Nat → Int) → Prop := rI (fun r a b => (a0 = a) ∧ (b0 = b) ∧ (0 - 1 ≤ r) ∧ (r ≤ 19) ∧ (r < a0 146 49) ∧ ((0 ≤ r → (a0 181 (r.toNat) = 1 ∧ a0 182 (r.toNat) = x1))))
theorem cp_X12_offerIn_2 (E : jxE) (d : Nat) (hd : Nat.ble 1 (d + 1) = true) (x1 x2 : Int) (a0 b0 : Nat → Nat → Int) (hv0 : iv a0) : ∀ n : Nat, (∀ (y1 y2 y3 : Int), (((20 - y3) * 1) + 0).toNat ≤ n → 0 ≤ y3 → y3 ≤ 19 → y1 = x1 → jt (jxX E d 276 42 [some (.inr (.inr (.inl 146))), some (.inl y1), some (.inl y2), some (.inl y3)] [] (jxSH, a0, b0)) (jQ_X12_offerIn x1 x2 a0 b0)) ∧ (∀ (y1 y2 y3 : Int), (((20 - y3) * 1) + 0).toNat ≤ n → 0 ≤ y3 → y3 ≤ 19 → y3 < a0 146 49 → a0 181 (y3.toNat) = 1 → a0 182 (y3.toNat) = x1 → y1 = x1 → jt (jxX E d 276 30 [some (.inr (.inr (.inl 146))), some (.inl y1), some (.inl y2), some (.inl y3)] [] (jxSH, a0, b0)) (jQ_X12_offerIn x1 x2 a0 b0)) ∧ (∀ (y1 y2 y3 : Int), (((20 - y3) * 1) + 0).toNat ≤ n → 0 ≤ y3 → y3 ≤ 20 → y1 = x1 → jt (jxX E d 276 2 [some (.inr (.inr (.inl 146))), some (.inl y1), some (.inl y2), some (.inl y3)] [] (jxSH, a0, b0)) (jQ_X12_offerIn x1 x2 a0 b0)) := by
  refine jx_ind fun n ih => ?_
  have ih42 : ∀ (y1 y2 y3 : Int), (((20 - y3) * 1) + 0).toNat < n → 0 ≤ y3 → y3 ≤ 19 → y1 = x1 → jt (jxX E d 276 42 [some (.inr (.inr (.inl 146))), some (.inl y1), some (.inl y2), some (.inl y3)] [] (jxSH, a0, b0)) (jQ_X12_offerIn x1 x2 a0 b0) := fun y1 y2 y3 hlt i0 i1 i2 => (ih _ hlt).1 y1 y2 y3 (Nat.le_refl _) i0 i1 i2
  have ih30 : ∀ (y1 y2 y3 : Int), (((20 - y3) * 1) + 0).toNat < n → 0 ≤ y3 → y3 ≤ 19 → y3 < a0 146 49 → a0 181 (y3.toNat) = 1 → a0 182 (y3.toNat) = x1 → y1 = x1 → jt (jxX E d 276 30 [some (.inr (.inr (.inl 146))), some (.inl y1), some (.inl y2), some (.inl y3)] [] (jxSH, a0, b0)) (jQ_X12_offerIn x1 x2 a0 b0) := fun y1 y2 y3 hlt i0 i1 i2 i3 i4 i5 => (ih _ hlt).2.1 y1 y2 y3 (Nat.le_refl _) i0 i1 i2 i3 i4 i5
  have ih2 : ∀ (y1 y2 y3 : Int), (((20 - y3) * 1) + 0).toNat < n → 0 ≤ y3 → y3 ≤ 20 → y1 = x1 → jt (jxX E d 276 2 [some (.inr (.inr (.inl 146))), some (.inl y1), some (.inl y2), some (.inl y3)] [] (jxSH, a0, b0)) (jQ_X12_offerIn x1 x2 a0 b0) := fun y1 y2 y3 hlt i0 i1 i2 => (ih _ hlt).2.2 y1 y2 y3 (Nat.le_refl _) i0 i1 i2
  have hc42 : ∀ (y1 y2 y3 : Int), (((20 - y3) * 1) + 0).toNat ≤ n → 0 ≤ y3 → y3 ≤ 19 → y1 = x1 → jt (jxX E d 276 42 [some (.inr (.inr (.inl 146))), some (.inl y1), some (.inl y2), some (.inl y3)] [] (jxSH, a0, b0)) (jQ_X12_offerIn x1 x2 a0 b0) := by
    intro y1 y2 y3 hm hi0 hi1 hi2
    refine jt_eq (bq_X12_offerIn_42 E d y1 y2 y3 a0 b0) ?_
    have h368_ : jxw (y3 + 1) = y3 + 1 := jxw_id (by omega) (by omega)
    exact ih2 y1 y2 (jxw (y3 + 1)) (show (((20 - (jxw (y3 + 1))) * 1) + 0).toNat < n from by omega) (show 0 ≤ jxw (y3 + 1) from by omega) (show jxw (y3 + 1) ≤ 20 from by omega) (show y1 = x1 from by omega)
  have hc30 : ∀ (y1 y2 y3 : Int), (((20 - y3) * 1) + 0).toNat ≤ n → 0 ≤ y3 → y3 ≤ 19 → y3 < a0 146 49 → a0 181 (y3.toNat) = 1 → a0 182 (y3.toNat) = x1 → y1 = x1 → jt (jxX E d 276 30 [some (.inr (.inr (.inl 146))), some (.inl y1), some (.inl y2), some (.inl y3)] [] (jxSH, a0, b0)) (jQ_X12_offerIn x1 x2 a0 b0) := by
    intro y1 y2 y3 hm hi0 hi1 hi2 hi3 hi4 hi5
    refine jt_eq (bq_X12_offerIn_30 E d y1 y2 y3 a0 b0) ?_
    have h369_ := iv_get hv0 (k := 146) (j := 49) (l := 0) (u := 20) rfl
    have h370_ := iv_get hv0 (k := 181) (j := y3.toNat) (l := 0) (u := 2) rfl
    refine jt_grd (by omega) ?_
    have h371_ := iv_get hv0 (k := 178) (j := y3.toNat) (l := 0) (u := 39) rfl
    refine jt_ite (fun c372_ => ?_) (fun c372_ => ?_)
    ·
      exact jt_rI ⟨rfl, rfl, (show 0 - 1 ≤ y3 from by omega), (show y3 ≤ 19 from by omega), (show y3 < a0 146 49 from by omega), (show (0 ≤ y3 → (a0 181 (y3.toNat) = 1 ∧ a0 182 (y3.toNat) = x1)) from by omega)⟩
    ·
      exact hc42 y1 y2 y3 (show (((20 - y3) * 1) + 0).toNat ≤ n from by omega) (show 0 ≤ y3 from by omega) (show y3 ≤ 19 from by omega) (show y1 = x1 from by omega)
  have hc2 : ∀ (y1 y2 y3 : Int), (((20 - y3) * 1) + 0).toNat ≤ n → 0 ≤ y3 → y3 ≤ 20 → y1 = x1 → jt (jxX E d 276 2 [some (.inr (.inr (.inl 146))), some (.inl y1), some (.inl y2), some (.inl y3)] [] (jxSH, a0, b0)) (jQ_X12_offerIn x1 x2 a0 b0) := by
    intro y1 y2 y3 hm hi0 hi1 hi2
    refine jt_eq (bq_X12_offerIn_2 E d y1 y2 y3 a0 b0) ?_
    have h373_ := iv_get hv0 (k := 146) (j := 49) (l := 0) (u := 20) rfl
    refine jt_ite (fun c374_ => ?_) (fun c374_ => ?_)
    ·
      refine jt_grd (by omega) ?_
      have h375_ := iv_get hv0 (k := 181) (j := y3.toNat) (l := 0) (u := 2) rfl
      refine jt_ite (fun c376_ => ?_) (fun c376_ => ?_)
      ·
        refine jt_grd (by omega) ?_
        refine jt_ite (fun c377_ => ?_) (fun c377_ => ?_)
        ·
          exact hc30 y1 y2 y3 (show (((20 - y3) * 1) + 0).toNat ≤ n from by omega) (show 0 ≤ y3 from by omega) (show y3 ≤ 19 from by omega) (show y3 < a0 146 49 from by omega) (show a0 181 (y3.toNat) = 1 from by omega) (show a0 182 (y3.toNat) = x1 from by omega) (show y1 = x1 from by omega)
        ·
          exact hc42 y1 y2 y3 (show (((20 - y3) * 1) + 0).toNat ≤ n from by omega) (show 0 ≤ y3 from by omega) (show y3 ≤ 19 from by omega) (show y1 = x1 from by omega)
      ·
        exact hc42 y1 y2 y3 (show (((20 - y3) * 1) + 0).toNat ≤ n from by omega) (show 0 ≤ y3 from by omega) (show y3 ≤ 19 from by omega) (show y1 = x1 from by omega)
    ·
      have h378_ := iv_get hv0 (k := 181) (j := (-1 : Int).toNat) (l := 0) (u := 2) rfl
      exact jt_rI ⟨rfl, rfl, (show 0 - 1 ≤ (-1) from by omega), (show (-1) ≤ 19 from by omega), (show (-1) < a0 146 49 from by omega), (show (0 ≤ (-1) → (a0 181 ((-1 : Int).toNat) = 1 ∧ a0 182 ((-1 : Int).toNat) = x1)) from by omega)⟩
  exact ⟨hc42, hc30, hc2⟩
theorem sp_X12_offerIn (E : jxE) (d : Nat) (hd : Nat.ble 1 d = true) (x1 x2 : Int) (a0 b0 : Nat → Nat → Int) (hv0 : iv a0) : jt (jxC E d 276 [.inr (.inr (.inl 146)), .inl x1, .inl x2] (jxSH, a0, b0)) (jQ_X12_offerIn x1 x2 a0 b0) := by
  obtain ⟨d, rfl⟩ := jd_succ hd
  refine jt_eq (bq_X12_offerIn E d x1 x2 a0 b0) ?_
  exact (cp_X12_offerIn_2 E d hd x1 x2 a0 b0 hv0 _).2.2 x1 x2 0 (Nat.le_refl _) (show 0 ≤ 0 from by omega) (show 0 ≤ 20 from by omega) (show x1 = x1 from by omega)
def jW_X12_end : List (Nat × Nat) := [(146, 22)]
abbrev jQ_X12_end (x1 : Int) (a0 b0 : Nat → Nat → Int) : List jxV → (Nat → Nat → Int) → (Nat → Nat → Int) → Prop := rI (fun r a b => (iv a) ∧ (jfr jW_X12_end a0 a) ∧ (b0 = b))
theorem sp_X12_end (E : jxE) (d : Nat) (hd : Nat.ble 1 d = true) (x1 : Int) (a0 b0 : Nat → Nat → Int) (hv0 : iv a0) : jt (jxC E d 213 [.inr (.inr (.inl 146)), .inl x1] (jxSH, a0, b0)) (jQ_X12_end x1 a0 b0) := by
  obtain ⟨d, rfl⟩ := jd_succ hd
  refine jt_eq (bq_X12_end E d x1 a0 b0) ?_
  refine jt_ite (fun c379_ => ?_) (fun c379_ => ?_)
  ·
    exact jt_rI ⟨hv0, (jfr_rf _ _), rfl⟩
  ·
    have h380_ := iv_get hv0 (k := 146) (j := 22) (l := 0) (u := 200) rfl
    refine jt_ite (fun c381_ => ?_) (fun c381_ => ?_)
    ·
      exact jt_rI ⟨hv0, (jfr_rf _ _), rfl⟩
    ·
      have hv382_ : iv (jxu a0 146 22 x1) := iv_put hv0 (l := 0) (u := 200) rfl (by omega) (by omega)
      have hf383_ : jfr jW_X12_end a0 (jxu a0 146 22 x1) := jfr_put (jfr_rf _ _) rfl
      exact jt_rI ⟨hv382_, hf383_, rfl⟩
def jWe_X12_far : List (Nat × Nat) := []
def jW_X12_far : List (Nat × Nat) := [(147, 9999)]
abbrev jQ_X12_far (x1 x2 x3 : Int) (a0 b0 : Nat → Nat → Int) : List jxV → (Nat → Nat → Int) → (Nat → Nat → Int) → Prop := rI (fun r a b => (iv a) ∧ (jfr jW_X12_far a0 a) ∧ (b0 = b) ∧ (FarP (a0 147) (a 147) x1 x2 x3 r))
theorem cp_X12_far_29 (E : jxE) (d : Nat) (hd : Nat.ble 3 (d + 1) = true) (x1 x2 x3 : Int) (a0 b0 : Nat → Nat → Int) (hv0 : iv a0) : ∀ (a : Nat → Nat → Int), iv a → jfr jW_X12_far a0 a → ((((((x1 < 0 ∨ 15 < x1) ∨ x2 < 0) ∨ 15 < x2) ∨ x1 = x2) ∨ x3 < 0) ∨ 99 < x3) → (jfr jWe_X12_far a0 a) → jt (jxX E d 209 29 [none, none, none, none, none] [] (jxSH, a, b0)) (jQ_X12_far x1 x2 x3 a0 b0) := by
  intro a hv hf hi0 hfe
  refine jt_eq (bq_X12_far_29 E d a b0) ?_
  exact jt_rI ⟨hv, hf, rfl, (Or.inr ⟨by omega, rfl, fun j => hfe 147 j rfl⟩)⟩
theorem cp_X12_far_56 (E : jxE) (d : Nat) (hd : Nat.ble 3 (d + 1) = true) (x1 x2 x3 : Int) (a0 b0 : Nat → Nat → Int) (hv0 : iv a0) : ∀ (y1 y2 y3 y4 : Int) (a : Nat → Nat → Int), iv a → jfr jW_X12_far a0 a → 0 ≤ y1 → y1 ≤ 15 → 0 ≤ y2 → y2 ≤ 15 → 0 ≤ y3 → y3 ≤ 99 → 0 ≤ y4 → y4 ≤ 99 → y1 = x1 → y2 = x2 → y3 = x3 → ((((((0 ≤ x1 ∧ x1 ≤ 15) ∧ 0 ≤ x2) ∧ x2 ≤ 15) ∧ ¬ x1 = x2) ∧ 0 ≤ x3) ∧ x3 ≤ 99) → (∀ j, a 147 j = if j = (16 * x1 + x2).toNat then x3 else a0 147 j) → (y4 = a0 147 (16 * x1 + x2).toNat) → jt (jxX E d 209 56 [some (.inr (.inr (.inl 146))), some (.inl y1), some (.inl y2), some (.inl y3), some (.inl y4)] [] (jxSH, a, b0)) (jQ_X12_far x1 x2 x3 a0 b0) := by
  intro y1 y2 y3 y4 a hv hf hi0 hi1 hi2 hi3 hi4 hi5 hi6 hi7 hi8 hi9 hi10 hi11 hf56 hy4
  refine jt_eq (bq_X12_far_56 E d y1 y2 y3 y4 a b0) ?_
  have hix2 : (jxw ((jxw (16 * y2)) + y1)).toNat = (16 * x2 + x1).toNat := by rw [jxw_id (x := 16 * y2) (by omega) (by omega), jxw_id (by omega) (by omega)]; omega
  have h384_ : jxw (16 * y2) = 16 * y2 := jxw_id (by omega) (by omega)
  have h385_ : jxw ((jxw (16 * y2)) + y1) = (jxw (16 * y2)) + y1 := jxw_id (by omega) (by omega)
  refine jt_grd (by omega) ?_
  have hv386_ : iv (jxu a 147 ((jxw ((jxw (16 * y2)) + y1)).toNat) y3) := iv_put hv (l := 0) (u := 99) rfl (by omega) (by omega)
  have hf387_ : jfr jW_X12_far a0 (jxu a 147 ((jxw ((jxw (16 * y2)) + y1)).toNat) y3) := jfr_put hf rfl
  exact jt_rI ⟨hv386_, hf387_, rfl, (Or.inl ⟨by omega, by omega, by omega, by omega, by omega, by omega, by omega, hy4, fun j => by rw [hix2]; simp only [jxu]; rw [hf56 j, show y3 = x3 from (by omega)]; simp⟩)⟩
theorem cp_X12_far_31 (E : jxE) (d : Nat) (hd : Nat.ble 3 (d + 1) = true) (x1 x2 x3 : Int) (a0 b0 : Nat → Nat → Int) (hv0 : iv a0) : ∀ (y1 y2 y3 : Int) (a : Nat → Nat → Int), iv a → jfr jW_X12_far a0 a → 0 ≤ y1 → y1 ≤ 15 → 0 ≤ y2 → y2 ≤ 15 → 0 ≤ y3 → y3 ≤ 99 → y1 = x1 → y2 = x2 → y3 = x3 → ((((((0 ≤ x1 ∧ x1 ≤ 15) ∧ 0 ≤ x2) ∧ x2 ≤ 15) ∧ ¬ x1 = x2) ∧ 0 ≤ x3) ∧ x3 ≤ 99) → (jfr jWe_X12_far a0 a) → jt (jxX E d 209 31 [some (.inr (.inr (.inl 146))), some (.inl y1), some (.inl y2), some (.inl y3), none] [] (jxSH, a, b0)) (jQ_X12_far x1 x2 x3 a0 b0) := by
  intro y1 y2 y3 a hv hf hi0 hi1 hi2 hi3 hi4 hi5 hi6 hi7 hi8 hi9 hfe
  refine jt_eq (bq_X12_far_31 E d y1 y2 y3 a b0) ?_
  have hix : (jxw ((jxw (16 * y1)) + y2)).toNat = (16 * x1 + x2).toNat := by rw [jxw_id (x := 16 * y1) (by omega) (by omega), jxw_id (by omega) (by omega)]; omega
  have h388_ : jxw (16 * y1) = 16 * y1 := jxw_id (by omega) (by omega)
  have h389_ : jxw ((jxw (16 * y1)) + y2) = (jxw (16 * y1)) + y2 := jxw_id (by omega) (by omega)
  refine jt_grd (by omega) ?_
  refine jt_grd (by omega) ?_
  have hv390_ : iv (jxu a 147 ((jxw ((jxw (16 * y1)) + y2)).toNat) y3) := iv_put hv (l := 0) (u := 99) rfl (by omega) (by omega)
  have hf391_ : jfr jW_X12_far a0 (jxu a 147 ((jxw ((jxw (16 * y1)) + y2)).toNat) y3) := jfr_put hf rfl
  have h392_ := iv_get hv (k := 147) (j := (jxw ((jxw (16 * y1)) + y2)).toNat) (l := 0) (u := 99) rfl
  exact cp_X12_far_56 E d hd x1 x2 x3 a0 b0 hv0 y1 y2 y3 (a 147 ((jxw ((jxw (16 * y1)) + y2)).toNat)) (jxu a 147 ((jxw ((jxw (16 * y1)) + y2)).toNat) y3) hv390_ hf391_ (show 0 ≤ y1 from by omega) (show y1 ≤ 15 from by omega) (show 0 ≤ y2 from by omega) (show y2 ≤ 15 from by omega) (show 0 ≤ y3 from by omega) (show y3 ≤ 99 from by omega) (show 0 ≤ a 147 ((jxw ((jxw (16 * y1)) + y2)).toNat) from by omega) (show a 147 ((jxw ((jxw (16 * y1)) + y2)).toNat) ≤ 99 from by omega) (show y1 = x1 from by omega) (show y2 = x2 from by omega) (show y3 = x3 from by omega) (show ((((((0 ≤ x1 ∧ x1 ≤ 15) ∧ 0 ≤ x2) ∧ x2 ≤ 15) ∧ ¬ x1 = x2) ∧ 0 ≤ x3) ∧ x3 ≤ 99) from by omega) (by intro j; rw [hix]; simp only [jxu]; rw [hfe 147 j rfl, show y3 = x3 from (by omega)]; simp) (by rw [hix]; exact hfe 147 _ rfl)
theorem sp_X12_far (E : jxE) (d : Nat) (hd : Nat.ble 3 d = true) (x1 x2 x3 : Int) (a0 b0 : Nat → Nat → Int) (hv0 : iv a0) : jt (jxC E d 209 [.inr (.inr (.inl 146)), .inl x1, .inl x2, .inl x3] (jxSH, a0, b0)) (jQ_X12_far x1 x2 x3 a0 b0) := by
  obtain ⟨d, rfl⟩ := jd_succ hd
  refine jt_eq (bq_X12_far E d x1 x2 x3 a0 b0) ?_
  refine jt_eI (eq_X12_isLand E d (jd_le hd rfl) x1 a0 b0) ?_
  have h393_ := f_X12_isLand_eq a0 b0 x1
  have h394_ := f_X12_in_eq a0 b0 x1 0 15
  refine jt_ite (fun c395_ => ?_) (fun c395_ => ?_)
  ·
    exact cp_X12_far_29 E d hd x1 x2 x3 a0 b0 hv0 a0 hv0 (jfr_rf _ _) (show ((((((x1 < 0 ∨ 15 < x1) ∨ x2 < 0) ∨ 15 < x2) ∨ x1 = x2) ∨ x3 < 0) ∨ 99 < x3) from by omega) (jfr_rf _ _)
  ·
    refine jt_eI (eq_X12_isLand E d (jd_le hd rfl) x2 a0 b0) ?_
    have h396_ := f_X12_isLand_eq a0 b0 x2
    have h397_ := f_X12_in_eq a0 b0 x2 0 15
    refine jt_ite (fun c398_ => ?_) (fun c398_ => ?_)
    ·
      exact cp_X12_far_29 E d hd x1 x2 x3 a0 b0 hv0 a0 hv0 (jfr_rf _ _) (show ((((((x1 < 0 ∨ 15 < x1) ∨ x2 < 0) ∨ 15 < x2) ∨ x1 = x2) ∨ x3 < 0) ∨ 99 < x3) from by omega) (jfr_rf _ _)
    ·
      refine jt_ite (fun c399_ => ?_) (fun c399_ => ?_)
      ·
        exact cp_X12_far_29 E d hd x1 x2 x3 a0 b0 hv0 a0 hv0 (jfr_rf _ _) (show ((((((x1 < 0 ∨ 15 < x1) ∨ x2 < 0) ∨ 15 < x2) ∨ x1 = x2) ∨ x3 < 0) ∨ 99 < x3) from by omega) (jfr_rf _ _)
      ·
        refine jt_eI (eq_X12_in E d (jd_le hd rfl) x3 0 99 a0 b0) ?_
        have h400_ := f_X12_in_eq a0 b0 x3 0 99
        refine jt_ite (fun c401_ => ?_) (fun c401_ => ?_)
        ·
          exact cp_X12_far_29 E d hd x1 x2 x3 a0 b0 hv0 a0 hv0 (jfr_rf _ _) (show ((((((x1 < 0 ∨ 15 < x1) ∨ x2 < 0) ∨ 15 < x2) ∨ x1 = x2) ∨ x3 < 0) ∨ 99 < x3) from by omega) (jfr_rf _ _)
        ·
          exact cp_X12_far_31 E d hd x1 x2 x3 a0 b0 hv0 x1 x2 x3 a0 hv0 (jfr_rf _ _) (show 0 ≤ x1 from by omega) (show x1 ≤ 15 from by omega) (show 0 ≤ x2 from by omega) (show x2 ≤ 15 from by omega) (show 0 ≤ x3 from by omega) (show x3 ≤ 99 from by omega) (show x1 = x1 from by omega) (show x2 = x2 from by omega) (show x3 = x3 from by omega) (show ((((((0 ≤ x1 ∧ x1 ≤ 15) ∧ 0 ≤ x2) ∧ x2 ≤ 15) ∧ ¬ x1 = x2) ∧ 0 ≤ x3) ∧ x3 ≤ 99) from by omega) (jfr_rf _ _)
def jW_X12_four : List (Nat × Nat) := [(146, 22), (164, 9999)]
abbrev jQ_X12_four (x1 : Int) (a0 b0 : Nat → Nat → Int) : List jxV → (Nat → Nat → Int) → (Nat → Nat → Int) → Prop := rV (fun a b => (iv a) ∧ (jfr jW_X12_four a0 a) ∧ (b0 = b) ∧ (a 146 22 = (a0 146 22) + 4))
theorem cp_X12_four_3 (E : jxE) (d : Nat) (hd : Nat.ble 1 (d + 1) = true) (x1 : Int) (a0 b0 : Nat → Nat → Int) (hv0 : iv a0) (hp0 : a0 146 22 ≤ 196) : ∀ n : Nat, (∀ (y1 y2 : Int) (a : Nat → Nat → Int), (((y2 + 8) * 1) + 0).toNat ≤ n → iv a → jfr jW_X12_four a0 a → 0 ≤ y2 → y2 ≤ 24 → (8 * (a 146 22)) + y2 = (8 * (a0 146 22)) + 32 → jt (jxX E d 211 30 [some (.inr (.inr (.inl 146))), some (.inl y1), some (.inl y2)] [] (jxSH, a, b0)) (jQ_X12_four x1 a0 b0)) ∧ (∀ (y1 y2 : Int) (a : Nat → Nat → Int), (((y2 + 8) * 1) + 0).toNat ≤ n → iv a → jfr jW_X12_four a0 a → 0 - 8 ≤ y2 → y2 ≤ 24 → (8 * (a 146 22)) + y2 = (8 * (a0 146 22)) + 24 → jt (jxX E d 211 3 [some (.inr (.inr (.inl 146))), some (.inl y1), some (.inl y2)] [] (jxSH, a, b0)) (jQ_X12_four x1 a0 b0)) := by
  refine jx_ind fun n ih => ?_
  have ih30 : ∀ (y1 y2 : Int) (a : Nat → Nat → Int), (((y2 + 8) * 1) + 0).toNat < n → iv a → jfr jW_X12_four a0 a → 0 ≤ y2 → y2 ≤ 24 → (8 * (a 146 22)) + y2 = (8 * (a0 146 22)) + 32 → jt (jxX E d 211 30 [some (.inr (.inr (.inl 146))), some (.inl y1), some (.inl y2)] [] (jxSH, a, b0)) (jQ_X12_four x1 a0 b0) := fun y1 y2 a hlt i0 i1 i2 i3 i4 => (ih _ hlt).1 y1 y2 a (Nat.le_refl _) i0 i1 i2 i3 i4
  have ih3 : ∀ (y1 y2 : Int) (a : Nat → Nat → Int), (((y2 + 8) * 1) + 0).toNat < n → iv a → jfr jW_X12_four a0 a → 0 - 8 ≤ y2 → y2 ≤ 24 → (8 * (a 146 22)) + y2 = (8 * (a0 146 22)) + 24 → jt (jxX E d 211 3 [some (.inr (.inr (.inl 146))), some (.inl y1), some (.inl y2)] [] (jxSH, a, b0)) (jQ_X12_four x1 a0 b0) := fun y1 y2 a hlt i0 i1 i2 i3 i4 => (ih _ hlt).2 y1 y2 a (Nat.le_refl _) i0 i1 i2 i3 i4
  have hc30 : ∀ (y1 y2 : Int) (a : Nat → Nat → Int), (((y2 + 8) * 1) + 0).toNat ≤ n → iv a → jfr jW_X12_four a0 a → 0 ≤ y2 → y2 ≤ 24 → (8 * (a 146 22)) + y2 = (8 * (a0 146 22)) + 32 → jt (jxX E d 211 30 [some (.inr (.inr (.inl 146))), some (.inl y1), some (.inl y2)] [] (jxSH, a, b0)) (jQ_X12_four x1 a0 b0) := by
    intro y1 y2 a hm hv hf hi0 hi1 hi2
    refine jt_eq (bq_X12_four_30 E d y1 y2 a b0) ?_
    have h402_ := iv_get hv (k := 146) (j := 22) (l := 0) (u := 200) rfl
    have h403_ := iv_get hv0 (k := 146) (j := 22) (l := 0) (u := 200) rfl
    have h404_ : jxw (y2 + (-8)) = y2 + (-8) := jxw_id (by omega) (by omega)
    exact ih3 y1 (jxw (y2 + (-8))) a (show ((((jxw (y2 + (-8))) + 8) * 1) + 0).toNat < n from by omega) hv hf (show 0 - 8 ≤ jxw (y2 + (-8)) from by omega) (show jxw (y2 + (-8)) ≤ 24 from by omega) (show (8 * (a 146 22)) + (jxw (y2 + (-8))) = (8 * (a0 146 22)) + 24 from by omega)
  have hc3 : ∀ (y1 y2 : Int) (a : Nat → Nat → Int), (((y2 + 8) * 1) + 0).toNat ≤ n → iv a → jfr jW_X12_four a0 a → 0 - 8 ≤ y2 → y2 ≤ 24 → (8 * (a 146 22)) + y2 = (8 * (a0 146 22)) + 24 → jt (jxX E d 211 3 [some (.inr (.inr (.inl 146))), some (.inl y1), some (.inl y2)] [] (jxSH, a, b0)) (jQ_X12_four x1 a0 b0) := by
    intro y1 y2 a hm hv hf hi0 hi1 hi2
    refine jt_eq (bq_X12_four_3 E d y1 y2 a b0) ?_
    have h405_ := iv_get hv (k := 146) (j := 22) (l := 0) (u := 200) rfl
    have h406_ := iv_get hv0 (k := 146) (j := 22) (l := 0) (u := 200) rfl
    refine jt_ite (fun c407_ => ?_) (fun c407_ => ?_)
    ·
      exact jt_rV ⟨hv, hf, rfl, (show a 146 22 = (a0 146 22) + 4 from by omega)⟩
    ·
      refine jt_grd (by omega) ?_
      have h408_ := jxshr_b y1 y2
      have h409_ := jxi2b_b (jxshr y1 y2)
      refine jt_grd (by omega) ?_
      have hv410_ : iv (jxu a 164 ((a 146 22).toNat) (jxi2b (jxshr y1 y2))) := iv_put hv (l := (-128)) (u := 127) rfl (by omega) (by omega)
      have h412_ : jxw ((a 146 22) + 1) = (a 146 22) + 1 := jxw_id (by omega) (by omega)
      have hv411_ : iv (jxu (jxu a 164 ((a 146 22).toNat) (jxi2b (jxshr y1 y2))) 146 22 (jxw ((a 146 22) + 1))) := iv_put hv410_ (l := 0) (u := 200) rfl (by omega) (by omega)
      have hf413_ : jfr jW_X12_four a0 (jxu a 164 ((a 146 22).toNat) (jxi2b (jxshr y1 y2))) := jfr_put hf rfl
      have hf414_ : jfr jW_X12_four a0 (jxu (jxu a 164 ((a 146 22).toNat) (jxi2b (jxshr y1 y2))) 146 22 (jxw ((a 146 22) + 1))) := jfr_put hf413_ rfl
      exact hc30 y1 y2 (jxu (jxu a 164 ((a 146 22).toNat) (jxi2b (jxshr y1 y2))) 146 22 (jxw ((a 146 22) + 1))) (show (((y2 + 8) * 1) + 0).toNat ≤ n from by omega) hv411_ hf414_ (show 0 ≤ y2 from by omega) (show y2 ≤ 24 from by omega) (show (8 * (jxw ((a 146 22) + 1))) + y2 = (8 * (a0 146 22)) + 32 from by omega)
  exact ⟨hc30, hc3⟩
theorem sp_X12_four (E : jxE) (d : Nat) (hd : Nat.ble 1 d = true) (x1 : Int) (a0 b0 : Nat → Nat → Int) (hv0 : iv a0) (hp0 : a0 146 22 ≤ 196) : jt (jxC E d 211 [.inr (.inr (.inl 146)), .inl x1] (jxSH, a0, b0)) (jQ_X12_four x1 a0 b0) := by
  obtain ⟨d, rfl⟩ := jd_succ hd
  refine jt_eq (bq_X12_four E d x1 a0 b0) ?_
  have h415_ := iv_get hv0 (k := 146) (j := 22) (l := 0) (u := 200) rfl
  exact (cp_X12_four_3 E d hd x1 a0 b0 hv0 hp0 _).2 x1 24 a0 (Nat.le_refl _) hv0 (jfr_rf _ _) (show 0 - 8 ≤ 24 from by omega) (show 24 ≤ 24 from by omega) (show (8 * (a0 146 22)) + 24 = (8 * (a0 146 22)) + 24 from by omega)
def jW_X12_feed : List (Nat × Nat) := [(146, 22), (164, 9999)]
abbrev jQ_X12_feed (x1 x2 x3 x4 x5 : Int) (a0 b0 : Nat → Nat → Int) : List jxV → (Nat → Nat → Int) → (Nat → Nat → Int) → Prop := rI (fun r a b => (iv a) ∧ (jfr jW_X12_feed a0 a) ∧ (b0 = b))
theorem cp_X12_feed_30 (E : jxE) (d : Nat) (hd : Nat.ble 2 (d + 1) = true) (x1 x2 x3 x4 x5 : Int) (a0 b0 : Nat → Nat → Int) (hv0 : iv a0) : ∀ (y4 y5 : Int) (a : Nat → Nat → Int), iv a → jfr jW_X12_feed a0 a → a 146 22 = (a0 146 22) + 12 → a0 146 22 ≤ 180 → jt (jxX E d 212 30 [some (.inr (.inr (.inl 146))), none, none, none, some (.inl y4), some (.inl y5)] [] (jxSH, a, b0)) (jQ_X12_feed x1 x2 x3 x4 x5 a0 b0) := by
  intro y4 y5 a hv hf hi0 hi1
  refine jt_eq (bq_X12_feed_30 E d y4 y5 a b0) ?_
  have h416_ := iv_get hv (k := 146) (j := 22) (l := 0) (u := 200) rfl
  have h417_ := iv_get hv0 (k := 146) (j := 22) (l := 0) (u := 200) rfl
  refine jt_bV (sp_X12_four E d (jd_le hd rfl) y4 a b0 hv (show a 146 22 ≤ 196 from by omega)) (fun a418_ b418_ h418_ => ?_)
  obtain ⟨hv418_, hf418_, rfl, hq418_0⟩ := h418_
  have h419_ := iv_get hv418_ (k := 146) (j := 22) (l := 0) (u := 200) rfl
  refine jt_bV (sp_X12_four E d (jd_le hd rfl) y5 a418_ b0 hv418_ (show a418_ 146 22 ≤ 196 from by omega)) (fun a420_ b420_ h420_ => ?_)
  obtain ⟨hv420_, hf420_, rfl, hq420_0⟩ := h420_
  have h421_ := iv_get hv420_ (k := 146) (j := 22) (l := 0) (u := 200) rfl
  have hf422_ : jfr jW_X12_feed a0 a418_ := jfr_tr hf hf418_ rfl
  have hf423_ : jfr jW_X12_feed a0 a420_ := jfr_tr hf422_ hf420_ rfl
  exact jt_rI ⟨hv420_, hf423_, rfl⟩
theorem sp_X12_feed (E : jxE) (d : Nat) (hd : Nat.ble 2 d = true) (x1 x2 x3 x4 x5 : Int) (a0 b0 : Nat → Nat → Int) (hv0 : iv a0) : jt (jxC E d 212 [.inr (.inr (.inl 146)), .inl x1, .inl x2, .inl x3, .inl x4, .inl x5] (jxSH, a0, b0)) (jQ_X12_feed x1 x2 x3 x4 x5 a0 b0) := by
  obtain ⟨d, rfl⟩ := jd_succ hd
  refine jt_eq (bq_X12_feed E d x1 x2 x3 x4 x5 a0 b0) ?_
  have h424_ := iv_get hv0 (k := 146) (j := 22) (l := 0) (u := 200) rfl
  have h425_ : jxw ((a0 146 22) + 20) = (a0 146 22) + 20 := jxw_id (by omega) (by omega)
  refine jt_ite (fun c426_ => ?_) (fun c426_ => ?_)
  ·
    exact jt_rI ⟨hv0, (jfr_rf _ _), rfl⟩
  ·
    refine jt_bV (sp_X12_four E d (jd_le hd rfl) x1 a0 b0 hv0 (show a0 146 22 ≤ 196 from by omega)) (fun a427_ b427_ h427_ => ?_)
    obtain ⟨hv427_, hf427_, rfl, hq427_0⟩ := h427_
    have h428_ := iv_get hv427_ (k := 146) (j := 22) (l := 0) (u := 200) rfl
    refine jt_bV (sp_X12_four E d (jd_le hd rfl) x2 a427_ b0 hv427_ (show a427_ 146 22 ≤ 196 from by omega)) (fun a429_ b429_ h429_ => ?_)
    obtain ⟨hv429_, hf429_, rfl, hq429_0⟩ := h429_
    have h430_ := iv_get hv429_ (k := 146) (j := 22) (l := 0) (u := 200) rfl
    refine jt_bV (sp_X12_four E d (jd_le hd rfl) x3 a429_ b0 hv429_ (show a429_ 146 22 ≤ 196 from by omega)) (fun a431_ b431_ h431_ => ?_)
    obtain ⟨hv431_, hf431_, rfl, hq431_0⟩ := h431_
    have h432_ := iv_get hv431_ (k := 146) (j := 22) (l := 0) (u := 200) rfl
    have hf433_ : jfr jW_X12_feed a0 a427_ := jfr_tr (jfr_rf _ _) hf427_ rfl
    have hf434_ : jfr jW_X12_feed a0 a429_ := jfr_tr hf433_ hf429_ rfl
    have hf435_ : jfr jW_X12_feed a0 a431_ := jfr_tr hf434_ hf431_ rfl
    exact cp_X12_feed_30 E d hd x1 x2 x3 x4 x5 a0 b0 hv0 x4 x5 a431_ hv431_ hf435_ (show a431_ 146 22 = (a0 146 22) + 12 from by omega) (show a0 146 22 ≤ 180 from by omega)
def jW_X12_list : List (Nat × Nat) := [(146, 42), (173, 9999)]
abbrev jQ_X12_list (x1 : Int) (a0 b0 : Nat → Nat → Int) : List jxV → (Nat → Nat → Int) → (Nat → Nat → Int) → Prop := rI (fun r a b => (iv a) ∧ (jfr jW_X12_list a0 a) ∧ (b0 = b))
theorem cp_X12_list_67 (E : jxE) (d : Nat) (hd : Nat.ble 3 (d + 1) = true) (x1 : Int) (a0 b0 : Nat → Nat → Int) (hv0 : iv a0) : ∀ (a : Nat → Nat → Int), iv a → jfr jW_X12_list a0 a → 1 ≤ a 146 42 → jt (jxX E d 252 67 [some (.inr (.inr (.inl 146))), none, none] [] (jxSH, a, b0)) (jQ_X12_list x1 a0 b0) := by
  intro a hv hf hi0
  refine jt_eq (bq_X12_list_67 E d a b0) ?_
  have h436_ := iv_get hv (k := 146) (j := 42) (l := 0) (u := 8) rfl
  exact jt_rI ⟨hv, hf, rfl⟩
theorem cp_X12_list_21 (E : jxE) (d : Nat) (hd : Nat.ble 3 (d + 1) = true) (x1 : Int) (a0 b0 : Nat → Nat → Int) (hv0 : iv a0) : ∀ n : Nat, (∀ (y1 y2 : Int) (a : Nat → Nat → Int), (((7 - y2) * 1) + 0).toNat ≤ n → iv a → jfr jW_X12_list a0 a → 0 ≤ y1 → y1 ≤ 39 → 0 ≤ y2 → y2 ≤ 7 → a 146 42 ≤ 7 → jt (jxX E d 252 21 [some (.inr (.inr (.inl 146))), some (.inl y1), some (.inl y2)] [] (jxSH, a, b0)) (jQ_X12_list x1 a0 b0)) := by
  refine jx_ind fun n ih => ?_
  have ih21 : ∀ (y1 y2 : Int) (a : Nat → Nat → Int), (((7 - y2) * 1) + 0).toNat < n → iv a → jfr jW_X12_list a0 a → 0 ≤ y1 → y1 ≤ 39 → 0 ≤ y2 → y2 ≤ 7 → a 146 42 ≤ 7 → jt (jxX E d 252 21 [some (.inr (.inr (.inl 146))), some (.inl y1), some (.inl y2)] [] (jxSH, a, b0)) (jQ_X12_list x1 a0 b0) := fun y1 y2 a hlt i0 i1 i2 i3 i4 i5 i6 => (ih _ hlt) y1 y2 a (Nat.le_refl _) i0 i1 i2 i3 i4 i5 i6
  have hc21 : ∀ (y1 y2 : Int) (a : Nat → Nat → Int), (((7 - y2) * 1) + 0).toNat ≤ n → iv a → jfr jW_X12_list a0 a → 0 ≤ y1 → y1 ≤ 39 → 0 ≤ y2 → y2 ≤ 7 → a 146 42 ≤ 7 → jt (jxX E d 252 21 [some (.inr (.inr (.inl 146))), some (.inl y1), some (.inl y2)] [] (jxSH, a, b0)) (jQ_X12_list x1 a0 b0) := by
    intro y1 y2 a hm hv hf hi0 hi1 hi2 hi3 hi4
    refine jt_eq (bq_X12_list_21 E d y1 y2 a b0) ?_
    have h437_ := iv_get hv (k := 146) (j := 42) (l := 0) (u := 8) rfl
    refine jt_ite (fun c438_ => ?_) (fun c438_ => ?_)
    ·
      refine jt_grd (by omega) ?_
      have h439_ := iv_get hv (k := 173) (j := y2.toNat) (l := 0) (u := 39) rfl
      refine jt_ite (fun c440_ => ?_) (fun c440_ => ?_)
      ·
        exact jt_rI ⟨hv, hf, rfl⟩
      ·
        have h441_ : jxw (y2 + 1) = y2 + 1 := jxw_id (by omega) (by omega)
        exact ih21 y1 (jxw (y2 + 1)) a (show (((7 - (jxw (y2 + 1))) * 1) + 0).toNat < n from by omega) hv hf (show 0 ≤ y1 from by omega) (show y1 ≤ 39 from by omega) (show 0 ≤ jxw (y2 + 1) from by omega) (show jxw (y2 + 1) ≤ 7 from by omega) (show a 146 42 ≤ 7 from by omega)
    ·
      refine jt_grd (by omega) ?_
      have hv442_ : iv (jxu a 173 ((a 146 42).toNat) y1) := iv_put hv (l := 0) (u := 39) rfl (by omega) (by omega)
      have h444_ : jxw ((a 146 42) + 1) = (a 146 42) + 1 := jxw_id (by omega) (by omega)
      have hv443_ : iv (jxu (jxu a 173 ((a 146 42).toNat) y1) 146 42 (jxw ((a 146 42) + 1))) := iv_put hv442_ (l := 0) (u := 8) rfl (by omega) (by omega)
      have hf445_ : jfr jW_X12_list a0 (jxu a 173 ((a 146 42).toNat) y1) := jfr_put hf rfl
      have hf446_ : jfr jW_X12_list a0 (jxu (jxu a 173 ((a 146 42).toNat) y1) 146 42 (jxw ((a 146 42) + 1))) := jfr_put hf445_ rfl
      exact cp_X12_list_67 E d hd x1 a0 b0 hv0 (jxu (jxu a 173 ((a 146 42).toNat) y1) 146 42 (jxw ((a 146 42) + 1))) hv443_ hf446_ (show 1 ≤ jxw ((a 146 42) + 1) from by omega)
  exact hc21
theorem sp_X12_list (E : jxE) (d : Nat) (hd : Nat.ble 3 d = true) (x1 : Int) (a0 b0 : Nat → Nat → Int) (hv0 : iv a0) : jt (jxC E d 252 [.inr (.inr (.inl 146)), .inl x1] (jxSH, a0, b0)) (jQ_X12_list x1 a0 b0) := by
  obtain ⟨d, rfl⟩ := jd_succ hd
  refine jt_eq (bq_X12_list E d x1 a0 b0) ?_
  refine jt_eI (eq_X12_isMember E d (jd_le hd rfl) x1 a0 b0) ?_
  have h447_ := f_X12_isMember_eq a0 b0 x1
  have h448_ := iv_get hv0 (k := 146) (j := 2) (l := 0) (u := 40) rfl
  have h449_ : jxw ((a0 146 2) - 1) = (a0 146 2) - 1 := jxw_id (by omega) (by omega)
  have h450_ := f_X12_in_eq a0 b0 x1 0 (jxw ((a0 146 2) - 1))
  refine jt_ite (fun c451_ => ?_) (fun c451_ => ?_)
  ·
    exact jt_rI ⟨hv0, (jfr_rf _ _), rfl⟩
  ·
    have h452_ := iv_get hv0 (k := 146) (j := 42) (l := 0) (u := 8) rfl
    refine jt_ite (fun c453_ => ?_) (fun c453_ => ?_)
    ·
      exact jt_rI ⟨hv0, (jfr_rf _ _), rfl⟩
    ·
      exact (cp_X12_list_21 E d hd x1 a0 b0 hv0 _) x1 0 a0 (Nat.le_refl _) hv0 (jfr_rf _ _) (show 0 ≤ x1 from by omega) (show x1 ≤ 39 from by omega) (show 0 ≤ 0 from by omega) (show 0 ≤ 7 from by omega) (show a0 146 42 ≤ 7 from by omega)
def jW_X12_member : List (Nat × Nat) := [(146, 2), (148, 9999), (149, 9999), (150, 9999), (151, 9999), (152, 9999)]
abbrev jQ_X12_member (x1 x2 x3 : Int) (a0 b0 : Nat → Nat → Int) : List jxV → (Nat → Nat → Int) → (Nat → Nat → Int) → Prop := rI (fun r a b => (iv a) ∧ (jfr jW_X12_member a0 a) ∧ (b0 = b) ∧ ((((((((((0 ≤ x1 ∧ x1 ≤ 15) ∧ 0 ≤ x2) ∧ x2 ≤ 65535) ∧ 0 - 1 ≤ x3) ∧ x3 ≤ 19) ∧ a0 146 2 < 40) ∧ r = a0 146 2) ∧ a 146 2 = (a0 146 2) + 1) ∨ ((((((((x1 < 0 ∨ 15 < x1) ∨ x2 < 0) ∨ 65535 < x2) ∨ x3 < 0 - 1) ∨ 19 < x3) ∨ 40 ≤ a0 146 2) ∧ r = 0 - 1) ∧ a 146 2 = a0 146 2))))
theorem cp_X12_member_36 (E : jxE) (d : Nat) (hd : Nat.ble 3 (d + 1) = true) (x1 x2 x3 : Int) (a0 b0 : Nat → Nat → Int) (hv0 : iv a0) : ∀ (a : Nat → Nat → Int), iv a → jfr jW_X12_member a0 a → ((((((x1 < 0 ∨ 15 < x1) ∨ x2 < 0) ∨ 65535 < x2) ∨ x3 < 0 - 1) ∨ 19 < x3) ∨ 40 ≤ a 146 2) → a 146 2 = a0 146 2 → jt (jxX E d 210 36 [none, none, none, none] [] (jxSH, a, b0)) (jQ_X12_member x1 x2 x3 a0 b0) := by
  intro a hv hf hi0 hi1
  refine jt_eq (bq_X12_member_36 E d a b0) ?_
  have h454_ := iv_get hv (k := 146) (j := 2) (l := 0) (u := 40) rfl
  have h455_ := iv_get hv0 (k := 146) (j := 2) (l := 0) (u := 40) rfl
  exact jt_rI ⟨hv, hf, rfl, (show (((((((((0 ≤ x1 ∧ x1 ≤ 15) ∧ 0 ≤ x2) ∧ x2 ≤ 65535) ∧ 0 - 1 ≤ x3) ∧ x3 ≤ 19) ∧ a0 146 2 < 40) ∧ (-1) = a0 146 2) ∧ a 146 2 = (a0 146 2) + 1) ∨ ((((((((x1 < 0 ∨ 15 < x1) ∨ x2 < 0) ∨ 65535 < x2) ∨ x3 < 0 - 1) ∨ 19 < x3) ∨ 40 ≤ a0 146 2) ∧ (-1) = 0 - 1) ∧ a 146 2 = a0 146 2)) from by omega)⟩
theorem cp_X12_member_101 (E : jxE) (d : Nat) (hd : Nat.ble 3 (d + 1) = true) (x1 x2 x3 : Int) (a0 b0 : Nat → Nat → Int) (hv0 : iv a0) : ∀ (a : Nat → Nat → Int), iv a → jfr jW_X12_member a0 a → 1 ≤ a 146 2 → (((((0 ≤ x1 ∧ x1 ≤ 15) ∧ 0 ≤ x2) ∧ x2 ≤ 65535) ∧ 0 - 1 ≤ x3) ∧ x3 ≤ 19) → a0 146 2 ≤ 39 → a 146 2 = (a0 146 2) + 1 → jt (jxX E d 210 101 [some (.inr (.inr (.inl 146))), none, none, none] [] (jxSH, a, b0)) (jQ_X12_member x1 x2 x3 a0 b0) := by
  intro a hv hf hi0 hi1 hi2 hi3
  refine jt_eq (bq_X12_member_101 E d a b0) ?_
  have h456_ := iv_get hv (k := 146) (j := 2) (l := 0) (u := 40) rfl
  have h457_ := iv_get hv0 (k := 146) (j := 2) (l := 0) (u := 40) rfl
  have h458_ : jxw ((a 146 2) - 1) = (a 146 2) - 1 := jxw_id (by omega) (by omega)
  exact jt_rI ⟨hv, hf, rfl, (show (((((((((0 ≤ x1 ∧ x1 ≤ 15) ∧ 0 ≤ x2) ∧ x2 ≤ 65535) ∧ 0 - 1 ≤ x3) ∧ x3 ≤ 19) ∧ a0 146 2 < 40) ∧ jxw ((a 146 2) - 1) = a0 146 2) ∧ a 146 2 = (a0 146 2) + 1) ∨ ((((((((x1 < 0 ∨ 15 < x1) ∨ x2 < 0) ∨ 65535 < x2) ∨ x3 < 0 - 1) ∨ 19 < x3) ∨ 40 ≤ a0 146 2) ∧ jxw ((a 146 2) - 1) = 0 - 1) ∧ a 146 2 = a0 146 2)) from by omega)⟩
theorem cp_X12_member_68 (E : jxE) (d : Nat) (hd : Nat.ble 3 (d + 1) = true) (x1 x2 x3 : Int) (a0 b0 : Nat → Nat → Int) (hv0 : iv a0) : ∀ (a : Nat → Nat → Int), iv a → jfr jW_X12_member a0 a → a 146 2 ≤ 39 → (((((0 ≤ x1 ∧ x1 ≤ 15) ∧ 0 ≤ x2) ∧ x2 ≤ 65535) ∧ 0 - 1 ≤ x3) ∧ x3 ≤ 19) → a 146 2 ≤ 39 → a 146 2 = a0 146 2 → jt (jxX E d 210 68 [some (.inr (.inr (.inl 146))), none, none, none] [] (jxSH, a, b0)) (jQ_X12_member x1 x2 x3 a0 b0) := by
  intro a hv hf hi0 hi1 hi2 hi3
  refine jt_eq (bq_X12_member_68 E d a b0) ?_
  have h459_ := iv_get hv (k := 146) (j := 2) (l := 0) (u := 40) rfl
  have h460_ := iv_get hv0 (k := 146) (j := 2) (l := 0) (u := 40) rfl
  refine jt_grd (by omega) ?_
  refine jt_grd (by omega) ?_
  have hv461_ : iv (jxu a 151 ((a 146 2).toNat) (a 146 0)) := iv_putf hv rfl
  have hv462_ : iv (jxu (jxu a 151 ((a 146 2).toNat) (a 146 0)) 152 ((a 146 2).toNat) 1) := iv_put hv461_ (l := 0) (u := 1) rfl (by omega) (by omega)
  have h464_ : jxw ((a 146 2) + 1) = (a 146 2) + 1 := jxw_id (by omega) (by omega)
  have hv463_ : iv (jxu (jxu (jxu a 151 ((a 146 2).toNat) (a 146 0)) 152 ((a 146 2).toNat) 1) 146 2 (jxw ((a 146 2) + 1))) := iv_put hv462_ (l := 0) (u := 40) rfl (by omega) (by omega)
  have hf465_ : jfr jW_X12_member a0 (jxu a 151 ((a 146 2).toNat) (a 146 0)) := jfr_put hf rfl
  have hf466_ : jfr jW_X12_member a0 (jxu (jxu a 151 ((a 146 2).toNat) (a 146 0)) 152 ((a 146 2).toNat) 1) := jfr_put hf465_ rfl
  have hf467_ : jfr jW_X12_member a0 (jxu (jxu (jxu a 151 ((a 146 2).toNat) (a 146 0)) 152 ((a 146 2).toNat) 1) 146 2 (jxw ((a 146 2) + 1))) := jfr_put hf466_ rfl
  exact cp_X12_member_101 E d hd x1 x2 x3 a0 b0 hv0 (jxu (jxu (jxu a 151 ((a 146 2).toNat) (a 146 0)) 152 ((a 146 2).toNat) 1) 146 2 (jxw ((a 146 2) + 1))) hv463_ hf467_ (show 1 ≤ jxw ((a 146 2) + 1) from by omega) (show (((((0 ≤ x1 ∧ x1 ≤ 15) ∧ 0 ≤ x2) ∧ x2 ≤ 65535) ∧ 0 - 1 ≤ x3) ∧ x3 ≤ 19) from by omega) (show a0 146 2 ≤ 39 from by omega) (show jxw ((a 146 2) + 1) = (a0 146 2) + 1 from by omega)
theorem cp_X12_member_38 (E : jxE) (d : Nat) (hd : Nat.ble 3 (d + 1) = true) (x1 x2 x3 : Int) (a0 b0 : Nat → Nat → Int) (hv0 : iv a0) : ∀ (y1 y2 y3 : Int) (a : Nat → Nat → Int), iv a → jfr jW_X12_member a0 a → 0 ≤ y1 → y1 ≤ 15 → 0 ≤ y2 → y2 ≤ 65535 → 0 - 1 ≤ y3 → y3 ≤ 19 → a 146 2 ≤ 39 → y1 = x1 → y2 = x2 → y3 = x3 → (((((0 ≤ x1 ∧ x1 ≤ 15) ∧ 0 ≤ x2) ∧ x2 ≤ 65535) ∧ 0 - 1 ≤ x3) ∧ x3 ≤ 19) → a 146 2 ≤ 39 → a 146 2 = a0 146 2 → jt (jxX E d 210 38 [some (.inr (.inr (.inl 146))), some (.inl y1), some (.inl y2), some (.inl y3)] [] (jxSH, a, b0)) (jQ_X12_member x1 x2 x3 a0 b0) := by
  intro y1 y2 y3 a hv hf hi0 hi1 hi2 hi3 hi4 hi5 hi6 hi7 hi8 hi9 hi10 hi11 hi12
  refine jt_eq (bq_X12_member_38 E d y1 y2 y3 a b0) ?_
  have h468_ := iv_get hv (k := 146) (j := 2) (l := 0) (u := 40) rfl
  have h469_ := iv_get hv0 (k := 146) (j := 2) (l := 0) (u := 40) rfl
  refine jt_grd (by omega) ?_
  refine jt_grd (by omega) ?_
  refine jt_grd (by omega) ?_
  have hv470_ : iv (jxu a 148 ((a 146 2).toNat) y1) := iv_put hv (l := 0) (u := 15) rfl (by omega) (by omega)
  have hv471_ : iv (jxu (jxu a 148 ((a 146 2).toNat) y1) 149 ((a 146 2).toNat) y2) := iv_putf hv470_ rfl
  have hv472_ : iv (jxu (jxu (jxu a 148 ((a 146 2).toNat) y1) 149 ((a 146 2).toNat) y2) 150 ((a 146 2).toNat) y3) := iv_put hv471_ (l := (-1)) (u := 19) rfl (by omega) (by omega)
  have hf473_ : jfr jW_X12_member a0 (jxu a 148 ((a 146 2).toNat) y1) := jfr_put hf rfl
  have hf474_ : jfr jW_X12_member a0 (jxu (jxu a 148 ((a 146 2).toNat) y1) 149 ((a 146 2).toNat) y2) := jfr_put hf473_ rfl
  have hf475_ : jfr jW_X12_member a0 (jxu (jxu (jxu a 148 ((a 146 2).toNat) y1) 149 ((a 146 2).toNat) y2) 150 ((a 146 2).toNat) y3) := jfr_put hf474_ rfl
  exact cp_X12_member_68 E d hd x1 x2 x3 a0 b0 hv0 (jxu (jxu (jxu a 148 ((a 146 2).toNat) y1) 149 ((a 146 2).toNat) y2) 150 ((a 146 2).toNat) y3) hv472_ hf475_ (show a 146 2 ≤ 39 from by omega) (show (((((0 ≤ x1 ∧ x1 ≤ 15) ∧ 0 ≤ x2) ∧ x2 ≤ 65535) ∧ 0 - 1 ≤ x3) ∧ x3 ≤ 19) from by omega) (show a 146 2 ≤ 39 from by omega) (show a 146 2 = a0 146 2 from by omega)
theorem sp_X12_member (E : jxE) (d : Nat) (hd : Nat.ble 3 d = true) (x1 x2 x3 : Int) (a0 b0 : Nat → Nat → Int) (hv0 : iv a0) : jt (jxC E d 210 [.inr (.inr (.inl 146)), .inl x1, .inl x2, .inl x3] (jxSH, a0, b0)) (jQ_X12_member x1 x2 x3 a0 b0) := by
  obtain ⟨d, rfl⟩ := jd_succ hd
  refine jt_eq (bq_X12_member E d x1 x2 x3 a0 b0) ?_
  have h476_ := iv_get hv0 (k := 146) (j := 2) (l := 0) (u := 40) rfl
  refine jt_ite (fun c477_ => ?_) (fun c477_ => ?_)
  ·
    exact cp_X12_member_36 E d hd x1 x2 x3 a0 b0 hv0 a0 hv0 (jfr_rf _ _) (show ((((((x1 < 0 ∨ 15 < x1) ∨ x2 < 0) ∨ 65535 < x2) ∨ x3 < 0 - 1) ∨ 19 < x3) ∨ 40 ≤ a0 146 2) from by omega) (show a0 146 2 = a0 146 2 from by omega)
  ·
    refine jt_eI (eq_X12_isLand E d (jd_le hd rfl) x1 a0 b0) ?_
    have h478_ := f_X12_isLand_eq a0 b0 x1
    have h479_ := f_X12_in_eq a0 b0 x1 0 15
    refine jt_ite (fun c480_ => ?_) (fun c480_ => ?_)
    ·
      exact cp_X12_member_36 E d hd x1 x2 x3 a0 b0 hv0 a0 hv0 (jfr_rf _ _) (show ((((((x1 < 0 ∨ 15 < x1) ∨ x2 < 0) ∨ 65535 < x2) ∨ x3 < 0 - 1) ∨ 19 < x3) ∨ 40 ≤ a0 146 2) from by omega) (show a0 146 2 = a0 146 2 from by omega)
    ·
      refine jt_eI (eq_X12_in E d (jd_le hd rfl) x2 0 65535 a0 b0) ?_
      have h481_ := f_X12_in_eq a0 b0 x2 0 65535
      refine jt_ite (fun c482_ => ?_) (fun c482_ => ?_)
      ·
        exact cp_X12_member_36 E d hd x1 x2 x3 a0 b0 hv0 a0 hv0 (jfr_rf _ _) (show ((((((x1 < 0 ∨ 15 < x1) ∨ x2 < 0) ∨ 65535 < x2) ∨ x3 < 0 - 1) ∨ 19 < x3) ∨ 40 ≤ a0 146 2) from by omega) (show a0 146 2 = a0 146 2 from by omega)
      ·
        refine jt_eI (eq_X12_in E d (jd_le hd rfl) x3 (-1) 19 a0 b0) ?_
        have h483_ := f_X12_in_eq a0 b0 x3 (-1) 19
        refine jt_ite (fun c484_ => ?_) (fun c484_ => ?_)
        ·
          exact cp_X12_member_36 E d hd x1 x2 x3 a0 b0 hv0 a0 hv0 (jfr_rf _ _) (show ((((((x1 < 0 ∨ 15 < x1) ∨ x2 < 0) ∨ 65535 < x2) ∨ x3 < 0 - 1) ∨ 19 < x3) ∨ 40 ≤ a0 146 2) from by omega) (show a0 146 2 = a0 146 2 from by omega)
        ·
          exact cp_X12_member_38 E d hd x1 x2 x3 a0 b0 hv0 x1 x2 x3 a0 hv0 (jfr_rf _ _) (show 0 ≤ x1 from by omega) (show x1 ≤ 15 from by omega) (show 0 ≤ x2 from by omega) (show x2 ≤ 65535 from by omega) (show 0 - 1 ≤ x3 from by omega) (show x3 ≤ 19 from by omega) (show a0 146 2 ≤ 39 from by omega) (show x1 = x1 from by omega) (show x2 = x2 from by omega) (show x3 = x3 from by omega) (show (((((0 ≤ x1 ∧ x1 ≤ 15) ∧ 0 ≤ x2) ∧ x2 ≤ 65535) ∧ 0 - 1 ≤ x3) ∧ x3 ≤ 19) from by omega) (show a0 146 2 ≤ 39 from by omega) (show a0 146 2 = a0 146 2 from by omega)
abbrev jQ_X12_priceOf (x1 x2 x3 x4 : Int) (a0 b0 : Nat → Nat → Int) : List jxV → (Nat → Nat → Int) → (Nat → Nat → Int) → Prop := rI (fun r a b => (a0 = a) ∧ (b0 = b) ∧ (0 - 2 ≤ r) ∧ (r ≤ 900))
theorem cp_X12_priceOf_166 (E : jxE) (d : Nat) (hd : Nat.ble 1 (d + 1) = true) (x1 x2 x3 x4 : Int) (a0 b0 : Nat → Nat → Int) (hv0 : iv a0) (hp0 : (0 ≤ x1 ∧ x1 ≤ 15)) (hp1 : (0 ≤ x2 ∧ x2 ≤ 15)) : ∀ (y9 : Int), 0 ≤ y9 → y9 ≤ 357 → jt (jxX E d 283 166 [some (.inr (.inr (.inl 146))), none, none, none, none, none, none, none, none, some (.inl y9)] [] (jxSH, a0, b0)) (jQ_X12_priceOf x1 x2 x3 x4 a0 b0) := by
  intro y9 hi0 hi1
  refine jt_eq (bq_X12_priceOf_166 E d y9 a0 b0) ?_
  have h485_ : jxw (y9 + 2) = y9 + 2 := jxw_id (by omega) (by omega)
  refine jt_grd (by omega) ?_
  have h486_ := iv_get hv0 (k := 194) (j := (jxw (y9 + 2)).toNat) (l := 0) (u := 900) rfl
  exact jt_rI ⟨rfl, rfl, (show 0 - 2 ≤ a0 194 ((jxw (y9 + 2)).toNat) from by omega), (show a0 194 ((jxw (y9 + 2)).toNat) ≤ 900 from by omega)⟩
theorem cp_X12_priceOf_117 (E : jxE) (d : Nat) (hd : Nat.ble 1 (d + 1) = true) (x1 x2 x3 x4 : Int) (a0 b0 : Nat → Nat → Int) (hv0 : iv a0) (hp0 : (0 ≤ x1 ∧ x1 ≤ 15)) (hp1 : (0 ≤ x2 ∧ x2 ≤ 15)) : ∀ n : Nat, (∀ (y3 y5 y7 y8 : Int), (((12 - y8) * 1) + 0).toNat ≤ n → 0 ≤ y5 → y5 ≤ 9 → 0 ≤ y7 → y7 ≤ 3 → 0 ≤ y8 → y8 ≤ 11 → jt (jxX E d 283 176 [some (.inr (.inr (.inl 146))), none, none, some (.inl y3), none, some (.inl y5), none, some (.inl y7), some (.inl y8), none] [] (jxSH, a0, b0)) (jQ_X12_priceOf x1 x2 x3 x4 a0 b0)) ∧ (∀ (y3 y5 y7 y8 y9 : Int), (((12 - y8) * 1) + 0).toNat ≤ n → 0 ≤ y5 → y5 ≤ 9 → 0 ≤ y7 → y7 ≤ 3 → 0 ≤ y8 → y8 ≤ 11 → 0 ≤ y9 → y9 ≤ 357 → jt (jxX E d 283 141 [some (.inr (.inr (.inl 146))), none, none, some (.inl y3), none, some (.inl y5), none, some (.inl y7), some (.inl y8), some (.inl y9)] [] (jxSH, a0, b0)) (jQ_X12_priceOf x1 x2 x3 x4 a0 b0)) ∧ (∀ (y3 y5 y7 y8 : Int), (((12 - y8) * 1) + 0).toNat ≤ n → 0 ≤ y5 → y5 ≤ 9 → 0 ≤ y7 → y7 ≤ 3 → 0 ≤ y8 → y8 ≤ 12 → jt (jxX E d 283 117 [some (.inr (.inr (.inl 146))), none, none, some (.inl y3), none, some (.inl y5), none, some (.inl y7), some (.inl y8), none] [] (jxSH, a0, b0)) (jQ_X12_priceOf x1 x2 x3 x4 a0 b0)) := by
  refine jx_ind fun n ih => ?_
  have ih176 : ∀ (y3 y5 y7 y8 : Int), (((12 - y8) * 1) + 0).toNat < n → 0 ≤ y5 → y5 ≤ 9 → 0 ≤ y7 → y7 ≤ 3 → 0 ≤ y8 → y8 ≤ 11 → jt (jxX E d 283 176 [some (.inr (.inr (.inl 146))), none, none, some (.inl y3), none, some (.inl y5), none, some (.inl y7), some (.inl y8), none] [] (jxSH, a0, b0)) (jQ_X12_priceOf x1 x2 x3 x4 a0 b0) := fun y3 y5 y7 y8 hlt i0 i1 i2 i3 i4 i5 => (ih _ hlt).1 y3 y5 y7 y8 (Nat.le_refl _) i0 i1 i2 i3 i4 i5
  have ih141 : ∀ (y3 y5 y7 y8 y9 : Int), (((12 - y8) * 1) + 0).toNat < n → 0 ≤ y5 → y5 ≤ 9 → 0 ≤ y7 → y7 ≤ 3 → 0 ≤ y8 → y8 ≤ 11 → 0 ≤ y9 → y9 ≤ 357 → jt (jxX E d 283 141 [some (.inr (.inr (.inl 146))), none, none, some (.inl y3), none, some (.inl y5), none, some (.inl y7), some (.inl y8), some (.inl y9)] [] (jxSH, a0, b0)) (jQ_X12_priceOf x1 x2 x3 x4 a0 b0) := fun y3 y5 y7 y8 y9 hlt i0 i1 i2 i3 i4 i5 i6 i7 => (ih _ hlt).2.1 y3 y5 y7 y8 y9 (Nat.le_refl _) i0 i1 i2 i3 i4 i5 i6 i7
  have ih117 : ∀ (y3 y5 y7 y8 : Int), (((12 - y8) * 1) + 0).toNat < n → 0 ≤ y5 → y5 ≤ 9 → 0 ≤ y7 → y7 ≤ 3 → 0 ≤ y8 → y8 ≤ 12 → jt (jxX E d 283 117 [some (.inr (.inr (.inl 146))), none, none, some (.inl y3), none, some (.inl y5), none, some (.inl y7), some (.inl y8), none] [] (jxSH, a0, b0)) (jQ_X12_priceOf x1 x2 x3 x4 a0 b0) := fun y3 y5 y7 y8 hlt i0 i1 i2 i3 i4 i5 => (ih _ hlt).2.2 y3 y5 y7 y8 (Nat.le_refl _) i0 i1 i2 i3 i4 i5
  have hc176 : ∀ (y3 y5 y7 y8 : Int), (((12 - y8) * 1) + 0).toNat ≤ n → 0 ≤ y5 → y5 ≤ 9 → 0 ≤ y7 → y7 ≤ 3 → 0 ≤ y8 → y8 ≤ 11 → jt (jxX E d 283 176 [some (.inr (.inr (.inl 146))), none, none, some (.inl y3), none, some (.inl y5), none, some (.inl y7), some (.inl y8), none] [] (jxSH, a0, b0)) (jQ_X12_priceOf x1 x2 x3 x4 a0 b0) := by
    intro y3 y5 y7 y8 hm hi0 hi1 hi2 hi3 hi4 hi5
    refine jt_eq (bq_X12_priceOf_176 E d y3 y5 y7 y8 a0 b0) ?_
    have h487_ : jxw (y8 + 1) = y8 + 1 := jxw_id (by omega) (by omega)
    exact ih117 y3 y5 y7 (jxw (y8 + 1)) (show (((12 - (jxw (y8 + 1))) * 1) + 0).toNat < n from by omega) (show 0 ≤ y5 from by omega) (show y5 ≤ 9 from by omega) (show 0 ≤ y7 from by omega) (show y7 ≤ 3 from by omega) (show 0 ≤ jxw (y8 + 1) from by omega) (show jxw (y8 + 1) ≤ 12 from by omega)
  have hc141 : ∀ (y3 y5 y7 y8 y9 : Int), (((12 - y8) * 1) + 0).toNat ≤ n → 0 ≤ y5 → y5 ≤ 9 → 0 ≤ y7 → y7 ≤ 3 → 0 ≤ y8 → y8 ≤ 11 → 0 ≤ y9 → y9 ≤ 357 → jt (jxX E d 283 141 [some (.inr (.inr (.inl 146))), none, none, some (.inl y3), none, some (.inl y5), none, some (.inl y7), some (.inl y8), some (.inl y9)] [] (jxSH, a0, b0)) (jQ_X12_priceOf x1 x2 x3 x4 a0 b0) := by
    intro y3 y5 y7 y8 y9 hm hi0 hi1 hi2 hi3 hi4 hi5 hi6 hi7
    refine jt_eq (bq_X12_priceOf_141 E d y3 y5 y7 y8 y9 a0 b0) ?_
    refine jt_grd (by omega) ?_
    have h488_ := iv_get hv0 (k := 194) (j := y9.toNat) (l := 0) (u := 900) rfl
    refine jt_ite (fun c489_ => ?_) (fun c489_ => ?_)
    ·
      have h490_ : jxw (y9 + 1) = y9 + 1 := jxw_id (by omega) (by omega)
      refine jt_grd (by omega) ?_
      have h491_ := iv_get hv0 (k := 194) (j := (jxw (y9 + 1)).toNat) (l := 0) (u := 900) rfl
      refine jt_ite (fun c492_ => ?_) (fun c492_ => ?_)
      ·
        exact hc176 y3 y5 y7 y8 (show (((12 - y8) * 1) + 0).toNat ≤ n from by omega) (show 0 ≤ y5 from by omega) (show y5 ≤ 9 from by omega) (show 0 ≤ y7 from by omega) (show y7 ≤ 3 from by omega) (show 0 ≤ y8 from by omega) (show y8 ≤ 11 from by omega)
      ·
        exact cp_X12_priceOf_166 E d hd x1 x2 x3 x4 a0 b0 hv0 hp0 hp1 y9 (show 0 ≤ y9 from by omega) (show y9 ≤ 357 from by omega)
    ·
      exact hc176 y3 y5 y7 y8 (show (((12 - y8) * 1) + 0).toNat ≤ n from by omega) (show 0 ≤ y5 from by omega) (show y5 ≤ 9 from by omega) (show 0 ≤ y7 from by omega) (show y7 ≤ 3 from by omega) (show 0 ≤ y8 from by omega) (show y8 ≤ 11 from by omega)
  have hc117 : ∀ (y3 y5 y7 y8 : Int), (((12 - y8) * 1) + 0).toNat ≤ n → 0 ≤ y5 → y5 ≤ 9 → 0 ≤ y7 → y7 ≤ 3 → 0 ≤ y8 → y8 ≤ 12 → jt (jxX E d 283 117 [some (.inr (.inr (.inl 146))), none, none, some (.inl y3), none, some (.inl y5), none, some (.inl y7), some (.inl y8), none] [] (jxSH, a0, b0)) (jQ_X12_priceOf x1 x2 x3 x4 a0 b0) := by
    intro y3 y5 y7 y8 hm hi0 hi1 hi2 hi3 hi4 hi5
    refine jt_eq (bq_X12_priceOf_117 E d y3 y5 y7 y8 a0 b0) ?_
    refine jt_grd (by omega) ?_
    have h493_ := iv_get hv0 (k := 193) (j := y5.toNat) (l := 0) (u := 12) rfl
    refine jt_ite (fun c494_ => ?_) (fun c494_ => ?_)
    ·
      have h495_ : jxw (36 * y5) = 36 * y5 := jxw_id (by omega) (by omega)
      have h496_ : jxw (3 * y8) = 3 * y8 := jxw_id (by omega) (by omega)
      have h497_ : jxw ((jxw (36 * y5)) + (jxw (3 * y8))) = (jxw (36 * y5)) + (jxw (3 * y8)) := jxw_id (by omega) (by omega)
      exact hc141 y3 y5 y7 y8 (jxw ((jxw (36 * y5)) + (jxw (3 * y8)))) (show (((12 - y8) * 1) + 0).toNat ≤ n from by omega) (show 0 ≤ y5 from by omega) (show y5 ≤ 9 from by omega) (show 0 ≤ y7 from by omega) (show y7 ≤ 3 from by omega) (show 0 ≤ y8 from by omega) (show y8 ≤ 11 from by omega) (show 0 ≤ jxw ((jxw (36 * y5)) + (jxw (3 * y8))) from by omega) (show jxw ((jxw (36 * y5)) + (jxw (3 * y8))) ≤ 357 from by omega)
    ·
      exact jt_rI ⟨rfl, rfl, (show 0 - 2 ≤ (-2) from by omega), (show (-2) ≤ 900 from by omega)⟩
  exact ⟨hc176, hc141, hc117⟩
theorem cp_X12_priceOf_80 (E : jxE) (d : Nat) (hd : Nat.ble 1 (d + 1) = true) (x1 x2 x3 x4 : Int) (a0 b0 : Nat → Nat → Int) (hv0 : iv a0) (hp0 : (0 ≤ x1 ∧ x1 ≤ 15)) (hp1 : (0 ≤ x2 ∧ x2 ≤ 15)) : ∀ (y1 y2 y3 y5 y6 : Int), 0 ≤ y1 → y1 ≤ 15 → 0 ≤ y2 → y2 ≤ 15 → 0 ≤ y5 → y5 ≤ 9 → 0 ≤ y6 → y6 ≤ 99 → jt (jxX E d 283 80 [some (.inr (.inr (.inl 146))), some (.inl y1), some (.inl y2), some (.inl y3), none, some (.inl y5), some (.inl y6), none, none, none] [] (jxSH, a0, b0)) (jQ_X12_priceOf x1 x2 x3 x4 a0 b0) := by
  intro y1 y2 y3 y5 y6 hi0 hi1 hi2 hi3 hi4 hi5 hi6 hi7
  refine jt_eq (bq_X12_priceOf_80 E d y1 y2 y3 y5 y6 a0 b0) ?_
  refine jt_ite (fun c498_ => ?_) (fun c498_ => ?_)
  ·
    exact (cp_X12_priceOf_117 E d hd x1 x2 x3 x4 a0 b0 hv0 hp0 hp1 _).2.2 y3 y5 0 0 (Nat.le_refl _) (show 0 ≤ y5 from by omega) (show y5 ≤ 9 from by omega) (show 0 ≤ 0 from by omega) (show 0 ≤ 3 from by omega) (show 0 ≤ 0 from by omega) (show 0 ≤ 12 from by omega)
  ·
    refine jt_ite (fun c499_ => ?_) (fun c499_ => ?_)
    ·
      exact (cp_X12_priceOf_117 E d hd x1 x2 x3 x4 a0 b0 hv0 hp0 hp1 _).2.2 y3 y5 1 0 (Nat.le_refl _) (show 0 ≤ y5 from by omega) (show y5 ≤ 9 from by omega) (show 0 ≤ 1 from by omega) (show 1 ≤ 3 from by omega) (show 0 ≤ 0 from by omega) (show 0 ≤ 12 from by omega)
    ·
      refine jt_ite (fun c500_ => ?_) (fun c500_ => ?_)
      ·
        exact (cp_X12_priceOf_117 E d hd x1 x2 x3 x4 a0 b0 hv0 hp0 hp1 _).2.2 y3 y5 2 0 (Nat.le_refl _) (show 0 ≤ y5 from by omega) (show y5 ≤ 9 from by omega) (show 0 ≤ 2 from by omega) (show 2 ≤ 3 from by omega) (show 0 ≤ 0 from by omega) (show 0 ≤ 12 from by omega)
      ·
        exact (cp_X12_priceOf_117 E d hd x1 x2 x3 x4 a0 b0 hv0 hp0 hp1 _).2.2 y3 y5 3 0 (Nat.le_refl _) (show 0 ≤ y5 from by omega) (show y5 ≤ 9 from by omega) (show 0 ≤ 3 from by omega) (show 3 ≤ 3 from by omega) (show 0 ≤ 0 from by omega) (show 0 ≤ 12 from by omega)
theorem cp_X12_priceOf_6 (E : jxE) (d : Nat) (hd : Nat.ble 1 (d + 1) = true) (x1 x2 x3 x4 : Int) (a0 b0 : Nat → Nat → Int) (hv0 : iv a0) (hp0 : (0 ≤ x1 ∧ x1 ≤ 15)) (hp1 : (0 ≤ x2 ∧ x2 ≤ 15)) : ∀ n : Nat, (∀ (y1 y2 y3 y4 y5 y6 : Int), (((10 - y6) * 1) + 0).toNat ≤ n → 0 ≤ y1 → y1 ≤ 15 → 0 ≤ y2 → y2 ≤ 15 → 0 - 1 ≤ y5 → y5 ≤ 9 → 0 ≤ y6 → y6 ≤ 9 → jt (jxX E d 283 53 [some (.inr (.inr (.inl 146))), some (.inl y1), some (.inl y2), some (.inl y3), some (.inl y4), some (.inl y5), some (.inl y6), none, none, none] [] (jxSH, a0, b0)) (jQ_X12_priceOf x1 x2 x3 x4 a0 b0)) ∧ (∀ (y1 y2 y3 y4 y6 : Int), (((10 - y6) * 1) + 0).toNat ≤ n → 0 ≤ y1 → y1 ≤ 15 → 0 ≤ y2 → y2 ≤ 15 → 0 ≤ y6 → y6 ≤ 9 → jt (jxX E d 283 49 [some (.inr (.inr (.inl 146))), some (.inl y1), some (.inl y2), some (.inl y3), some (.inl y4), none, some (.inl y6), none, none, none] [] (jxSH, a0, b0)) (jQ_X12_priceOf x1 x2 x3 x4 a0 b0)) ∧ (∀ (y1 y2 y3 y4 y5 y6 : Int), (((10 - y6) * 1) + 0).toNat ≤ n → 0 ≤ y1 → y1 ≤ 15 → 0 ≤ y2 → y2 ≤ 15 → 0 - 1 ≤ y5 → y5 ≤ 9 → 0 ≤ y6 → y6 ≤ 10 → jt (jxX E d 283 6 [some (.inr (.inr (.inl 146))), some (.inl y1), some (.inl y2), some (.inl y3), some (.inl y4), some (.inl y5), some (.inl y6), none, none, none] [] (jxSH, a0, b0)) (jQ_X12_priceOf x1 x2 x3 x4 a0 b0)) := by
  refine jx_ind fun n ih => ?_
  have ih53 : ∀ (y1 y2 y3 y4 y5 y6 : Int), (((10 - y6) * 1) + 0).toNat < n → 0 ≤ y1 → y1 ≤ 15 → 0 ≤ y2 → y2 ≤ 15 → 0 - 1 ≤ y5 → y5 ≤ 9 → 0 ≤ y6 → y6 ≤ 9 → jt (jxX E d 283 53 [some (.inr (.inr (.inl 146))), some (.inl y1), some (.inl y2), some (.inl y3), some (.inl y4), some (.inl y5), some (.inl y6), none, none, none] [] (jxSH, a0, b0)) (jQ_X12_priceOf x1 x2 x3 x4 a0 b0) := fun y1 y2 y3 y4 y5 y6 hlt i0 i1 i2 i3 i4 i5 i6 i7 => (ih _ hlt).1 y1 y2 y3 y4 y5 y6 (Nat.le_refl _) i0 i1 i2 i3 i4 i5 i6 i7
  have ih49 : ∀ (y1 y2 y3 y4 y6 : Int), (((10 - y6) * 1) + 0).toNat < n → 0 ≤ y1 → y1 ≤ 15 → 0 ≤ y2 → y2 ≤ 15 → 0 ≤ y6 → y6 ≤ 9 → jt (jxX E d 283 49 [some (.inr (.inr (.inl 146))), some (.inl y1), some (.inl y2), some (.inl y3), some (.inl y4), none, some (.inl y6), none, none, none] [] (jxSH, a0, b0)) (jQ_X12_priceOf x1 x2 x3 x4 a0 b0) := fun y1 y2 y3 y4 y6 hlt i0 i1 i2 i3 i4 i5 => (ih _ hlt).2.1 y1 y2 y3 y4 y6 (Nat.le_refl _) i0 i1 i2 i3 i4 i5
  have ih6 : ∀ (y1 y2 y3 y4 y5 y6 : Int), (((10 - y6) * 1) + 0).toNat < n → 0 ≤ y1 → y1 ≤ 15 → 0 ≤ y2 → y2 ≤ 15 → 0 - 1 ≤ y5 → y5 ≤ 9 → 0 ≤ y6 → y6 ≤ 10 → jt (jxX E d 283 6 [some (.inr (.inr (.inl 146))), some (.inl y1), some (.inl y2), some (.inl y3), some (.inl y4), some (.inl y5), some (.inl y6), none, none, none] [] (jxSH, a0, b0)) (jQ_X12_priceOf x1 x2 x3 x4 a0 b0) := fun y1 y2 y3 y4 y5 y6 hlt i0 i1 i2 i3 i4 i5 i6 i7 => (ih _ hlt).2.2 y1 y2 y3 y4 y5 y6 (Nat.le_refl _) i0 i1 i2 i3 i4 i5 i6 i7
  have hc53 : ∀ (y1 y2 y3 y4 y5 y6 : Int), (((10 - y6) * 1) + 0).toNat ≤ n → 0 ≤ y1 → y1 ≤ 15 → 0 ≤ y2 → y2 ≤ 15 → 0 - 1 ≤ y5 → y5 ≤ 9 → 0 ≤ y6 → y6 ≤ 9 → jt (jxX E d 283 53 [some (.inr (.inr (.inl 146))), some (.inl y1), some (.inl y2), some (.inl y3), some (.inl y4), some (.inl y5), some (.inl y6), none, none, none] [] (jxSH, a0, b0)) (jQ_X12_priceOf x1 x2 x3 x4 a0 b0) := by
    intro y1 y2 y3 y4 y5 y6 hm hi0 hi1 hi2 hi3 hi4 hi5 hi6 hi7
    refine jt_eq (bq_X12_priceOf_53 E d y1 y2 y3 y4 y5 y6 a0 b0) ?_
    have h501_ : jxw (y6 + 1) = y6 + 1 := jxw_id (by omega) (by omega)
    exact ih6 y1 y2 y3 y4 y5 (jxw (y6 + 1)) (show (((10 - (jxw (y6 + 1))) * 1) + 0).toNat < n from by omega) (show 0 ≤ y1 from by omega) (show y1 ≤ 15 from by omega) (show 0 ≤ y2 from by omega) (show y2 ≤ 15 from by omega) (show 0 - 1 ≤ y5 from by omega) (show y5 ≤ 9 from by omega) (show 0 ≤ jxw (y6 + 1) from by omega) (show jxw (y6 + 1) ≤ 10 from by omega)
  have hc49 : ∀ (y1 y2 y3 y4 y6 : Int), (((10 - y6) * 1) + 0).toNat ≤ n → 0 ≤ y1 → y1 ≤ 15 → 0 ≤ y2 → y2 ≤ 15 → 0 ≤ y6 → y6 ≤ 9 → jt (jxX E d 283 49 [some (.inr (.inr (.inl 146))), some (.inl y1), some (.inl y2), some (.inl y3), some (.inl y4), none, some (.inl y6), none, none, none] [] (jxSH, a0, b0)) (jQ_X12_priceOf x1 x2 x3 x4 a0 b0) := by
    intro y1 y2 y3 y4 y6 hm hi0 hi1 hi2 hi3 hi4 hi5
    refine jt_eq (bq_X12_priceOf_49 E d y1 y2 y3 y4 y6 a0 b0) ?_
    exact hc53 y1 y2 y3 y4 y6 y6 (show (((10 - y6) * 1) + 0).toNat ≤ n from by omega) (show 0 ≤ y1 from by omega) (show y1 ≤ 15 from by omega) (show 0 ≤ y2 from by omega) (show y2 ≤ 15 from by omega) (show 0 - 1 ≤ y6 from by omega) (show y6 ≤ 9 from by omega) (show 0 ≤ y6 from by omega) (show y6 ≤ 9 from by omega)
  have hc6 : ∀ (y1 y2 y3 y4 y5 y6 : Int), (((10 - y6) * 1) + 0).toNat ≤ n → 0 ≤ y1 → y1 ≤ 15 → 0 ≤ y2 → y2 ≤ 15 → 0 - 1 ≤ y5 → y5 ≤ 9 → 0 ≤ y6 → y6 ≤ 10 → jt (jxX E d 283 6 [some (.inr (.inr (.inl 146))), some (.inl y1), some (.inl y2), some (.inl y3), some (.inl y4), some (.inl y5), some (.inl y6), none, none, none] [] (jxSH, a0, b0)) (jQ_X12_priceOf x1 x2 x3 x4 a0 b0) := by
    intro y1 y2 y3 y4 y5 y6 hm hi0 hi1 hi2 hi3 hi4 hi5 hi6 hi7
    refine jt_eq (bq_X12_priceOf_6 E d y1 y2 y3 y4 y5 y6 a0 b0) ?_
    have h502_ := iv_get hv0 (k := 146) (j := 68) (l := 0) (u := 10) rfl
    refine jt_ite (fun c503_ => ?_) (fun c503_ => ?_)
    ·
      refine jt_grd (by omega) ?_
      refine jt_ite (fun c504_ => ?_) (fun c504_ => ?_)
      ·
        exact hc53 y1 y2 y3 y4 y5 y6 (show (((10 - y6) * 1) + 0).toNat ≤ n from by omega) (show 0 ≤ y1 from by omega) (show y1 ≤ 15 from by omega) (show 0 ≤ y2 from by omega) (show y2 ≤ 15 from by omega) (show 0 - 1 ≤ y5 from by omega) (show y5 ≤ 9 from by omega) (show 0 ≤ y6 from by omega) (show y6 ≤ 9 from by omega)
      ·
        refine jt_ite (fun c505_ => ?_) (fun c505_ => ?_)
        ·
          exact hc49 y1 y2 y3 y4 y6 (show (((10 - y6) * 1) + 0).toNat ≤ n from by omega) (show 0 ≤ y1 from by omega) (show y1 ≤ 15 from by omega) (show 0 ≤ y2 from by omega) (show y2 ≤ 15 from by omega) (show 0 ≤ y6 from by omega) (show y6 ≤ 9 from by omega)
        ·
          refine jt_grd (by omega) ?_
          refine jt_grd (by omega) ?_
          refine jt_ite (fun c506_ => ?_) (fun c506_ => ?_)
          ·
            exact hc53 y1 y2 y3 y4 y5 y6 (show (((10 - y6) * 1) + 0).toNat ≤ n from by omega) (show 0 ≤ y1 from by omega) (show y1 ≤ 15 from by omega) (show 0 ≤ y2 from by omega) (show y2 ≤ 15 from by omega) (show 0 - 1 ≤ y5 from by omega) (show y5 ≤ 9 from by omega) (show 0 ≤ y6 from by omega) (show y6 ≤ 9 from by omega)
          ·
            exact hc49 y1 y2 y3 y4 y6 (show (((10 - y6) * 1) + 0).toNat ≤ n from by omega) (show 0 ≤ y1 from by omega) (show y1 ≤ 15 from by omega) (show 0 ≤ y2 from by omega) (show y2 ≤ 15 from by omega) (show 0 ≤ y6 from by omega) (show y6 ≤ 9 from by omega)
    ·
      refine jt_ite (fun c507_ => ?_) (fun c507_ => ?_)
      ·
        exact jt_rI ⟨rfl, rfl, (show 0 - 2 ≤ (-2) from by omega), (show (-2) ≤ 900 from by omega)⟩
      ·
        have h508_ : jxw (16 * y1) = 16 * y1 := jxw_id (by omega) (by omega)
        have h509_ : jxw ((jxw (16 * y1)) + y2) = (jxw (16 * y1)) + y2 := jxw_id (by omega) (by omega)
        refine jt_grd (by omega) ?_
        have h510_ := iv_get hv0 (k := 147) (j := (jxw ((jxw (16 * y1)) + y2)).toNat) (l := 0) (u := 99) rfl
        exact cp_X12_priceOf_80 E d hd x1 x2 x3 x4 a0 b0 hv0 hp0 hp1 y1 y2 y3 y5 (a0 147 ((jxw ((jxw (16 * y1)) + y2)).toNat)) (show 0 ≤ y1 from by omega) (show y1 ≤ 15 from by omega) (show 0 ≤ y2 from by omega) (show y2 ≤ 15 from by omega) (show 0 ≤ y5 from by omega) (show y5 ≤ 9 from by omega) (show 0 ≤ a0 147 ((jxw ((jxw (16 * y1)) + y2)).toNat) from by omega) (show a0 147 ((jxw ((jxw (16 * y1)) + y2)).toNat) ≤ 99 from by omega)
  exact ⟨hc53, hc49, hc6⟩
theorem sp_X12_priceOf (E : jxE) (d : Nat) (hd : Nat.ble 1 d = true) (x1 x2 x3 x4 : Int) (a0 b0 : Nat → Nat → Int) (hv0 : iv a0) (hp0 : (0 ≤ x1 ∧ x1 ≤ 15)) (hp1 : (0 ≤ x2 ∧ x2 ≤ 15)) : jt (jxC E d 283 [.inr (.inr (.inl 146)), .inl x1, .inl x2, .inl x3, .inl x4] (jxSH, a0, b0)) (jQ_X12_priceOf x1 x2 x3 x4 a0 b0) := by
  obtain ⟨d, rfl⟩ := jd_succ hd
  refine jt_eq (bq_X12_priceOf E d x1 x2 x3 x4 a0 b0) ?_
  exact (cp_X12_priceOf_6 E d hd x1 x2 x3 x4 a0 b0 hv0 hp0 hp1 _).2.2 x1 x2 x3 x4 (-1) 0 (Nat.le_refl _) (show 0 ≤ x1 from by omega) (show x1 ≤ 15 from by omega) (show 0 ≤ x2 from by omega) (show x2 ≤ 15 from by omega) (show 0 - 1 ≤ (-1) from by omega) (show (-1) ≤ 9 from by omega) (show 0 ≤ 0 from by omega) (show 0 ≤ 10 from by omega)
abbrev jQ_X12_price (x1 x2 x3 x4 : Int) (a0 b0 : Nat → Nat → Int) : List jxV → (Nat → Nat → Int) → (Nat → Nat → Int) → Prop := rI (fun r a b => (a0 = a) ∧ (b0 = b))
theorem cp_X12_price_33 (E : jxE) (d : Nat) (hd : Nat.ble 3 (d + 1) = true) (x1 x2 x3 x4 : Int) (a0 b0 : Nat → Nat → Int) (hv0 : iv a0) : ∀ (y1 y2 y3 y4 : Int), 0 ≤ y1 → y1 ≤ 15 → 0 ≤ y2 → y2 ≤ 15 → 1 ≤ y3 → y3 ≤ 500 → 0 ≤ y4 → y4 ≤ 1999 → jt (jxX E d 284 33 [some (.inr (.inr (.inl 146))), some (.inl y1), some (.inl y2), some (.inl y3), some (.inl y4)] [] (jxSH, a0, b0)) (jQ_X12_price x1 x2 x3 x4 a0 b0) := by
  intro y1 y2 y3 y4 hi0 hi1 hi2 hi3 hi4 hi5 hi6 hi7
  refine jt_eq (bq_X12_price_33 E d y1 y2 y3 y4 a0 b0) ?_
  refine jt_bI (sp_X12_priceOf E d (jd_le hd rfl) y1 y2 y3 y4 a0 b0 hv0 (show (0 ≤ y1 ∧ y1 ≤ 15) from by omega) (show (0 ≤ y2 ∧ y2 ≤ 15) from by omega)) (fun r511_ a511_ b511_ h511_ => ?_)
  obtain ⟨rfl, rfl, hq511_0, hq511_1⟩ := h511_
  exact jt_rI ⟨rfl, rfl⟩
theorem cp_X12_price_45 (E : jxE) (d : Nat) (hd : Nat.ble 3 (d + 1) = true) (x1 x2 x3 x4 : Int) (a0 b0 : Nat → Nat → Int) (hv0 : iv a0) : jt (jxX E d 284 45 [none, none, none, none, none] [] (jxSH, a0, b0)) (jQ_X12_price x1 x2 x3 x4 a0 b0) := by
  refine jt_eq (bq_X12_price_45 E d a0 b0) ?_
  exact jt_rI ⟨rfl, rfl⟩
theorem sp_X12_price (E : jxE) (d : Nat) (hd : Nat.ble 3 d = true) (x1 x2 x3 x4 : Int) (a0 b0 : Nat → Nat → Int) (hv0 : iv a0) : jt (jxC E d 284 [.inr (.inr (.inl 146)), .inl x1, .inl x2, .inl x3, .inl x4] (jxSH, a0, b0)) (jQ_X12_price x1 x2 x3 x4 a0 b0) := by
  obtain ⟨d, rfl⟩ := jd_succ hd
  refine jt_eq (bq_X12_price E d x1 x2 x3 x4 a0 b0) ?_
  refine jt_eI (eq_X12_isLand E d (jd_le hd rfl) x1 a0 b0) ?_
  have h512_ := f_X12_isLand_eq a0 b0 x1
  have h513_ := f_X12_in_eq a0 b0 x1 0 15
  refine jt_ite (fun c514_ => ?_) (fun c514_ => ?_)
  ·
    exact cp_X12_price_45 E d hd x1 x2 x3 x4 a0 b0 hv0
  ·
    refine jt_eI (eq_X12_isLand E d (jd_le hd rfl) x2 a0 b0) ?_
    have h515_ := f_X12_isLand_eq a0 b0 x2
    have h516_ := f_X12_in_eq a0 b0 x2 0 15
    refine jt_ite (fun c517_ => ?_) (fun c517_ => ?_)
    ·
      exact cp_X12_price_45 E d hd x1 x2 x3 x4 a0 b0 hv0
    ·
      refine jt_eI (eq_X12_in E d (jd_le hd rfl) x3 1 500 a0 b0) ?_
      have h518_ := f_X12_in_eq a0 b0 x3 1 500
      refine jt_ite (fun c519_ => ?_) (fun c519_ => ?_)
      ·
        exact cp_X12_price_45 E d hd x1 x2 x3 x4 a0 b0 hv0
      ·
        refine jt_eI (eq_X12_isDay E d (jd_le hd rfl) x4 a0 b0) ?_
        have h520_ := f_X12_isDay_eq a0 b0 x4
        have h521_ := f_X12_in_eq a0 b0 x4 0 1999
        refine jt_ite (fun c522_ => ?_) (fun c522_ => ?_)
        ·
          exact cp_X12_price_45 E d hd x1 x2 x3 x4 a0 b0 hv0
        ·
          exact cp_X12_price_33 E d hd x1 x2 x3 x4 a0 b0 hv0 x1 x2 x3 x4 (show 0 ≤ x1 from by omega) (show x1 ≤ 15 from by omega) (show 0 ≤ x2 from by omega) (show x2 ≤ 15 from by omega) (show 1 ≤ x3 from by omega) (show x3 ≤ 500 from by omega) (show 0 ≤ x4 from by omega) (show x4 ≤ 1999 from by omega)
def jW_X12_span : List (Nat × Nat) := [(146, 39), (146, 40), (146, 41)]
abbrev jQ_X12_span (x1 x2 x3 : Int) (a0 b0 : Nat → Nat → Int) : List jxV → (Nat → Nat → Int) → (Nat → Nat → Int) → Prop := rI (fun r a b => (iv a) ∧ (jfr jW_X12_span a0 a) ∧ (b0 = b))
theorem cp_X12_span_39 (E : jxE) (d : Nat) (hd : Nat.ble 3 (d + 1) = true) (x1 x2 x3 : Int) (a0 b0 : Nat → Nat → Int) (hv0 : iv a0) : ∀ (a : Nat → Nat → Int), iv a → jfr jW_X12_span a0 a → a 146 39 ≤ 0 → jt (jxX E d 239 39 [none, none, none, none] [] (jxSH, a, b0)) (jQ_X12_span x1 x2 x3 a0 b0) := by
  intro a hv hf hi0
  refine jt_eq (bq_X12_span_39 E d a b0) ?_
  have h523_ := iv_get hv (k := 146) (j := 39) (l := 0) (u := 10) rfl
  exact jt_rI ⟨hv, hf, rfl⟩
theorem cp_X12_span_43 (E : jxE) (d : Nat) (hd : Nat.ble 3 (d + 1) = true) (x1 x2 x3 : Int) (a0 b0 : Nat → Nat → Int) (hv0 : iv a0) : ∀ (y3 : Int) (a : Nat → Nat → Int), iv a → jfr jW_X12_span a0 a → 1 ≤ a 146 39 → jt (jxX E d 239 43 [some (.inr (.inr (.inl 146))), none, none, some (.inl y3)] [] (jxSH, a, b0)) (jQ_X12_span x1 x2 x3 a0 b0) := by
  intro y3 a hv hf hi0
  refine jt_eq (bq_X12_span_43 E d y3 a b0) ?_
  have h524_ := iv_get hv (k := 146) (j := 39) (l := 0) (u := 10) rfl
  refine jt_ite (fun c525_ => ?_) (fun c525_ => ?_)
  ·
    exact jt_rI ⟨hv, hf, rfl⟩
  ·
    refine jt_ite (fun c526_ => ?_) (fun c526_ => ?_)
    ·
      exact jt_rI ⟨hv, hf, rfl⟩
    ·
      exact jt_rI ⟨hv, hf, rfl⟩
theorem sp_X12_span (E : jxE) (d : Nat) (hd : Nat.ble 3 d = true) (x1 x2 x3 : Int) (a0 b0 : Nat → Nat → Int) (hv0 : iv a0) : jt (jxC E d 239 [.inr (.inr (.inl 146)), .inl x1, .inl x2, .inl x3] (jxSH, a0, b0)) (jQ_X12_span x1 x2 x3 a0 b0) := by
  obtain ⟨d, rfl⟩ := jd_succ hd
  refine jt_eq (bq_X12_span E d x1 x2 x3 a0 b0) ?_
  refine jt_eI (eq_X12_isLand E d (jd_le hd rfl) x1 a0 b0) ?_
  have h527_ := f_X12_isLand_eq a0 b0 x1
  have h528_ := f_X12_in_eq a0 b0 x1 0 15
  refine jt_ite (fun c529_ => ?_) (fun c529_ => ?_)
  ·
    exact jt_rI ⟨hv0, (jfr_rf _ _), rfl⟩
  ·
    refine jt_eI (eq_X12_isLand E d (jd_le hd rfl) x2 a0 b0) ?_
    have h530_ := f_X12_isLand_eq a0 b0 x2
    have h531_ := f_X12_in_eq a0 b0 x2 0 15
    refine jt_ite (fun c532_ => ?_) (fun c532_ => ?_)
    ·
      exact jt_rI ⟨hv0, (jfr_rf _ _), rfl⟩
    ·
      refine jt_bV (sp_X12_spans E d (jd_le hd rfl) x1 x2 a0 b0 hv0) (fun a533_ b533_ h533_ => ?_)
      obtain ⟨hv533_, hf533_, rfl⟩ := h533_
      refine jt_ite (fun c534_ => ?_) (fun c534_ => ?_)
      ·
        have hf535_ : jfr jW_X12_span a0 a533_ := jfr_tr (jfr_rf _ _) hf533_ rfl
        exact jt_rI ⟨hv533_, hf535_, rfl⟩
      ·
        have h536_ := iv_get hv533_ (k := 146) (j := 39) (l := 0) (u := 10) rfl
        refine jt_ite (fun c537_ => ?_) (fun c537_ => ?_)
        ·
          have hf538_ : jfr jW_X12_span a0 a533_ := jfr_tr (jfr_rf _ _) hf533_ rfl
          exact cp_X12_span_39 E d hd x1 x2 x3 a0 b0 hv0 a533_ hv533_ hf538_ (show a533_ 146 39 ≤ 0 from by omega)
        ·
          have hf539_ : jfr jW_X12_span a0 a533_ := jfr_tr (jfr_rf _ _) hf533_ rfl
          exact cp_X12_span_43 E d hd x1 x2 x3 a0 b0 hv0 x3 a533_ hv533_ hf539_ (show 1 ≤ a533_ 146 39 from by omega)
abbrev jQ_X12_state (x1 x2 x3 : Int) (a0 b0 : Nat → Nat → Int) : List jxV → (Nat → Nat → Int) → (Nat → Nat → Int) → Prop := rI (fun r a b => (a0 = a) ∧ (b0 = b))
theorem cp_X12_state_38 (E : jxE) (d : Nat) (hd : Nat.ble 3 (d + 1) = true) (x1 x2 x3 : Int) (a0 b0 : Nat → Nat → Int) (hv0 : iv a0) : jt (jxX E d 237 38 [none, none, none, none] [] (jxSH, a0, b0)) (jQ_X12_state x1 x2 x3 a0 b0) := by
  refine jt_eq (bq_X12_state_38 E d a0 b0) ?_
  exact jt_rI ⟨rfl, rfl⟩
theorem cp_X12_state_28 (E : jxE) (d : Nat) (hd : Nat.ble 3 (d + 1) = true) (x1 x2 x3 : Int) (a0 b0 : Nat → Nat → Int) (hv0 : iv a0) : ∀ (y1 y2 y3 : Int), 0 ≤ y1 → y1 ≤ 299 → 0 ≤ y2 → y2 ≤ 1999 → 0 ≤ y3 → y3 ≤ 1999 → jt (jxX E d 237 28 [some (.inr (.inr (.inl 146))), some (.inl y1), some (.inl y2), some (.inl y3)] [] (jxSH, a0, b0)) (jQ_X12_state x1 x2 x3 a0 b0) := by
  intro y1 y2 y3 hi0 hi1 hi2 hi3 hi4 hi5
  refine jt_eq (bq_X12_state_28 E d y1 y2 y3 a0 b0) ?_
  refine jt_grd (by omega) ?_
  have h540_ := iv_get hv0 (k := 156) (j := y1.toNat) (l := 0) (u := 1999) rfl
  refine jt_ite (fun c541_ => ?_) (fun c541_ => ?_)
  ·
    exact cp_X12_state_38 E d hd x1 x2 x3 a0 b0 hv0
  ·
    refine jt_bI (sp_X12_stateAt E d (jd_le hd rfl) y1 y2 y3 a0 b0 hv0 (show (0 ≤ y1 ∧ y1 ≤ 299) from by omega)) (fun r542_ a542_ b542_ h542_ => ?_)
    obtain ⟨rfl, rfl, hq542_0, hq542_1⟩ := h542_
    exact jt_rI ⟨rfl, rfl⟩
theorem sp_X12_state (E : jxE) (d : Nat) (hd : Nat.ble 3 d = true) (x1 x2 x3 : Int) (a0 b0 : Nat → Nat → Int) (hv0 : iv a0) : jt (jxC E d 237 [.inr (.inr (.inl 146)), .inl x1, .inl x2, .inl x3] (jxSH, a0, b0)) (jQ_X12_state x1 x2 x3 a0 b0) := by
  obtain ⟨d, rfl⟩ := jd_succ hd
  refine jt_eq (bq_X12_state E d x1 x2 x3 a0 b0) ?_
  refine jt_eI (eq_X12_in E d (jd_le hd rfl) x1 0 (jxw ((a0 146 9) - 1)) a0 b0) ?_
  have h543_ := iv_get hv0 (k := 146) (j := 9) (l := 0) (u := 300) rfl
  have h544_ : jxw ((a0 146 9) - 1) = (a0 146 9) - 1 := jxw_id (by omega) (by omega)
  have h545_ := f_X12_in_eq a0 b0 x1 0 (jxw ((a0 146 9) - 1))
  refine jt_ite (fun c546_ => ?_) (fun c546_ => ?_)
  ·
    exact cp_X12_state_38 E d hd x1 x2 x3 a0 b0 hv0
  ·
    refine jt_eI (eq_X12_isDay E d (jd_le hd rfl) x2 a0 b0) ?_
    have h547_ := f_X12_isDay_eq a0 b0 x2
    have h548_ := f_X12_in_eq a0 b0 x2 0 1999
    refine jt_ite (fun c549_ => ?_) (fun c549_ => ?_)
    ·
      exact cp_X12_state_38 E d hd x1 x2 x3 a0 b0 hv0
    ·
      refine jt_eI (eq_X12_isDay E d (jd_le hd rfl) x3 a0 b0) ?_
      have h550_ := f_X12_isDay_eq a0 b0 x3
      have h551_ := f_X12_in_eq a0 b0 x3 0 1999
      refine jt_ite (fun c552_ => ?_) (fun c552_ => ?_)
      ·
        exact cp_X12_state_38 E d hd x1 x2 x3 a0 b0 hv0
      ·
        exact cp_X12_state_28 E d hd x1 x2 x3 a0 b0 hv0 x1 x2 x3 (show 0 ≤ x1 from by omega) (show x1 ≤ 299 from by omega) (show 0 ≤ x2 from by omega) (show x2 ≤ 1999 from by omega) (show 0 ≤ x3 from by omega) (show x3 ≤ 1999 from by omega)
