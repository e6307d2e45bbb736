abbrev jR_X0_landsArrivedTo (x1 x2 : Int) (a0 b0 : Nat → Nat → Int) : List jxV → (Nat → Nat → Int) → (Nat → Nat → Int) → Prop := rI (fun r a b => (a0 = a) ∧ (b0 = b) ∧ (r = ALC a0 b0 x1 x2 (a0 58 8).toNat))
theorem cr_X0_landsArrivedTo_5 (E : jxE) (d : Nat) (hd : Nat.ble 4 (d + 1) = true) (x1 x2 : Int) (a0 b0 : Nat → Nat → Int) (hv0 : iv a0) : ∀ n : Nat, (∀ (y1 y2 y3 y4 : Int), (((300 - y4) * 1) + 0).toNat ≤ n → 0 ≤ y4 → y4 ≤ 299 → y1 = x1 → y2 = x2 → 0 ≤ y4 → y4 < a0 58 8 → (y3 = ALC a0 b0 x1 x2 (y4.toNat + 1)) → jt (jxX E d 21 65 [some (.inr (.inr (.inl 58))), some (.inl y1), some (.inl y2), some (.inl y3), some (.inl y4), none] [] (jxSH, a0, b0)) (jR_X0_landsArrivedTo x1 x2 a0 b0)) ∧ (∀ (y1 y2 y3 y4 : Int), (((300 - y4) * 1) + 0).toNat ≤ n → 0 ≤ y4 → y4 ≤ 299 → y1 = x1 → y2 = x2 → 0 ≤ y4 → y4 < a0 58 8 → (y3 = ALC a0 b0 x1 x2 y4.toNat) → (a0 60 y4.toNat = x1) → (f_X0_stateNow a0 b0 y4 x2 = 1 ∨ f_X0_stateNow a0 b0 y4 x2 = 3) → jt (jxX E d 21 46 [some (.inr (.inr (.inl 58))), some (.inl y1), some (.inl y2), some (.inl y3), some (.inl y4), none] [] (jxSH, a0, b0)) (jR_X0_landsArrivedTo x1 x2 a0 b0)) ∧ (∀ (y1 y2 y3 y4 y5 : Int), (((300 - y4) * 1) + 0).toNat ≤ n → 0 ≤ y4 → y4 ≤ 299 → y1 = x1 → y2 = x2 → 0 ≤ y4 → y4 < a0 58 8 → (y3 = ALC a0 b0 x1 x2 y4.toNat) → (a0 60 y4.toNat = x1) → (y5 = f_X0_stateNow a0 b0 y4 x2) → jt (jxX E d 21 34 [some (.inr (.inr (.inl 58))), some (.inl y1), some (.inl y2), some (.inl y3), some (.inl y4), some (.inl y5)] [] (jxSH, a0, b0)) (jR_X0_landsArrivedTo x1 x2 a0 b0)) ∧ (∀ (y1 y2 y3 y4 : Int), (((300 - y4) * 1) + 0).toNat ≤ n → 0 ≤ y4 → y4 ≤ 300 → y1 = x1 → y2 = x2 → 0 ≤ y4 → y4 ≤ a0 58 8 → (y3 = ALC a0 b0 x1 x2 y4.toNat) → jt (jxX E d 21 5 [some (.inr (.inr (.inl 58))), some (.inl y1), some (.inl y2), some (.inl y3), some (.inl y4), none] [] (jxSH, a0, b0)) (jR_X0_landsArrivedTo x1 x2 a0 b0)) := by
  refine jx_ind fun n ih => ?_
  have ih65 : ∀ (y1 y2 y3 y4 : Int), (((300 - y4) * 1) + 0).toNat < n → 0 ≤ y4 → y4 ≤ 299 → y1 = x1 → y2 = x2 → 0 ≤ y4 → y4 < a0 58 8 → (y3 = ALC a0 b0 x1 x2 (y4.toNat + 1)) → jt (jxX E d 21 65 [some (.inr (.inr (.inl 58))), some (.inl y1), some (.inl y2), some (.inl y3), some (.inl y4), none] [] (jxSH, a0, b0)) (jR_X0_landsArrivedTo x1 x2 a0 b0) := fun y1 y2 y3 y4 hlt i0 i1 i2 i3 i4 i5 i6 => (ih _ hlt).1 y1 y2 y3 y4 (Nat.le_refl _) i0 i1 i2 i3 i4 i5 i6
  have ih46 : ∀ (y1 y2 y3 y4 : Int), (((300 - y4) * 1) + 0).toNat < n → 0 ≤ y4 → y4 ≤ 299 → y1 = x1 → y2 = x2 → 0 ≤ y4 → y4 < a0 58 8 → (y3 = ALC a0 b0 x1 x2 y4.toNat) → (a0 60 y4.toNat = x1) → (f_X0_stateNow a0 b0 y4 x2 = 1 ∨ f_X0_stateNow a0 b0 y4 x2 = 3) → jt (jxX E d 21 46 [some (.inr (.inr (.inl 58))), some (.inl y1), some (.inl y2), some (.inl y3), some (.inl y4), none] [] (jxSH, a0, b0)) (jR_X0_landsArrivedTo x1 x2 a0 b0) := fun y1 y2 y3 y4 hlt i0 i1 i2 i3 i4 i5 i6 i7 i8 => (ih _ hlt).2.1 y1 y2 y3 y4 (Nat.le_refl _) i0 i1 i2 i3 i4 i5 i6 i7 i8
  have ih34 : ∀ (y1 y2 y3 y4 y5 : Int), (((300 - y4) * 1) + 0).toNat < n → 0 ≤ y4 → y4 ≤ 299 → y1 = x1 → y2 = x2 → 0 ≤ y4 → y4 < a0 58 8 → (y3 = ALC a0 b0 x1 x2 y4.toNat) → (a0 60 y4.toNat = x1) → (y5 = f_X0_stateNow a0 b0 y4 x2) → jt (jxX E d 21 34 [some (.inr (.inr (.inl 58))), some (.inl y1), some (.inl y2), some (.inl y3), some (.inl y4), some (.inl y5)] [] (jxSH, a0, b0)) (jR_X0_landsArrivedTo x1 x2 a0 b0) := fun y1 y2 y3 y4 y5 hlt i0 i1 i2 i3 i4 i5 i6 i7 i8 => (ih _ hlt).2.2.1 y1 y2 y3 y4 y5 (Nat.le_refl _) i0 i1 i2 i3 i4 i5 i6 i7 i8
  have ih5 : ∀ (y1 y2 y3 y4 : Int), (((300 - y4) * 1) + 0).toNat < n → 0 ≤ y4 → y4 ≤ 300 → y1 = x1 → y2 = x2 → 0 ≤ y4 → y4 ≤ a0 58 8 → (y3 = ALC a0 b0 x1 x2 y4.toNat) → jt (jxX E d 21 5 [some (.inr (.inr (.inl 58))), some (.inl y1), some (.inl y2), some (.inl y3), some (.inl y4), none] [] (jxSH, a0, b0)) (jR_X0_landsArrivedTo x1 x2 a0 b0) := fun y1 y2 y3 y4 hlt i0 i1 i2 i3 i4 i5 i6 => (ih _ hlt).2.2.2 y1 y2 y3 y4 (Nat.le_refl _) i0 i1 i2 i3 i4 i5 i6
  have hc65 : ∀ (y1 y2 y3 y4 : Int), (((300 - y4) * 1) + 0).toNat ≤ n → 0 ≤ y4 → y4 ≤ 299 → y1 = x1 → y2 = x2 → 0 ≤ y4 → y4 < a0 58 8 → (y3 = ALC a0 b0 x1 x2 (y4.toNat + 1)) → jt (jxX E d 21 65 [some (.inr (.inr (.inl 58))), some (.inl y1), some (.inl y2), some (.inl y3), some (.inl y4), none] [] (jxSH, a0, b0)) (jR_X0_landsArrivedTo x1 x2 a0 b0) := by
    intro y1 y2 y3 y4 hm hi0 hi1 hi2 hi3 hi4 hi5 hr
    refine jt_eq (bq_X0_landsArrivedTo_65 E d y1 y2 y3 y4 a0 b0) ?_
    have h1_ := iv_get hv0 (k := 58) (j := 8) (l := 0) (u := 300) rfl
    have h2_ : jxw (y4 + 1) = y4 + 1 := jxw_id (by omega) (by omega)
    exact ih5 y1 y2 y3 (jxw (y4 + 1)) (show (((300 - (jxw (y4 + 1))) * 1) + 0).toNat < n from by omega) (show 0 ≤ jxw (y4 + 1) from by omega) (show jxw (y4 + 1) ≤ 300 from by omega) (show y1 = x1 from by omega) (show y2 = x2 from by omega) (show 0 ≤ jxw (y4 + 1) from by omega) (show jxw (y4 + 1) ≤ a0 58 8 from by omega) (by first | rfl | (rw [show (jxw (y4 + 1)).toNat = y4.toNat + 1 from by omega]; exact hr))
  have hc46 : ∀ (y1 y2 y3 y4 : Int), (((300 - y4) * 1) + 0).toNat ≤ n → 0 ≤ y4 → y4 ≤ 299 → y1 = x1 → y2 = x2 → 0 ≤ y4 → y4 < a0 58 8 → (y3 = ALC a0 b0 x1 x2 y4.toNat) → (a0 60 y4.toNat = x1) → (f_X0_stateNow a0 b0 y4 x2 = 1 ∨ f_X0_stateNow a0 b0 y4 x2 = 3) → jt (jxX E d 21 46 [some (.inr (.inr (.inl 58))), some (.inl y1), some (.inl y2), some (.inl y3), some (.inl y4), none] [] (jxSH, a0, b0)) (jR_X0_landsArrivedTo x1 x2 a0 b0) := by
    intro y1 y2 y3 y4 hm hi0 hi1 hi2 hi3 hi4 hi5 hr h60 hs
    refine jt_eq (bq_X0_landsArrivedTo_46 E d y1 y2 y3 y4 a0 b0) ?_
    have h3_ := iv_get hv0 (k := 58) (j := 8) (l := 0) (u := 300) rfl
    have hst : ALC a0 b0 x1 x2 (y4.toNat + 1) = if a0 60 y4.toNat = x1 ∧ (f_X0_stateNow a0 b0 ((y4.toNat : Nat) : Int) x2 = 1 ∨ f_X0_stateNow a0 b0 ((y4.toNat : Nat) : Int) x2 = 3) then jxor (ALC a0 b0 x1 x2 y4.toNat) (jxshl 1 (f_X3_landOf a0 b0 (a0 59 y4.toNat))) else ALC a0 b0 x1 x2 y4.toNat := rfl
    rw [show ((y4.toNat : Nat) : Int) = y4 from by omega] at hst
    refine jt_grd (by omega) ?_
    refine jt_eI (eq_X3_landOf E d (jd_le hd rfl) (a0 59 (y4.toNat)) a0 b0) ?_
    have h4_ := f_X3_landOf_eq a0 b0 (a0 59 (y4.toNat))
    have h5_ := iv_get hv0 (k := 4) (j := 6) (l := 0) (u := 40) rfl
    have h6_ := f_X11_entry_r5_eq a0 b0 (a0 4 6) (a0 59 (y4.toNat))
    have h7_ := jxshl1_b (f_X3_landOf a0 b0 (a0 59 (y4.toNat)))
    have h8_ := jxor_b y3 (jxshl 1 (f_X3_landOf a0 b0 (a0 59 (y4.toNat))))
    exact hc65 y1 y2 (jxor y3 (jxshl 1 (f_X3_landOf a0 b0 (a0 59 (y4.toNat))))) y4 (show (((300 - y4) * 1) + 0).toNat ≤ n from by omega) (show 0 ≤ y4 from by omega) (show y4 ≤ 299 from by omega) (show y1 = x1 from by omega) (show y2 = x2 from by omega) (show 0 ≤ y4 from by omega) (show y4 < a0 58 8 from by omega) (by rw [hst, if_pos ⟨h60, hs⟩, ← hr])
  have hc34 : ∀ (y1 y2 y3 y4 y5 : Int), (((300 - y4) * 1) + 0).toNat ≤ n → 0 ≤ y4 → y4 ≤ 299 → y1 = x1 → y2 = x2 → 0 ≤ y4 → y4 < a0 58 8 → (y3 = ALC a0 b0 x1 x2 y4.toNat) → (a0 60 y4.toNat = x1) → (y5 = f_X0_stateNow a0 b0 y4 x2) → jt (jxX E d 21 34 [some (.inr (.inr (.inl 58))), some (.inl y1), some (.inl y2), some (.inl y3), some (.inl y4), some (.inl y5)] [] (jxSH, a0, b0)) (jR_X0_landsArrivedTo x1 x2 a0 b0) := by
    intro y1 y2 y3 y4 y5 hm hi0 hi1 hi2 hi3 hi4 hi5 hr h60 hy5
    refine jt_eq (bq_X0_landsArrivedTo_34 E d y1 y2 y3 y4 y5 a0 b0) ?_
    have h9_ := iv_get hv0 (k := 58) (j := 8) (l := 0) (u := 300) rfl
    have hst : ALC a0 b0 x1 x2 (y4.toNat + 1) = if a0 60 y4.toNat = x1 ∧ (f_X0_stateNow a0 b0 ((y4.toNat : Nat) : Int) x2 = 1 ∨ f_X0_stateNow a0 b0 ((y4.toNat : Nat) : Int) x2 = 3) then jxor (ALC a0 b0 x1 x2 y4.toNat) (jxshl 1 (f_X3_landOf a0 b0 (a0 59 y4.toNat))) else ALC a0 b0 x1 x2 y4.toNat := rfl
    rw [show ((y4.toNat : Nat) : Int) = y4 from by omega] at hst
    refine jt_ite (fun c10_ => ?_) (fun c10_ => ?_)
    ·
      exact hc46 y1 y2 y3 y4 (show (((300 - y4) * 1) + 0).toNat ≤ n from by omega) (show 0 ≤ y4 from by omega) (show y4 ≤ 299 from by omega) (show y1 = x1 from by omega) (show y2 = x2 from by omega) (show 0 ≤ y4 from by omega) (show y4 < a0 58 8 from by omega) hr (by first | assumption | omega) (by rw [← hy5]; omega)
    ·
      refine jt_ite (fun c11_ => ?_) (fun c11_ => ?_)
      ·
        exact hc46 y1 y2 y3 y4 (show (((300 - y4) * 1) + 0).toNat ≤ n from by omega) (show 0 ≤ y4 from by omega) (show y4 ≤ 299 from by omega) (show y1 = x1 from by omega) (show y2 = x2 from by omega) (show 0 ≤ y4 from by omega) (show y4 < a0 58 8 from by omega) hr (by first | assumption | omega) (by rw [← hy5]; omega)
      ·
        exact hc65 y1 y2 y3 y4 (show (((300 - y4) * 1) + 0).toNat ≤ n from by omega) (show 0 ≤ y4 from by omega) (show y4 ≤ 299 from by omega) (show y1 = x1 from by omega) (show y2 = x2 from by omega) (show 0 ≤ y4 from by omega) (show y4 < a0 58 8 from by omega) (by rw [hst, if_neg (fun q => by rw [← hy5] at q; omega)]; exact hr)
  have hc5 : ∀ (y1 y2 y3 y4 : Int), (((300 - y4) * 1) + 0).toNat ≤ n → 0 ≤ y4 → y4 ≤ 300 → y1 = x1 → y2 = x2 → 0 ≤ y4 → y4 ≤ a0 58 8 → (y3 = ALC a0 b0 x1 x2 y4.toNat) → jt (jxX E d 21 5 [some (.inr (.inr (.inl 58))), some (.inl y1), some (.inl y2), some (.inl y3), some (.inl y4), none] [] (jxSH, a0, b0)) (jR_X0_landsArrivedTo x1 x2 a0 b0) := by
    intro y1 y2 y3 y4 hm hi0 hi1 hi2 hi3 hi4 hi5 hr
    refine jt_eq (bq_X0_landsArrivedTo_5 E d y1 y2 y3 y4 a0 b0) ?_
    have h12_ := iv_get hv0 (k := 58) (j := 8) (l := 0) (u := 300) rfl
    have hst : ALC a0 b0 x1 x2 (y4.toNat + 1) = if a0 60 y4.toNat = x1 ∧ (f_X0_stateNow a0 b0 ((y4.toNat : Nat) : Int) x2 = 1 ∨ f_X0_stateNow a0 b0 ((y4.toNat : Nat) : Int) x2 = 3) then jxor (ALC a0 b0 x1 x2 y4.toNat) (jxshl 1 (f_X3_landOf a0 b0 (a0 59 y4.toNat))) else ALC a0 b0 x1 x2 y4.toNat := rfl
    rw [show ((y4.toNat : Nat) : Int) = y4 from by omega] at hst
    refine jt_ite (fun c13_ => ?_) (fun c13_ => ?_)
    ·
      refine jt_eI (eq_X0_stateNow E d (jd_le hd rfl) y4 y2 a0 b0) ?_
      refine jt_grd (by omega) ?_
      refine jt_ite (fun c14_ => ?_) (fun c14_ => ?_)
      ·
        have h15_ := f_X0_stateNow_eq a0 b0 y4 y2
        have h16_ := f_X0_arrivedOnOf_eq a0 b0 y4
        have h17_ := iv_get hv0 (k := 58) (j := 12) (l := 0) (u := 600) rfl
        have h18_ := f_X11_entry_r65_eq a0 b0 (a0 58 8) y4
        have h19_ := f_X11_entry_r67_eq a0 b0 (a0 58 12) (f_X11_entry_r65 a0 b0 (a0 58 8) y4)
        exact hc34 y1 y2 y3 y4 (f_X0_stateNow a0 b0 y4 y2) (show (((300 - y4) * 1) + 0).toNat ≤ n from by omega) (show 0 ≤ y4 from by omega) (show y4 ≤ 299 from by omega) (show y1 = x1 from by omega) (show y2 = x2 from by omega) (show 0 ≤ y4 from by omega) (show y4 < a0 58 8 from by omega) hr (by first | assumption | omega) (by rw [show y2 = x2 from by omega])
      ·
        exact hc65 y1 y2 y3 y4 (show (((300 - y4) * 1) + 0).toNat ≤ n from by omega) (show 0 ≤ y4 from by omega) (show y4 ≤ 299 from by omega) (show y1 = x1 from by omega) (show y2 = x2 from by omega) (show 0 ≤ y4 from by omega) (show y4 < a0 58 8 from by omega) (by rw [hst, if_neg (fun q => by omega)]; exact hr)
    ·
      exact jt_rI ⟨rfl, rfl, (by rw [show (a0 58 8).toNat = y4.toNat from by omega]; exact hr)⟩
  exact ⟨hc65, hc46, hc34, hc5⟩
theorem sq_X0_landsArrivedTo (E : jxE) (d : Nat) (hd : Nat.ble 4 d = true) (x1 x2 : Int) (a0 b0 : Nat → Nat → Int) (hv0 : iv a0) : jt (jxC E d 21 [.inr (.inr (.inl 58)), .inl x1, .inl x2] (jxSH, a0, b0)) (jR_X0_landsArrivedTo x1 x2 a0 b0) := by
  obtain ⟨d, rfl⟩ := jd_succ hd
  refine jt_eq (bq_X0_landsArrivedTo E d x1 x2 a0 b0) ?_
  have h20_ := iv_get hv0 (k := 58) (j := 8) (l := 0) (u := 300) rfl
  exact (cr_X0_landsArrivedTo_5 E d hd x1 x2 a0 b0 hv0 _).2.2.2 x1 x2 0 0 (Nat.le_refl _) (show 0 ≤ 0 from by omega) (show 0 ≤ 300 from by omega) (show x1 = x1 from by omega) (show x2 = x2 from by omega) (show 0 ≤ 0 from by omega) (show 0 ≤ a0 58 8 from by omega) (by first | rfl | (rw [show (jxw (y4 + 1)).toNat = y4.toNat + 1 from by omega]; exact hr))
abbrev jR_X0_reachedBy (x1 : Int) (a0 b0 : Nat → Nat → Int) : List jxV → (Nat → Nat → Int) → (Nat → Nat → Int) → Prop := rJ (fun r a b => (a0 = a) ∧ (b0 = b) ∧ (r = RBC a0 b0 x1 (a0 58 8).toNat))
theorem cr_X0_reachedBy_5 (E : jxE) (d : Nat) (hd : Nat.ble 3 (d + 1) = true) (x1 : Int) (a0 b0 : Nat → Nat → Int) (hv0 : iv a0) : ∀ n : Nat, (∀ (y1 y2 y4 : Int), (((300 - y4) * 1) + 0).toNat ≤ n → 0 ≤ y4 → y4 ≤ 299 → y1 = x1 → 0 ≤ y4 → y4 < a0 58 8 → (y2 = RBC a0 b0 x1 (y4.toNat + 1)) → jt (jxX E d 20 44 [some (.inr (.inr (.inl 58))), some (.inl y1), some (.inr (.inl y2)), none, some (.inl y4)] [] (jxSH, a0, b0)) (jR_X0_reachedBy x1 a0 b0)) ∧ (∀ (y1 y2 y4 : Int), (((300 - y4) * 1) + 0).toNat ≤ n → 0 ≤ y4 → y4 ≤ 300 → y1 = x1 → 0 ≤ y4 → y4 ≤ a0 58 8 → (y2 = RBC a0 b0 x1 y4.toNat) → jt (jxX E d 20 5 [some (.inr (.inr (.inl 58))), some (.inl y1), some (.inr (.inl y2)), none, some (.inl y4)] [] (jxSH, a0, b0)) (jR_X0_reachedBy x1 a0 b0)) := by
  refine jx_ind fun n ih => ?_
  have ih44 : ∀ (y1 y2 y4 : Int), (((300 - y4) * 1) + 0).toNat < n → 0 ≤ y4 → y4 ≤ 299 → y1 = x1 → 0 ≤ y4 → y4 < a0 58 8 → (y2 = RBC a0 b0 x1 (y4.toNat + 1)) → jt (jxX E d 20 44 [some (.inr (.inr (.inl 58))), some (.inl y1), some (.inr (.inl y2)), none, some (.inl y4)] [] (jxSH, a0, b0)) (jR_X0_reachedBy x1 a0 b0) := fun y1 y2 y4 hlt i0 i1 i2 i3 i4 i5 => (ih _ hlt).1 y1 y2 y4 (Nat.le_refl _) i0 i1 i2 i3 i4 i5
  have ih5 : ∀ (y1 y2 y4 : Int), (((300 - y4) * 1) + 0).toNat < n → 0 ≤ y4 → y4 ≤ 300 → y1 = x1 → 0 ≤ y4 → y4 ≤ a0 58 8 → (y2 = RBC a0 b0 x1 y4.toNat) → jt (jxX E d 20 5 [some (.inr (.inr (.inl 58))), some (.inl y1), some (.inr (.inl y2)), none, some (.inl y4)] [] (jxSH, a0, b0)) (jR_X0_reachedBy x1 a0 b0) := fun y1 y2 y4 hlt i0 i1 i2 i3 i4 i5 => (ih _ hlt).2 y1 y2 y4 (Nat.le_refl _) i0 i1 i2 i3 i4 i5
  have hc44 : ∀ (y1 y2 y4 : Int), (((300 - y4) * 1) + 0).toNat ≤ n → 0 ≤ y4 → y4 ≤ 299 → y1 = x1 → 0 ≤ y4 → y4 < a0 58 8 → (y2 = RBC a0 b0 x1 (y4.toNat + 1)) → jt (jxX E d 20 44 [some (.inr (.inr (.inl 58))), some (.inl y1), some (.inr (.inl y2)), none, some (.inl y4)] [] (jxSH, a0, b0)) (jR_X0_reachedBy x1 a0 b0) := by
    intro y1 y2 y4 hm hi0 hi1 hi2 hi3 hi4 hr
    refine jt_eq (bq_X0_reachedBy_44 E d y1 y2 y4 a0 b0) ?_
    have h21_ := iv_get hv0 (k := 58) (j := 8) (l := 0) (u := 300) rfl
    have h22_ : jxw (y4 + 1) = y4 + 1 := jxw_id (by omega) (by omega)
    exact ih5 y1 y2 (jxw (y4 + 1)) (show (((300 - (jxw (y4 + 1))) * 1) + 0).toNat < n from by omega) (show 0 ≤ jxw (y4 + 1) from by omega) (show jxw (y4 + 1) ≤ 300 from by omega) (show y1 = x1 from by omega) (show 0 ≤ jxw (y4 + 1) from by omega) (show jxw (y4 + 1) ≤ a0 58 8 from by omega) (by first | rfl | (rw [show (jxw (y4 + 1)).toNat = y4.toNat + 1 from by omega]; exact hr))
  have hc5 : ∀ (y1 y2 y4 : Int), (((300 - y4) * 1) + 0).toNat ≤ n → 0 ≤ y4 → y4 ≤ 300 → y1 = x1 → 0 ≤ y4 → y4 ≤ a0 58 8 → (y2 = RBC a0 b0 x1 y4.toNat) → jt (jxX E d 20 5 [some (.inr (.inr (.inl 58))), some (.inl y1), some (.inr (.inl y2)), none, some (.inl y4)] [] (jxSH, a0, b0)) (jR_X0_reachedBy x1 a0 b0) := by
    intro y1 y2 y4 hm hi0 hi1 hi2 hi3 hi4 hr
    refine jt_eq (bq_X0_reachedBy_5 E d y1 y2 y4 a0 b0) ?_
    have h23_ := iv_get hv0 (k := 58) (j := 8) (l := 0) (u := 300) rfl
    have hst : RBC a0 b0 x1 (y4.toNat + 1) = if f_X3_areKin a0 b0 x1 (a0 59 y4.toNat) = 0 then RBC a0 b0 x1 y4.toNat else jxorl (RBC a0 b0 x1 y4.toNat) (jxshll 1 (a0 60 y4.toNat)) := rfl
    refine jt_ite (fun c24_ => ?_) (fun c24_ => ?_)
    ·
      refine jt_grd (by omega) ?_
      refine jt_eI (eq_X3_areKin E d (jd_le hd rfl) y1 (a0 59 (y4.toNat)) a0 b0) ?_
      have h25_ := f_X3_areKin_bool a0 b0 y1 (a0 59 (y4.toNat))
      refine jt_ite (fun c26_ => ?_) (fun c26_ => ?_)
      ·
        exact hc44 y1 y2 y4 (show (((300 - y4) * 1) + 0).toNat ≤ n from by omega) (show 0 ≤ y4 from by omega) (show y4 ≤ 299 from by omega) (show y1 = x1 from by omega) (show 0 ≤ y4 from by omega) (show y4 < a0 58 8 from by omega) (by rw [hst, show x1 = y1 from by omega]; first | (rw [if_pos (by assumption), show y1 = x1 from by omega]; exact hr) | (rw [if_neg (by assumption), show y1 = x1 from by omega, ← hr]))
      ·
        refine jt_grd (by omega) ?_
        exact hc44 y1 (jxorl y2 (jxshll 1 (a0 60 (y4.toNat)))) y4 (show (((300 - y4) * 1) + 0).toNat ≤ n from by omega) (show 0 ≤ y4 from by omega) (show y4 ≤ 299 from by omega) (show y1 = x1 from by omega) (show 0 ≤ y4 from by omega) (show y4 < a0 58 8 from by omega) (by rw [hst, show x1 = y1 from by omega]; first | (rw [if_pos (by assumption), show y1 = x1 from by omega]; exact hr) | (rw [if_neg (by assumption), show y1 = x1 from by omega, ← hr]))
    ·
      exact jt_rJ ⟨rfl, rfl, (by rw [show (a0 58 8).toNat = y4.toNat from by omega]; exact hr)⟩
  exact ⟨hc44, hc5⟩
theorem sq_X0_reachedBy (E : jxE) (d : Nat) (hd : Nat.ble 3 d = true) (x1 : Int) (a0 b0 : Nat → Nat → Int) (hv0 : iv a0) : jt (jxC E d 20 [.inr (.inr (.inl 58)), .inl x1] (jxSH, a0, b0)) (jR_X0_reachedBy x1 a0 b0) := by
  obtain ⟨d, rfl⟩ := jd_succ hd
  refine jt_eq (bq_X0_reachedBy E d x1 a0 b0) ?_
  have h27_ := iv_get hv0 (k := 58) (j := 8) (l := 0) (u := 300) rfl
  exact (cr_X0_reachedBy_5 E d hd x1 a0 b0 hv0 _).2 x1 0 0 (Nat.le_refl _) (show 0 ≤ 0 from by omega) (show 0 ≤ 300 from by omega) (show x1 = x1 from by omega) (show 0 ≤ 0 from by omega) (show 0 ≤ a0 58 8 from by omega) (by first | rfl | (rw [show (jxw (y4 + 1)).toNat = y4.toNat + 1 from by omega]; exact hr))
abbrev jR_X11_album (x1 : Int) (a0 b0 : Nat → Nat → Int) : List jxV → (Nat → Nat → Int) → (Nat → Nat → Int) → Prop := rI (fun r a b => (a0 = a) ∧ (b0 = b) ∧ ((a0 4 6 = 0 → r = 0 - 1)) ∧ (0 ≤ x1 ∧ x1 < a0 4 6 → r = ALC a0 b0 x1 (a0 0 0) (a0 58 8).toNat) ∧ (¬ (0 ≤ x1 ∧ x1 < a0 4 6) → r = -1))
theorem sq_X11_album (E : jxE) (d : Nat) (hd : Nat.ble 5 d = true) (x1 : Int) (a0 b0 : Nat → Nat → Int) (hv0 : iv a0) : jt (jxC E d 182 [.inr (.inr (.inl 0)), .inl x1] (jxSH, a0, b0)) (jR_X11_album x1 a0 b0) := by
  obtain ⟨d, rfl⟩ := jd_succ hd
  refine jt_eq (bq_X11_album E d x1 a0 b0) ?_
  refine jt_eI (eq_X3_has E d (jd_le hd rfl) x1 a0 b0) ?_
  have h28_ := f_X3_has_eq a0 b0 x1
  have h29_ := iv_get hv0 (k := 4) (j := 6) (l := 0) (u := 40) rfl
  refine jt_ite (fun c30_ => ?_) (fun c30_ => ?_)
  ·
    exact jt_rI ⟨rfl, rfl, (show (a0 4 6 = 0 → (-1) = 0 - 1) from by omega), (fun h => absurd h (by omega)), (fun _ => rfl)⟩
  ·
    refine jt_bI (sq_X0_landsArrivedTo E d (jd_le hd rfl) x1 (a0 0 0) a0 b0 hv0) (fun r31_ a31_ b31_ h31_ => ?_)
    obtain ⟨rfl, rfl, hq31_0⟩ := h31_
    exact jt_rI ⟨rfl, rfl, (show (a0 4 6 = 0 → r31_ = 0 - 1) from by omega), (fun _ => hq31_0), (fun h => absurd (by omega) h)⟩
abbrev jR_X11_unhappy (x1 x2 : Int) (a0 b0 : Nat → Nat → Int) : List jxV → (Nat → Nat → Int) → (Nat → Nat → Int) → Prop := rI (fun r a b => (a0 = a) ∧ (b0 = b) ∧ (0 ≤ x1 → x1 < a0 4 6 → 0 ≤ x2 → x2 < a0 4 6 → r = UNC a0 b0 x1 x2))
theorem cr_X11_unhappy_21 (E : jxE) (d : Nat) (hd : Nat.ble 6 (d + 1) = true) (x1 x2 : Int) (a0 b0 : Nat → Nat → Int) (hv0 : iv a0) (hp0 : WISHR a0) : ∀ (y1 y2 s0 : Int), 0 ≤ s0 → s0 ≤ 1 → (y1 = x1) → (y2 = x2) → (0 ≤ x1 → x1 < a0 4 6 → 0 ≤ x2 → x2 < a0 4 6 → s0 = (if METX a0 b0 x1 x2 (a0 0 0) = 0 then 1 else 0)) → jt (jxX E d 173 21 [some (.inr (.inr (.inl 0))), some (.inl y1), some (.inl y2)] [.inl s0] (jxSH, a0, b0)) (jR_X11_unhappy x1 x2 a0 b0) := by
  intro y1 y2 s0 hi0 hi1 hy1 hy2 hs0
  refine jt_eq (bq_X11_unhappy_21 E d y1 y2 s0 a0 b0) ?_
  refine jt_bI (sp_X10_isMet E d (jd_le hd rfl) y2 y1 (a0 0 0) a0 b0 hv0 hp0) (fun r32_ a32_ b32_ h32_ => ?_)
  obtain ⟨rfl, rfl, hq32_0, hq32_1⟩ := h32_
  refine jt_ite (fun c33_ => ?_) (fun c33_ => ?_)
  ·
    have h34_ : jxw (s0 + 1) = s0 + 1 := jxw_id (by omega) (by omega)
    exact jt_rI ⟨rfl, rfl, (fun h1 h2 h3 h4 => by unfold UNC unh; rw [← hs0 h1 h2 h3 h4]; have q := hq32_1 (by omega) (by omega) (by omega) (by omega); rw [hy1, hy2] at q; rw [← q]; first | rw [if_pos (by assumption)] | rw [if_neg (by assumption)])⟩
  ·
    have h35_ : jxw (s0 + 0) = s0 + 0 := jxw_id (by omega) (by omega)
    exact jt_rI ⟨rfl, rfl, (fun h1 h2 h3 h4 => by unfold UNC unh; rw [← hs0 h1 h2 h3 h4]; have q := hq32_1 (by omega) (by omega) (by omega) (by omega); rw [hy1, hy2] at q; rw [← q]; first | rw [if_pos (by assumption)] | rw [if_neg (by assumption)])⟩
theorem sq_X11_unhappy (E : jxE) (d : Nat) (hd : Nat.ble 6 d = true) (x1 x2 : Int) (a0 b0 : Nat → Nat → Int) (hv0 : iv a0) (hp0 : WISHR a0) : jt (jxC E d 173 [.inr (.inr (.inl 0)), .inl x1, .inl x2] (jxSH, a0, b0)) (jR_X11_unhappy x1 x2 a0 b0) := by
  obtain ⟨d, rfl⟩ := jd_succ hd
  refine jt_eq (bq_X11_unhappy E d x1 x2 a0 b0) ?_
  refine jt_bI (sp_X10_isMet E d (jd_le hd rfl) x1 x2 (a0 0 0) a0 b0 hv0 hp0) (fun r36_ a36_ b36_ h36_ => ?_)
  obtain ⟨rfl, rfl, hq36_0, hq36_1⟩ := h36_
  refine jt_ite (fun c37_ => ?_) (fun c37_ => ?_)
  ·
    exact cr_X11_unhappy_21 E d hd x1 x2 a0 b0 hv0 hp0 x1 x2 1 (show 0 ≤ 1 from by omega) (show 1 ≤ 1 from by omega) (by first | rfl | assumption) (by first | rfl | assumption) (fun h1 h2 h3 h4 => by rw [← hq36_1 h1 h2 h3 h4]; first | rw [if_pos (by assumption)] | rw [if_neg (by assumption)])
  ·
    exact cr_X11_unhappy_21 E d hd x1 x2 a0 b0 hv0 hp0 x1 x2 0 (show 0 ≤ 0 from by omega) (show 0 ≤ 1 from by omega) (by first | rfl | assumption) (by first | rfl | assumption) (fun h1 h2 h3 h4 => by rw [← hq36_1 h1 h2 h3 h4]; first | rw [if_pos (by assumption)] | rw [if_neg (by assumption)])
abbrev jR_X11_isAhead (x1 x2 x3 : Int) (a0 b0 : Nat → Nat → Int) : List jxV → (Nat → Nat → Int) → (Nat → Nat → Int) → Prop := rI (fun r a b => (a0 = a) ∧ (b0 = b) ∧ ((0 ≤ r ∧ r ≤ 1)) ∧ (0 ≤ x1 → x1 < a0 4 6 → 0 ≤ x2 → x2 < a0 4 6 → 0 ≤ x3 → x3 < a0 4 6 → r = AHF a0 b0 x1 x2 x3))
theorem cr_X11_isAhead_26 (E : jxE) (d : Nat) (hd : Nat.ble 7 (d + 1) = true) (x1 x2 x3 : Int) (a0 b0 : Nat → Nat → Int) (hv0 : iv a0) (hp0 : WISHR a0) : (AHF a0 b0 x1 x2 x3 = 1) → jt (jxX E d 175 26 [none, none, none, none, none, none] [] (jxSH, a0, b0)) (jR_X11_isAhead x1 x2 x3 a0 b0) := by
  intro hah
  refine jt_eq (bq_X11_isAhead_26 E d a0 b0) ?_
  exact jt_rI ⟨rfl, rfl, (show (0 ≤ 1 ∧ 1 ≤ 1) from by omega), (fun _ _ _ _ _ _ => hah.symm)⟩
theorem cr_X11_isAhead_30 (E : jxE) (d : Nat) (hd : Nat.ble 7 (d + 1) = true) (x1 x2 x3 : Int) (a0 b0 : Nat → Nat → Int) (hv0 : iv a0) (hp0 : WISHR a0) : (AHF a0 b0 x1 x2 x3 = 0) → jt (jxX E d 175 30 [none, none, none, none, none, none] [] (jxSH, a0, b0)) (jR_X11_isAhead x1 x2 x3 a0 b0) := by
  intro hah
  refine jt_eq (bq_X11_isAhead_30 E d a0 b0) ?_
  exact jt_rI ⟨rfl, rfl, (show (0 ≤ 0 ∧ 0 ≤ 1) from by omega), (fun _ _ _ _ _ _ => hah.symm)⟩
theorem cr_X11_isAhead_48 (E : jxE) (d : Nat) (hd : Nat.ble 7 (d + 1) = true) (x1 x2 x3 : Int) (a0 b0 : Nat → Nat → Int) (hv0 : iv a0) (hp0 : WISHR a0) : ∀ (y2 y3 y4 y5 : Int), (y2 = x2) → (y3 = x3) → (0 ≤ x1 → x1 < a0 4 6 → 0 ≤ x2 → x2 < a0 4 6 → 0 ≤ x3 → x3 < a0 4 6 → y4 = UNC a0 b0 x1 x2 ∧ y5 = UNC a0 b0 x1 x3) → (f_X11_owed a0 b0 x2 = f_X11_owed a0 b0 x3) → jt (jxX E d 175 48 [some (.inr (.inr (.inl 0))), none, some (.inl y2), some (.inl y3), some (.inl y4), some (.inl y5)] [] (jxSH, a0, b0)) (jR_X11_isAhead x1 x2 x3 a0 b0) := by
  intro y2 y3 y4 y5 hy2 hy3 hun how
  refine jt_eq (bq_X11_isAhead_48 E d y2 y3 y4 y5 a0 b0) ?_
  refine jt_ite (fun c38_ => ?_) (fun c38_ => ?_)
  ·
    refine jt_eI (eq_X7_lastSentTo E d (jd_le hd rfl) y2 a0 b0) ?_
    refine jt_eI (eq_X7_lastSentTo E d (jd_le hd rfl) y3 a0 b0) ?_
    have h39_ := f_X7_lastSentTo_eq a0 b0 y2
    have h40_ := f_X11_entry_r75_eq a0 b0 40 y2
    have h41_ := f_X7_lastSentTo_eq a0 b0 y3
    have h42_ := f_X11_entry_r75_eq a0 b0 40 y3
    refine jt_ite (fun c43_ => ?_) (fun c43_ => ?_)
    ·
      exact jt_rI ⟨rfl, rfl, (show (0 ≤ 1 ∧ 1 ≤ 1) from by omega), (fun h1 h2 h3 h4 h5 h6 => by obtain ⟨u1, u2⟩ := hun h1 h2 h3 h4 h5 h6; unfold AHF; rw [if_pos how, ← u1, ← u2, ← hy2, ← hy3]; repeat (first | rw [if_pos (by assumption)] | rw [if_neg (by assumption)]))⟩
    ·
      exact jt_rI ⟨rfl, rfl, (show (0 ≤ 0 ∧ 0 ≤ 1) from by omega), (fun h1 h2 h3 h4 h5 h6 => by obtain ⟨u1, u2⟩ := hun h1 h2 h3 h4 h5 h6; unfold AHF; rw [if_pos how, ← u1, ← u2, ← hy2, ← hy3]; repeat (first | rw [if_pos (by assumption)] | rw [if_neg (by assumption)]))⟩
  ·
    refine jt_ite (fun c44_ => ?_) (fun c44_ => ?_)
    ·
      exact jt_rI ⟨rfl, rfl, (show (0 ≤ 1 ∧ 1 ≤ 1) from by omega), (fun h1 h2 h3 h4 h5 h6 => by obtain ⟨u1, u2⟩ := hun h1 h2 h3 h4 h5 h6; unfold AHF; rw [if_pos how, ← u1, ← u2, ← hy2, ← hy3]; repeat (first | rw [if_pos (by assumption)] | rw [if_neg (by assumption)]))⟩
    ·
      exact jt_rI ⟨rfl, rfl, (show (0 ≤ 0 ∧ 0 ≤ 1) from by omega), (fun h1 h2 h3 h4 h5 h6 => by obtain ⟨u1, u2⟩ := hun h1 h2 h3 h4 h5 h6; unfold AHF; rw [if_pos how, ← u1, ← u2, ← hy2, ← hy3]; repeat (first | rw [if_pos (by assumption)] | rw [if_neg (by assumption)]))⟩
theorem sq_X11_isAhead (E : jxE) (d : Nat) (hd : Nat.ble 7 d = true) (x1 x2 x3 : Int) (a0 b0 : Nat → Nat → Int) (hv0 : iv a0) (hp0 : WISHR a0) : jt (jxC E d 175 [.inr (.inr (.inl 0)), .inl x1, .inl x2, .inl x3] (jxSH, a0, b0)) (jR_X11_isAhead x1 x2 x3 a0 b0) := by
  obtain ⟨d, rfl⟩ := jd_succ hd
  refine jt_eq (bq_X11_isAhead E d x1 x2 x3 a0 b0) ?_
  refine jt_eI (eq_X11_owed E d (jd_le hd rfl) x2 a0 b0) ?_
  refine jt_eI (eq_X11_owed E d (jd_le hd rfl) x3 a0 b0) ?_
  have h45_ := f_X11_owed_eq a0 b0 x2
  have h46_ := f_X7_givenBy_eq a0 b0 x2
  have h47_ := f_X11_entry_r70_eq a0 b0 40 x2
  have h48_ := f_X3_creditOf_eq a0 b0 x2
  have h49_ := f_X3_has_eq a0 b0 x2
  have h50_ := iv_get hv0 (k := 4) (j := 6) (l := 0) (u := 40) rfl
  have h51_ := jxw_im ((f_X7_givenBy a0 b0 x2) + (f_X3_creditOf a0 b0 x2))
  have h52_ := jxw_rg ((f_X7_givenBy a0 b0 x2) + (f_X3_creditOf a0 b0 x2))
  have h53_ := f_X7_gotBy_eq a0 b0 x2
  have h54_ := f_X11_entry_r71_eq a0 b0 40 x2
  have h55_ := jxw_im ((jxw ((f_X7_givenBy a0 b0 x2) + (f_X3_creditOf a0 b0 x2))) - (f_X7_gotBy a0 b0 x2))
  have h56_ := jxw_rg ((jxw ((f_X7_givenBy a0 b0 x2) + (f_X3_creditOf a0 b0 x2))) - (f_X7_gotBy a0 b0 x2))
  have h57_ := f_X7_comingTo_eq a0 b0 x2
  have h58_ := f_X11_entry_r72_eq a0 b0 40 x2
  have h59_ := jxw_im ((jxw ((jxw ((f_X7_givenBy a0 b0 x2) + (f_X3_creditOf a0 b0 x2))) - (f_X7_gotBy a0 b0 x2))) - (f_X7_comingTo a0 b0 x2))
  have h60_ := jxw_rg ((jxw ((jxw ((f_X7_givenBy a0 b0 x2) + (f_X3_creditOf a0 b0 x2))) - (f_X7_gotBy a0 b0 x2))) - (f_X7_comingTo a0 b0 x2))
  have h61_ := f_X11_owed_eq a0 b0 x3
  have h62_ := f_X7_givenBy_eq a0 b0 x3
  have h63_ := f_X11_entry_r70_eq a0 b0 40 x3
  have h64_ := f_X3_creditOf_eq a0 b0 x3
  have h65_ := f_X3_has_eq a0 b0 x3
  have h66_ := jxw_im ((f_X7_givenBy a0 b0 x3) + (f_X3_creditOf a0 b0 x3))
  have h67_ := jxw_rg ((f_X7_givenBy a0 b0 x3) + (f_X3_creditOf a0 b0 x3))
  have h68_ := f_X7_gotBy_eq a0 b0 x3
  have h69_ := f_X11_entry_r71_eq a0 b0 40 x3
  have h70_ := jxw_im ((jxw ((f_X7_givenBy a0 b0 x3) + (f_X3_creditOf a0 b0 x3))) - (f_X7_gotBy a0 b0 x3))
  have h71_ := jxw_rg ((jxw ((f_X7_givenBy a0 b0 x3) + (f_X3_creditOf a0 b0 x3))) - (f_X7_gotBy a0 b0 x3))
  have h72_ := f_X7_comingTo_eq a0 b0 x3
  have h73_ := f_X11_entry_r72_eq a0 b0 40 x3
  have h74_ := jxw_im ((jxw ((jxw ((f_X7_givenBy a0 b0 x3) + (f_X3_creditOf a0 b0 x3))) - (f_X7_gotBy a0 b0 x3))) - (f_X7_comingTo a0 b0 x3))
  have h75_ := jxw_rg ((jxw ((jxw ((f_X7_givenBy a0 b0 x3) + (f_X3_creditOf a0 b0 x3))) - (f_X7_gotBy a0 b0 x3))) - (f_X7_comingTo a0 b0 x3))
  refine jt_ite (fun c76_ => ?_) (fun c76_ => ?_)
  ·
    refine jt_bI (sq_X11_unhappy E d (jd_le hd rfl) x1 x2 a0 b0 hv0 hp0) (fun r77_ a77_ b77_ h77_ => ?_)
    obtain ⟨rfl, rfl, hq77_0⟩ := h77_
    refine jt_bI (sq_X11_unhappy E d (jd_le hd rfl) x1 x3 a0 b0 hv0 hp0) (fun r78_ a78_ b78_ h78_ => ?_)
    obtain ⟨rfl, rfl, hq78_0⟩ := h78_
    exact cr_X11_isAhead_48 E d hd x1 x2 x3 a0 b0 hv0 hp0 x2 x3 r77_ r78_ (by first | rfl | assumption) (by first | rfl | assumption) (fun h1 h2 h3 h4 h5 h6 => ⟨hq77_0 h1 h2 h3 h4, hq78_0 h1 h2 h5 h6⟩) (by assumption)
  ·
    refine jt_eI (eq_X11_owed E d (jd_le hd rfl) x2 a0 b0) ?_
    refine jt_eI (eq_X11_owed E d (jd_le hd rfl) x3 a0 b0) ?_
    refine jt_ite (fun c79_ => ?_) (fun c79_ => ?_)
    ·
      exact cr_X11_isAhead_26 E d hd x1 x2 x3 a0 b0 hv0 hp0 (by unfold AHF; rw [if_neg (by assumption), if_pos (by assumption)])
    ·
      exact cr_X11_isAhead_30 E d hd x1 x2 x3 a0 b0 hv0 hp0 (by unfold AHF; rw [if_neg (by assumption), if_neg (by assumption)])
abbrev jR_X11_mayGet (x1 x2 x3 : Int) (a0 b0 : Nat → Nat → Int) : List jxV → (Nat → Nat → Int) → (Nat → Nat → Int) → Prop := rI (fun r a b => (a0 = a) ∧ (b0 = b) ∧ ((0 ≤ r ∧ r ≤ 1)) ∧ (0 ≤ x1 → x1 < a0 4 6 → r = MGF a0 b0 x1 x2 x3))
theorem cr_X11_mayGet_65 (E : jxE) (d : Nat) (hd : Nat.ble 7 (d + 1) = true) (x1 x2 x3 : Int) (a0 b0 : Nat → Nat → Int) (hv0 : iv a0) (hp0 : WISHR a0) : (0 ≤ x1 → x1 < a0 4 6 → MGF a0 b0 x1 x2 x3 = 1) → jt (jxX E d 172 65 [none, none, none, none, none] [] (jxSH, a0, b0)) (jR_X11_mayGet x1 x2 x3 a0 b0) := by
  intro hmg
  refine jt_eq (bq_X11_mayGet_65 E d a0 b0) ?_
  exact jt_rI ⟨rfl, rfl, (show (0 ≤ 1 ∧ 1 ≤ 1) from by omega), (fun h1 h2 => (hmg h1 h2).symm)⟩
theorem cr_X11_mayGet_69 (E : jxE) (d : Nat) (hd : Nat.ble 7 (d + 1) = true) (x1 x2 x3 : Int) (a0 b0 : Nat → Nat → Int) (hv0 : iv a0) (hp0 : WISHR a0) : (0 ≤ x1 → x1 < a0 4 6 → MGF a0 b0 x1 x2 x3 = 0) → jt (jxX E d 172 69 [none, none, none, none, none] [] (jxSH, a0, b0)) (jR_X11_mayGet x1 x2 x3 a0 b0) := by
  intro hmg
  refine jt_eq (bq_X11_mayGet_69 E d a0 b0) ?_
  exact jt_rI ⟨rfl, rfl, (show (0 ≤ 0 ∧ 0 ≤ 1) from by omega), (fun h1 h2 => (hmg h1 h2).symm)⟩
theorem cr_X11_mayGet_33 (E : jxE) (d : Nat) (hd : Nat.ble 7 (d + 1) = true) (x1 x2 x3 : Int) (a0 b0 : Nat → Nat → Int) (hv0 : iv a0) (hp0 : WISHR a0) : ∀ (y1 y2 : Int), 0 ≤ y2 → y2 ≤ 39 → (y1 = x1) → (y2 = x2) → (0 ≤ x2 ∧ x2 < a0 4 6) → (MGF a0 b0 x1 x2 x3 = if ¬ 0 < jxw (f_X11_owed a0 b0 x2 + f_X6_slack a0 b0) then 0 else if f_X6_strict a0 b0 < UNC a0 b0 x1 x2 then 0 else 1) → jt (jxX E d 172 33 [some (.inr (.inr (.inl 0))), some (.inl y1), some (.inl y2), none, none] [] (jxSH, a0, b0)) (jR_X11_mayGet x1 x2 x3 a0 b0) := by
  intro y1 y2 hi0 hi1 hy1 hy2 hi4 hmg
  refine jt_eq (bq_X11_mayGet_33 E d y1 y2 a0 b0) ?_
  have h80_ := iv_get hv0 (k := 4) (j := 6) (l := 0) (u := 40) rfl
  refine jt_eI (eq_X11_owed E d (jd_le hd rfl) y2 a0 b0) ?_
  refine jt_eI (eq_X6_slack E d (jd_le hd rfl) a0 b0) ?_
  have h81_ := f_X11_owed_eq a0 b0 y2
  have h82_ := f_X7_givenBy_eq a0 b0 y2
  have h83_ := f_X11_entry_r70_eq a0 b0 40 y2
  have h84_ := f_X3_creditOf_eq a0 b0 y2
  have h85_ := f_X3_has_eq a0 b0 y2
  have h86_ := jxw_im ((f_X7_givenBy a0 b0 y2) + (f_X3_creditOf a0 b0 y2))
  have h87_ := jxw_rg ((f_X7_givenBy a0 b0 y2) + (f_X3_creditOf a0 b0 y2))
  have h88_ := f_X7_gotBy_eq a0 b0 y2
  have h89_ := f_X11_entry_r71_eq a0 b0 40 y2
  have h90_ := jxw_im ((jxw ((f_X7_givenBy a0 b0 y2) + (f_X3_creditOf a0 b0 y2))) - (f_X7_gotBy a0 b0 y2))
  have h91_ := jxw_rg ((jxw ((f_X7_givenBy a0 b0 y2) + (f_X3_creditOf a0 b0 y2))) - (f_X7_gotBy a0 b0 y2))
  have h92_ := f_X7_comingTo_eq a0 b0 y2
  have h93_ := f_X11_entry_r72_eq a0 b0 40 y2
  have h94_ := jxw_im ((jxw ((jxw ((f_X7_givenBy a0 b0 y2) + (f_X3_creditOf a0 b0 y2))) - (f_X7_gotBy a0 b0 y2))) - (f_X7_comingTo a0 b0 y2))
  have h95_ := jxw_rg ((jxw ((jxw ((f_X7_givenBy a0 b0 y2) + (f_X3_creditOf a0 b0 y2))) - (f_X7_gotBy a0 b0 y2))) - (f_X7_comingTo a0 b0 y2))
  have h96_ := f_X6_slack_eq a0 b0
  have h97_ := jxw_im ((f_X11_owed a0 b0 y2) + (f_X6_slack a0 b0))
  have h98_ := jxw_rg ((f_X11_owed a0 b0 y2) + (f_X6_slack a0 b0))
  refine jt_ite (fun c99_ => ?_) (fun c99_ => ?_)
  ·
    refine jt_bI (sq_X11_unhappy E d (jd_le hd rfl) y1 y2 a0 b0 hv0 hp0) (fun r100_ a100_ b100_ h100_ => ?_)
    obtain ⟨rfl, rfl, hq100_0⟩ := h100_
    refine jt_eI (eq_X6_strict E d (jd_le hd rfl) a0 b0) ?_
    have h101_ := f_X6_strict_eq a0 b0
    refine jt_ite (fun c102_ => ?_) (fun c102_ => ?_)
    ·
      exact cr_X11_mayGet_69 E d hd x1 x2 x3 a0 b0 hv0 hp0 (fun h1 h2 => by have q := hq100_0 (by omega) (by omega) (by omega) (by omega); rw [hy1, hy2] at q; rw [hmg, if_neg (by rw [← hy2]; omega), ← q]; first | rw [if_pos (by assumption)] | rw [if_neg (by assumption)])
    ·
      exact cr_X11_mayGet_65 E d hd x1 x2 x3 a0 b0 hv0 hp0 (fun h1 h2 => by have q := hq100_0 (by omega) (by omega) (by omega) (by omega); rw [hy1, hy2] at q; rw [hmg, if_neg (by rw [← hy2]; omega), ← q]; first | rw [if_pos (by assumption)] | rw [if_neg (by assumption)])
  ·
    exact cr_X11_mayGet_69 E d hd x1 x2 x3 a0 b0 hv0 hp0 (fun _ _ => by rw [hmg, if_pos (by rw [← hy2]; assumption)])
theorem sq_X11_mayGet (E : jxE) (d : Nat) (hd : Nat.ble 7 d = true) (x1 x2 x3 : Int) (a0 b0 : Nat → Nat → Int) (hv0 : iv a0) (hp0 : WISHR a0) : jt (jxC E d 172 [.inr (.inr (.inl 0)), .inl x1, .inl x2, .inr (.inl x3)] (jxSH, a0, b0)) (jR_X11_mayGet x1 x2 x3 a0 b0) := by
  obtain ⟨d, rfl⟩ := jd_succ hd
  refine jt_eq (bq_X11_mayGet E d x1 x2 x3 a0 b0) ?_
  refine jt_eI (eq_X3_isThere E d (jd_le hd rfl) x2 a0 b0) ?_
  have h103_ := f_X3_isThere_eq a0 b0 x2
  have h104_ := f_X3_has_eq a0 b0 x2
  have h105_ := iv_get hv0 (k := 4) (j := 6) (l := 0) (u := 40) rfl
  refine jt_ite (fun c106_ => ?_) (fun c106_ => ?_)
  ·
    exact cr_X11_mayGet_69 E d hd x1 x2 x3 a0 b0 hv0 hp0 (fun _ _ => by unfold MGF; first | rw [if_pos (by assumption)] | (rw [if_neg (by omega), if_pos (by omega)]) | (rw [if_neg (by omega), if_neg (by omega), if_pos (by omega)]))
  ·
    refine jt_eI (eq_X3_areKin E d (jd_le hd rfl) x1 x2 a0 b0) ?_
    have h107_ := f_X3_areKin_bool a0 b0 x1 x2
    refine jt_ite (fun c108_ => ?_) (fun c108_ => ?_)
    ·
      have h109_ := jxlcmp_b (jxandl (jxshrl x3 x2) 1) 0
      refine jt_ite (fun c110_ => ?_) (fun c110_ => ?_)
      ·
        exact cr_X11_mayGet_33 E d hd x1 x2 x3 a0 b0 hv0 hp0 x1 x2 (show 0 ≤ x2 from by omega) (show x2 ≤ 39 from by omega) (by first | rfl | assumption) (by first | rfl | assumption) (show (0 ≤ x2 ∧ x2 < a0 4 6) from by omega) (by unfold MGF; rw [if_neg (by omega), if_neg (by omega), if_neg (by omega)])
      ·
        exact cr_X11_mayGet_69 E d hd x1 x2 x3 a0 b0 hv0 hp0 (fun _ _ => by unfold MGF; first | rw [if_pos (by assumption)] | (rw [if_neg (by omega), if_pos (by omega)]) | (rw [if_neg (by omega), if_neg (by omega), if_pos (by omega)]))
    ·
      exact cr_X11_mayGet_69 E d hd x1 x2 x3 a0 b0 hv0 hp0 (fun _ _ => by unfold MGF; first | rw [if_pos (by assumption)] | (rw [if_neg (by omega), if_pos (by omega)]) | (rw [if_neg (by omega), if_neg (by omega), if_pos (by omega)]))
abbrev jR_X11_firstReceiver (x1 : Int) (a0 b0 : Nat → Nat → Int) : List jxV → (Nat → Nat → Int) → (Nat → Nat → Int) → Prop := rI (fun r a b => (a0 = a) ∧ (b0 = b) ∧ (0 ≤ x1 → x1 < a0 4 6 → r = FRC a0 b0 x1 (RBC a0 b0 x1 (a0 58 8).toNat) (a0 4 6).toNat))
theorem cr_X11_firstReceiver_15 (E : jxE) (d : Nat) (hd : Nat.ble 8 (d + 1) = true) (x1 : Int) (a0 b0 : Nat → Nat → Int) (hv0 : iv a0) (hp0 : WISHR a0) : ∀ n : Nat, (∀ (y1 y2 y5 : Int), (((40 - y5) * 1) + 0).toNat ≤ n → 0 ≤ y5 → y5 ≤ 39 → y1 = x1 → 0 ≤ y5 → y5 < a0 4 6 → (y2 = RBC a0 b0 x1 (a0 58 8).toNat) → (0 ≤ x1 → x1 < a0 4 6 → y5 = FRC a0 b0 x1 (RBC a0 b0 x1 (a0 58 8).toNat) (y5.toNat + 1)) → jt (jxX E d 174 56 [some (.inr (.inr (.inl 0))), some (.inl y1), some (.inr (.inl y2)), none, none, some (.inl y5)] [] (jxSH, a0, b0)) (jR_X11_firstReceiver x1 a0 b0)) ∧ (∀ (y1 y2 y4 y5 : Int), (((40 - y5) * 1) + 0).toNat ≤ n → 0 ≤ y4 → y4 ≤ 39 → 0 ≤ y5 → y5 ≤ 39 → y1 = x1 → 0 ≤ y5 → y5 < a0 4 6 → (y2 = RBC a0 b0 x1 (a0 58 8).toNat) → (0 ≤ x1 → x1 < a0 4 6 → y4 = FRC a0 b0 x1 (RBC a0 b0 x1 (a0 58 8).toNat) y5.toNat) → (0 ≤ x1 → x1 < a0 4 6 → MGF a0 b0 x1 y5 (RBC a0 b0 x1 (a0 58 8).toNat) ≠ 0) → ¬ y4 = 0 - 1 → jt (jxX E d 174 44 [some (.inr (.inr (.inl 0))), some (.inl y1), some (.inr (.inl y2)), none, some (.inl y4), some (.inl y5)] [] (jxSH, a0, b0)) (jR_X11_firstReceiver x1 a0 b0)) ∧ (∀ (y1 y2 y4 y5 : Int), (((40 - y5) * 1) + 0).toNat ≤ n → 0 - 1 ≤ y4 → y4 ≤ 39 → 0 ≤ y5 → y5 ≤ 40 → y1 = x1 → 0 ≤ y5 → y5 ≤ a0 4 6 → (y2 = RBC a0 b0 x1 (a0 58 8).toNat) → (0 ≤ x1 → x1 < a0 4 6 → y4 = FRC a0 b0 x1 (RBC a0 b0 x1 (a0 58 8).toNat) y5.toNat) → jt (jxX E d 174 15 [some (.inr (.inr (.inl 0))), some (.inl y1), some (.inr (.inl y2)), none, some (.inl y4), some (.inl y5)] [] (jxSH, a0, b0)) (jR_X11_firstReceiver x1 a0 b0)) := by
  refine jx_ind fun n ih => ?_
  have ih56 : ∀ (y1 y2 y5 : Int), (((40 - y5) * 1) + 0).toNat < n → 0 ≤ y5 → y5 ≤ 39 → y1 = x1 → 0 ≤ y5 → y5 < a0 4 6 → (y2 = RBC a0 b0 x1 (a0 58 8).toNat) → (0 ≤ x1 → x1 < a0 4 6 → y5 = FRC a0 b0 x1 (RBC a0 b0 x1 (a0 58 8).toNat) (y5.toNat + 1)) → jt (jxX E d 174 56 [some (.inr (.inr (.inl 0))), some (.inl y1), some (.inr (.inl y2)), none, none, some (.inl y5)] [] (jxSH, a0, b0)) (jR_X11_firstReceiver x1 a0 b0) := fun y1 y2 y5 hlt i0 i1 i2 i3 i4 i5 i6 => (ih _ hlt).1 y1 y2 y5 (Nat.le_refl _) i0 i1 i2 i3 i4 i5 i6
  have ih44 : ∀ (y1 y2 y4 y5 : Int), (((40 - y5) * 1) + 0).toNat < n → 0 ≤ y4 → y4 ≤ 39 → 0 ≤ y5 → y5 ≤ 39 → y1 = x1 → 0 ≤ y5 → y5 < a0 4 6 → (y2 = RBC a0 b0 x1 (a0 58 8).toNat) → (0 ≤ x1 → x1 < a0 4 6 → y4 = FRC a0 b0 x1 (RBC a0 b0 x1 (a0 58 8).toNat) y5.toNat) → (0 ≤ x1 → x1 < a0 4 6 → MGF a0 b0 x1 y5 (RBC a0 b0 x1 (a0 58 8).toNat) ≠ 0) → ¬ y4 = 0 - 1 → jt (jxX E d 174 44 [some (.inr (.inr (.inl 0))), some (.inl y1), some (.inr (.inl y2)), none, some (.inl y4), some (.inl y5)] [] (jxSH, a0, b0)) (jR_X11_firstReceiver x1 a0 b0) := fun y1 y2 y4 y5 hlt i0 i1 i2 i3 i4 i5 i6 i7 i8 i9 i10 => (ih _ hlt).2.1 y1 y2 y4 y5 (Nat.le_refl _) i0 i1 i2 i3 i4 i5 i6 i7 i8 i9 i10
  have ih15 : ∀ (y1 y2 y4 y5 : Int), (((40 - y5) * 1) + 0).toNat < n → 0 - 1 ≤ y4 → y4 ≤ 39 → 0 ≤ y5 → y5 ≤ 40 → y1 = x1 → 0 ≤ y5 → y5 ≤ a0 4 6 → (y2 = RBC a0 b0 x1 (a0 58 8).toNat) → (0 ≤ x1 → x1 < a0 4 6 → y4 = FRC a0 b0 x1 (RBC a0 b0 x1 (a0 58 8).toNat) y5.toNat) → jt (jxX E d 174 15 [some (.inr (.inr (.inl 0))), some (.inl y1), some (.inr (.inl y2)), none, some (.inl y4), some (.inl y5)] [] (jxSH, a0, b0)) (jR_X11_firstReceiver x1 a0 b0) := fun y1 y2 y4 y5 hlt i0 i1 i2 i3 i4 i5 i6 i7 i8 => (ih _ hlt).2.2 y1 y2 y4 y5 (Nat.le_refl _) i0 i1 i2 i3 i4 i5 i6 i7 i8
  have hc56 : ∀ (y1 y2 y5 : Int), (((40 - y5) * 1) + 0).toNat ≤ n → 0 ≤ y5 → y5 ≤ 39 → y1 = x1 → 0 ≤ y5 → y5 < a0 4 6 → (y2 = RBC a0 b0 x1 (a0 58 8).toNat) → (0 ≤ x1 → x1 < a0 4 6 → y5 = FRC a0 b0 x1 (RBC a0 b0 x1 (a0 58 8).toNat) (y5.toNat + 1)) → jt (jxX E d 174 56 [some (.inr (.inr (.inl 0))), some (.inl y1), some (.inr (.inl y2)), none, none, some (.inl y5)] [] (jxSH, a0, b0)) (jR_X11_firstReceiver x1 a0 b0) := by
    intro y1 y2 y5 hm hi0 hi1 hi2 hi3 hi4 hy2 hf1
    refine jt_eq (bq_X11_firstReceiver_56 E d y1 y2 y5 a0 b0) ?_
    have h111_ := iv_get hv0 (k := 4) (j := 6) (l := 0) (u := 40) rfl
    have h112_ : jxw (y5 + 1) = y5 + 1 := jxw_id (by omega) (by omega)
    exact ih15 y1 y2 y5 (jxw (y5 + 1)) (show (((40 - (jxw (y5 + 1))) * 1) + 0).toNat < n from by omega) (show 0 - 1 ≤ y5 from by omega) (show y5 ≤ 39 from by omega) (show 0 ≤ jxw (y5 + 1) from by omega) (show jxw (y5 + 1) ≤ 40 from by omega) (show y1 = x1 from by omega) (show 0 ≤ jxw (y5 + 1) from by omega) (show jxw (y5 + 1) ≤ a0 4 6 from by omega) hy2 (fun h1 h2 => by rw [show (jxw (y5 + 1)).toNat = y5.toNat + 1 from by omega]; exact hf1 h1 h2)
  have hc44 : ∀ (y1 y2 y4 y5 : Int), (((40 - y5) * 1) + 0).toNat ≤ n → 0 ≤ y4 → y4 ≤ 39 → 0 ≤ y5 → y5 ≤ 39 → y1 = x1 → 0 ≤ y5 → y5 < a0 4 6 → (y2 = RBC a0 b0 x1 (a0 58 8).toNat) → (0 ≤ x1 → x1 < a0 4 6 → y4 = FRC a0 b0 x1 (RBC a0 b0 x1 (a0 58 8).toNat) y5.toNat) → (0 ≤ x1 → x1 < a0 4 6 → MGF a0 b0 x1 y5 (RBC a0 b0 x1 (a0 58 8).toNat) ≠ 0) → ¬ y4 = 0 - 1 → jt (jxX E d 174 44 [some (.inr (.inr (.inl 0))), some (.inl y1), some (.inr (.inl y2)), none, some (.inl y4), some (.inl y5)] [] (jxSH, a0, b0)) (jR_X11_firstReceiver x1 a0 b0) := by
    intro y1 y2 y4 y5 hm hi0 hi1 hi2 hi3 hi4 hi5 hi6 hy2 hf1 hmg1 hi10
    refine jt_eq (bq_X11_firstReceiver_44 E d y1 y2 y4 y5 a0 b0) ?_
    have h113_ := iv_get hv0 (k := 4) (j := 6) (l := 0) (u := 40) rfl
    have hst : FRC a0 b0 x1 (RBC a0 b0 x1 (a0 58 8).toNat) (y5.toNat + 1) = if MGF a0 b0 x1 ((y5.toNat : Nat) : Int) (RBC a0 b0 x1 (a0 58 8).toNat) = 0 then FRC a0 b0 x1 (RBC a0 b0 x1 (a0 58 8).toNat) y5.toNat else if FRC a0 b0 x1 (RBC a0 b0 x1 (a0 58 8).toNat) y5.toNat = -1 then ((y5.toNat : Nat) : Int) else if AHF a0 b0 x1 ((y5.toNat : Nat) : Int) (FRC a0 b0 x1 (RBC a0 b0 x1 (a0 58 8).toNat) y5.toNat) = 0 then FRC a0 b0 x1 (RBC a0 b0 x1 (a0 58 8).toNat) y5.toNat else ((y5.toNat : Nat) : Int) := rfl
    rw [show ((y5.toNat : Nat) : Int) = y5 from by omega] at hst
    have hrg := FRC_rg a0 b0 x1 (RBC a0 b0 x1 (a0 58 8).toNat) y5.toNat
    refine jt_bI (sq_X11_isAhead E d (jd_le hd rfl) y1 y5 y4 a0 b0 hv0 hp0) (fun r114_ a114_ b114_ h114_ => ?_)
    obtain ⟨rfl, rfl, hq114_0, hq114_1⟩ := h114_
    refine jt_ite (fun c115_ => ?_) (fun c115_ => ?_)
    ·
      have h116_ : jxw (y5 + 1) = y5 + 1 := jxw_id (by omega) (by omega)
      exact ih15 y1 y2 y4 (jxw (y5 + 1)) (show (((40 - (jxw (y5 + 1))) * 1) + 0).toNat < n from by omega) (show 0 - 1 ≤ y4 from by omega) (show y4 ≤ 39 from by omega) (show 0 ≤ jxw (y5 + 1) from by omega) (show jxw (y5 + 1) ≤ 40 from by omega) (show y1 = x1 from by omega) (show 0 ≤ jxw (y5 + 1) from by omega) (show jxw (y5 + 1) ≤ a0 4 6 from by omega) hy2 (fun h1 h2 => by rw [show (jxw (y5 + 1)).toNat = y5.toNat + 1 from by omega]; have e := hf1 h1 h2; have qa := hq114_1 (by omega) (by omega) (by omega) (by omega) (by omega) (by omega); rw [show y1 = x1 from by omega, e] at qa; rw [hst, if_neg (hmg1 h1 h2), if_neg (by omega), if_pos (by omega)]; exact e)
    ·
      exact hc56 y1 y2 y5 (show (((40 - y5) * 1) + 0).toNat ≤ n from by omega) (show 0 ≤ y5 from by omega) (show y5 ≤ 39 from by omega) (show y1 = x1 from by omega) (show 0 ≤ y5 from by omega) (show y5 < a0 4 6 from by omega) hy2 (fun h1 h2 => by have e := hf1 h1 h2; have qa := hq114_1 (by omega) (by omega) (by omega) (by omega) (by omega) (by omega); rw [show y1 = x1 from by omega, e] at qa; rw [hst, if_neg (hmg1 h1 h2), if_neg (by omega), if_neg (by omega)])
  have hc15 : ∀ (y1 y2 y4 y5 : Int), (((40 - y5) * 1) + 0).toNat ≤ n → 0 - 1 ≤ y4 → y4 ≤ 39 → 0 ≤ y5 → y5 ≤ 40 → y1 = x1 → 0 ≤ y5 → y5 ≤ a0 4 6 → (y2 = RBC a0 b0 x1 (a0 58 8).toNat) → (0 ≤ x1 → x1 < a0 4 6 → y4 = FRC a0 b0 x1 (RBC a0 b0 x1 (a0 58 8).toNat) y5.toNat) → jt (jxX E d 174 15 [some (.inr (.inr (.inl 0))), some (.inl y1), some (.inr (.inl y2)), none, some (.inl y4), some (.inl y5)] [] (jxSH, a0, b0)) (jR_X11_firstReceiver x1 a0 b0) := by
    intro y1 y2 y4 y5 hm hi0 hi1 hi2 hi3 hi4 hi5 hi6 hy2 hf1
    refine jt_eq (bq_X11_firstReceiver_15 E d y1 y2 y4 y5 a0 b0) ?_
    have h117_ := iv_get hv0 (k := 4) (j := 6) (l := 0) (u := 40) rfl
    have hst : FRC a0 b0 x1 (RBC a0 b0 x1 (a0 58 8).toNat) (y5.toNat + 1) = if MGF a0 b0 x1 ((y5.toNat : Nat) : Int) (RBC a0 b0 x1 (a0 58 8).toNat) = 0 then FRC a0 b0 x1 (RBC a0 b0 x1 (a0 58 8).toNat) y5.toNat else if FRC a0 b0 x1 (RBC a0 b0 x1 (a0 58 8).toNat) y5.toNat = -1 then ((y5.toNat : Nat) : Int) else if AHF a0 b0 x1 ((y5.toNat : Nat) : Int) (FRC a0 b0 x1 (RBC a0 b0 x1 (a0 58 8).toNat) y5.toNat) = 0 then FRC a0 b0 x1 (RBC a0 b0 x1 (a0 58 8).toNat) y5.toNat else ((y5.toNat : Nat) : Int) := rfl
    rw [show ((y5.toNat : Nat) : Int) = y5 from by omega] at hst
    have hrg := FRC_rg a0 b0 x1 (RBC a0 b0 x1 (a0 58 8).toNat) y5.toNat
    refine jt_eI (eq_X3_size E d (jd_le hd rfl) a0 b0) ?_
    have h118_ := f_X3_size_eq a0 b0
    refine jt_ite (fun c119_ => ?_) (fun c119_ => ?_)
    ·
      refine jt_bI (sq_X11_mayGet E d (jd_le hd rfl) y1 y5 y2 a0 b0 hv0 hp0) (fun r120_ a120_ b120_ h120_ => ?_)
      obtain ⟨rfl, rfl, hq120_0, hq120_1⟩ := h120_
      refine jt_ite (fun c121_ => ?_) (fun c121_ => ?_)
      ·
        have h122_ : jxw (y5 + 1) = y5 + 1 := jxw_id (by omega) (by omega)
        exact ih15 y1 y2 y4 (jxw (y5 + 1)) (show (((40 - (jxw (y5 + 1))) * 1) + 0).toNat < n from by omega) (show 0 - 1 ≤ y4 from by omega) (show y4 ≤ 39 from by omega) (show 0 ≤ jxw (y5 + 1) from by omega) (show jxw (y5 + 1) ≤ 40 from by omega) (show y1 = x1 from by omega) (show 0 ≤ jxw (y5 + 1) from by omega) (show jxw (y5 + 1) ≤ a0 4 6 from by omega) hy2 (fun h1 h2 => by rw [show (jxw (y5 + 1)).toNat = y5.toNat + 1 from by omega]; have qm := hq120_1 (by omega) (by omega); rw [show y1 = x1 from by omega, hy2] at qm; rw [hst, if_pos (by omega)]; exact hf1 h1 h2)
      ·
        refine jt_ite (fun c123_ => ?_) (fun c123_ => ?_)
        ·
          exact hc56 y1 y2 y5 (show (((40 - y5) * 1) + 0).toNat ≤ n from by omega) (show 0 ≤ y5 from by omega) (show y5 ≤ 39 from by omega) (show y1 = x1 from by omega) (show 0 ≤ y5 from by omega) (show y5 < a0 4 6 from by omega) hy2 (fun h1 h2 => by have qm := hq120_1 (by omega) (by omega); rw [show y1 = x1 from by omega, hy2] at qm; rw [hst, if_neg (by omega), if_pos (by rw [← hf1 h1 h2]; omega)])
        ·
          exact hc44 y1 y2 y4 y5 (show (((40 - y5) * 1) + 0).toNat ≤ n from by omega) (show 0 ≤ y4 from by omega) (show y4 ≤ 39 from by omega) (show 0 ≤ y5 from by omega) (show y5 ≤ 39 from by omega) (show y1 = x1 from by omega) (show 0 ≤ y5 from by omega) (show y5 < a0 4 6 from by omega) hy2 hf1 (fun h1 h2 => by have qm := hq120_1 (by omega) (by omega); rw [show y1 = x1 from by omega, hy2] at qm; omega) (show ¬ y4 = 0 - 1 from by omega)
    ·
      exact jt_rI ⟨rfl, rfl, (fun h1 h2 => by rw [show (a0 4 6).toNat = y5.toNat from by omega]; exact hf1 h1 h2)⟩
  exact ⟨hc56, hc44, hc15⟩
theorem sq_X11_firstReceiver (E : jxE) (d : Nat) (hd : Nat.ble 8 d = true) (x1 : Int) (a0 b0 : Nat → Nat → Int) (hv0 : iv a0) (hp0 : WISHR a0) : jt (jxC E d 174 [.inr (.inr (.inl 0)), .inl x1] (jxSH, a0, b0)) (jR_X11_firstReceiver x1 a0 b0) := by
  obtain ⟨d, rfl⟩ := jd_succ hd
  refine jt_eq (bq_X11_firstReceiver E d x1 a0 b0) ?_
  refine jt_bJ (sq_X0_reachedBy E d (jd_le hd rfl) x1 a0 b0 hv0) (fun r124_ a124_ b124_ h124_ => ?_)
  obtain ⟨rfl, rfl, hq124_0⟩ := h124_
  have h125_ := iv_get hv0 (k := 4) (j := 6) (l := 0) (u := 40) rfl
  exact (cr_X11_firstReceiver_15 E d hd x1 a0 b0 hv0 hp0 _).2.2 x1 r124_ (-1) 0 (Nat.le_refl _) (show 0 - 1 ≤ (-1) from by omega) (show (-1) ≤ 39 from by omega) (show 0 ≤ 0 from by omega) (show 0 ≤ 40 from by omega) (show x1 = x1 from by omega) (show 0 ≤ 0 from by omega) (show 0 ≤ a0 4 6 from by omega) hq124_0 (fun _ _ => rfl)
