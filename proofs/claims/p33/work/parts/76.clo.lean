def jWcr0 : List (Nat × Nat) := []
def jW_X12_close : List (Nat × Nat) := [(146, 9), (146, 39), (146, 40), (146, 41), (146, 55), (154, 9999), (155, 9999), (156, 9999), (157, 9999), (158, 9999), (159, 9999), (160, 9999), (181, 9999), (182, 9999)]
abbrev jQ_X12_close (x1 : Int) (a0 b0 : Nat → Nat → Int) : List jxV → (Nat → Nat → Int) → (Nat → Nat → Int) → Prop := rI (fun r a b => (iv a) ∧ (jfr jW_X12_close a0 a) ∧ (b0 = b) ∧ (OC a) ∧ ((a0 146 64 = 0 → r = 0 - 1)) ∧ (CLR a0 b0 a x1 r))
theorem cp_X12_close_31 (E : jxE) (d : Nat) (hd : Nat.ble 3 (d + 1) = true) (x1 : Int) (a0 b0 : Nat → Nat → Int) (hv0 : iv a0) (hp0 : OC a0) (hp1 : FO a0) : ∀ (a : Nat → Nat → Int), iv a → jfr jW_X12_close a0 a → (OC a) → (jfr jWcr0 a0 a) → (CRN a0 b0 x1) → jt (jxX E d 274 31 [none, none, none, none, none, none] [] (jxSH, a, b0)) (jQ_X12_close x1 a0 b0) := by
  intro a hv hf hoc hfe hcn
  refine jt_eq (bq_X12_close_31 E d a b0) ?_
  have h816_ := iv_get hv0 (k := 146) (j := 64) (l := 0) (u := 6) rfl
  exact jt_rI ⟨hv, hf, rfl, hoc, (show (a0 146 64 = 0 → (-1) = 0 - 1) from by omega), (Or.inl ⟨hcn, rfl, cvR_fr hfe rfl, funext fun j => hfe 181 j rfl, funext fun j => hfe 182 j rfl, hfe 146 55 rfl⟩)⟩
theorem cp_X12_close_65 (E : jxE) (d : Nat) (hd : Nat.ble 3 (d + 1) = true) (x1 : Int) (a0 b0 : Nat → Nat → Int) (hv0 : iv a0) (hp0 : OC a0) (hp1 : FO a0) : ∀ (a : Nat → Nat → Int), iv a → jfr jW_X12_close a0 a → (OC a) → 1 ≤ a0 146 64 → (jfr jWcr0 a0 a) → (CRN a0 b0 x1) → jt (jxX E d 274 65 [none, none, none, none, none, none] [] (jxSH, a, b0)) (jQ_X12_close x1 a0 b0) := by
  intro a hv hf hoc hi1 hfe hcn
  refine jt_eq (bq_X12_close_65 E d a b0) ?_
  have h817_ := iv_get hv0 (k := 146) (j := 64) (l := 0) (u := 6) rfl
  exact jt_rI ⟨hv, hf, rfl, hoc, (show (a0 146 64 = 0 → (-1) = 0 - 1) from by omega), (Or.inl ⟨hcn, rfl, cvR_fr hfe rfl, funext fun j => hfe 181 j rfl, funext fun j => hfe 182 j rfl, hfe 146 55 rfl⟩)⟩
theorem cp_X12_close_75 (E : jxE) (d : Nat) (hd : Nat.ble 3 (d + 1) = true) (x1 : Int) (a0 b0 : Nat → Nat → Int) (hv0 : iv a0) (hp0 : OC a0) (hp1 : FO a0) : ∀ n : Nat, (∀ (y1 y2 y3 : Int) (a : Nat → Nat → Int), (((5 - y3) * 1) + 0).toNat ≤ n → iv a → jfr jW_X12_close a0 a → 0 ≤ y1 → y1 ≤ 5 → 1 ≤ y2 → y2 ≤ 5 → 0 ≤ y3 → y3 ≤ 4 → 0 ≤ y1 → y1 ≤ 5 → 0 ≤ y2 → y2 ≤ 5 → (OC a) → ((a 146 9) + y2) - y3 ≤ 301 → 1 ≤ a 146 49 → y3 < y2 → 1 ≤ a0 146 64 → (y1 = x1) → (¬ f_X12_in a0 b0 x1 0 (jxw (a0 146 64 - 1)) = 0 ∧ ¬ 300 < jxw (a0 146 9 + a0 190 x1.toNat)) → (y2 = a0 190 x1.toNat) → 0 ≤ y3 → (∀ i : Nat, (i : Int) < y2 → a0 181 (oR a0 x1 i).toNat = 0) → (a 146 55 = a0 146 55) → (CRO a0 a x1 (y3.toNat + 1)) → jt (jxX E d 274 150 [some (.inr (.inr (.inl 146))), some (.inl y1), some (.inl y2), some (.inl y3), none, none] [] (jxSH, a, b0)) (jQ_X12_close x1 a0 b0)) ∧ (∀ (y1 y2 y3 y4 y5 : Int) (a : Nat → Nat → Int), (((5 - y3) * 1) + 0).toNat ≤ n → iv a → jfr jW_X12_close a0 a → 0 ≤ y1 → y1 ≤ 5 → 1 ≤ y2 → y2 ≤ 5 → 0 ≤ y3 → y3 ≤ 4 → 0 ≤ y4 → y4 ≤ 19 → 0 ≤ y5 → y5 ≤ 19 → 0 ≤ y1 → y1 ≤ 5 → 0 ≤ y2 → y2 ≤ 5 → (OC a) → ((a 146 9) + y2) - y3 ≤ 300 → 1 ≤ a 146 49 → y4 < a 146 49 → y3 < y2 → 1 ≤ a0 146 64 → (y1 = x1) → (¬ f_X12_in a0 b0 x1 0 (jxw (a0 146 64 - 1)) = 0 ∧ ¬ 300 < jxw (a0 146 9 + a0 190 x1.toNat)) → (y2 = a0 190 x1.toNat) → 0 ≤ y3 → (∀ i : Nat, (i : Int) < y2 → a0 181 (oR a0 x1 i).toNat = 0) → (a 146 55 = a0 146 55) → (CRO a0 a x1 y3.toNat) → (y4 = oR a0 x1 y3.toNat) → (y5 = oR a0 x1 (nxt (a0 190 x1.toNat).toNat y3.toNat)) → jt (jxX E d 274 108 [some (.inr (.inr (.inl 146))), some (.inl y1), some (.inl y2), some (.inl y3), some (.inl y4), some (.inl y5)] [] (jxSH, a, b0)) (jQ_X12_close x1 a0 b0)) ∧ (∀ (y1 y2 y3 : Int) (a : Nat → Nat → Int), (((5 - y3) * 1) + 0).toNat ≤ n → iv a → jfr jW_X12_close a0 a → 0 ≤ y1 → y1 ≤ 5 → 0 ≤ y2 → y2 ≤ 5 → 0 ≤ y3 → y3 ≤ 5 → 0 ≤ y1 → y1 ≤ 5 → 0 ≤ y2 → y2 ≤ 5 → (OC a) → ((a 146 9) + y2) - y3 ≤ 300 → 1 ≤ a 146 49 → y3 ≤ y2 → 1 ≤ a0 146 64 → (y1 = x1) → (¬ f_X12_in a0 b0 x1 0 (jxw (a0 146 64 - 1)) = 0 ∧ ¬ 300 < jxw (a0 146 9 + a0 190 x1.toNat)) → (y2 = a0 190 x1.toNat) → 0 ≤ y3 → (∀ i : Nat, (i : Int) < y2 → a0 181 (oR a0 x1 i).toNat = 0) → (a 146 55 = a0 146 55) → (CRO a0 a x1 y3.toNat) → jt (jxX E d 274 75 [some (.inr (.inr (.inl 146))), some (.inl y1), some (.inl y2), some (.inl y3), none, none] [] (jxSH, a, b0)) (jQ_X12_close x1 a0 b0)) := by
  refine jx_ind fun n ih => ?_
  have ih150 : ∀ (y1 y2 y3 : Int) (a : Nat → Nat → Int), (((5 - y3) * 1) + 0).toNat < n → iv a → jfr jW_X12_close a0 a → 0 ≤ y1 → y1 ≤ 5 → 1 ≤ y2 → y2 ≤ 5 → 0 ≤ y3 → y3 ≤ 4 → 0 ≤ y1 → y1 ≤ 5 → 0 ≤ y2 → y2 ≤ 5 → (OC a) → ((a 146 9) + y2) - y3 ≤ 301 → 1 ≤ a 146 49 → y3 < y2 → 1 ≤ a0 146 64 → (y1 = x1) → (¬ f_X12_in a0 b0 x1 0 (jxw (a0 146 64 - 1)) = 0 ∧ ¬ 300 < jxw (a0 146 9 + a0 190 x1.toNat)) → (y2 = a0 190 x1.toNat) → 0 ≤ y3 → (∀ i : Nat, (i : Int) < y2 → a0 181 (oR a0 x1 i).toNat = 0) → (a 146 55 = a0 146 55) → (CRO a0 a x1 (y3.toNat + 1)) → jt (jxX E d 274 150 [some (.inr (.inr (.inl 146))), some (.inl y1), some (.inl y2), some (.inl y3), none, none] [] (jxSH, a, b0)) (jQ_X12_close x1 a0 b0) := fun y1 y2 y3 a hlt i0 i1 i2 i3 i4 i5 i6 i7 i8 i9 i10 i11 i12 i13 i14 i15 i16 i17 i18 i19 i20 i21 i22 i23 => (ih _ hlt).1 y1 y2 y3 a (Nat.le_refl _) i0 i1 i2 i3 i4 i5 i6 i7 i8 i9 i10 i11 i12 i13 i14 i15 i16 i17 i18 i19 i20 i21 i22 i23
  have ih108 : ∀ (y1 y2 y3 y4 y5 : Int) (a : Nat → Nat → Int), (((5 - y3) * 1) + 0).toNat < n → iv a → jfr jW_X12_close a0 a → 0 ≤ y1 → y1 ≤ 5 → 1 ≤ y2 → y2 ≤ 5 → 0 ≤ y3 → y3 ≤ 4 → 0 ≤ y4 → y4 ≤ 19 → 0 ≤ y5 → y5 ≤ 19 → 0 ≤ y1 → y1 ≤ 5 → 0 ≤ y2 → y2 ≤ 5 → (OC a) → ((a 146 9) + y2) - y3 ≤ 300 → 1 ≤ a 146 49 → y4 < a 146 49 → y3 < y2 → 1 ≤ a0 146 64 → (y1 = x1) → (¬ f_X12_in a0 b0 x1 0 (jxw (a0 146 64 - 1)) = 0 ∧ ¬ 300 < jxw (a0 146 9 + a0 190 x1.toNat)) → (y2 = a0 190 x1.toNat) → 0 ≤ y3 → (∀ i : Nat, (i : Int) < y2 → a0 181 (oR a0 x1 i).toNat = 0) → (a 146 55 = a0 146 55) → (CRO a0 a x1 y3.toNat) → (y4 = oR a0 x1 y3.toNat) → (y5 = oR a0 x1 (nxt (a0 190 x1.toNat).toNat y3.toNat)) → jt (jxX E d 274 108 [some (.inr (.inr (.inl 146))), some (.inl y1), some (.inl y2), some (.inl y3), some (.inl y4), some (.inl y5)] [] (jxSH, a, b0)) (jQ_X12_close x1 a0 b0) := fun y1 y2 y3 y4 y5 a hlt i0 i1 i2 i3 i4 i5 i6 i7 i8 i9 i10 i11 i12 i13 i14 i15 i16 i17 i18 i19 i20 i21 i22 i23 i24 i25 i26 i27 i28 i29 i30 => (ih _ hlt).2.1 y1 y2 y3 y4 y5 a (Nat.le_refl _) i0 i1 i2 i3 i4 i5 i6 i7 i8 i9 i10 i11 i12 i13 i14 i15 i16 i17 i18 i19 i20 i21 i22 i23 i24 i25 i26 i27 i28 i29 i30
  have ih75 : ∀ (y1 y2 y3 : Int) (a : Nat → Nat → Int), (((5 - y3) * 1) + 0).toNat < n → iv a → jfr jW_X12_close a0 a → 0 ≤ y1 → y1 ≤ 5 → 0 ≤ y2 → y2 ≤ 5 → 0 ≤ y3 → y3 ≤ 5 → 0 ≤ y1 → y1 ≤ 5 → 0 ≤ y2 → y2 ≤ 5 → (OC a) → ((a 146 9) + y2) - y3 ≤ 300 → 1 ≤ a 146 49 → y3 ≤ y2 → 1 ≤ a0 146 64 → (y1 = x1) → (¬ f_X12_in a0 b0 x1 0 (jxw (a0 146 64 - 1)) = 0 ∧ ¬ 300 < jxw (a0 146 9 + a0 190 x1.toNat)) → (y2 = a0 190 x1.toNat) → 0 ≤ y3 → (∀ i : Nat, (i : Int) < y2 → a0 181 (oR a0 x1 i).toNat = 0) → (a 146 55 = a0 146 55) → (CRO a0 a x1 y3.toNat) → jt (jxX E d 274 75 [some (.inr (.inr (.inl 146))), some (.inl y1), some (.inl y2), some (.inl y3), none, none] [] (jxSH, a, b0)) (jQ_X12_close x1 a0 b0) := fun y1 y2 y3 a hlt i0 i1 i2 i3 i4 i5 i6 i7 i8 i9 i10 i11 i12 i13 i14 i15 i16 i17 i18 i19 i20 i21 i22 i23 => (ih _ hlt).2.2 y1 y2 y3 a (Nat.le_refl _) i0 i1 i2 i3 i4 i5 i6 i7 i8 i9 i10 i11 i12 i13 i14 i15 i16 i17 i18 i19 i20 i21 i22 i23
  have hc150 : ∀ (y1 y2 y3 : Int) (a : Nat → Nat → Int), (((5 - y3) * 1) + 0).toNat ≤ n → iv a → jfr jW_X12_close a0 a → 0 ≤ y1 → y1 ≤ 5 → 1 ≤ y2 → y2 ≤ 5 → 0 ≤ y3 → y3 ≤ 4 → 0 ≤ y1 → y1 ≤ 5 → 0 ≤ y2 → y2 ≤ 5 → (OC a) → ((a 146 9) + y2) - y3 ≤ 301 → 1 ≤ a 146 49 → y3 < y2 → 1 ≤ a0 146 64 → (y1 = x1) → (¬ f_X12_in a0 b0 x1 0 (jxw (a0 146 64 - 1)) = 0 ∧ ¬ 300 < jxw (a0 146 9 + a0 190 x1.toNat)) → (y2 = a0 190 x1.toNat) → 0 ≤ y3 → (∀ i : Nat, (i : Int) < y2 → a0 181 (oR a0 x1 i).toNat = 0) → (a 146 55 = a0 146 55) → (CRO a0 a x1 (y3.toNat + 1)) → jt (jxX E d 274 150 [some (.inr (.inr (.inl 146))), some (.inl y1), some (.inl y2), some (.inl y3), none, none] [] (jxSH, a, b0)) (jQ_X12_close x1 a0 b0) := by
    intro y1 y2 y3 a hm hv hf hi0 hi1 hi2 hi3 hi4 hi5 hi6 hi7 hi8 hi9 hoc hi11 hi12 hi13 hi14 hy1 hok hy2 hi18 hno h55 hcl
    refine jt_eq (bq_X12_close_150 E d y1 y2 y3 a b0) ?_
    have h818_ := iv_get hv (k := 146) (j := 9) (l := 0) (u := 300) rfl
    have h819_ := iv_get hv (k := 146) (j := 49) (l := 0) (u := 20) rfl
    have h820_ : a 146 49 = a0 146 49 := hf 146 49 rfl
    have h821_ := iv_get hv0 (k := 146) (j := 49) (l := 0) (u := 20) rfl
    have h822_ := iv_get hv0 (k := 146) (j := 64) (l := 0) (u := 6) rfl
    have h823_ : jxw (y3 + 1) = y3 + 1 := jxw_id (by omega) (by omega)
    exact ih75 y1 y2 (jxw (y3 + 1)) a (show (((5 - (jxw (y3 + 1))) * 1) + 0).toNat < n from by omega) hv hf (show 0 ≤ y1 from by omega) (show y1 ≤ 5 from by omega) (show 0 ≤ y2 from by omega) (show y2 ≤ 5 from by omega) (show 0 ≤ jxw (y3 + 1) from by omega) (show jxw (y3 + 1) ≤ 5 from by omega) (show 0 ≤ y1 from by omega) (show y1 ≤ 5 from by omega) (show 0 ≤ y2 from by omega) (show y2 ≤ 5 from by omega) hoc (show ((a 146 9) + y2) - (jxw (y3 + 1)) ≤ 300 from by omega) (show 1 ≤ a 146 49 from by omega) (show jxw (y3 + 1) ≤ y2 from by omega) (show 1 ≤ a0 146 64 from by omega) hy1 hok hy2 (show 0 ≤ jxw (y3 + 1) from by omega) hno h55 (by rw [show (jxw (y3 + 1)).toNat = y3.toNat + 1 from by omega]; exact hcl)
  have hc108 : ∀ (y1 y2 y3 y4 y5 : Int) (a : Nat → Nat → Int), (((5 - y3) * 1) + 0).toNat ≤ n → iv a → jfr jW_X12_close a0 a → 0 ≤ y1 → y1 ≤ 5 → 1 ≤ y2 → y2 ≤ 5 → 0 ≤ y3 → y3 ≤ 4 → 0 ≤ y4 → y4 ≤ 19 → 0 ≤ y5 → y5 ≤ 19 → 0 ≤ y1 → y1 ≤ 5 → 0 ≤ y2 → y2 ≤ 5 → (OC a) → ((a 146 9) + y2) - y3 ≤ 300 → 1 ≤ a 146 49 → y4 < a 146 49 → y3 < y2 → 1 ≤ a0 146 64 → (y1 = x1) → (¬ f_X12_in a0 b0 x1 0 (jxw (a0 146 64 - 1)) = 0 ∧ ¬ 300 < jxw (a0 146 9 + a0 190 x1.toNat)) → (y2 = a0 190 x1.toNat) → 0 ≤ y3 → (∀ i : Nat, (i : Int) < y2 → a0 181 (oR a0 x1 i).toNat = 0) → (a 146 55 = a0 146 55) → (CRO a0 a x1 y3.toNat) → (y4 = oR a0 x1 y3.toNat) → (y5 = oR a0 x1 (nxt (a0 190 x1.toNat).toNat y3.toNat)) → jt (jxX E d 274 108 [some (.inr (.inr (.inl 146))), some (.inl y1), some (.inl y2), some (.inl y3), some (.inl y4), some (.inl y5)] [] (jxSH, a, b0)) (jQ_X12_close x1 a0 b0) := by
    intro y1 y2 y3 y4 y5 a hm hv hf hi0 hi1 hi2 hi3 hi4 hi5 hi6 hi7 hi8 hi9 hi10 hi11 hi12 hi13 hoc hi15 hi16 hi17 hi18 hi19 hy1 hok hy2 hi23 hno h55 hcl hy4 hy5
    refine jt_eq (bq_X12_close_108 E d y1 y2 y3 y4 y5 a b0) ?_
    have h824_ := iv_get hv (k := 146) (j := 9) (l := 0) (u := 300) rfl
    have h825_ := iv_get hv (k := 146) (j := 49) (l := 0) (u := 20) rfl
    have h826_ : a 146 49 = a0 146 49 := hf 146 49 rfl
    have h827_ := iv_get hv0 (k := 146) (j := 49) (l := 0) (u := 20) rfl
    have h828_ := iv_get hv0 (k := 146) (j := 64) (l := 0) (u := 6) rfl
    refine jt_grd (by omega) ?_
    refine jt_grd (by omega) ?_
    refine jt_grd (by omega) ?_
    refine jt_grd (by omega) ?_
    have hv829_ : iv (jxu a 181 (y4.toNat) 1) := iv_put hv (l := 0) (u := 2) rfl (by omega) (by omega)
    have hv830_ : iv (jxu (jxu a 181 (y4.toNat) 1) 182 (y4.toNat) (a 146 55)) := iv_putf hv829_ rfl
    have h831_ := iv_get hv (k := 178) (j := y4.toNat) (l := 0) (u := 39) rfl
    have h832_ : a 178 (y4.toNat) = a0 178 (y4.toNat) := hf 178 (y4.toNat) rfl
    have h833_ := iv_get hv0 (k := 178) (j := y4.toNat) (l := 0) (u := 39) rfl
    have h834_ := iv_get hv (k := 178) (j := y5.toNat) (l := 0) (u := 39) rfl
    have h835_ : a 178 (y5.toNat) = a0 178 (y5.toNat) := hf 178 (y5.toNat) rfl
    have h836_ := iv_get hv0 (k := 178) (j := y5.toNat) (l := 0) (u := 39) rfl
    refine jt_bI (sp_X12_sends E d (jd_le hd rfl) (a 178 (y4.toNat)) (a 178 (y5.toNat)) (a 146 55) (jxu (jxu a 181 (y4.toNat) 1) 182 (y4.toNat) (a 146 55)) b0 hv830_ (show (0 ≤ a 178 (y4.toNat) ∧ a 178 (y4.toNat) ≤ 39) from by omega) (show (0 ≤ a 178 (y5.toNat) ∧ a 178 (y5.toNat) ≤ 39) from by omega) (show a 146 9 ≤ 299 from by omega)) (fun r837_ a837_ b837_ h837_ => ?_)
    obtain ⟨hv837_, hf837_, rfl, hq837_0, hq837_1, hq837_2, hq837_3, hq837_4⟩ := h837_
    have h838_ := iv_get hv837_ (k := 146) (j := 9) (l := 0) (u := 300) rfl
    have h839_ : a837_ 146 9 = (a 146 9) + 1 := hq837_0
    have h840_ : r837_ = a 146 9 := hq837_4
    have hf841_ : jfr jW_X12_close a0 (jxu a 181 (y4.toNat) 1) := jfr_put hf rfl
    have hf842_ : jfr jW_X12_close a0 (jxu (jxu a 181 (y4.toNat) 1) 182 (y4.toNat) (a 146 55)) := jfr_put hf841_ rfl
    have hf843_ : jfr jW_X12_close a0 a837_ := jfr_tr hf842_ hf837_ rfl
    have h844_ := iv_get hv837_ (k := 146) (j := 49) (l := 0) (u := 20) rfl
    have h845_ : a837_ 146 49 = a 146 49 := hf837_ 146 49 rfl
    exact hc150 y1 y2 y3 a837_ (show (((5 - y3) * 1) + 0).toNat ≤ n from by omega) hv837_ hf843_ (show 0 ≤ y1 from by omega) (show y1 ≤ 5 from by omega) (show 1 ≤ y2 from by omega) (show y2 ≤ 5 from by omega) (show 0 ≤ y3 from by omega) (show y3 ≤ 4 from by omega) (show 0 ≤ y1 from by omega) (show y1 ≤ 5 from by omega) (show 0 ≤ y2 from by omega) (show y2 ≤ 5 from by omega) (OC_close hoc (o := y4.toNat) (R := a 146 55) (by omega) (by omega) (by omega) (hf837_ 146 49 rfl) (fun c hc => hq837_2 c hc) (fun j => hf837_ 178 j rfl) (fun j hj => by rw [hf837_ 181 j rfl]; simp [jxu, hj]) (fun j hj => by rw [hf837_ 182 j rfl]; simp [jxu, hj]) (by rw [hf837_ 182 _ rfl]; simp [jxu]) hq837_1.2 hq837_1.1) (show ((a837_ 146 9) + y2) - y3 ≤ 301 from by omega) (show 1 ≤ a837_ 146 49 from by omega) (show y3 < y2 from by omega) (show 1 ≤ a0 146 64 from by omega) hy1 hok hy2 (show 0 ≤ y3 from by omega) hno ((hf837_ 146 55 rfl).trans h55) (by have q := hq837_3; rw [BNR_BNVr, ldR_fr (show (jxu (jxu a 181 (y4.toNat) 1) 182 (y4.toNat) (a 146 55)) 148 = a0 148 from funext fun j => hf 148 j rfl), h55] at q; exact CRO_s hcl hy4 hy5 (by rw [← show a 178 = a0 178 from funext fun j => hf 178 j rfl, ← show a 146 0 = a0 146 0 from hf 146 0 rfl, ← show a 171 3 = a0 171 3 from hf 171 3 rfl]; exact q) (by funext j; exact (hf837_ 181 j rfl).trans (by rw [jxu_nk (show ¬ 181 = 182 by decide)]; exact congrFun (jxu_rup _ _ _ _) j)) (by funext j; exact (hf837_ 182 j rfl).trans (by rw [h55]; exact (congrFun (jxu_rup _ _ _ _) j).trans (by rw [jxu_off (show ¬ 182 = 181 by decide)]))))
  have hc75 : ∀ (y1 y2 y3 : Int) (a : Nat → Nat → Int), (((5 - y3) * 1) + 0).toNat ≤ n → iv a → jfr jW_X12_close a0 a → 0 ≤ y1 → y1 ≤ 5 → 0 ≤ y2 → y2 ≤ 5 → 0 ≤ y3 → y3 ≤ 5 → 0 ≤ y1 → y1 ≤ 5 → 0 ≤ y2 → y2 ≤ 5 → (OC a) → ((a 146 9) + y2) - y3 ≤ 300 → 1 ≤ a 146 49 → y3 ≤ y2 → 1 ≤ a0 146 64 → (y1 = x1) → (¬ f_X12_in a0 b0 x1 0 (jxw (a0 146 64 - 1)) = 0 ∧ ¬ 300 < jxw (a0 146 9 + a0 190 x1.toNat)) → (y2 = a0 190 x1.toNat) → 0 ≤ y3 → (∀ i : Nat, (i : Int) < y2 → a0 181 (oR a0 x1 i).toNat = 0) → (a 146 55 = a0 146 55) → (CRO a0 a x1 y3.toNat) → jt (jxX E d 274 75 [some (.inr (.inr (.inl 146))), some (.inl y1), some (.inl y2), some (.inl y3), none, none] [] (jxSH, a, b0)) (jQ_X12_close x1 a0 b0) := by
    intro y1 y2 y3 a hm hv hf hi0 hi1 hi2 hi3 hi4 hi5 hi6 hi7 hi8 hi9 hoc hi11 hi12 hi13 hi14 hy1 hok hy2 hi18 hno h55 hcl
    refine jt_eq (bq_X12_close_75 E d y1 y2 y3 a b0) ?_
    have h846_ := iv_get hv (k := 146) (j := 9) (l := 0) (u := 300) rfl
    have h847_ := iv_get hv (k := 146) (j := 49) (l := 0) (u := 20) rfl
    have h848_ : a 146 49 = a0 146 49 := hf 146 49 rfl
    have h849_ := iv_get hv0 (k := 146) (j := 49) (l := 0) (u := 20) rfl
    have h850_ := iv_get hv0 (k := 146) (j := 64) (l := 0) (u := 6) rfl
    have hfo := (FO_fr hp1 hf rfl rfl (fun _ => rfl)).1 ((jxw ((jxw (5 * y1)) + y3)).toNat)
    have hyy : jxw (y3 + 1) = y3 + 1 := jxw_id (by omega) (by omega)
    have htm : y3 < y2 → 0 ≤ Int.tmod (jxw (y3 + 1)) y2 ∧ Int.tmod (jxw (y3 + 1)) y2 < y2 := fun h => ⟨Int.tmod_nonneg _ (by omega), Int.tmod_lt_of_pos _ (by omega)⟩
    have oy3_ : 0 ≤ y3 → oR a0 x1 y3.toNat = a 189 ((jxw ((jxw (5 * y1)) + y3)).toNat) := fun h => by unfold oR; rw [hf 189 _ rfl]; congr 1; rw [jxw_id (x := 5 * y1) (by omega) (by omega), jxw_id (by omega) (by omega)]; omega
    refine jt_ite (fun c851_ => ?_) (fun c851_ => ?_)
    ·
      have h852_ : jxw (5 * y1) = 5 * y1 := jxw_id (by omega) (by omega)
      have h853_ : jxw ((jxw (5 * y1)) + y3) = (jxw (5 * y1)) + y3 := jxw_id (by omega) (by omega)
      refine jt_grd (by omega) ?_
      refine jt_dvd (by omega) ?_
      have h854_ : jxw (y3 + 1) = y3 + 1 := jxw_id (by omega) (by omega)
      have h855_ := jxw_im (Int.tmod (jxw (y3 + 1)) y2)
      have h856_ := jxw_rg (Int.tmod (jxw (y3 + 1)) y2)
      have h857_ := jxw_im ((jxw (5 * y1)) + (jxw (Int.tmod (jxw (y3 + 1)) y2)))
      have h858_ := jxw_rg ((jxw (5 * y1)) + (jxw (Int.tmod (jxw (y3 + 1)) y2)))
      refine jt_grd (by omega) ?_
      have h859_ := iv_get hv (k := 189) (j := (jxw ((jxw (5 * y1)) + y3)).toNat) (l := 0) (u := 19) rfl
      have h860_ : a 189 ((jxw ((jxw (5 * y1)) + y3)).toNat) = a0 189 ((jxw ((jxw (5 * y1)) + y3)).toNat) := hf 189 ((jxw ((jxw (5 * y1)) + y3)).toNat) rfl
      have h861_ := iv_get hv0 (k := 189) (j := (jxw ((jxw (5 * y1)) + y3)).toNat) (l := 0) (u := 19) rfl
      have h862_ := iv_get hv (k := 189) (j := (jxw ((jxw (5 * y1)) + (jxw (Int.tmod (jxw (y3 + 1)) y2)))).toNat) (l := 0) (u := 19) rfl
      have h863_ : a 189 ((jxw ((jxw (5 * y1)) + (jxw (Int.tmod (jxw (y3 + 1)) y2)))).toNat) = a0 189 ((jxw ((jxw (5 * y1)) + (jxw (Int.tmod (jxw (y3 + 1)) y2)))).toNat) := hf 189 ((jxw ((jxw (5 * y1)) + (jxw (Int.tmod (jxw (y3 + 1)) y2)))).toNat) rfl
      have h864_ := iv_get hv0 (k := 189) (j := (jxw ((jxw (5 * y1)) + (jxw (Int.tmod (jxw (y3 + 1)) y2)))).toNat) (l := 0) (u := 19) rfl
      exact hc108 y1 y2 y3 (a 189 ((jxw ((jxw (5 * y1)) + y3)).toNat)) (a 189 ((jxw ((jxw (5 * y1)) + (jxw (Int.tmod (jxw (y3 + 1)) y2)))).toNat)) a (show (((5 - y3) * 1) + 0).toNat ≤ n from by omega) hv hf (show 0 ≤ y1 from by omega) (show y1 ≤ 5 from by omega) (show 1 ≤ y2 from by omega) (show y2 ≤ 5 from by omega) (show 0 ≤ y3 from by omega) (show y3 ≤ 4 from by omega) (show 0 ≤ a 189 ((jxw ((jxw (5 * y1)) + y3)).toNat) from by omega) (show a 189 ((jxw ((jxw (5 * y1)) + y3)).toNat) ≤ 19 from by omega) (show 0 ≤ a 189 ((jxw ((jxw (5 * y1)) + (jxw (Int.tmod (jxw (y3 + 1)) y2)))).toNat) from by omega) (show a 189 ((jxw ((jxw (5 * y1)) + (jxw (Int.tmod (jxw (y3 + 1)) y2)))).toNat) ≤ 19 from by omega) (show 0 ≤ y1 from by omega) (show y1 ≤ 5 from by omega) (show 0 ≤ y2 from by omega) (show y2 ≤ 5 from by omega) hoc (show ((a 146 9) + y2) - y3 ≤ 300 from by omega) (show 1 ≤ a 146 49 from by omega) (show a 189 ((jxw ((jxw (5 * y1)) + y3)).toNat) < a 146 49 from by omega) (show y3 < y2 from by omega) (show 1 ≤ a0 146 64 from by omega) hy1 hok hy2 (show 0 ≤ y3 from by omega) hno h55 hcl (oy3_ (by omega)).symm (by have hnx_ := nxt_i (y4 := y3) (y2 := y2) (by omega) rfl (by omega : y2.toNat = (a0 190 x1.toNat).toNat) rfl; have hlt_ := nxt_lt (L := (a0 190 x1.toNat).toNat) (n := y3.toNat) (by omega); unfold oR; rw [hf 189 _ rfl]; congr 1; rw [hyy, tmod_nxt (by omega) (by omega), hnx_, jxw_id (x := 5 * y1) (by omega) (by omega), jxw_id (x := ((nxt (a0 190 x1.toNat).toNat y3.toNat : Nat) : Int)) (by omega) (by omega), jxw_id (by omega) (by omega)]; omega)
    ·
      have hv865_ : iv (jxu a 146 55 (jxw ((a 146 55) + 1))) := iv_putf hv rfl
      have hf866_ : jfr jW_X12_close a0 (jxu a 146 55 (jxw ((a 146 55) + 1))) := jfr_put hf rfl
      have hg867_ : OC (jxu a 146 55 (jxw ((a 146 55) + 1))) := (OC_fr hoc (jfr_1s a 146 55 (jxw ((a 146 55) + 1))) rfl rfl (fun _ => rfl) (fun _ => rfl) (fun _ => rfl) (fun _ => rfl) (fun _ => rfl))
      have h868_ := jxw_im ((a 146 55) + 1)
      have h869_ := jxw_rg ((a 146 55) + 1)
      have h870_ := jxw_im ((jxw ((a 146 55) + 1)) - 1)
      have h871_ := jxw_rg ((jxw ((a 146 55) + 1)) - 1)
      exact jt_rI ⟨hv865_, hf866_, rfl, hg867_, (show (a0 146 64 = 0 → jxw ((jxw ((a 146 55) + 1)) - 1) = 0 - 1) from by omega), (by refine Or.inr ⟨fun w => by rcases w with w | w | ⟨i, w1, w2⟩ <;> first | exact hok.1 w | exact hok.2 w | exact w2 (hno i (by omega)), by rw [h55], by rw [jxu_at, h55], ?_⟩; have q := hcl; rw [show y3.toNat = (a0 190 x1.toNat).toNat from by omega] at q; exact CRO_fr q rfl rfl rfl)⟩
  exact ⟨hc150, hc108, hc75⟩
theorem cp_X12_close_42 (E : jxE) (d : Nat) (hd : Nat.ble 3 (d + 1) = true) (x1 : Int) (a0 b0 : Nat → Nat → Int) (hv0 : iv a0) (hp0 : OC a0) (hp1 : FO a0) : ∀ n : Nat, (∀ (y1 y2 y3 : Int) (a : Nat → Nat → Int), (((5 - y3) * 1) + 0).toNat ≤ n → iv a → jfr jW_X12_close a0 a → 0 ≤ y1 → y1 ≤ 5 → 1 ≤ y2 → y2 ≤ 5 → 0 ≤ y3 → y3 ≤ 4 → 0 ≤ y1 → y1 ≤ 5 → 0 ≤ y2 → y2 ≤ 5 → (OC a) → (a 146 9) + y2 ≤ 300 → 1 ≤ a 146 49 → y3 < y2 → 1 ≤ a0 146 64 → (jfr jWcr0 a0 a) → (y1 = x1) → (¬ f_X12_in a0 b0 x1 0 (jxw (a0 146 64 - 1)) = 0 ∧ ¬ 300 < jxw (a0 146 9 + a0 190 x1.toNat)) → (y2 = a0 190 x1.toNat) → 0 ≤ y3 → (∀ i : Nat, (i : Int) < y3 + 1 → a0 181 (oR a0 x1 i).toNat = 0) → jt (jxX E d 274 67 [some (.inr (.inr (.inl 146))), some (.inl y1), some (.inl y2), some (.inl y3), none, none] [] (jxSH, a, b0)) (jQ_X12_close x1 a0 b0)) ∧ (∀ (y1 y2 y3 : Int) (a : Nat → Nat → Int), (((5 - y3) * 1) + 0).toNat ≤ n → iv a → jfr jW_X12_close a0 a → 0 ≤ y1 → y1 ≤ 5 → 0 ≤ y2 → y2 ≤ 5 → 0 ≤ y3 → y3 ≤ 5 → 0 ≤ y1 → y1 ≤ 5 → 0 ≤ y2 → y2 ≤ 5 → (OC a) → (a 146 9) + y2 ≤ 300 → 1 ≤ a 146 49 → 1 ≤ a0 146 64 → (jfr jWcr0 a0 a) → (y1 = x1) → (¬ f_X12_in a0 b0 x1 0 (jxw (a0 146 64 - 1)) = 0 ∧ ¬ 300 < jxw (a0 146 9 + a0 190 x1.toNat)) → (y2 = a0 190 x1.toNat) → 0 ≤ y3 → y3 ≤ y2 → (∀ i : Nat, (i : Int) < y3 → a0 181 (oR a0 x1 i).toNat = 0) → jt (jxX E d 274 42 [some (.inr (.inr (.inl 146))), some (.inl y1), some (.inl y2), some (.inl y3), none, none] [] (jxSH, a, b0)) (jQ_X12_close x1 a0 b0)) := by
  refine jx_ind fun n ih => ?_
  have ih67 : ∀ (y1 y2 y3 : Int) (a : Nat → Nat → Int), (((5 - y3) * 1) + 0).toNat < n → iv a → jfr jW_X12_close a0 a → 0 ≤ y1 → y1 ≤ 5 → 1 ≤ y2 → y2 ≤ 5 → 0 ≤ y3 → y3 ≤ 4 → 0 ≤ y1 → y1 ≤ 5 → 0 ≤ y2 → y2 ≤ 5 → (OC a) → (a 146 9) + y2 ≤ 300 → 1 ≤ a 146 49 → y3 < y2 → 1 ≤ a0 146 64 → (jfr jWcr0 a0 a) → (y1 = x1) → (¬ f_X12_in a0 b0 x1 0 (jxw (a0 146 64 - 1)) = 0 ∧ ¬ 300 < jxw (a0 146 9 + a0 190 x1.toNat)) → (y2 = a0 190 x1.toNat) → 0 ≤ y3 → (∀ i : Nat, (i : Int) < y3 + 1 → a0 181 (oR a0 x1 i).toNat = 0) → jt (jxX E d 274 67 [some (.inr (.inr (.inl 146))), some (.inl y1), some (.inl y2), some (.inl y3), none, none] [] (jxSH, a, b0)) (jQ_X12_close x1 a0 b0) := fun y1 y2 y3 a hlt i0 i1 i2 i3 i4 i5 i6 i7 i8 i9 i10 i11 i12 i13 i14 i15 i16 i17 i18 i19 i20 i21 i22 => (ih _ hlt).1 y1 y2 y3 a (Nat.le_refl _) i0 i1 i2 i3 i4 i5 i6 i7 i8 i9 i10 i11 i12 i13 i14 i15 i16 i17 i18 i19 i20 i21 i22
  have ih42 : ∀ (y1 y2 y3 : Int) (a : Nat → Nat → Int), (((5 - y3) * 1) + 0).toNat < n → iv a → jfr jW_X12_close a0 a → 0 ≤ y1 → y1 ≤ 5 → 0 ≤ y2 → y2 ≤ 5 → 0 ≤ y3 → y3 ≤ 5 → 0 ≤ y1 → y1 ≤ 5 → 0 ≤ y2 → y2 ≤ 5 → (OC a) → (a 146 9) + y2 ≤ 300 → 1 ≤ a 146 49 → 1 ≤ a0 146 64 → (jfr jWcr0 a0 a) → (y1 = x1) → (¬ f_X12_in a0 b0 x1 0 (jxw (a0 146 64 - 1)) = 0 ∧ ¬ 300 < jxw (a0 146 9 + a0 190 x1.toNat)) → (y2 = a0 190 x1.toNat) → 0 ≤ y3 → y3 ≤ y2 → (∀ i : Nat, (i : Int) < y3 → a0 181 (oR a0 x1 i).toNat = 0) → jt (jxX E d 274 42 [some (.inr (.inr (.inl 146))), some (.inl y1), some (.inl y2), some (.inl y3), none, none] [] (jxSH, a, b0)) (jQ_X12_close x1 a0 b0) := fun y1 y2 y3 a hlt i0 i1 i2 i3 i4 i5 i6 i7 i8 i9 i10 i11 i12 i13 i14 i15 i16 i17 i18 i19 i20 i21 i22 => (ih _ hlt).2 y1 y2 y3 a (Nat.le_refl _) i0 i1 i2 i3 i4 i5 i6 i7 i8 i9 i10 i11 i12 i13 i14 i15 i16 i17 i18 i19 i20 i21 i22
  have hc67 : ∀ (y1 y2 y3 : Int) (a : Nat → Nat → Int), (((5 - y3) * 1) + 0).toNat ≤ n → iv a → jfr jW_X12_close a0 a → 0 ≤ y1 → y1 ≤ 5 → 1 ≤ y2 → y2 ≤ 5 → 0 ≤ y3 → y3 ≤ 4 → 0 ≤ y1 → y1 ≤ 5 → 0 ≤ y2 → y2 ≤ 5 → (OC a) → (a 146 9) + y2 ≤ 300 → 1 ≤ a 146 49 → y3 < y2 → 1 ≤ a0 146 64 → (jfr jWcr0 a0 a) → (y1 = x1) → (¬ f_X12_in a0 b0 x1 0 (jxw (a0 146 64 - 1)) = 0 ∧ ¬ 300 < jxw (a0 146 9 + a0 190 x1.toNat)) → (y2 = a0 190 x1.toNat) → 0 ≤ y3 → (∀ i : Nat, (i : Int) < y3 + 1 → a0 181 (oR a0 x1 i).toNat = 0) → jt (jxX E d 274 67 [some (.inr (.inr (.inl 146))), some (.inl y1), some (.inl y2), some (.inl y3), none, none] [] (jxSH, a, b0)) (jQ_X12_close x1 a0 b0) := by
    intro y1 y2 y3 a hm hv hf hi0 hi1 hi2 hi3 hi4 hi5 hi6 hi7 hi8 hi9 hoc hi11 hi12 hi13 hi14 hfe hy1 hok hy2 hi19 hno
    refine jt_eq (bq_X12_close_67 E d y1 y2 y3 a b0) ?_
    have h872_ := iv_get hv (k := 146) (j := 9) (l := 0) (u := 300) rfl
    have h873_ := iv_get hv (k := 146) (j := 49) (l := 0) (u := 20) rfl
    have h874_ : a 146 49 = a0 146 49 := hf 146 49 rfl
    have h875_ := iv_get hv0 (k := 146) (j := 49) (l := 0) (u := 20) rfl
    have h876_ := iv_get hv0 (k := 146) (j := 64) (l := 0) (u := 6) rfl
    have h877_ : jxw (y3 + 1) = y3 + 1 := jxw_id (by omega) (by omega)
    exact ih42 y1 y2 (jxw (y3 + 1)) a (show (((5 - (jxw (y3 + 1))) * 1) + 0).toNat < n from by omega) hv hf (show 0 ≤ y1 from by omega) (show y1 ≤ 5 from by omega) (show 0 ≤ y2 from by omega) (show y2 ≤ 5 from by omega) (show 0 ≤ jxw (y3 + 1) from by omega) (show jxw (y3 + 1) ≤ 5 from by omega) (show 0 ≤ y1 from by omega) (show y1 ≤ 5 from by omega) (show 0 ≤ y2 from by omega) (show y2 ≤ 5 from by omega) hoc (show (a 146 9) + y2 ≤ 300 from by omega) (show 1 ≤ a 146 49 from by omega) (show 1 ≤ a0 146 64 from by omega) hfe hy1 hok hy2 (show 0 ≤ jxw (y3 + 1) from by omega) (show jxw (y3 + 1) ≤ y2 from by omega) (fun i h => hno i (by omega))
  have hc42 : ∀ (y1 y2 y3 : Int) (a : Nat → Nat → Int), (((5 - y3) * 1) + 0).toNat ≤ n → iv a → jfr jW_X12_close a0 a → 0 ≤ y1 → y1 ≤ 5 → 0 ≤ y2 → y2 ≤ 5 → 0 ≤ y3 → y3 ≤ 5 → 0 ≤ y1 → y1 ≤ 5 → 0 ≤ y2 → y2 ≤ 5 → (OC a) → (a 146 9) + y2 ≤ 300 → 1 ≤ a 146 49 → 1 ≤ a0 146 64 → (jfr jWcr0 a0 a) → (y1 = x1) → (¬ f_X12_in a0 b0 x1 0 (jxw (a0 146 64 - 1)) = 0 ∧ ¬ 300 < jxw (a0 146 9 + a0 190 x1.toNat)) → (y2 = a0 190 x1.toNat) → 0 ≤ y3 → y3 ≤ y2 → (∀ i : Nat, (i : Int) < y3 → a0 181 (oR a0 x1 i).toNat = 0) → jt (jxX E d 274 42 [some (.inr (.inr (.inl 146))), some (.inl y1), some (.inl y2), some (.inl y3), none, none] [] (jxSH, a, b0)) (jQ_X12_close x1 a0 b0) := by
    intro y1 y2 y3 a hm hv hf hi0 hi1 hi2 hi3 hi4 hi5 hi6 hi7 hi8 hi9 hoc hi11 hi12 hi13 hfe hy1 hok hy2 hi18 hi19 hno
    refine jt_eq (bq_X12_close_42 E d y1 y2 y3 a b0) ?_
    have h878_ := iv_get hv (k := 146) (j := 9) (l := 0) (u := 300) rfl
    have h879_ := iv_get hv (k := 146) (j := 49) (l := 0) (u := 20) rfl
    have h880_ : a 146 49 = a0 146 49 := hf 146 49 rfl
    have h881_ := iv_get hv0 (k := 146) (j := 49) (l := 0) (u := 20) rfl
    have h882_ := iv_get hv0 (k := 146) (j := 64) (l := 0) (u := 6) rfl
    have oy3_ : 0 ≤ y3 → oR a0 x1 y3.toNat = a 189 ((jxw ((jxw (5 * y1)) + y3)).toNat) := fun h => by unfold oR; rw [hf 189 _ rfl]; congr 1; rw [jxw_id (x := 5 * y1) (by omega) (by omega), jxw_id (by omega) (by omega)]; omega
    refine jt_ite (fun c883_ => ?_) (fun c883_ => ?_)
    ·
      have h884_ : jxw (5 * y1) = 5 * y1 := jxw_id (by omega) (by omega)
      have h885_ : jxw ((jxw (5 * y1)) + y3) = (jxw (5 * y1)) + y3 := jxw_id (by omega) (by omega)
      refine jt_grd (by omega) ?_
      have h886_ := iv_get hv (k := 189) (j := (jxw ((jxw (5 * y1)) + y3)).toNat) (l := 0) (u := 19) rfl
      have h887_ : a 189 ((jxw ((jxw (5 * y1)) + y3)).toNat) = a0 189 ((jxw ((jxw (5 * y1)) + y3)).toNat) := hf 189 ((jxw ((jxw (5 * y1)) + y3)).toNat) rfl
      have h888_ := iv_get hv0 (k := 189) (j := (jxw ((jxw (5 * y1)) + y3)).toNat) (l := 0) (u := 19) rfl
      refine jt_grd (by omega) ?_
      have h889_ := iv_get hv (k := 181) (j := (a 189 ((jxw ((jxw (5 * y1)) + y3)).toNat)).toNat) (l := 0) (u := 2) rfl
      refine jt_ite (fun c890_ => ?_) (fun c890_ => ?_)
      ·
        exact hc67 y1 y2 y3 a (show (((5 - y3) * 1) + 0).toNat ≤ n from by omega) hv hf (show 0 ≤ y1 from by omega) (show y1 ≤ 5 from by omega) (show 1 ≤ y2 from by omega) (show y2 ≤ 5 from by omega) (show 0 ≤ y3 from by omega) (show y3 ≤ 4 from by omega) (show 0 ≤ y1 from by omega) (show y1 ≤ 5 from by omega) (show 0 ≤ y2 from by omega) (show y2 ≤ 5 from by omega) hoc (show (a 146 9) + y2 ≤ 300 from by omega) (show 1 ≤ a 146 49 from by omega) (show y3 < y2 from by omega) (show 1 ≤ a0 146 64 from by omega) hfe hy1 hok hy2 (show 0 ≤ y3 from by omega) (fun i h => by by_cases e : i = y3.toNat <;> first | (rw [e, oy3_ (by omega), ← hfe 181 _ rfl]; assumption) | exact hno i (by omega))
      ·
        exact cp_X12_close_65 E d hd x1 a0 b0 hv0 hp0 hp1 a hv hf hoc (show 1 ≤ a0 146 64 from by omega) hfe (Or.inr (Or.inr ⟨y3.toNat, by omega, by rw [oy3_ (by omega), ← hfe 181 _ rfl]; assumption⟩))
    ·
      exact (cp_X12_close_75 E d hd x1 a0 b0 hv0 hp0 hp1 _).2.2 y1 y2 0 a (Nat.le_refl _) hv hf (show 0 ≤ y1 from by omega) (show y1 ≤ 5 from by omega) (show 0 ≤ y2 from by omega) (show y2 ≤ 5 from by omega) (show 0 ≤ 0 from by omega) (show 0 ≤ 5 from by omega) (show 0 ≤ y1 from by omega) (show y1 ≤ 5 from by omega) (show 0 ≤ y2 from by omega) (show y2 ≤ 5 from by omega) hoc (show ((a 146 9) + y2) - 0 ≤ 300 from by omega) (show 1 ≤ a 146 49 from by omega) (show 0 ≤ y2 from by omega) (show 1 ≤ a0 146 64 from by omega) hy1 hok hy2 (show 0 ≤ 0 from by omega) (fun i h => hno i (by omega)) (hfe 146 55 rfl) (fun f0 => ⟨cvR_fr hfe rfl, funext fun j => hfe 181 j rfl, funext fun j => hfe 182 j rfl⟩)
  exact ⟨hc67, hc42⟩
theorem cp_X12_close_33 (E : jxE) (d : Nat) (hd : Nat.ble 3 (d + 1) = true) (x1 : Int) (a0 b0 : Nat → Nat → Int) (hv0 : iv a0) (hp0 : OC a0) (hp1 : FO a0) : ∀ (y1 : Int) (a : Nat → Nat → Int), iv a → jfr jW_X12_close a0 a → 0 ≤ y1 → y1 ≤ 5 → 0 ≤ y1 → y1 ≤ 5 → (OC a) → (a 146 9) + (a 190 (y1.toNat)) ≤ 300 → 1 ≤ a 146 49 → 1 ≤ a0 146 64 → (jfr jWcr0 a0 a) → (y1 = x1) → (¬ f_X12_in a0 b0 x1 0 (jxw (a0 146 64 - 1)) = 0 ∧ ¬ 300 < jxw (a0 146 9 + a0 190 x1.toNat)) → jt (jxX E d 274 33 [some (.inr (.inr (.inl 146))), some (.inl y1), none, none, none, none] [] (jxSH, a, b0)) (jQ_X12_close x1 a0 b0) := by
  intro y1 a hv hf hi0 hi1 hi2 hi3 hoc hi5 hi6 hi7 hfe hy1 hok
  refine jt_eq (bq_X12_close_33 E d y1 a b0) ?_
  have h891_ := iv_get hv (k := 146) (j := 9) (l := 0) (u := 300) rfl
  have h892_ := iv_get hv (k := 190) (j := y1.toNat) (l := 0) (u := 5) rfl
  have h893_ : a 190 (y1.toNat) = a0 190 (y1.toNat) := hf 190 (y1.toNat) rfl
  have h894_ := iv_get hv0 (k := 190) (j := y1.toNat) (l := 0) (u := 5) rfl
  have h895_ := iv_get hv (k := 146) (j := 49) (l := 0) (u := 20) rfl
  have h896_ : a 146 49 = a0 146 49 := hf 146 49 rfl
  have h897_ := iv_get hv0 (k := 146) (j := 49) (l := 0) (u := 20) rfl
  have h898_ := iv_get hv0 (k := 146) (j := 64) (l := 0) (u := 6) rfl
  refine jt_grd (by omega) ?_
  exact (cp_X12_close_42 E d hd x1 a0 b0 hv0 hp0 hp1 _).2 y1 (a 190 (y1.toNat)) 0 a (Nat.le_refl _) hv hf (show 0 ≤ y1 from by omega) (show y1 ≤ 5 from by omega) (show 0 ≤ a 190 (y1.toNat) from by omega) (show a 190 (y1.toNat) ≤ 5 from by omega) (show 0 ≤ 0 from by omega) (show 0 ≤ 5 from by omega) (show 0 ≤ y1 from by omega) (show y1 ≤ 5 from by omega) (show 0 ≤ a 190 (y1.toNat) from by omega) (show a 190 (y1.toNat) ≤ 5 from by omega) hoc (show (a 146 9) + (a 190 (y1.toNat)) ≤ 300 from by omega) (show 1 ≤ a 146 49 from by omega) (show 1 ≤ a0 146 64 from by omega) hfe hy1 hok (by rw [hy1]; exact hfe 190 _ rfl) (show 0 ≤ 0 from by omega) (show 0 ≤ a 190 (y1.toNat) from by omega) (fun i h => absurd h (by omega))
theorem sp_X12_close (E : jxE) (d : Nat) (hd : Nat.ble 3 d = true) (x1 : Int) (a0 b0 : Nat → Nat → Int) (hv0 : iv a0) (hp0 : OC a0) (hp1 : FO a0) : jt (jxC E d 274 [.inr (.inr (.inl 146)), .inl x1] (jxSH, a0, b0)) (jQ_X12_close x1 a0 b0) := by
  obtain ⟨d, rfl⟩ := jd_succ hd
  refine jt_eq (bq_X12_close E d x1 a0 b0) ?_
  have hfo2 := hp1.2
  refine jt_eI (eq_X12_in E d (jd_le hd rfl) x1 0 (jxw ((a0 146 64) - 1)) a0 b0) ?_
  have h899_ := iv_get hv0 (k := 146) (j := 64) (l := 0) (u := 6) rfl
  have h900_ : jxw ((a0 146 64) - 1) = (a0 146 64) - 1 := jxw_id (by omega) (by omega)
  have h901_ := f_X12_in_eq a0 b0 x1 0 (jxw ((a0 146 64) - 1))
  refine jt_ite (fun c902_ => ?_) (fun c902_ => ?_)
  ·
    exact cp_X12_close_31 E d hd x1 a0 b0 hv0 hp0 hp1 a0 hv0 (jfr_rf _ _) hp0 (jfr_rf _ _) (by first | exact Or.inl (by assumption) | exact Or.inr (Or.inl (by assumption)))
  ·
    refine jt_grd (by omega) ?_
    have h903_ := iv_get hv0 (k := 146) (j := 9) (l := 0) (u := 300) rfl
    have h904_ := iv_get hv0 (k := 190) (j := x1.toNat) (l := 0) (u := 5) rfl
    have h905_ : jxw ((a0 146 9) + (a0 190 (x1.toNat))) = (a0 146 9) + (a0 190 (x1.toNat)) := jxw_id (by omega) (by omega)
    refine jt_ite (fun c906_ => ?_) (fun c906_ => ?_)
    ·
      exact cp_X12_close_31 E d hd x1 a0 b0 hv0 hp0 hp1 a0 hv0 (jfr_rf _ _) hp0 (jfr_rf _ _) (by first | exact Or.inl (by assumption) | exact Or.inr (Or.inl (by assumption)))
    ·
      have h907_ := iv_get hv0 (k := 146) (j := 49) (l := 0) (u := 20) rfl
      exact cp_X12_close_33 E d hd x1 a0 b0 hv0 hp0 hp1 x1 a0 hv0 (jfr_rf _ _) (show 0 ≤ x1 from by omega) (show x1 ≤ 5 from by omega) (show 0 ≤ x1 from by omega) (show x1 ≤ 5 from by omega) hp0 (show (a0 146 9) + (a0 190 (x1.toNat)) ≤ 300 from by omega) (show 1 ≤ a0 146 49 from by omega) (show 1 ≤ a0 146 64 from by omega) (jfr_rf _ _) rfl ⟨by assumption, by assumption⟩
