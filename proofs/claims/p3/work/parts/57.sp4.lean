def jW_X12_isMet : List (Nat × Nat) := [(170, 9999)]
abbrev jQ_X12_isMet (x1 x2 : Int) (a0 b0 : Nat → Nat → Int) : List jxV → (Nat → Nat → Int) → (Nat → Nat → Int) → Prop := rI (fun r a b => (iv a) ∧ (jfr jW_X12_isMet a0 a) ∧ (b0 = b) ∧ ((0 ≤ r ∧ r ≤ 1)))
theorem cp_X12_isMet_16 (E : jxE) (d : Nat) (hd : Nat.ble 2 (d + 1) = true) (x1 x2 : Int) (a0 b0 : Nat → Nat → Int) (hv0 : iv a0) (hp0 : (0 ≤ x1 ∧ x1 ≤ 39)) (hp1 : (0 ≤ x2 ∧ x2 ≤ 39)) (hp2 : WFW a0) : ∀ n : Nat, (∀ (y1 y2 y3 y4 : Int) (a : Nat → Nat → Int), (((64 - y4) * 1) + 0).toNat ≤ n → iv a → jfr jW_X12_isMet a0 a → 0 ≤ y1 → y1 ≤ 39 → 0 ≤ y2 → y2 ≤ 39 → 0 ≤ y4 → y4 ≤ 63 → y1 = x1 → y2 = x2 → 0 ≤ y4 → 0 ≤ y3 → y4 < a 167 (y1.toNat) → (y3 = jhg (fun k => a0 166 (64 * x1.toNat + k)) (y4.toNat + 1)) → jt (jxX E d 227 172 [some (.inr (.inr (.inl 146))), some (.inl y1), some (.inl y2), some (.inl y3), some (.inl y4), none] [] (jxSH, a, b0)) (jQ_X12_isMet x1 x2 a0 b0)) ∧ (∀ (y1 y2 y3 y4 : Int) (a : Nat → Nat → Int), (((64 - y4) * 1) + 0).toNat ≤ n → iv a → jfr jW_X12_isMet a0 a → 0 ≤ y1 → y1 ≤ 39 → 0 ≤ y2 → y2 ≤ 39 → 0 ≤ y4 → y4 ≤ 63 → y1 = x1 → y2 = x2 → 0 ≤ y4 → 0 ≤ y3 → y4 < a 167 (y1.toNat) → (y3 = jhg (fun k => a0 166 (64 * x1.toNat + k)) (y4.toNat + 1)) → jt (jxX E d 227 99 [some (.inr (.inr (.inl 146))), some (.inl y1), some (.inl y2), some (.inl y3), some (.inl y4), none] [] (jxSH, a, b0)) (jQ_X12_isMet x1 x2 a0 b0)) ∧ (∀ (y1 y2 y3 y4 y5 : Int) (a : Nat → Nat → Int), (((64 - y4) * 1) + 0).toNat ≤ n → iv a → jfr jW_X12_isMet a0 a → 0 ≤ y1 → y1 ≤ 39 → 0 ≤ y2 → y2 ≤ 39 → 0 ≤ y4 → y4 ≤ 63 → y1 = x1 → y2 = x2 → 0 ≤ y4 → 0 ≤ y3 → y4 < a 167 (y1.toNat) → (y3 = jhg (fun k => a0 166 (64 * x1.toNat + k)) y4.toNat) → (y5 = a0 166 (64 * x1.toNat + y4.toNat)) → jt (jxX E d 227 41 [some (.inr (.inr (.inl 146))), some (.inl y1), some (.inl y2), some (.inl y3), some (.inl y4), some (.inl y5)] [] (jxSH, a, b0)) (jQ_X12_isMet x1 x2 a0 b0)) ∧ (∀ (y1 y2 y3 y4 : Int) (a : Nat → Nat → Int), (((64 - y4) * 1) + 0).toNat ≤ n → iv a → jfr jW_X12_isMet a0 a → 0 ≤ y1 → y1 ≤ 39 → 0 ≤ y2 → y2 ≤ 39 → 0 ≤ y4 → y4 ≤ 64 → y1 = x1 → y2 = x2 → 0 ≤ y4 → 0 ≤ y3 → y4 ≤ a 167 (y1.toNat) → (y3 = jhg (fun k => a0 166 (64 * x1.toNat + k)) y4.toNat) → jt (jxX E d 227 16 [some (.inr (.inr (.inl 146))), some (.inl y1), some (.inl y2), some (.inl y3), some (.inl y4), none] [] (jxSH, a, b0)) (jQ_X12_isMet x1 x2 a0 b0)) := by
  refine jx_ind fun n ih => ?_
  have ih172 : ∀ (y1 y2 y3 y4 : Int) (a : Nat → Nat → Int), (((64 - y4) * 1) + 0).toNat < n → iv a → jfr jW_X12_isMet a0 a → 0 ≤ y1 → y1 ≤ 39 → 0 ≤ y2 → y2 ≤ 39 → 0 ≤ y4 → y4 ≤ 63 → y1 = x1 → y2 = x2 → 0 ≤ y4 → 0 ≤ y3 → y4 < a 167 (y1.toNat) → (y3 = jhg (fun k => a0 166 (64 * x1.toNat + k)) (y4.toNat + 1)) → jt (jxX E d 227 172 [some (.inr (.inr (.inl 146))), some (.inl y1), some (.inl y2), some (.inl y3), some (.inl y4), none] [] (jxSH, a, b0)) (jQ_X12_isMet x1 x2 a0 b0) := fun y1 y2 y3 y4 a hlt i0 i1 i2 i3 i4 i5 i6 i7 i8 i9 i10 i11 i12 i13 => (ih _ hlt).1 y1 y2 y3 y4 a (Nat.le_refl _) i0 i1 i2 i3 i4 i5 i6 i7 i8 i9 i10 i11 i12 i13
  have ih99 : ∀ (y1 y2 y3 y4 : Int) (a : Nat → Nat → Int), (((64 - y4) * 1) + 0).toNat < n → iv a → jfr jW_X12_isMet a0 a → 0 ≤ y1 → y1 ≤ 39 → 0 ≤ y2 → y2 ≤ 39 → 0 ≤ y4 → y4 ≤ 63 → y1 = x1 → y2 = x2 → 0 ≤ y4 → 0 ≤ y3 → y4 < a 167 (y1.toNat) → (y3 = jhg (fun k => a0 166 (64 * x1.toNat + k)) (y4.toNat + 1)) → jt (jxX E d 227 99 [some (.inr (.inr (.inl 146))), some (.inl y1), some (.inl y2), some (.inl y3), some (.inl y4), none] [] (jxSH, a, b0)) (jQ_X12_isMet x1 x2 a0 b0) := fun y1 y2 y3 y4 a hlt i0 i1 i2 i3 i4 i5 i6 i7 i8 i9 i10 i11 i12 i13 => (ih _ hlt).2.1 y1 y2 y3 y4 a (Nat.le_refl _) i0 i1 i2 i3 i4 i5 i6 i7 i8 i9 i10 i11 i12 i13
  have ih41 : ∀ (y1 y2 y3 y4 y5 : Int) (a : Nat → Nat → Int), (((64 - y4) * 1) + 0).toNat < n → iv a → jfr jW_X12_isMet a0 a → 0 ≤ y1 → y1 ≤ 39 → 0 ≤ y2 → y2 ≤ 39 → 0 ≤ y4 → y4 ≤ 63 → y1 = x1 → y2 = x2 → 0 ≤ y4 → 0 ≤ y3 → y4 < a 167 (y1.toNat) → (y3 = jhg (fun k => a0 166 (64 * x1.toNat + k)) y4.toNat) → (y5 = a0 166 (64 * x1.toNat + y4.toNat)) → jt (jxX E d 227 41 [some (.inr (.inr (.inl 146))), some (.inl y1), some (.inl y2), some (.inl y3), some (.inl y4), some (.inl y5)] [] (jxSH, a, b0)) (jQ_X12_isMet x1 x2 a0 b0) := fun y1 y2 y3 y4 y5 a hlt i0 i1 i2 i3 i4 i5 i6 i7 i8 i9 i10 i11 i12 i13 i14 => (ih _ hlt).2.2.1 y1 y2 y3 y4 y5 a (Nat.le_refl _) i0 i1 i2 i3 i4 i5 i6 i7 i8 i9 i10 i11 i12 i13 i14
  have ih16 : ∀ (y1 y2 y3 y4 : Int) (a : Nat → Nat → Int), (((64 - y4) * 1) + 0).toNat < n → iv a → jfr jW_X12_isMet a0 a → 0 ≤ y1 → y1 ≤ 39 → 0 ≤ y2 → y2 ≤ 39 → 0 ≤ y4 → y4 ≤ 64 → y1 = x1 → y2 = x2 → 0 ≤ y4 → 0 ≤ y3 → y4 ≤ a 167 (y1.toNat) → (y3 = jhg (fun k => a0 166 (64 * x1.toNat + k)) y4.toNat) → jt (jxX E d 227 16 [some (.inr (.inr (.inl 146))), some (.inl y1), some (.inl y2), some (.inl y3), some (.inl y4), none] [] (jxSH, a, b0)) (jQ_X12_isMet x1 x2 a0 b0) := fun y1 y2 y3 y4 a hlt i0 i1 i2 i3 i4 i5 i6 i7 i8 i9 i10 i11 i12 i13 => (ih _ hlt).2.2.2 y1 y2 y3 y4 a (Nat.le_refl _) i0 i1 i2 i3 i4 i5 i6 i7 i8 i9 i10 i11 i12 i13
  have hc172 : ∀ (y1 y2 y3 y4 : Int) (a : Nat → Nat → Int), (((64 - y4) * 1) + 0).toNat ≤ n → iv a → jfr jW_X12_isMet a0 a → 0 ≤ y1 → y1 ≤ 39 → 0 ≤ y2 → y2 ≤ 39 → 0 ≤ y4 → y4 ≤ 63 → y1 = x1 → y2 = x2 → 0 ≤ y4 → 0 ≤ y3 → y4 < a 167 (y1.toNat) → (y3 = jhg (fun k => a0 166 (64 * x1.toNat + k)) (y4.toNat + 1)) → jt (jxX E d 227 172 [some (.inr (.inr (.inl 146))), some (.inl y1), some (.inl y2), some (.inl y3), some (.inl y4), none] [] (jxSH, a, b0)) (jQ_X12_isMet x1 x2 a0 b0) := by
    intro y1 y2 y3 y4 a hm hv hf hi0 hi1 hi2 hi3 hi4 hi5 hi6 hi7 hi8 hi9 hi10 hi11
    refine jt_eq (bq_X12_isMet_172 E d y1 y2 y3 y4 a b0) ?_
    have h1_ := iv_get hv (k := 167) (j := y1.toNat) (l := 0) (u := 64) rfl
    have h2_ : a 167 (y1.toNat) = a0 167 (y1.toNat) := hf 167 (y1.toNat) rfl
    have h3_ := iv_get hv0 (k := 167) (j := y1.toNat) (l := 0) (u := 64) rfl
    have h4_ : jxw (y4 + 1) = y4 + 1 := jxw_id (by omega) (by omega)
    exact ih16 y1 y2 y3 (jxw (y4 + 1)) a (show (((64 - (jxw (y4 + 1))) * 1) + 0).toNat < n from by omega) hv hf (show 0 ≤ y1 from by omega) (show y1 ≤ 39 from by omega) (show 0 ≤ y2 from by omega) (show y2 ≤ 39 from by omega) (show 0 ≤ jxw (y4 + 1) from by omega) (show jxw (y4 + 1) ≤ 64 from by omega) (show y1 = x1 from by omega) (show y2 = x2 from by omega) (show 0 ≤ jxw (y4 + 1) from by omega) (show 0 ≤ y3 from by omega) (show jxw (y4 + 1) ≤ a 167 (y1.toNat) from by omega) (by first | rfl | (rw [show (jxw (y4 + 1)).toNat = y4.toNat + 1 from by omega]; assumption))
  have hc99 : ∀ (y1 y2 y3 y4 : Int) (a : Nat → Nat → Int), (((64 - y4) * 1) + 0).toNat ≤ n → iv a → jfr jW_X12_isMet a0 a → 0 ≤ y1 → y1 ≤ 39 → 0 ≤ y2 → y2 ≤ 39 → 0 ≤ y4 → y4 ≤ 63 → y1 = x1 → y2 = x2 → 0 ≤ y4 → 0 ≤ y3 → y4 < a 167 (y1.toNat) → (y3 = jhg (fun k => a0 166 (64 * x1.toNat + k)) (y4.toNat + 1)) → jt (jxX E d 227 99 [some (.inr (.inr (.inl 146))), some (.inl y1), some (.inl y2), some (.inl y3), some (.inl y4), none] [] (jxSH, a, b0)) (jQ_X12_isMet x1 x2 a0 b0) := by
    intro y1 y2 y3 y4 a hm hv hf hi0 hi1 hi2 hi3 hi4 hi5 hi6 hi7 hi8 hi9 hi10 hi11
    refine jt_eq (bq_X12_isMet_99 E d y1 y2 y3 y4 a b0) ?_
    have h5_ := iv_get hv (k := 167) (j := y1.toNat) (l := 0) (u := 64) rfl
    have h6_ : a 167 (y1.toNat) = a0 167 (y1.toNat) := hf 167 (y1.toNat) rfl
    have h7_ := iv_get hv0 (k := 167) (j := y1.toNat) (l := 0) (u := 64) rfl
    exact hc172 y1 y2 y3 y4 a (show (((64 - y4) * 1) + 0).toNat ≤ n from by omega) hv hf (show 0 ≤ y1 from by omega) (show y1 ≤ 39 from by omega) (show 0 ≤ y2 from by omega) (show y2 ≤ 39 from by omega) (show 0 ≤ y4 from by omega) (show y4 ≤ 63 from by omega) (show y1 = x1 from by omega) (show y2 = x2 from by omega) (show 0 ≤ y4 from by omega) (show 0 ≤ y3 from by omega) (show y4 < a 167 (y1.toNat) from by omega) (by first | assumption | omega)
  have hc41 : ∀ (y1 y2 y3 y4 y5 : Int) (a : Nat → Nat → Int), (((64 - y4) * 1) + 0).toNat ≤ n → iv a → jfr jW_X12_isMet a0 a → 0 ≤ y1 → y1 ≤ 39 → 0 ≤ y2 → y2 ≤ 39 → 0 ≤ y4 → y4 ≤ 63 → y1 = x1 → y2 = x2 → 0 ≤ y4 → 0 ≤ y3 → y4 < a 167 (y1.toNat) → (y3 = jhg (fun k => a0 166 (64 * x1.toNat + k)) y4.toNat) → (y5 = a0 166 (64 * x1.toNat + y4.toNat)) → jt (jxX E d 227 41 [some (.inr (.inr (.inl 146))), some (.inl y1), some (.inl y2), some (.inl y3), some (.inl y4), some (.inl y5)] [] (jxSH, a, b0)) (jQ_X12_isMet x1 x2 a0 b0) := by
    intro y1 y2 y3 y4 y5 a hm hv hf hi0 hi1 hi2 hi3 hi4 hi5 hi6 hi7 hi8 hi9 hi10 hi11 hi12
    refine jt_eq (bq_X12_isMet_41 E d y1 y2 y3 y4 y5 a b0) ?_
    have h8_ := iv_get hv (k := 167) (j := y1.toNat) (l := 0) (u := 64) rfl
    have h9_ : a 167 (y1.toNat) = a0 167 (y1.toNat) := hf 167 (y1.toNat) rfl
    have h10_ := iv_get hv0 (k := 167) (j := y1.toNat) (l := 0) (u := 64) rfl
    have h167a := hf 167 y1.toNat rfl
    have h167c : a0 167 x1.toNat = a0 167 y1.toNat := by rw [show y1 = x1 from by omega]
    have hst := wf_step hp2 hp0 (y := y4) (by omega) (by omega)
    have h167 := iv_get hv0 (k := 167) (j := x1.toNat) (l := 0) (u := 64) rfl
    have h167b := hf 167 x1.toNat rfl
    obtain ⟨hst1, hst2, hst3⟩ := hst
    have hy5 : y5 = a0 166 (64 * x1.toNat + y4.toNat) := by assumption
    have hy3 : y3 = jhg (fun k => a0 166 (64 * x1.toNat + k)) y4.toNat := by assumption
    rw [← hy5, ← hy3] at hst1 hst2
    rw [← hy3] at hst3
    refine jt_ite (fun c11_ => ?_) (fun c11_ => ?_)
    ·
      refine jt_ite (fun c12_ => ?_) (fun c12_ => ?_)
      ·
        have h13_ := jxw_im (y3 - 1)
        have h14_ := jxw_rg (y3 - 1)
        refine jt_grd (by omega) ?_
        have h15_ := iv_get hv (k := 170) (j := (jxw (y3 - 1)).toNat) (l := 0) (u := 1) rfl
        refine jt_ite (fun c16_ => ?_) (fun c16_ => ?_)
        ·
          refine jt_grd (by omega) ?_
          have hv17_ : iv (jxu a 170 ((jxw (y3 - 1)).toNat) 1) := iv_put hv (l := 0) (u := 1) rfl (by omega) (by omega)
          have hf18_ : jfr jW_X12_isMet a0 (jxu a 170 ((jxw (y3 - 1)).toNat) 1) := jfr_put hf rfl
          exact hc99 y1 y2 y3 y4 (jxu a 170 ((jxw (y3 - 1)).toNat) 1) (show (((64 - y4) * 1) + 0).toNat ≤ n from by omega) hv17_ hf18_ (show 0 ≤ y1 from by omega) (show y1 ≤ 39 from by omega) (show 0 ≤ y2 from by omega) (show y2 ≤ 39 from by omega) (show 0 ≤ y4 from by omega) (show y4 ≤ 63 from by omega) (show y1 = x1 from by omega) (show y2 = x2 from by omega) (show 0 ≤ y4 from by omega) (show 0 ≤ y3 from by omega) (show y4 < a 167 (y1.toNat) from by omega) (by omega)
        ·
          refine jt_grd (by omega) ?_
          have hv19_ : iv (jxu a 170 ((jxw (y3 - 1)).toNat) 0) := iv_put hv (l := 0) (u := 1) rfl (by omega) (by omega)
          have hf20_ : jfr jW_X12_isMet a0 (jxu a 170 ((jxw (y3 - 1)).toNat) 0) := jfr_put hf rfl
          exact hc99 y1 y2 y3 y4 (jxu a 170 ((jxw (y3 - 1)).toNat) 0) (show (((64 - y4) * 1) + 0).toNat ≤ n from by omega) hv19_ hf20_ (show 0 ≤ y1 from by omega) (show y1 ≤ 39 from by omega) (show 0 ≤ y2 from by omega) (show y2 ≤ 39 from by omega) (show 0 ≤ y4 from by omega) (show y4 ≤ 63 from by omega) (show y1 = x1 from by omega) (show y2 = x2 from by omega) (show 0 ≤ y4 from by omega) (show 0 ≤ y3 from by omega) (show y4 < a 167 (y1.toNat) from by omega) (by omega)
      ·
        refine jt_ite (fun c21_ => ?_) (fun c21_ => ?_)
        ·
          have h22_ := jxw_im (y3 + (-1))
          have h23_ := jxw_rg (y3 + (-1))
          have h24_ := jxw_im ((jxw (y3 + (-1))) - 1)
          have h25_ := jxw_rg ((jxw (y3 + (-1))) - 1)
          refine jt_grd (by omega) ?_
          have h26_ := iv_get hv (k := 170) (j := (jxw ((jxw (y3 + (-1))) - 1)).toNat) (l := 0) (u := 1) rfl
          refine jt_ite (fun c27_ => ?_) (fun c27_ => ?_)
          ·
            refine jt_grd (by omega) ?_
            have hv28_ : iv (jxu a 170 ((jxw ((jxw (y3 + (-1))) - 1)).toNat) 0) := iv_put hv (l := 0) (u := 1) rfl (by omega) (by omega)
            have hf29_ : jfr jW_X12_isMet a0 (jxu a 170 ((jxw ((jxw (y3 + (-1))) - 1)).toNat) 0) := jfr_put hf rfl
            exact hc172 y1 y2 (jxw (y3 + (-1))) y4 (jxu a 170 ((jxw ((jxw (y3 + (-1))) - 1)).toNat) 0) (show (((64 - y4) * 1) + 0).toNat ≤ n from by omega) hv28_ hf29_ (show 0 ≤ y1 from by omega) (show y1 ≤ 39 from by omega) (show 0 ≤ y2 from by omega) (show y2 ≤ 39 from by omega) (show 0 ≤ y4 from by omega) (show y4 ≤ 63 from by omega) (show y1 = x1 from by omega) (show y2 = x2 from by omega) (show 0 ≤ y4 from by omega) (show 0 ≤ jxw (y3 + (-1)) from by omega) (show y4 < a 167 (y1.toNat) from by omega) (by first | assumption | omega)
          ·
            refine jt_grd (by omega) ?_
            have h30_ := iv_get hv (k := 170) (j := (jxw (y3 + (-1))).toNat) (l := 0) (u := 1) rfl
            refine jt_ite (fun c31_ => ?_) (fun c31_ => ?_)
            ·
              refine jt_grd (by omega) ?_
              have hv32_ : iv (jxu a 170 ((jxw ((jxw (y3 + (-1))) - 1)).toNat) 0) := iv_put hv (l := 0) (u := 1) rfl (by omega) (by omega)
              have hf33_ : jfr jW_X12_isMet a0 (jxu a 170 ((jxw ((jxw (y3 + (-1))) - 1)).toNat) 0) := jfr_put hf rfl
              exact hc172 y1 y2 (jxw (y3 + (-1))) y4 (jxu a 170 ((jxw ((jxw (y3 + (-1))) - 1)).toNat) 0) (show (((64 - y4) * 1) + 0).toNat ≤ n from by omega) hv32_ hf33_ (show 0 ≤ y1 from by omega) (show y1 ≤ 39 from by omega) (show 0 ≤ y2 from by omega) (show y2 ≤ 39 from by omega) (show 0 ≤ y4 from by omega) (show y4 ≤ 63 from by omega) (show y1 = x1 from by omega) (show y2 = x2 from by omega) (show 0 ≤ y4 from by omega) (show 0 ≤ jxw (y3 + (-1)) from by omega) (show y4 < a 167 (y1.toNat) from by omega) (by first | assumption | omega)
            ·
              refine jt_grd (by omega) ?_
              have hv34_ : iv (jxu a 170 ((jxw ((jxw (y3 + (-1))) - 1)).toNat) 1) := iv_put hv (l := 0) (u := 1) rfl (by omega) (by omega)
              have hf35_ : jfr jW_X12_isMet a0 (jxu a 170 ((jxw ((jxw (y3 + (-1))) - 1)).toNat) 1) := jfr_put hf rfl
              exact hc172 y1 y2 (jxw (y3 + (-1))) y4 (jxu a 170 ((jxw ((jxw (y3 + (-1))) - 1)).toNat) 1) (show (((64 - y4) * 1) + 0).toNat ≤ n from by omega) hv34_ hf35_ (show 0 ≤ y1 from by omega) (show y1 ≤ 39 from by omega) (show 0 ≤ y2 from by omega) (show y2 ≤ 39 from by omega) (show 0 ≤ y4 from by omega) (show y4 ≤ 63 from by omega) (show y1 = x1 from by omega) (show y2 = x2 from by omega) (show 0 ≤ y4 from by omega) (show 0 ≤ jxw (y3 + (-1)) from by omega) (show y4 < a 167 (y1.toNat) from by omega) (by first | assumption | omega)
        ·
          have h36_ := jxw_im (y3 + (-1))
          have h37_ := jxw_rg (y3 + (-1))
          have h38_ := jxw_im ((jxw (y3 + (-1))) - 1)
          have h39_ := jxw_rg ((jxw (y3 + (-1))) - 1)
          refine jt_grd (by omega) ?_
          have h40_ := iv_get hv (k := 170) (j := (jxw ((jxw (y3 + (-1))) - 1)).toNat) (l := 0) (u := 1) rfl
          refine jt_ite (fun c41_ => ?_) (fun c41_ => ?_)
          ·
            refine jt_grd (by omega) ?_
            have h42_ := iv_get hv (k := 170) (j := (jxw (y3 + (-1))).toNat) (l := 0) (u := 1) rfl
            refine jt_ite (fun c43_ => ?_) (fun c43_ => ?_)
            ·
              refine jt_grd (by omega) ?_
              have hv44_ : iv (jxu a 170 ((jxw ((jxw (y3 + (-1))) - 1)).toNat) 0) := iv_put hv (l := 0) (u := 1) rfl (by omega) (by omega)
              have hf45_ : jfr jW_X12_isMet a0 (jxu a 170 ((jxw ((jxw (y3 + (-1))) - 1)).toNat) 0) := jfr_put hf rfl
              exact hc172 y1 y2 (jxw (y3 + (-1))) y4 (jxu a 170 ((jxw ((jxw (y3 + (-1))) - 1)).toNat) 0) (show (((64 - y4) * 1) + 0).toNat ≤ n from by omega) hv44_ hf45_ (show 0 ≤ y1 from by omega) (show y1 ≤ 39 from by omega) (show 0 ≤ y2 from by omega) (show y2 ≤ 39 from by omega) (show 0 ≤ y4 from by omega) (show y4 ≤ 63 from by omega) (show y1 = x1 from by omega) (show y2 = x2 from by omega) (show 0 ≤ y4 from by omega) (show 0 ≤ jxw (y3 + (-1)) from by omega) (show y4 < a 167 (y1.toNat) from by omega) (by first | assumption | omega)
            ·
              refine jt_grd (by omega) ?_
              have hv46_ : iv (jxu a 170 ((jxw ((jxw (y3 + (-1))) - 1)).toNat) 1) := iv_put hv (l := 0) (u := 1) rfl (by omega) (by omega)
              have hf47_ : jfr jW_X12_isMet a0 (jxu a 170 ((jxw ((jxw (y3 + (-1))) - 1)).toNat) 1) := jfr_put hf rfl
              exact hc172 y1 y2 (jxw (y3 + (-1))) y4 (jxu a 170 ((jxw ((jxw (y3 + (-1))) - 1)).toNat) 1) (show (((64 - y4) * 1) + 0).toNat ≤ n from by omega) hv46_ hf47_ (show 0 ≤ y1 from by omega) (show y1 ≤ 39 from by omega) (show 0 ≤ y2 from by omega) (show y2 ≤ 39 from by omega) (show 0 ≤ y4 from by omega) (show y4 ≤ 63 from by omega) (show y1 = x1 from by omega) (show y2 = x2 from by omega) (show 0 ≤ y4 from by omega) (show 0 ≤ jxw (y3 + (-1)) from by omega) (show y4 < a 167 (y1.toNat) from by omega) (by first | assumption | omega)
          ·
            refine jt_grd (by omega) ?_
            have hv48_ : iv (jxu a 170 ((jxw ((jxw (y3 + (-1))) - 1)).toNat) 1) := iv_put hv (l := 0) (u := 1) rfl (by omega) (by omega)
            have hf49_ : jfr jW_X12_isMet a0 (jxu a 170 ((jxw ((jxw (y3 + (-1))) - 1)).toNat) 1) := jfr_put hf rfl
            exact hc172 y1 y2 (jxw (y3 + (-1))) y4 (jxu a 170 ((jxw ((jxw (y3 + (-1))) - 1)).toNat) 1) (show (((64 - y4) * 1) + 0).toNat ≤ n from by omega) hv48_ hf49_ (show 0 ≤ y1 from by omega) (show y1 ≤ 39 from by omega) (show 0 ≤ y2 from by omega) (show y2 ≤ 39 from by omega) (show 0 ≤ y4 from by omega) (show y4 ≤ 63 from by omega) (show y1 = x1 from by omega) (show y2 = x2 from by omega) (show 0 ≤ y4 from by omega) (show 0 ≤ jxw (y3 + (-1)) from by omega) (show y4 < a 167 (y1.toNat) from by omega) (by first | assumption | omega)
    ·
      refine jt_eI (eq_X12_isAtom E d (jd_le hd rfl) y5 y1 y2 a b0 hv (show (0 ≤ y1 ∧ y1 < 40) from by omega) (show (0 ≤ y2 ∧ y2 < 40) from by omega)) ?_
      refine jt_grd (by omega) ?_
      have h50_ := f_X12_isAtom_bool a b0 y5 y1 y2
      refine jt_grd (by omega) ?_
      have hv51_ : iv (jxu a 170 (y3.toNat) (f_X12_isAtom a b0 y5 y1 y2)) := iv_put hv (l := 0) (u := 1) rfl (by omega) (by omega)
      have hf52_ : jfr jW_X12_isMet a0 (jxu a 170 (y3.toNat) (f_X12_isAtom a b0 y5 y1 y2)) := jfr_put hf rfl
      have h53_ : jxw (y3 + 1) = y3 + 1 := jxw_id (by omega) (by omega)
      exact hc172 y1 y2 (jxw (y3 + 1)) y4 (jxu a 170 (y3.toNat) (f_X12_isAtom a b0 y5 y1 y2)) (show (((64 - y4) * 1) + 0).toNat ≤ n from by omega) hv51_ hf52_ (show 0 ≤ y1 from by omega) (show y1 ≤ 39 from by omega) (show 0 ≤ y2 from by omega) (show y2 ≤ 39 from by omega) (show 0 ≤ y4 from by omega) (show y4 ≤ 63 from by omega) (show y1 = x1 from by omega) (show y2 = x2 from by omega) (show 0 ≤ y4 from by omega) (show 0 ≤ jxw (y3 + 1) from by omega) (show y4 < a 167 (y1.toNat) from by omega) (by first | assumption | omega)
  have hc16 : ∀ (y1 y2 y3 y4 : Int) (a : Nat → Nat → Int), (((64 - y4) * 1) + 0).toNat ≤ n → iv a → jfr jW_X12_isMet a0 a → 0 ≤ y1 → y1 ≤ 39 → 0 ≤ y2 → y2 ≤ 39 → 0 ≤ y4 → y4 ≤ 64 → y1 = x1 → y2 = x2 → 0 ≤ y4 → 0 ≤ y3 → y4 ≤ a 167 (y1.toNat) → (y3 = jhg (fun k => a0 166 (64 * x1.toNat + k)) y4.toNat) → jt (jxX E d 227 16 [some (.inr (.inr (.inl 146))), some (.inl y1), some (.inl y2), some (.inl y3), some (.inl y4), none] [] (jxSH, a, b0)) (jQ_X12_isMet x1 x2 a0 b0) := by
    intro y1 y2 y3 y4 a hm hv hf hi0 hi1 hi2 hi3 hi4 hi5 hi6 hi7 hi8 hi9 hi10 hi11
    refine jt_eq (bq_X12_isMet_16 E d y1 y2 y3 y4 a b0) ?_
    have h54_ := iv_get hv (k := 167) (j := y1.toNat) (l := 0) (u := 64) rfl
    have h55_ : a 167 (y1.toNat) = a0 167 (y1.toNat) := hf 167 (y1.toNat) rfl
    have h56_ := iv_get hv0 (k := 167) (j := y1.toNat) (l := 0) (u := 64) rfl
    have hix : (jxw ((jxw (64 * y1)) + y4)).toNat = 64 * x1.toNat + y4.toNat ∨ a 167 y1.toNat ≤ y4 := by
      have := iv_get hv (k := 167) (j := y1.toNat) (l := 0) (u := 64) rfl
      by_cases hc : a 167 y1.toNat ≤ y4
      · exact Or.inr hc
      · left
        rw [jxw_id (x := 64 * y1) (by omega) (by omega), jxw_id (by omega) (by omega)]
        omega
    have hs : y4 < a 167 y1.toNat → a 166 ((jxw ((jxw (64 * y1)) + y4)).toNat) = a0 166 (64 * x1.toNat + y4.toNat) := by
      intro hlt
      rcases hix with h | h
      · rw [h]; exact hf 166 _ rfl
      · omega
    refine jt_grd (by omega) ?_
    refine jt_ite (fun c57_ => ?_) (fun c57_ => ?_)
    ·
      have h58_ : jxw (64 * y1) = 64 * y1 := jxw_id (by omega) (by omega)
      have h59_ : jxw ((jxw (64 * y1)) + y4) = (jxw (64 * y1)) + y4 := jxw_id (by omega) (by omega)
      refine jt_grd (by omega) ?_
      have h60_ : a 166 ((jxw ((jxw (64 * y1)) + y4)).toNat) = a0 166 ((jxw ((jxw (64 * y1)) + y4)).toNat) := hf 166 ((jxw ((jxw (64 * y1)) + y4)).toNat) rfl
      exact hc41 y1 y2 y3 y4 (a 166 ((jxw ((jxw (64 * y1)) + y4)).toNat)) a (show (((64 - y4) * 1) + 0).toNat ≤ n from by omega) hv hf (show 0 ≤ y1 from by omega) (show y1 ≤ 39 from by omega) (show 0 ≤ y2 from by omega) (show y2 ≤ 39 from by omega) (show 0 ≤ y4 from by omega) (show y4 ≤ 63 from by omega) (show y1 = x1 from by omega) (show y2 = x2 from by omega) (show 0 ≤ y4 from by omega) (show 0 ≤ y3 from by omega) (show y4 < a 167 (y1.toNat) from by omega) (by assumption) (by first | assumption | exact hs (by omega))
    ·
      have h61_ := iv_get hv (k := 170) (j := 0) (l := 0) (u := 1) rfl
      refine jt_grd (by omega) ?_
      exact jt_rI ⟨hv, hf, rfl, (show (0 ≤ a 170 0 ∧ a 170 0 ≤ 1) from by omega)⟩
  exact ⟨hc172, hc99, hc41, hc16⟩
theorem sp_X12_isMet (E : jxE) (d : Nat) (hd : Nat.ble 2 d = true) (x1 x2 : Int) (a0 b0 : Nat → Nat → Int) (hv0 : iv a0) (hp0 : (0 ≤ x1 ∧ x1 ≤ 39)) (hp1 : (0 ≤ x2 ∧ x2 ≤ 39)) (hp2 : WFW a0) : jt (jxC E d 227 [.inr (.inr (.inl 146)), .inl x1, .inl x2] (jxSH, a0, b0)) (jQ_X12_isMet x1 x2 a0 b0) := by
  obtain ⟨d, rfl⟩ := jd_succ hd
  refine jt_eq (bq_X12_isMet E d x1 x2 a0 b0) ?_
  refine jt_grd (by omega) ?_
  have h62_ := iv_get hv0 (k := 167) (j := x1.toNat) (l := 0) (u := 64) rfl
  refine jt_ite (fun c63_ => ?_) (fun c63_ => ?_)
  ·
    exact jt_rI ⟨hv0, (jfr_rf _ _), rfl, (show (0 ≤ 1 ∧ 1 ≤ 1) from by omega)⟩
  ·
    exact (cp_X12_isMet_16 E d hd x1 x2 a0 b0 hv0 hp0 hp1 hp2 _).2.2.2 x1 x2 0 0 a0 (Nat.le_refl _) hv0 (jfr_rf _ _) (show 0 ≤ x1 from by omega) (show x1 ≤ 39 from by omega) (show 0 ≤ x2 from by omega) (show x2 ≤ 39 from by omega) (show 0 ≤ 0 from by omega) (show 0 ≤ 64 from by omega) (show x1 = x1 from by omega) (show x2 = x2 from by omega) (show 0 ≤ 0 from by omega) (show 0 ≤ 0 from by omega) (show 0 ≤ a0 167 (x1.toNat) from by omega) (by first | rfl | (rw [show (jxw (y4 + 1)).toNat = y4.toNat + 1 from by omega]; assumption))
def jW_X12_unhappy : List (Nat × Nat) := [(170, 9999)]
abbrev jQ_X12_unhappy (x1 x2 : Int) (a0 b0 : Nat → Nat → Int) : List jxV → (Nat → Nat → Int) → (Nat → Nat → Int) → Prop := rI (fun r a b => (iv a) ∧ (jfr jW_X12_unhappy a0 a) ∧ (b0 = b) ∧ (0 ≤ r) ∧ (r ≤ 2))
theorem cp_X12_unhappy_14 (E : jxE) (d : Nat) (hd : Nat.ble 3 (d + 1) = true) (x1 x2 : Int) (a0 b0 : Nat → Nat → Int) (hv0 : iv a0) (hp0 : (0 ≤ x1 ∧ x1 ≤ 39)) (hp1 : (0 ≤ x2 ∧ x2 ≤ 39)) (hp2 : WFW a0) : ∀ (y1 y2 s0 : Int) (a : Nat → Nat → Int), iv a → jfr jW_X12_unhappy a0 a → 0 ≤ y1 → y1 ≤ 39 → 0 ≤ y2 → y2 ≤ 39 → 0 ≤ s0 → s0 ≤ 1 → jt (jxX E d 229 14 [some (.inr (.inr (.inl 146))), some (.inl y1), some (.inl y2)] [.inl s0] (jxSH, a, b0)) (jQ_X12_unhappy x1 x2 a0 b0) := by
  intro y1 y2 s0 a hv hf hi0 hi1 hi2 hi3 hi4 hi5
  refine jt_eq (bq_X12_unhappy_14 E d y1 y2 s0 a b0) ?_
  refine jt_bI (sp_X12_isMet E d (jd_le hd rfl) y2 y1 a b0 hv (show (0 ≤ y2 ∧ y2 ≤ 39) from by omega) (show (0 ≤ y1 ∧ y1 ≤ 39) from by omega) (WFW_fr hp2 hf (fun _ => rfl) (fun _ => rfl))) (fun r64_ a64_ b64_ h64_ => ?_)
  obtain ⟨hv64_, hf64_, rfl, hq64_0⟩ := h64_
  refine jt_ite (fun c65_ => ?_) (fun c65_ => ?_)
  ·
    have hf66_ : jfr jW_X12_unhappy a0 a64_ := jfr_tr hf hf64_ rfl
    have h67_ : jxw (s0 + 1) = s0 + 1 := jxw_id (by omega) (by omega)
    exact jt_rI ⟨hv64_, hf66_, rfl, (show 0 ≤ jxw (s0 + 1) from by omega), (show jxw (s0 + 1) ≤ 2 from by omega)⟩
  ·
    have hf68_ : jfr jW_X12_unhappy a0 a64_ := jfr_tr hf hf64_ rfl
    have h69_ : jxw (s0 + 0) = s0 + 0 := jxw_id (by omega) (by omega)
    exact jt_rI ⟨hv64_, hf68_, rfl, (show 0 ≤ jxw (s0 + 0) from by omega), (show jxw (s0 + 0) ≤ 2 from by omega)⟩
theorem sp_X12_unhappy (E : jxE) (d : Nat) (hd : Nat.ble 3 d = true) (x1 x2 : Int) (a0 b0 : Nat → Nat → Int) (hv0 : iv a0) (hp0 : (0 ≤ x1 ∧ x1 ≤ 39)) (hp1 : (0 ≤ x2 ∧ x2 ≤ 39)) (hp2 : WFW a0) : jt (jxC E d 229 [.inr (.inr (.inl 146)), .inl x1, .inl x2] (jxSH, a0, b0)) (jQ_X12_unhappy x1 x2 a0 b0) := by
  obtain ⟨d, rfl⟩ := jd_succ hd
  refine jt_eq (bq_X12_unhappy E d x1 x2 a0 b0) ?_
  refine jt_bI (sp_X12_isMet E d (jd_le hd rfl) x1 x2 a0 b0 hv0 (show (0 ≤ x1 ∧ x1 ≤ 39) from by omega) (show (0 ≤ x2 ∧ x2 ≤ 39) from by omega) hp2) (fun r70_ a70_ b70_ h70_ => ?_)
  obtain ⟨hv70_, hf70_, rfl, hq70_0⟩ := h70_
  refine jt_ite (fun c71_ => ?_) (fun c71_ => ?_)
  ·
    have hf72_ : jfr jW_X12_unhappy a0 a70_ := jfr_tr (jfr_rf _ _) hf70_ rfl
    exact cp_X12_unhappy_14 E d hd x1 x2 a0 b0 hv0 hp0 hp1 hp2 x1 x2 1 a70_ hv70_ hf72_ (show 0 ≤ x1 from by omega) (show x1 ≤ 39 from by omega) (show 0 ≤ x2 from by omega) (show x2 ≤ 39 from by omega) (show 0 ≤ 1 from by omega) (show 1 ≤ 1 from by omega)
  ·
    have hf73_ : jfr jW_X12_unhappy a0 a70_ := jfr_tr (jfr_rf _ _) hf70_ rfl
    exact cp_X12_unhappy_14 E d hd x1 x2 a0 b0 hv0 hp0 hp1 hp2 x1 x2 0 a70_ hv70_ hf73_ (show 0 ≤ x1 from by omega) (show x1 ≤ 39 from by omega) (show 0 ≤ x2 from by omega) (show x2 ≤ 39 from by omega) (show 0 ≤ 0 from by omega) (show 0 ≤ 1 from by omega)
def jW_X12_mayGet : List (Nat × Nat) := [(170, 9999)]
abbrev jQ_X12_mayGet (x1 x2 : Int) (a0 b0 : Nat → Nat → Int) : List jxV → (Nat → Nat → Int) → (Nat → Nat → Int) → Prop := rI (fun r a b => (iv a) ∧ (jfr jW_X12_mayGet a0 a) ∧ (b0 = b) ∧ ((0 ≤ r ∧ r ≤ 1)))
theorem cp_X12_mayGet_96 (E : jxE) (d : Nat) (hd : Nat.ble 7 (d + 1) = true) (x1 x2 : Int) (a0 b0 : Nat → Nat → Int) (hv0 : iv a0) (hp0 : (0 ≤ x1 ∧ x1 ≤ 39)) (hp1 : (0 ≤ x2 ∧ x2 ≤ 39)) (hp2 : WFW a0) : ∀ (a : Nat → Nat → Int), iv a → jfr jW_X12_mayGet a0 a → jt (jxX E d 248 96 [none, none, none, none] [] (jxSH, a, b0)) (jQ_X12_mayGet x1 x2 a0 b0) := by
  intro a hv hf
  refine jt_eq (bq_X12_mayGet_96 E d a b0) ?_
  exact jt_rI ⟨hv, hf, rfl, (show (0 ≤ 0 ∧ 0 ≤ 1) from by omega)⟩
theorem cp_X12_mayGet_54 (E : jxE) (d : Nat) (hd : Nat.ble 7 (d + 1) = true) (x1 x2 : Int) (a0 b0 : Nat → Nat → Int) (hv0 : iv a0) (hp0 : (0 ≤ x1 ∧ x1 ≤ 39)) (hp1 : (0 ≤ x2 ∧ x2 ≤ 39)) (hp2 : WFW a0) : ∀ (a : Nat → Nat → Int), iv a → jfr jW_X12_mayGet a0 a → 1 ≤ a 146 9 → jt (jxX E d 248 54 [none, none, none, none] [] (jxSH, a, b0)) (jQ_X12_mayGet x1 x2 a0 b0) := by
  intro a hv hf hi0
  refine jt_eq (bq_X12_mayGet_54 E d a b0) ?_
  have h74_ := iv_get hv (k := 146) (j := 9) (l := 0) (u := 300) rfl
  have h75_ : a 146 9 = a0 146 9 := hf 146 9 rfl
  have h76_ := iv_get hv0 (k := 146) (j := 9) (l := 0) (u := 300) rfl
  exact jt_rI ⟨hv, hf, rfl, (show (0 ≤ 0 ∧ 0 ≤ 1) from by omega)⟩
theorem cp_X12_mayGet_92 (E : jxE) (d : Nat) (hd : Nat.ble 7 (d + 1) = true) (x1 x2 : Int) (a0 b0 : Nat → Nat → Int) (hv0 : iv a0) (hp0 : (0 ≤ x1 ∧ x1 ≤ 39)) (hp1 : (0 ≤ x2 ∧ x2 ≤ 39)) (hp2 : WFW a0) : ∀ (a : Nat → Nat → Int), iv a → jfr jW_X12_mayGet a0 a → jt (jxX E d 248 92 [none, none, none, none] [] (jxSH, a, b0)) (jQ_X12_mayGet x1 x2 a0 b0) := by
  intro a hv hf
  refine jt_eq (bq_X12_mayGet_92 E d a b0) ?_
  exact jt_rI ⟨hv, hf, rfl, (show (0 ≤ 1 ∧ 1 ≤ 1) from by omega)⟩
theorem cp_X12_mayGet_22 (E : jxE) (d : Nat) (hd : Nat.ble 7 (d + 1) = true) (x1 x2 : Int) (a0 b0 : Nat → Nat → Int) (hv0 : iv a0) (hp0 : (0 ≤ x1 ∧ x1 ≤ 39)) (hp1 : (0 ≤ x2 ∧ x2 ≤ 39)) (hp2 : WFW a0) : ∀ n : Nat, (∀ (y1 y2 y3 : Int) (a : Nat → Nat → Int), (((300 - y3) * 1) + 0).toNat ≤ n → iv a → jfr jW_X12_mayGet a0 a → 0 ≤ y1 → y1 ≤ 39 → 0 ≤ y2 → y2 ≤ 39 → 0 ≤ y3 → y3 ≤ 299 → 1 ≤ a 146 9 → jt (jxX E d 248 56 [some (.inr (.inr (.inl 146))), some (.inl y1), some (.inl y2), some (.inl y3)] [] (jxSH, a, b0)) (jQ_X12_mayGet x1 x2 a0 b0)) ∧ (∀ (y1 y2 y3 : Int) (a : Nat → Nat → Int), (((300 - y3) * 1) + 0).toNat ≤ n → iv a → jfr jW_X12_mayGet a0 a → 0 ≤ y1 → y1 ≤ 39 → 0 ≤ y2 → y2 ≤ 39 → 0 ≤ y3 → y3 ≤ 300 → jt (jxX E d 248 22 [some (.inr (.inr (.inl 146))), some (.inl y1), some (.inl y2), some (.inl y3)] [] (jxSH, a, b0)) (jQ_X12_mayGet x1 x2 a0 b0)) := by
  refine jx_ind fun n ih => ?_
  have ih56 : ∀ (y1 y2 y3 : Int) (a : Nat → Nat → Int), (((300 - y3) * 1) + 0).toNat < n → iv a → jfr jW_X12_mayGet a0 a → 0 ≤ y1 → y1 ≤ 39 → 0 ≤ y2 → y2 ≤ 39 → 0 ≤ y3 → y3 ≤ 299 → 1 ≤ a 146 9 → jt (jxX E d 248 56 [some (.inr (.inr (.inl 146))), some (.inl y1), some (.inl y2), some (.inl y3)] [] (jxSH, a, b0)) (jQ_X12_mayGet x1 x2 a0 b0) := fun y1 y2 y3 a hlt i0 i1 i2 i3 i4 i5 i6 i7 i8 => (ih _ hlt).1 y1 y2 y3 a (Nat.le_refl _) i0 i1 i2 i3 i4 i5 i6 i7 i8
  have ih22 : ∀ (y1 y2 y3 : Int) (a : Nat → Nat → Int), (((300 - y3) * 1) + 0).toNat < n → iv a → jfr jW_X12_mayGet a0 a → 0 ≤ y1 → y1 ≤ 39 → 0 ≤ y2 → y2 ≤ 39 → 0 ≤ y3 → y3 ≤ 300 → jt (jxX E d 248 22 [some (.inr (.inr (.inl 146))), some (.inl y1), some (.inl y2), some (.inl y3)] [] (jxSH, a, b0)) (jQ_X12_mayGet x1 x2 a0 b0) := fun y1 y2 y3 a hlt i0 i1 i2 i3 i4 i5 i6 i7 => (ih _ hlt).2 y1 y2 y3 a (Nat.le_refl _) i0 i1 i2 i3 i4 i5 i6 i7
  have hc56 : ∀ (y1 y2 y3 : Int) (a : Nat → Nat → Int), (((300 - y3) * 1) + 0).toNat ≤ n → iv a → jfr jW_X12_mayGet a0 a → 0 ≤ y1 → y1 ≤ 39 → 0 ≤ y2 → y2 ≤ 39 → 0 ≤ y3 → y3 ≤ 299 → 1 ≤ a 146 9 → jt (jxX E d 248 56 [some (.inr (.inr (.inl 146))), some (.inl y1), some (.inl y2), some (.inl y3)] [] (jxSH, a, b0)) (jQ_X12_mayGet x1 x2 a0 b0) := by
    intro y1 y2 y3 a hm hv hf hi0 hi1 hi2 hi3 hi4 hi5 hi6
    refine jt_eq (bq_X12_mayGet_56 E d y1 y2 y3 a b0) ?_
    have h77_ := iv_get hv (k := 146) (j := 9) (l := 0) (u := 300) rfl
    have h78_ : a 146 9 = a0 146 9 := hf 146 9 rfl
    have h79_ := iv_get hv0 (k := 146) (j := 9) (l := 0) (u := 300) rfl
    have h80_ : jxw (y3 + 1) = y3 + 1 := jxw_id (by omega) (by omega)
    exact ih22 y1 y2 (jxw (y3 + 1)) a (show (((300 - (jxw (y3 + 1))) * 1) + 0).toNat < n from by omega) hv hf (show 0 ≤ y1 from by omega) (show y1 ≤ 39 from by omega) (show 0 ≤ y2 from by omega) (show y2 ≤ 39 from by omega) (show 0 ≤ jxw (y3 + 1) from by omega) (show jxw (y3 + 1) ≤ 300 from by omega)
  have hc22 : ∀ (y1 y2 y3 : Int) (a : Nat → Nat → Int), (((300 - y3) * 1) + 0).toNat ≤ n → iv a → jfr jW_X12_mayGet a0 a → 0 ≤ y1 → y1 ≤ 39 → 0 ≤ y2 → y2 ≤ 39 → 0 ≤ y3 → y3 ≤ 300 → jt (jxX E d 248 22 [some (.inr (.inr (.inl 146))), some (.inl y1), some (.inl y2), some (.inl y3)] [] (jxSH, a, b0)) (jQ_X12_mayGet x1 x2 a0 b0) := by
    intro y1 y2 y3 a hm hv hf hi0 hi1 hi2 hi3 hi4 hi5
    refine jt_eq (bq_X12_mayGet_22 E d y1 y2 y3 a b0) ?_
    have h81_ := iv_get hv (k := 146) (j := 9) (l := 0) (u := 300) rfl
    have h82_ : a 146 9 = a0 146 9 := hf 146 9 rfl
    have h83_ := iv_get hv0 (k := 146) (j := 9) (l := 0) (u := 300) rfl
    refine jt_ite (fun c84_ => ?_) (fun c84_ => ?_)
    ·
      refine jt_grd (by omega) ?_
      have h85_ := iv_get hv (k := 155) (j := y3.toNat) (l := 0) (u := 39) rfl
      have h86_ : a 155 (y3.toNat) = a0 155 (y3.toNat) := hf 155 (y3.toNat) rfl
      have h87_ := iv_get hv0 (k := 155) (j := y3.toNat) (l := 0) (u := 39) rfl
      refine jt_ite (fun c88_ => ?_) (fun c88_ => ?_)
      ·
        refine jt_grd (by omega) ?_
        have h89_ := iv_get hv (k := 154) (j := y3.toNat) (l := 0) (u := 39) rfl
        have h90_ : a 154 (y3.toNat) = a0 154 (y3.toNat) := hf 154 (y3.toNat) rfl
        have h91_ := iv_get hv0 (k := 154) (j := y3.toNat) (l := 0) (u := 39) rfl
        refine jt_eI (eq_X12_isKin E d (jd_le hd rfl) (a 154 (y3.toNat)) y1 a b0 (show (0 ≤ a 154 (y3.toNat) ∧ a 154 (y3.toNat) < 40) from by omega) (show (0 ≤ y1 ∧ y1 < 40) from by omega)) ?_
        have h92_ := f_X12_isKin_bool a b0 (a 154 (y3.toNat)) y1
        refine jt_ite (fun c93_ => ?_) (fun c93_ => ?_)
        ·
          exact hc56 y1 y2 y3 a (show (((300 - y3) * 1) + 0).toNat ≤ n from by omega) hv hf (show 0 ≤ y1 from by omega) (show y1 ≤ 39 from by omega) (show 0 ≤ y2 from by omega) (show y2 ≤ 39 from by omega) (show 0 ≤ y3 from by omega) (show y3 ≤ 299 from by omega) (show 1 ≤ a 146 9 from by omega)
        ·
          exact cp_X12_mayGet_54 E d hd x1 x2 a0 b0 hv0 hp0 hp1 hp2 a hv hf (show 1 ≤ a 146 9 from by omega)
      ·
        exact hc56 y1 y2 y3 a (show (((300 - y3) * 1) + 0).toNat ≤ n from by omega) hv hf (show 0 ≤ y1 from by omega) (show y1 ≤ 39 from by omega) (show 0 ≤ y2 from by omega) (show y2 ≤ 39 from by omega) (show 0 ≤ y3 from by omega) (show y3 ≤ 299 from by omega) (show 1 ≤ a 146 9 from by omega)
    ·
      refine jt_bI (sp_X12_owed E d (jd_le hd rfl) y2 a b0 hv (show (0 ≤ y2 ∧ y2 ≤ 39) from by omega)) (fun r94_ a94_ b94_ h94_ => ?_)
      obtain ⟨rfl, rfl⟩ := h94_
      have h95_ : a 171 2 = a0 171 2 := hf 171 2 rfl
      have h96_ := jxw_im (r94_ + (a 171 2))
      have h97_ := jxw_rg (r94_ + (a 171 2))
      refine jt_ite (fun c98_ => ?_) (fun c98_ => ?_)
      ·
        refine jt_bI (sp_X12_unhappy E d (jd_le hd rfl) y1 y2 a b0 hv (show (0 ≤ y1 ∧ y1 ≤ 39) from by omega) (show (0 ≤ y2 ∧ y2 ≤ 39) from by omega) (WFW_fr hp2 hf (fun _ => rfl) (fun _ => rfl))) (fun r99_ a99_ b99_ h99_ => ?_)
        obtain ⟨hv99_, hf99_, rfl, hq99_0, hq99_1⟩ := h99_
        have h100_ : a99_ 171 4 = a 171 4 := hf99_ 171 4 rfl
        have h101_ : a 171 4 = a0 171 4 := hf 171 4 rfl
        refine jt_ite (fun c102_ => ?_) (fun c102_ => ?_)
        ·
          have hf103_ : jfr jW_X12_mayGet a0 a99_ := jfr_tr hf hf99_ rfl
          exact cp_X12_mayGet_96 E d hd x1 x2 a0 b0 hv0 hp0 hp1 hp2 a99_ hv99_ hf103_
        ·
          have hf104_ : jfr jW_X12_mayGet a0 a99_ := jfr_tr hf hf99_ rfl
          exact cp_X12_mayGet_92 E d hd x1 x2 a0 b0 hv0 hp0 hp1 hp2 a99_ hv99_ hf104_
      ·
        exact cp_X12_mayGet_96 E d hd x1 x2 a0 b0 hv0 hp0 hp1 hp2 a hv hf
  exact ⟨hc56, hc22⟩
theorem sp_X12_mayGet (E : jxE) (d : Nat) (hd : Nat.ble 7 d = true) (x1 x2 : Int) (a0 b0 : Nat → Nat → Int) (hv0 : iv a0) (hp0 : (0 ≤ x1 ∧ x1 ≤ 39)) (hp1 : (0 ≤ x2 ∧ x2 ≤ 39)) (hp2 : WFW a0) : jt (jxC E d 248 [.inr (.inr (.inl 146)), .inl x1, .inl x2] (jxSH, a0, b0)) (jQ_X12_mayGet x1 x2 a0 b0) := by
  obtain ⟨d, rfl⟩ := jd_succ hd
  refine jt_eq (bq_X12_mayGet E d x1 x2 a0 b0) ?_
  refine jt_grd (by omega) ?_
  have h105_ := iv_get hv0 (k := 152) (j := x2.toNat) (l := 0) (u := 1) rfl
  refine jt_ite (fun c106_ => ?_) (fun c106_ => ?_)
  ·
    exact jt_rI ⟨hv0, (jfr_rf _ _), rfl, (show (0 ≤ 0 ∧ 0 ≤ 1) from by omega)⟩
  ·
    refine jt_eI (eq_X12_isKin E d (jd_le hd rfl) x1 x2 a0 b0 (show (0 ≤ x1 ∧ x1 < 40) from by omega) (show (0 ≤ x2 ∧ x2 < 40) from by omega)) ?_
    have h107_ := f_X12_isKin_bool a0 b0 x1 x2
    refine jt_ite (fun c108_ => ?_) (fun c108_ => ?_)
    ·
      exact (cp_X12_mayGet_22 E d hd x1 x2 a0 b0 hv0 hp0 hp1 hp2 _).2 x1 x2 0 a0 (Nat.le_refl _) hv0 (jfr_rf _ _) (show 0 ≤ x1 from by omega) (show x1 ≤ 39 from by omega) (show 0 ≤ x2 from by omega) (show x2 ≤ 39 from by omega) (show 0 ≤ 0 from by omega) (show 0 ≤ 300 from by omega)
    ·
      exact jt_rI ⟨hv0, (jfr_rf _ _), rfl, (show (0 ≤ 0 ∧ 0 ≤ 1) from by omega)⟩
def jW_X12_ask : List (Nat × Nat) := [(146, 9), (146, 39), (146, 40), (146, 41), (154, 9999), (155, 9999), (156, 9999), (157, 9999), (158, 9999), (159, 9999), (160, 9999), (170, 9999)]
abbrev jQ_X12_ask (x1 : Int) (a0 b0 : Nat → Nat → Int) : List jxV → (Nat → Nat → Int) → (Nat → Nat → Int) → Prop := rI (fun r a b => (iv a) ∧ (jfr jW_X12_ask a0 a) ∧ (b0 = b) ∧ (OC a))
theorem cp_X12_ask_44 (E : jxE) (d : Nat) (hd : Nat.ble 8 (d + 1) = true) (x1 : Int) (a0 b0 : Nat → Nat → Int) (hv0 : iv a0) (hp0 : WFW a0) (hp1 : OC a0) : ∀ n : Nat, (∀ (y1 y2 y3 y4 y5 y6 y7 y8 y9 s0 : Int) (a : Nat → Nat → Int), (((40 - y6) * 1) + 0).toNat ≤ n → iv a → jfr jW_X12_ask a0 a → 0 ≤ y1 → y1 ≤ 39 → 0 - 1 ≤ y2 → y2 ≤ 39 → 0 ≤ y4 → y4 ≤ 2 → 0 ≤ y6 → y6 ≤ 39 → 0 ≤ y8 → y8 ≤ 2 → 0 ≤ s0 → s0 ≤ 1 → 1 ≤ a 146 2 → a 146 9 ≤ 299 → (OC a) → jt (jxX E d 251 139 [some (.inr (.inr (.inl 146))), some (.inl y1), some (.inl y2), some (.inl y3), some (.inl y4), some (.inl y5), some (.inl y6), some (.inl y7), some (.inl y8), some (.inl y9), none] [.inl s0] (jxSH, a, b0)) (jQ_X12_ask x1 a0 b0)) ∧ (∀ (y1 y2 y3 y4 y5 y6 y7 y8 y9 : Int) (a : Nat → Nat → Int), (((40 - y6) * 1) + 0).toNat ≤ n → iv a → jfr jW_X12_ask a0 a → 0 ≤ y1 → y1 ≤ 39 → 0 - 1 ≤ y2 → y2 ≤ 39 → 0 ≤ y4 → y4 ≤ 2 → 0 ≤ y6 → y6 ≤ 39 → 0 ≤ y8 → y8 ≤ 2 → 1 ≤ a 146 2 → a 146 9 ≤ 299 → (OC a) → jt (jxX E d 251 134 [some (.inr (.inr (.inl 146))), some (.inl y1), some (.inl y2), some (.inl y3), some (.inl y4), some (.inl y5), some (.inl y6), some (.inl y7), some (.inl y8), some (.inl y9), none] [] (jxSH, a, b0)) (jQ_X12_ask x1 a0 b0)) ∧ (∀ (y1 y2 y3 y4 y5 y6 y7 y8 y9 : Int) (a : Nat → Nat → Int), (((40 - y6) * 1) + 0).toNat ≤ n → iv a → jfr jW_X12_ask a0 a → 0 ≤ y1 → y1 ≤ 39 → 0 ≤ y2 → y2 ≤ 39 → 1 ≤ y4 → y4 ≤ 2 → 0 ≤ y6 → y6 ≤ 39 → 0 ≤ y8 → y8 ≤ 1 → 1 ≤ a 146 2 → a 146 9 ≤ 299 → (OC a) → jt (jxX E d 251 124 [some (.inr (.inr (.inl 146))), some (.inl y1), some (.inl y2), some (.inl y3), some (.inl y4), some (.inl y5), some (.inl y6), some (.inl y7), some (.inl y8), some (.inl y9), none] [] (jxSH, a, b0)) (jQ_X12_ask x1 a0 b0)) ∧ (∀ (y1 y2 y3 y4 y5 y6 y7 y8 y9 : Int) (a : Nat → Nat → Int), (((40 - y6) * 1) + 0).toNat ≤ n → iv a → jfr jW_X12_ask a0 a → 0 ≤ y1 → y1 ≤ 39 → 0 ≤ y2 → y2 ≤ 39 → 0 ≤ y4 → y4 ≤ 2 → 0 ≤ y6 → y6 ≤ 39 → 0 ≤ y8 → y8 ≤ 2 → 1 ≤ a 146 2 → a 146 9 ≤ 299 → (OC a) → jt (jxX E d 251 138 [some (.inr (.inr (.inl 146))), some (.inl y1), some (.inl y2), some (.inl y3), some (.inl y4), some (.inl y5), some (.inl y6), some (.inl y7), some (.inl y8), some (.inl y9), none] [] (jxSH, a, b0)) (jQ_X12_ask x1 a0 b0)) ∧ (∀ (y1 y2 y3 y4 y5 y6 y7 y8 : Int) (a : Nat → Nat → Int), (((40 - y6) * 1) + 0).toNat ≤ n → iv a → jfr jW_X12_ask a0 a → 0 ≤ y1 → y1 ≤ 39 → 0 - 1 ≤ y2 → y2 ≤ 39 → 0 ≤ y4 → y4 ≤ 2 → 0 ≤ y6 → y6 ≤ 39 → 0 ≤ y8 → y8 ≤ 2 → 1 ≤ a 146 2 → a 146 9 ≤ 299 → (OC a) → jt (jxX E d 251 83 [some (.inr (.inr (.inl 146))), some (.inl y1), some (.inl y2), some (.inl y3), some (.inl y4), some (.inl y5), some (.inl y6), some (.inl y7), some (.inl y8), none, none] [] (jxSH, a, b0)) (jQ_X12_ask x1 a0 b0)) ∧ (∀ (y1 y2 y3 y4 y5 y6 : Int) (a : Nat → Nat → Int), (((40 - y6) * 1) + 0).toNat ≤ n → iv a → jfr jW_X12_ask a0 a → 0 ≤ y1 → y1 ≤ 39 → 0 - 1 ≤ y2 → y2 ≤ 39 → 0 ≤ y4 → y4 ≤ 2 → 0 ≤ y6 → y6 ≤ 40 → a 146 9 ≤ 299 → (OC a) → jt (jxX E d 251 44 [some (.inr (.inr (.inl 146))), some (.inl y1), some (.inl y2), some (.inl y3), some (.inl y4), some (.inl y5), some (.inl y6), none, none, none, none] [] (jxSH, a, b0)) (jQ_X12_ask x1 a0 b0)) := by
  refine jx_ind fun n ih => ?_
  have ih139 : ∀ (y1 y2 y3 y4 y5 y6 y7 y8 y9 s0 : Int) (a : Nat → Nat → Int), (((40 - y6) * 1) + 0).toNat < n → iv a → jfr jW_X12_ask a0 a → 0 ≤ y1 → y1 ≤ 39 → 0 - 1 ≤ y2 → y2 ≤ 39 → 0 ≤ y4 → y4 ≤ 2 → 0 ≤ y6 → y6 ≤ 39 → 0 ≤ y8 → y8 ≤ 2 → 0 ≤ s0 → s0 ≤ 1 → 1 ≤ a 146 2 → a 146 9 ≤ 299 → (OC a) → jt (jxX E d 251 139 [some (.inr (.inr (.inl 146))), some (.inl y1), some (.inl y2), some (.inl y3), some (.inl y4), some (.inl y5), some (.inl y6), some (.inl y7), some (.inl y8), some (.inl y9), none] [.inl s0] (jxSH, a, b0)) (jQ_X12_ask x1 a0 b0) := fun y1 y2 y3 y4 y5 y6 y7 y8 y9 s0 a hlt i0 i1 i2 i3 i4 i5 i6 i7 i8 i9 i10 i11 i12 i13 i14 i15 i16 => (ih _ hlt).1 y1 y2 y3 y4 y5 y6 y7 y8 y9 s0 a (Nat.le_refl _) i0 i1 i2 i3 i4 i5 i6 i7 i8 i9 i10 i11 i12 i13 i14 i15 i16
  have ih134 : ∀ (y1 y2 y3 y4 y5 y6 y7 y8 y9 : Int) (a : Nat → Nat → Int), (((40 - y6) * 1) + 0).toNat < n → iv a → jfr jW_X12_ask a0 a → 0 ≤ y1 → y1 ≤ 39 → 0 - 1 ≤ y2 → y2 ≤ 39 → 0 ≤ y4 → y4 ≤ 2 → 0 ≤ y6 → y6 ≤ 39 → 0 ≤ y8 → y8 ≤ 2 → 1 ≤ a 146 2 → a 146 9 ≤ 299 → (OC a) → jt (jxX E d 251 134 [some (.inr (.inr (.inl 146))), some (.inl y1), some (.inl y2), some (.inl y3), some (.inl y4), some (.inl y5), some (.inl y6), some (.inl y7), some (.inl y8), some (.inl y9), none] [] (jxSH, a, b0)) (jQ_X12_ask x1 a0 b0) := fun y1 y2 y3 y4 y5 y6 y7 y8 y9 a hlt i0 i1 i2 i3 i4 i5 i6 i7 i8 i9 i10 i11 i12 i13 i14 => (ih _ hlt).2.1 y1 y2 y3 y4 y5 y6 y7 y8 y9 a (Nat.le_refl _) i0 i1 i2 i3 i4 i5 i6 i7 i8 i9 i10 i11 i12 i13 i14
  have ih124 : ∀ (y1 y2 y3 y4 y5 y6 y7 y8 y9 : Int) (a : Nat → Nat → Int), (((40 - y6) * 1) + 0).toNat < n → iv a → jfr jW_X12_ask a0 a → 0 ≤ y1 → y1 ≤ 39 → 0 ≤ y2 → y2 ≤ 39 → 1 ≤ y4 → y4 ≤ 2 → 0 ≤ y6 → y6 ≤ 39 → 0 ≤ y8 → y8 ≤ 1 → 1 ≤ a 146 2 → a 146 9 ≤ 299 → (OC a) → jt (jxX E d 251 124 [some (.inr (.inr (.inl 146))), some (.inl y1), some (.inl y2), some (.inl y3), some (.inl y4), some (.inl y5), some (.inl y6), some (.inl y7), some (.inl y8), some (.inl y9), none] [] (jxSH, a, b0)) (jQ_X12_ask x1 a0 b0) := fun y1 y2 y3 y4 y5 y6 y7 y8 y9 a hlt i0 i1 i2 i3 i4 i5 i6 i7 i8 i9 i10 i11 i12 i13 i14 => (ih _ hlt).2.2.1 y1 y2 y3 y4 y5 y6 y7 y8 y9 a (Nat.le_refl _) i0 i1 i2 i3 i4 i5 i6 i7 i8 i9 i10 i11 i12 i13 i14
  have ih138 : ∀ (y1 y2 y3 y4 y5 y6 y7 y8 y9 : Int) (a : Nat → Nat → Int), (((40 - y6) * 1) + 0).toNat < n → iv a → jfr jW_X12_ask a0 a → 0 ≤ y1 → y1 ≤ 39 → 0 ≤ y2 → y2 ≤ 39 → 0 ≤ y4 → y4 ≤ 2 → 0 ≤ y6 → y6 ≤ 39 → 0 ≤ y8 → y8 ≤ 2 → 1 ≤ a 146 2 → a 146 9 ≤ 299 → (OC a) → jt (jxX E d 251 138 [some (.inr (.inr (.inl 146))), some (.inl y1), some (.inl y2), some (.inl y3), some (.inl y4), some (.inl y5), some (.inl y6), some (.inl y7), some (.inl y8), some (.inl y9), none] [] (jxSH, a, b0)) (jQ_X12_ask x1 a0 b0) := fun y1 y2 y3 y4 y5 y6 y7 y8 y9 a hlt i0 i1 i2 i3 i4 i5 i6 i7 i8 i9 i10 i11 i12 i13 i14 => (ih _ hlt).2.2.2.1 y1 y2 y3 y4 y5 y6 y7 y8 y9 a (Nat.le_refl _) i0 i1 i2 i3 i4 i5 i6 i7 i8 i9 i10 i11 i12 i13 i14
  have ih83 : ∀ (y1 y2 y3 y4 y5 y6 y7 y8 : Int) (a : Nat → Nat → Int), (((40 - y6) * 1) + 0).toNat < n → iv a → jfr jW_X12_ask a0 a → 0 ≤ y1 → y1 ≤ 39 → 0 - 1 ≤ y2 → y2 ≤ 39 → 0 ≤ y4 → y4 ≤ 2 → 0 ≤ y6 → y6 ≤ 39 → 0 ≤ y8 → y8 ≤ 2 → 1 ≤ a 146 2 → a 146 9 ≤ 299 → (OC a) → jt (jxX E d 251 83 [some (.inr (.inr (.inl 146))), some (.inl y1), some (.inl y2), some (.inl y3), some (.inl y4), some (.inl y5), some (.inl y6), some (.inl y7), some (.inl y8), none, none] [] (jxSH, a, b0)) (jQ_X12_ask x1 a0 b0) := fun y1 y2 y3 y4 y5 y6 y7 y8 a hlt i0 i1 i2 i3 i4 i5 i6 i7 i8 i9 i10 i11 i12 i13 i14 => (ih _ hlt).2.2.2.2.1 y1 y2 y3 y4 y5 y6 y7 y8 a (Nat.le_refl _) i0 i1 i2 i3 i4 i5 i6 i7 i8 i9 i10 i11 i12 i13 i14
  have ih44 : ∀ (y1 y2 y3 y4 y5 y6 : Int) (a : Nat → Nat → Int), (((40 - y6) * 1) + 0).toNat < n → iv a → jfr jW_X12_ask a0 a → 0 ≤ y1 → y1 ≤ 39 → 0 - 1 ≤ y2 → y2 ≤ 39 → 0 ≤ y4 → y4 ≤ 2 → 0 ≤ y6 → y6 ≤ 40 → a 146 9 ≤ 299 → (OC a) → jt (jxX E d 251 44 [some (.inr (.inr (.inl 146))), some (.inl y1), some (.inl y2), some (.inl y3), some (.inl y4), some (.inl y5), some (.inl y6), none, none, none, none] [] (jxSH, a, b0)) (jQ_X12_ask x1 a0 b0) := fun y1 y2 y3 y4 y5 y6 a hlt i0 i1 i2 i3 i4 i5 i6 i7 i8 i9 i10 i11 => (ih _ hlt).2.2.2.2.2 y1 y2 y3 y4 y5 y6 a (Nat.le_refl _) i0 i1 i2 i3 i4 i5 i6 i7 i8 i9 i10 i11
  have hc139 : ∀ (y1 y2 y3 y4 y5 y6 y7 y8 y9 s0 : Int) (a : Nat → Nat → Int), (((40 - y6) * 1) + 0).toNat ≤ n → iv a → jfr jW_X12_ask a0 a → 0 ≤ y1 → y1 ≤ 39 → 0 - 1 ≤ y2 → y2 ≤ 39 → 0 ≤ y4 → y4 ≤ 2 → 0 ≤ y6 → y6 ≤ 39 → 0 ≤ y8 → y8 ≤ 2 → 0 ≤ s0 → s0 ≤ 1 → 1 ≤ a 146 2 → a 146 9 ≤ 299 → (OC a) → jt (jxX E d 251 139 [some (.inr (.inr (.inl 146))), some (.inl y1), some (.inl y2), some (.inl y3), some (.inl y4), some (.inl y5), some (.inl y6), some (.inl y7), some (.inl y8), some (.inl y9), none] [.inl s0] (jxSH, a, b0)) (jQ_X12_ask x1 a0 b0) := by
    intro y1 y2 y3 y4 y5 y6 y7 y8 y9 s0 a hm hv hf hi0 hi1 hi2 hi3 hi4 hi5 hi6 hi7 hi8 hi9 hi10 hi11 hi12 hi13 hi14
    refine jt_eq (bq_X12_ask_139 E d y1 y2 y3 y4 y5 y6 y7 y8 y9 s0 a b0) ?_
    have h109_ := iv_get hv (k := 146) (j := 2) (l := 0) (u := 40) rfl
    have h110_ : a 146 2 = a0 146 2 := hf 146 2 rfl
    have h111_ := iv_get hv0 (k := 146) (j := 2) (l := 0) (u := 40) rfl
    have h112_ := iv_get hv (k := 146) (j := 9) (l := 0) (u := 300) rfl
    refine jt_ite (fun c113_ => ?_) (fun c113_ => ?_)
    ·
      have h114_ : jxw (y6 + 1) = y6 + 1 := jxw_id (by omega) (by omega)
      exact ih44 y1 y2 y3 y4 y5 (jxw (y6 + 1)) a (show (((40 - (jxw (y6 + 1))) * 1) + 0).toNat < n from by omega) hv hf (show 0 ≤ y1 from by omega) (show y1 ≤ 39 from by omega) (show 0 - 1 ≤ y2 from by omega) (show y2 ≤ 39 from by omega) (show 0 ≤ y4 from by omega) (show y4 ≤ 2 from by omega) (show 0 ≤ jxw (y6 + 1) from by omega) (show jxw (y6 + 1) ≤ 40 from by omega) (show a 146 9 ≤ 299 from by omega) hi14
    ·
      have h115_ : jxw (y6 + 1) = y6 + 1 := jxw_id (by omega) (by omega)
      exact ih44 y1 y6 y7 y8 y9 (jxw (y6 + 1)) a (show (((40 - (jxw (y6 + 1))) * 1) + 0).toNat < n from by omega) hv hf (show 0 ≤ y1 from by omega) (show y1 ≤ 39 from by omega) (show 0 - 1 ≤ y6 from by omega) (show y6 ≤ 39 from by omega) (show 0 ≤ y8 from by omega) (show y8 ≤ 2 from by omega) (show 0 ≤ jxw (y6 + 1) from by omega) (show jxw (y6 + 1) ≤ 40 from by omega) (show a 146 9 ≤ 299 from by omega) hi14
  have hc134 : ∀ (y1 y2 y3 y4 y5 y6 y7 y8 y9 : Int) (a : Nat → Nat → Int), (((40 - y6) * 1) + 0).toNat ≤ n → iv a → jfr jW_X12_ask a0 a → 0 ≤ y1 → y1 ≤ 39 → 0 - 1 ≤ y2 → y2 ≤ 39 → 0 ≤ y4 → y4 ≤ 2 → 0 ≤ y6 → y6 ≤ 39 → 0 ≤ y8 → y8 ≤ 2 → 1 ≤ a 146 2 → a 146 9 ≤ 299 → (OC a) → jt (jxX E d 251 134 [some (.inr (.inr (.inl 146))), some (.inl y1), some (.inl y2), some (.inl y3), some (.inl y4), some (.inl y5), some (.inl y6), some (.inl y7), some (.inl y8), some (.inl y9), none] [] (jxSH, a, b0)) (jQ_X12_ask x1 a0 b0) := by
    intro y1 y2 y3 y4 y5 y6 y7 y8 y9 a hm hv hf hi0 hi1 hi2 hi3 hi4 hi5 hi6 hi7 hi8 hi9 hi10 hi11 hi12
    refine jt_eq (bq_X12_ask_134 E d y1 y2 y3 y4 y5 y6 y7 y8 y9 a b0) ?_
    have h116_ := iv_get hv (k := 146) (j := 2) (l := 0) (u := 40) rfl
    have h117_ : a 146 2 = a0 146 2 := hf 146 2 rfl
    have h118_ := iv_get hv0 (k := 146) (j := 2) (l := 0) (u := 40) rfl
    have h119_ := iv_get hv (k := 146) (j := 9) (l := 0) (u := 300) rfl
    exact hc139 y1 y2 y3 y4 y5 y6 y7 y8 y9 1 a (show (((40 - y6) * 1) + 0).toNat ≤ n from by omega) hv hf (show 0 ≤ y1 from by omega) (show y1 ≤ 39 from by omega) (show 0 - 1 ≤ y2 from by omega) (show y2 ≤ 39 from by omega) (show 0 ≤ y4 from by omega) (show y4 ≤ 2 from by omega) (show 0 ≤ y6 from by omega) (show y6 ≤ 39 from by omega) (show 0 ≤ y8 from by omega) (show y8 ≤ 2 from by omega) (show 0 ≤ 1 from by omega) (show 1 ≤ 1 from by omega) (show 1 ≤ a 146 2 from by omega) (show a 146 9 ≤ 299 from by omega) hi12
  have hc124 : ∀ (y1 y2 y3 y4 y5 y6 y7 y8 y9 : Int) (a : Nat → Nat → Int), (((40 - y6) * 1) + 0).toNat ≤ n → iv a → jfr jW_X12_ask a0 a → 0 ≤ y1 → y1 ≤ 39 → 0 ≤ y2 → y2 ≤ 39 → 1 ≤ y4 → y4 ≤ 2 → 0 ≤ y6 → y6 ≤ 39 → 0 ≤ y8 → y8 ≤ 1 → 1 ≤ a 146 2 → a 146 9 ≤ 299 → (OC a) → jt (jxX E d 251 124 [some (.inr (.inr (.inl 146))), some (.inl y1), some (.inl y2), some (.inl y3), some (.inl y4), some (.inl y5), some (.inl y6), some (.inl y7), some (.inl y8), some (.inl y9), none] [] (jxSH, a, b0)) (jQ_X12_ask x1 a0 b0) := by
    intro y1 y2 y3 y4 y5 y6 y7 y8 y9 a hm hv hf hi0 hi1 hi2 hi3 hi4 hi5 hi6 hi7 hi8 hi9 hi10 hi11 hi12
    refine jt_eq (bq_X12_ask_124 E d y1 y2 y3 y4 y5 y6 y7 y8 y9 a b0) ?_
    have h120_ := iv_get hv (k := 146) (j := 2) (l := 0) (u := 40) rfl
    have h121_ : a 146 2 = a0 146 2 := hf 146 2 rfl
    have h122_ := iv_get hv0 (k := 146) (j := 2) (l := 0) (u := 40) rfl
    have h123_ := iv_get hv (k := 146) (j := 9) (l := 0) (u := 300) rfl
    exact hc134 y1 y2 y3 y4 y5 y6 y7 y8 y9 a (show (((40 - y6) * 1) + 0).toNat ≤ n from by omega) hv hf (show 0 ≤ y1 from by omega) (show y1 ≤ 39 from by omega) (show 0 - 1 ≤ y2 from by omega) (show y2 ≤ 39 from by omega) (show 0 ≤ y4 from by omega) (show y4 ≤ 2 from by omega) (show 0 ≤ y6 from by omega) (show y6 ≤ 39 from by omega) (show 0 ≤ y8 from by omega) (show y8 ≤ 2 from by omega) (show 1 ≤ a 146 2 from by omega) (show a 146 9 ≤ 299 from by omega) hi12
  have hc138 : ∀ (y1 y2 y3 y4 y5 y6 y7 y8 y9 : Int) (a : Nat → Nat → Int), (((40 - y6) * 1) + 0).toNat ≤ n → iv a → jfr jW_X12_ask a0 a → 0 ≤ y1 → y1 ≤ 39 → 0 ≤ y2 → y2 ≤ 39 → 0 ≤ y4 → y4 ≤ 2 → 0 ≤ y6 → y6 ≤ 39 → 0 ≤ y8 → y8 ≤ 2 → 1 ≤ a 146 2 → a 146 9 ≤ 299 → (OC a) → jt (jxX E d 251 138 [some (.inr (.inr (.inl 146))), some (.inl y1), some (.inl y2), some (.inl y3), some (.inl y4), some (.inl y5), some (.inl y6), some (.inl y7), some (.inl y8), some (.inl y9), none] [] (jxSH, a, b0)) (jQ_X12_ask x1 a0 b0) := by
    intro y1 y2 y3 y4 y5 y6 y7 y8 y9 a hm hv hf hi0 hi1 hi2 hi3 hi4 hi5 hi6 hi7 hi8 hi9 hi10 hi11 hi12
    refine jt_eq (bq_X12_ask_138 E d y1 y2 y3 y4 y5 y6 y7 y8 y9 a b0) ?_
    have h124_ := iv_get hv (k := 146) (j := 2) (l := 0) (u := 40) rfl
    have h125_ : a 146 2 = a0 146 2 := hf 146 2 rfl
    have h126_ := iv_get hv0 (k := 146) (j := 2) (l := 0) (u := 40) rfl
    have h127_ := iv_get hv (k := 146) (j := 9) (l := 0) (u := 300) rfl
    exact hc139 y1 y2 y3 y4 y5 y6 y7 y8 y9 0 a (show (((40 - y6) * 1) + 0).toNat ≤ n from by omega) hv hf (show 0 ≤ y1 from by omega) (show y1 ≤ 39 from by omega) (show 0 - 1 ≤ y2 from by omega) (show y2 ≤ 39 from by omega) (show 0 ≤ y4 from by omega) (show y4 ≤ 2 from by omega) (show 0 ≤ y6 from by omega) (show y6 ≤ 39 from by omega) (show 0 ≤ y8 from by omega) (show y8 ≤ 2 from by omega) (show 0 ≤ 0 from by omega) (show 0 ≤ 1 from by omega) (show 1 ≤ a 146 2 from by omega) (show a 146 9 ≤ 299 from by omega) hi12
  have hc83 : ∀ (y1 y2 y3 y4 y5 y6 y7 y8 : Int) (a : Nat → Nat → Int), (((40 - y6) * 1) + 0).toNat ≤ n → iv a → jfr jW_X12_ask a0 a → 0 ≤ y1 → y1 ≤ 39 → 0 - 1 ≤ y2 → y2 ≤ 39 → 0 ≤ y4 → y4 ≤ 2 → 0 ≤ y6 → y6 ≤ 39 → 0 ≤ y8 → y8 ≤ 2 → 1 ≤ a 146 2 → a 146 9 ≤ 299 → (OC a) → jt (jxX E d 251 83 [some (.inr (.inr (.inl 146))), some (.inl y1), some (.inl y2), some (.inl y3), some (.inl y4), some (.inl y5), some (.inl y6), some (.inl y7), some (.inl y8), none, none] [] (jxSH, a, b0)) (jQ_X12_ask x1 a0 b0) := by
    intro y1 y2 y3 y4 y5 y6 y7 y8 a hm hv hf hi0 hi1 hi2 hi3 hi4 hi5 hi6 hi7 hi8 hi9 hi10 hi11 hi12
    refine jt_eq (bq_X12_ask_83 E d y1 y2 y3 y4 y5 y6 y7 y8 a b0) ?_
    have h128_ := iv_get hv (k := 146) (j := 2) (l := 0) (u := 40) rfl
    have h129_ : a 146 2 = a0 146 2 := hf 146 2 rfl
    have h130_ := iv_get hv0 (k := 146) (j := 2) (l := 0) (u := 40) rfl
    have h131_ := iv_get hv (k := 146) (j := 9) (l := 0) (u := 300) rfl
    refine jt_bI (sp_X12_lastSentTo E d (jd_le hd rfl) y6 a b0 hv) (fun r132_ a132_ b132_ h132_ => ?_)
    obtain ⟨rfl, rfl⟩ := h132_
    refine jt_ite (fun c133_ => ?_) (fun c133_ => ?_)
    ·
      exact hc134 y1 y2 y3 y4 y5 y6 y7 y8 r132_ a (show (((40 - y6) * 1) + 0).toNat ≤ n from by omega) hv hf (show 0 ≤ y1 from by omega) (show y1 ≤ 39 from by omega) (show 0 - 1 ≤ y2 from by omega) (show y2 ≤ 39 from by omega) (show 0 ≤ y4 from by omega) (show y4 ≤ 2 from by omega) (show 0 ≤ y6 from by omega) (show y6 ≤ 39 from by omega) (show 0 ≤ y8 from by omega) (show y8 ≤ 2 from by omega) (show 1 ≤ a 146 2 from by omega) (show a 146 9 ≤ 299 from by omega) hi12
    ·
      refine jt_ite (fun c134_ => ?_) (fun c134_ => ?_)
      ·
        refine jt_ite (fun c135_ => ?_) (fun c135_ => ?_)
        ·
          refine jt_ite (fun c136_ => ?_) (fun c136_ => ?_)
          ·
            exact hc134 y1 y2 y3 y4 y5 y6 y7 y8 r132_ a (show (((40 - y6) * 1) + 0).toNat ≤ n from by omega) hv hf (show 0 ≤ y1 from by omega) (show y1 ≤ 39 from by omega) (show 0 - 1 ≤ y2 from by omega) (show y2 ≤ 39 from by omega) (show 0 ≤ y4 from by omega) (show y4 ≤ 2 from by omega) (show 0 ≤ y6 from by omega) (show y6 ≤ 39 from by omega) (show 0 ≤ y8 from by omega) (show y8 ≤ 2 from by omega) (show 1 ≤ a 146 2 from by omega) (show a 146 9 ≤ 299 from by omega) hi12
          ·
            exact hc138 y1 y2 y3 y4 y5 y6 y7 y8 r132_ a (show (((40 - y6) * 1) + 0).toNat ≤ n from by omega) hv hf (show 0 ≤ y1 from by omega) (show y1 ≤ 39 from by omega) (show 0 ≤ y2 from by omega) (show y2 ≤ 39 from by omega) (show 0 ≤ y4 from by omega) (show y4 ≤ 2 from by omega) (show 0 ≤ y6 from by omega) (show y6 ≤ 39 from by omega) (show 0 ≤ y8 from by omega) (show y8 ≤ 2 from by omega) (show 1 ≤ a 146 2 from by omega) (show a 146 9 ≤ 299 from by omega) hi12
        ·
          refine jt_ite (fun c137_ => ?_) (fun c137_ => ?_)
          ·
            exact hc124 y1 y2 y3 y4 y5 y6 y7 y8 r132_ a (show (((40 - y6) * 1) + 0).toNat ≤ n from by omega) hv hf (show 0 ≤ y1 from by omega) (show y1 ≤ 39 from by omega) (show 0 ≤ y2 from by omega) (show y2 ≤ 39 from by omega) (show 1 ≤ y4 from by omega) (show y4 ≤ 2 from by omega) (show 0 ≤ y6 from by omega) (show y6 ≤ 39 from by omega) (show 0 ≤ y8 from by omega) (show y8 ≤ 1 from by omega) (show 1 ≤ a 146 2 from by omega) (show a 146 9 ≤ 299 from by omega) hi12
          ·
            exact hc138 y1 y2 y3 y4 y5 y6 y7 y8 r132_ a (show (((40 - y6) * 1) + 0).toNat ≤ n from by omega) hv hf (show 0 ≤ y1 from by omega) (show y1 ≤ 39 from by omega) (show 0 ≤ y2 from by omega) (show y2 ≤ 39 from by omega) (show 0 ≤ y4 from by omega) (show y4 ≤ 2 from by omega) (show 0 ≤ y6 from by omega) (show y6 ≤ 39 from by omega) (show 0 ≤ y8 from by omega) (show y8 ≤ 2 from by omega) (show 1 ≤ a 146 2 from by omega) (show a 146 9 ≤ 299 from by omega) hi12
      ·
        refine jt_ite (fun c138_ => ?_) (fun c138_ => ?_)
        ·
          exact hc134 y1 y2 y3 y4 y5 y6 y7 y8 r132_ a (show (((40 - y6) * 1) + 0).toNat ≤ n from by omega) hv hf (show 0 ≤ y1 from by omega) (show y1 ≤ 39 from by omega) (show 0 - 1 ≤ y2 from by omega) (show y2 ≤ 39 from by omega) (show 0 ≤ y4 from by omega) (show y4 ≤ 2 from by omega) (show 0 ≤ y6 from by omega) (show y6 ≤ 39 from by omega) (show 0 ≤ y8 from by omega) (show y8 ≤ 2 from by omega) (show 1 ≤ a 146 2 from by omega) (show a 146 9 ≤ 299 from by omega) hi12
        ·
          exact hc138 y1 y2 y3 y4 y5 y6 y7 y8 r132_ a (show (((40 - y6) * 1) + 0).toNat ≤ n from by omega) hv hf (show 0 ≤ y1 from by omega) (show y1 ≤ 39 from by omega) (show 0 ≤ y2 from by omega) (show y2 ≤ 39 from by omega) (show 0 ≤ y4 from by omega) (show y4 ≤ 2 from by omega) (show 0 ≤ y6 from by omega) (show y6 ≤ 39 from by omega) (show 0 ≤ y8 from by omega) (show y8 ≤ 2 from by omega) (show 1 ≤ a 146 2 from by omega) (show a 146 9 ≤ 299 from by omega) hi12
  have hc44 : ∀ (y1 y2 y3 y4 y5 y6 : Int) (a : Nat → Nat → Int), (((40 - y6) * 1) + 0).toNat ≤ n → iv a → jfr jW_X12_ask a0 a → 0 ≤ y1 → y1 ≤ 39 → 0 - 1 ≤ y2 → y2 ≤ 39 → 0 ≤ y4 → y4 ≤ 2 → 0 ≤ y6 → y6 ≤ 40 → a 146 9 ≤ 299 → (OC a) → jt (jxX E d 251 44 [some (.inr (.inr (.inl 146))), some (.inl y1), some (.inl y2), some (.inl y3), some (.inl y4), some (.inl y5), some (.inl y6), none, none, none, none] [] (jxSH, a, b0)) (jQ_X12_ask x1 a0 b0) := by
    intro y1 y2 y3 y4 y5 y6 a hm hv hf hi0 hi1 hi2 hi3 hi4 hi5 hi6 hi7 hi8 hi9
    refine jt_eq (bq_X12_ask_44 E d y1 y2 y3 y4 y5 y6 a b0) ?_
    have h139_ := iv_get hv (k := 146) (j := 9) (l := 0) (u := 300) rfl
    have h140_ := iv_get hv (k := 146) (j := 2) (l := 0) (u := 40) rfl
    have h141_ : a 146 2 = a0 146 2 := hf 146 2 rfl
    have h142_ := iv_get hv0 (k := 146) (j := 2) (l := 0) (u := 40) rfl
    refine jt_ite (fun c143_ => ?_) (fun c143_ => ?_)
    ·
      refine jt_bI (sp_X12_mayGet E d (jd_le hd rfl) y1 y6 a b0 hv (show (0 ≤ y1 ∧ y1 ≤ 39) from by omega) (show (0 ≤ y6 ∧ y6 ≤ 39) from by omega) (WFW_fr hp0 hf (fun _ => rfl) (fun _ => rfl))) (fun r144_ a144_ b144_ h144_ => ?_)
      obtain ⟨hv144_, hf144_, rfl, hq144_0⟩ := h144_
      refine jt_ite (fun c145_ => ?_) (fun c145_ => ?_)
      ·
        have hf146_ : jfr jW_X12_ask a0 a144_ := jfr_tr hf hf144_ rfl
        have h147_ : jxw (y6 + 1) = y6 + 1 := jxw_id (by omega) (by omega)
        have h148_ := iv_get hv144_ (k := 146) (j := 9) (l := 0) (u := 300) rfl
        have h149_ : a144_ 146 9 = a 146 9 := hf144_ 146 9 rfl
        exact ih44 y1 y2 y3 y4 y5 (jxw (y6 + 1)) a144_ (show (((40 - (jxw (y6 + 1))) * 1) + 0).toNat < n from by omega) hv144_ hf146_ (show 0 ≤ y1 from by omega) (show y1 ≤ 39 from by omega) (show 0 - 1 ≤ y2 from by omega) (show y2 ≤ 39 from by omega) (show 0 ≤ y4 from by omega) (show y4 ≤ 2 from by omega) (show 0 ≤ jxw (y6 + 1) from by omega) (show jxw (y6 + 1) ≤ 40 from by omega) (show a144_ 146 9 ≤ 299 from by omega) (OC_fr hi9 hf144_ rfl rfl (fun _ => rfl) (fun _ => rfl) (fun _ => rfl) (fun _ => rfl) (fun _ => rfl))
      ·
        refine jt_bI (sp_X12_owed E d (jd_le hd rfl) y6 a144_ b0 hv144_ (show (0 ≤ y6 ∧ y6 ≤ 39) from by omega)) (fun r150_ a150_ b150_ h150_ => ?_)
        obtain ⟨rfl, rfl⟩ := h150_
        refine jt_bI (sp_X12_unhappy E d (jd_le hd rfl) y1 y6 a144_ b0 hv144_ (show (0 ≤ y1 ∧ y1 ≤ 39) from by omega) (show (0 ≤ y6 ∧ y6 ≤ 39) from by omega) (WFW_fr (WFW_fr hp0 hf (fun _ => rfl) (fun _ => rfl)) hf144_ (fun _ => rfl) (fun _ => rfl))) (fun r151_ a151_ b151_ h151_ => ?_)
        obtain ⟨hv151_, hf151_, rfl, hq151_0, hq151_1⟩ := h151_
        have hf152_ : jfr jW_X12_ask a0 a144_ := jfr_tr hf hf144_ rfl
        have hf153_ : jfr jW_X12_ask a0 a151_ := jfr_tr hf152_ hf151_ rfl
        have h154_ := iv_get hv151_ (k := 146) (j := 2) (l := 0) (u := 40) rfl
        have h155_ : a151_ 146 2 = a144_ 146 2 := hf151_ 146 2 rfl
        have h156_ := iv_get hv144_ (k := 146) (j := 2) (l := 0) (u := 40) rfl
        have h157_ : a144_ 146 2 = a 146 2 := hf144_ 146 2 rfl
        have h158_ := iv_get hv151_ (k := 146) (j := 9) (l := 0) (u := 300) rfl
        have h159_ : a151_ 146 9 = a144_ 146 9 := hf151_ 146 9 rfl
        have h160_ := iv_get hv144_ (k := 146) (j := 9) (l := 0) (u := 300) rfl
        have h161_ : a144_ 146 9 = a 146 9 := hf144_ 146 9 rfl
        exact hc83 y1 y2 y3 y4 y5 y6 r150_ r151_ a151_ (show (((40 - y6) * 1) + 0).toNat ≤ n from by omega) hv151_ hf153_ (show 0 ≤ y1 from by omega) (show y1 ≤ 39 from by omega) (show 0 - 1 ≤ y2 from by omega) (show y2 ≤ 39 from by omega) (show 0 ≤ y4 from by omega) (show y4 ≤ 2 from by omega) (show 0 ≤ y6 from by omega) (show y6 ≤ 39 from by omega) (show 0 ≤ r151_ from by omega) (show r151_ ≤ 2 from by omega) (show 1 ≤ a151_ 146 2 from by omega) (show a151_ 146 9 ≤ 299 from by omega) (OC_fr (OC_fr hi9 hf144_ rfl rfl (fun _ => rfl) (fun _ => rfl) (fun _ => rfl) (fun _ => rfl) (fun _ => rfl)) hf151_ rfl rfl (fun _ => rfl) (fun _ => rfl) (fun _ => rfl) (fun _ => rfl) (fun _ => rfl))
    ·
      refine jt_ite (fun c162_ => ?_) (fun c162_ => ?_)
      ·
        exact jt_rI ⟨hv, hf, rfl, hi9⟩
      ·
        refine jt_bI (sp_X12_sends E d (jd_le hd rfl) y1 y2 (-1) a b0 hv (show (0 ≤ y1 ∧ y1 ≤ 39) from by omega) (show (0 ≤ y2 ∧ y2 ≤ 39) from by omega) (show a 146 9 ≤ 299 from by omega)) (fun r163_ a163_ b163_ h163_ => ?_)
        obtain ⟨hv163_, hf163_, rfl, hq163_0, hq163_1, hq163_2⟩ := h163_
        have h164_ := iv_get hv163_ (k := 146) (j := 9) (l := 0) (u := 300) rfl
        have hf165_ : jfr jW_X12_ask a0 a163_ := jfr_tr hf hf163_ rfl
        exact jt_rI ⟨hv163_, hf165_, rfl, (OC_card hi9 hq163_0 (hf163_ 146 49 rfl) (fun c hc => hq163_2 c hc) (fun j => hf163_ 178 j rfl) (fun j => hf163_ 181 j rfl) (fun j => hf163_ 182 j rfl))⟩
  exact ⟨hc139, hc134, hc124, hc138, hc83, hc44⟩
theorem cp_X12_ask_33 (E : jxE) (d : Nat) (hd : Nat.ble 8 (d + 1) = true) (x1 : Int) (a0 b0 : Nat → Nat → Int) (hv0 : iv a0) (hp0 : WFW a0) (hp1 : OC a0) : ∀ (y1 y2 : Int) (a : Nat → Nat → Int), iv a → jfr jW_X12_ask a0 a → 0 ≤ y1 → y1 ≤ 39 → 0 - 1 ≤ y2 → y2 ≤ 0 - 1 → a 146 9 ≤ 299 → (OC a) → jt (jxX E d 251 33 [some (.inr (.inr (.inl 146))), some (.inl y1), some (.inl y2), none, none, none, none, none, none, none, none] [] (jxSH, a, b0)) (jQ_X12_ask x1 a0 b0) := by
  intro y1 y2 a hv hf hi0 hi1 hi2 hi3 hi4 hi5
  refine jt_eq (bq_X12_ask_33 E d y1 y2 a b0) ?_
  have h166_ := iv_get hv (k := 146) (j := 9) (l := 0) (u := 300) rfl
  exact (cp_X12_ask_44 E d hd x1 a0 b0 hv0 hp0 hp1 _).2.2.2.2.2 y1 y2 0 0 0 0 a (Nat.le_refl _) hv hf (show 0 ≤ y1 from by omega) (show y1 ≤ 39 from by omega) (show 0 - 1 ≤ y2 from by omega) (show y2 ≤ 39 from by omega) (show 0 ≤ 0 from by omega) (show 0 ≤ 2 from by omega) (show 0 ≤ 0 from by omega) (show 0 ≤ 40 from by omega) (show a 146 9 ≤ 299 from by omega) hi5
theorem sp_X12_ask (E : jxE) (d : Nat) (hd : Nat.ble 8 d = true) (x1 : Int) (a0 b0 : Nat → Nat → Int) (hv0 : iv a0) (hp0 : WFW a0) (hp1 : OC a0) : jt (jxC E d 251 [.inr (.inr (.inl 146)), .inl x1] (jxSH, a0, b0)) (jQ_X12_ask x1 a0 b0) := by
  obtain ⟨d, rfl⟩ := jd_succ hd
  refine jt_eq (bq_X12_ask E d x1 a0 b0) ?_
  refine jt_eI (eq_X12_isMember E d (jd_le hd rfl) x1 a0 b0) ?_
  have h167_ := f_X12_isMember_eq a0 b0 x1
  have h168_ := iv_get hv0 (k := 146) (j := 2) (l := 0) (u := 40) rfl
  have h169_ : jxw ((a0 146 2) - 1) = (a0 146 2) - 1 := jxw_id (by omega) (by omega)
  have h170_ := f_X12_in_eq a0 b0 x1 0 (jxw ((a0 146 2) - 1))
  refine jt_ite (fun c171_ => ?_) (fun c171_ => ?_)
  ·
    exact jt_rI ⟨hv0, (jfr_rf _ _), rfl, hp1⟩
  ·
    have h172_ := iv_get hv0 (k := 146) (j := 9) (l := 0) (u := 300) rfl
    refine jt_ite (fun c173_ => ?_) (fun c173_ => ?_)
    ·
      exact jt_rI ⟨hv0, (jfr_rf _ _), rfl, hp1⟩
    ·
      refine jt_bI (sp_X12_mayAsk E d (jd_le hd rfl) x1 a0 b0 hv0 (show (0 ≤ x1 ∧ x1 ≤ 39) from by omega)) (fun r174_ a174_ b174_ h174_ => ?_)
      obtain ⟨rfl, rfl, hq174_0⟩ := h174_
      refine jt_ite (fun c175_ => ?_) (fun c175_ => ?_)
      ·
        exact jt_rI ⟨hv0, (jfr_rf _ _), rfl, hp1⟩
      ·
        exact cp_X12_ask_33 E d hd x1 a0 b0 hv0 hp0 hp1 x1 (-1) a0 hv0 (jfr_rf _ _) (show 0 ≤ x1 from by omega) (show x1 ≤ 39 from by omega) (show 0 - 1 ≤ (-1) from by omega) (show (-1) ≤ 0 - 1 from by omega) (show a0 146 9 ≤ 299 from by omega) hp1
def jW_X12_away : List (Nat × Nat) := [(181, 9999)]
abbrev jQ_X12_away (x1 : Int) (a0 b0 : Nat → Nat → Int) : List jxV → (Nat → Nat → Int) → (Nat → Nat → Int) → Prop := rI (fun r a b => (iv a) ∧ (jfr jW_X12_away a0 a) ∧ (b0 = b) ∧ ((0 ≤ r ∧ r ≤ 1)) ∧ (OC a))
theorem cp_X12_away_32 (E : jxE) (d : Nat) (hd : Nat.ble 2 (d + 1) = true) (x1 : Int) (a0 b0 : Nat → Nat → Int) (hv0 : iv a0) (hp0 : OC a0) : ∀ (a : Nat → Nat → Int), iv a → jfr jW_X12_away a0 a → (OC a) → jt (jxX E d 263 32 [none, none] [] (jxSH, a, b0)) (jQ_X12_away x1 a0 b0) := by
  intro a hv hf hi0
  refine jt_eq (bq_X12_away_32 E d a b0) ?_
  exact jt_rI ⟨hv, hf, rfl, (show (0 ≤ 1 ∧ 1 ≤ 1) from by omega), hi0⟩
theorem sp_X12_away (E : jxE) (d : Nat) (hd : Nat.ble 2 d = true) (x1 : Int) (a0 b0 : Nat → Nat → Int) (hv0 : iv a0) (hp0 : OC a0) : jt (jxC E d 263 [.inr (.inr (.inl 146)), .inl x1] (jxSH, a0, b0)) (jQ_X12_away x1 a0 b0) := by
  obtain ⟨d, rfl⟩ := jd_succ hd
  refine jt_eq (bq_X12_away E d x1 a0 b0) ?_
  refine jt_eI (eq_X12_in E d (jd_le hd rfl) x1 0 (jxw ((a0 146 49) - 1)) a0 b0) ?_
  have h176_ := iv_get hv0 (k := 146) (j := 49) (l := 0) (u := 20) rfl
  have h177_ : jxw ((a0 146 49) - 1) = (a0 146 49) - 1 := jxw_id (by omega) (by omega)
  have h178_ := f_X12_in_eq a0 b0 x1 0 (jxw ((a0 146 49) - 1))
  refine jt_ite (fun c179_ => ?_) (fun c179_ => ?_)
  ·
    exact jt_rI ⟨hv0, (jfr_rf _ _), rfl, (show (0 ≤ 0 ∧ 0 ≤ 1) from by omega), hp0⟩
  ·
    refine jt_grd (by omega) ?_
    have h180_ := iv_get hv0 (k := 181) (j := x1.toNat) (l := 0) (u := 2) rfl
    refine jt_ite (fun c181_ => ?_) (fun c181_ => ?_)
    ·
      refine jt_grd (by omega) ?_
      have hv182_ : iv (jxu a0 181 (x1.toNat) 2) := iv_put hv0 (l := 0) (u := 2) rfl (by omega) (by omega)
      have hf183_ : jfr jW_X12_away a0 (jxu a0 181 (x1.toNat) 2) := jfr_put (jfr_rf _ _) rfl
      have hg184_ : OC (jxu a0 181 (x1.toNat) 2) := (OC_put2 hp0 (by decide) (by omega))
      exact cp_X12_away_32 E d hd x1 a0 b0 hv0 hp0 (jxu a0 181 (x1.toNat) 2) hv182_ hf183_ hg184_
    ·
      exact jt_rI ⟨hv0, (jfr_rf _ _), rfl, (show (0 ≤ 0 ∧ 0 ≤ 1) from by omega), hp0⟩
def jW_X12_drops : List (Nat × Nat) := [(153, 9999), (159, 9999), (181, 9999)]
abbrev jQ_X12_drops (x1 x2 : Int) (a0 b0 : Nat → Nat → Int) : List jxV → (Nat → Nat → Int) → (Nat → Nat → Int) → Prop := rI (fun r a b => (iv a) ∧ (jfr jW_X12_drops a0 a) ∧ (b0 = b) ∧ ((0 ≤ r ∧ r ≤ 1)) ∧ (OC a))
theorem cp_X12_drops_27 (E : jxE) (d : Nat) (hd : Nat.ble 4 (d + 1) = true) (x1 x2 : Int) (a0 b0 : Nat → Nat → Int) (hv0 : iv a0) (hp0 : (0 ≤ x2 ∧ x2 ≤ 19)) (hp1 : x2 < a0 146 49) (hp2 : a0 181 (x2.toNat) = 1) (hp3 : x1 = a0 182 (x2.toNat)) (hp4 : OC a0) : ∀ (a : Nat → Nat → Int), iv a → jfr jW_X12_drops a0 a → (OC a) → jt (jxX E d 277 27 [none, none, none, none] [] (jxSH, a, b0)) (jQ_X12_drops x1 x2 a0 b0) := by
  intro a hv hf hi0
  refine jt_eq (bq_X12_drops_27 E d a b0) ?_
  exact jt_rI ⟨hv, hf, rfl, (show (0 ≤ 0 ∧ 0 ≤ 1) from by omega), hi0⟩
theorem cp_X12_drops_68 (E : jxE) (d : Nat) (hd : Nat.ble 4 (d + 1) = true) (x1 x2 : Int) (a0 b0 : Nat → Nat → Int) (hv0 : iv a0) (hp0 : (0 ≤ x2 ∧ x2 ≤ 19)) (hp1 : x2 < a0 146 49) (hp2 : a0 181 (x2.toNat) = 1) (hp3 : x1 = a0 182 (x2.toNat)) (hp4 : OC a0) : ∀ (a : Nat → Nat → Int), iv a → jfr jW_X12_drops a0 a → (OC a) → jt (jxX E d 277 68 [none, none, none, none] [] (jxSH, a, b0)) (jQ_X12_drops x1 x2 a0 b0) := by
  intro a hv hf hi0
  refine jt_eq (bq_X12_drops_68 E d a b0) ?_
  exact jt_rI ⟨hv, hf, rfl, (show (0 ≤ 1 ∧ 1 ≤ 1) from by omega), hi0⟩
theorem cp_X12_drops_53 (E : jxE) (d : Nat) (hd : Nat.ble 4 (d + 1) = true) (x1 x2 : Int) (a0 b0 : Nat → Nat → Int) (hv0 : iv a0) (hp0 : (0 ≤ x2 ∧ x2 ≤ 19)) (hp1 : x2 < a0 146 49) (hp2 : a0 181 (x2.toNat) = 1) (hp3 : x1 = a0 182 (x2.toNat)) (hp4 : OC a0) : ∀ (y3 : Int) (a : Nat → Nat → Int), iv a → jfr jW_X12_drops a0 a → 0 ≤ y3 → y3 ≤ 299 → 0 ≤ y3 → (OC a) → jt (jxX E d 277 53 [some (.inr (.inr (.inl 146))), none, none, some (.inl y3)] [] (jxSH, a, b0)) (jQ_X12_drops x1 x2 a0 b0) := by
  intro y3 a hv hf hi0 hi1 hi2 hi3
  refine jt_eq (bq_X12_drops_53 E d y3 a b0) ?_
  refine jt_grd (by omega) ?_
  have h185_ := iv_get hv (k := 155) (j := y3.toNat) (l := 0) (u := 39) rfl
  have h186_ : a 155 (y3.toNat) = a0 155 (y3.toNat) := hf 155 (y3.toNat) rfl
  have h187_ := iv_get hv0 (k := 155) (j := y3.toNat) (l := 0) (u := 39) rfl
  refine jt_grd (by omega) ?_
  refine jt_grd (by omega) ?_
  have hv188_ : iv (jxu a 153 ((a 155 (y3.toNat)).toNat) (jxw ((a 153 ((a 155 (y3.toNat)).toNat)) + 1))) := iv_putf hv rfl
  have hf189_ : jfr jW_X12_drops a0 (jxu a 153 ((a 155 (y3.toNat)).toNat) (jxw ((a 153 ((a 155 (y3.toNat)).toNat)) + 1))) := jfr_put hf rfl
  have hg190_ : OC (jxu a 153 ((a 155 (y3.toNat)).toNat) (jxw ((a 153 ((a 155 (y3.toNat)).toNat)) + 1))) := (OC_fr hi3 (jfr_1 a 153 ((a 155 (y3.toNat)).toNat) (jxw ((a 153 ((a 155 (y3.toNat)).toNat)) + 1))) rfl rfl (fun _ => rfl) (fun _ => rfl) (fun _ => rfl) (fun _ => rfl) (fun _ => rfl))
  exact cp_X12_drops_68 E d hd x1 x2 a0 b0 hv0 hp0 hp1 hp2 hp3 hp4 (jxu a 153 ((a 155 (y3.toNat)).toNat) (jxw ((a 153 ((a 155 (y3.toNat)).toNat)) + 1))) hv188_ hf189_ hg190_
theorem cp_X12_drops_29 (E : jxE) (d : Nat) (hd : Nat.ble 4 (d + 1) = true) (x1 x2 : Int) (a0 b0 : Nat → Nat → Int) (hv0 : iv a0) (hp0 : (0 ≤ x2 ∧ x2 ≤ 19)) (hp1 : x2 < a0 146 49) (hp2 : a0 181 (x2.toNat) = 1) (hp3 : x1 = a0 182 (x2.toNat)) (hp4 : OC a0) : ∀ (y3 : Int) (a : Nat → Nat → Int), iv a → jfr jW_X12_drops a0 a → 0 - 1 ≤ y3 → y3 ≤ 299 → 0 ≤ y3 → (OC a) → jt (jxX E d 277 29 [some (.inr (.inr (.inl 146))), none, none, some (.inl y3)] [] (jxSH, a, b0)) (jQ_X12_drops x1 x2 a0 b0) := by
  intro y3 a hv hf hi0 hi1 hi2 hi3
  refine jt_eq (bq_X12_drops_29 E d y3 a b0) ?_
  refine jt_grd (by omega) ?_
  refine jt_grd (by omega) ?_
  have h191_ := iv_get hv (k := 155) (j := y3.toNat) (l := 0) (u := 39) rfl
  have h192_ : a 155 (y3.toNat) = a0 155 (y3.toNat) := hf 155 (y3.toNat) rfl
  have h193_ := iv_get hv0 (k := 155) (j := y3.toNat) (l := 0) (u := 39) rfl
  refine jt_grd (by omega) ?_
  have h194_ := iv_get hv (k := 152) (j := (a 155 (y3.toNat)).toNat) (l := 0) (u := 1) rfl
  have h195_ : a 152 ((a 155 (y3.toNat)).toNat) = a0 152 ((a 155 (y3.toNat)).toNat) := hf 152 ((a 155 (y3.toNat)).toNat) rfl
  have h196_ := iv_get hv0 (k := 152) (j := (a 155 (y3.toNat)).toNat) (l := 0) (u := 1) rfl
  refine jt_ite (fun c197_ => ?_) (fun c197_ => ?_)
  ·
    have hv198_ : iv (jxu a 159 (y3.toNat) (a 146 0)) := iv_putf hv rfl
    have hf199_ : jfr jW_X12_drops a0 (jxu a 159 (y3.toNat) (a 146 0)) := jfr_put hf rfl
    have hg200_ : OC (jxu a 159 (y3.toNat) (a 146 0)) := (OC_fr hi3 (jfr_1 a 159 (y3.toNat) (a 146 0)) rfl rfl (fun _ => rfl) (fun _ => rfl) (fun _ => rfl) (fun _ => rfl) (fun _ => rfl))
    exact cp_X12_drops_68 E d hd x1 x2 a0 b0 hv0 hp0 hp1 hp2 hp3 hp4 (jxu a 159 (y3.toNat) (a 146 0)) hv198_ hf199_ hg200_
  ·
    have hv201_ : iv (jxu a 159 (y3.toNat) (a 146 0)) := iv_putf hv rfl
    have hf202_ : jfr jW_X12_drops a0 (jxu a 159 (y3.toNat) (a 146 0)) := jfr_put hf rfl
    have hg203_ : OC (jxu a 159 (y3.toNat) (a 146 0)) := (OC_fr hi3 (jfr_1 a 159 (y3.toNat) (a 146 0)) rfl rfl (fun _ => rfl) (fun _ => rfl) (fun _ => rfl) (fun _ => rfl) (fun _ => rfl))
    exact cp_X12_drops_53 E d hd x1 x2 a0 b0 hv0 hp0 hp1 hp2 hp3 hp4 y3 (jxu a 159 (y3.toNat) (a 146 0)) hv201_ hf202_ (show 0 ≤ y3 from by omega) (show y3 ≤ 299 from by omega) (show 0 ≤ y3 from by omega) hg203_
theorem sp_X12_drops (E : jxE) (d : Nat) (hd : Nat.ble 4 d = true) (x1 x2 : Int) (a0 b0 : Nat → Nat → Int) (hv0 : iv a0) (hp0 : (0 ≤ x2 ∧ x2 ≤ 19)) (hp1 : x2 < a0 146 49) (hp2 : a0 181 (x2.toNat) = 1) (hp3 : x1 = a0 182 (x2.toNat)) (hp4 : OC a0) : jt (jxC E d 277 [.inr (.inr (.inl 146)), .inl x1, .inl x2] (jxSH, a0, b0)) (jQ_X12_drops x1 x2 a0 b0) := by
  obtain ⟨d, rfl⟩ := jd_succ hd
  refine jt_eq (bq_X12_drops E d x1 x2 a0 b0) ?_
  have h204_ := iv_get hv0 (k := 146) (j := 49) (l := 0) (u := 20) rfl
  have h205_ := iv_get hv0 (k := 181) (j := x2.toNat) (l := 0) (u := 2) rfl
  obtain ⟨oc, hoc1, hoc2, hoc3⟩ := hp4.1 x2.toNat (by omega) (by omega)
  refine jt_grd (by omega) ?_
  refine jt_bI (sp_X12_cardOf E d (jd_le hd rfl) x1 (a0 178 (x2.toNat)) a0 b0 hv0) (fun r206_ a206_ b206_ h206_ => ?_)
  obtain ⟨rfl, rfl, hq206_0, hq206_1, hq206_2, hq206_3⟩ := h206_
  have h207_ := iv_get hv0 (k := 146) (j := 9) (l := 0) (u := 300) rfl
  have hr206_ : 0 ≤ r206_ := hq206_3 ⟨oc, hoc1, (by omega), (by omega)⟩
  refine jt_grd (by omega) ?_
  have hv208_ : iv (jxu a0 181 (x2.toNat) 2) := iv_put hv0 (l := 0) (u := 2) rfl (by omega) (by omega)
  refine jt_bI (sp_X12_stateNow E d (jd_le hd rfl) r206_ (jxu a0 181 (x2.toNat) 2) b0 hv208_ (show (0 ≤ r206_ ∧ r206_ ≤ 299) from by omega)) (fun r209_ a209_ b209_ h209_ => ?_)
  obtain ⟨he209_, rfl, hq209_0, hq209_1⟩ := h209_
  have hv209_ : iv a209_ := he209_ ▸ hv208_
  have hf209_ : jfr [] (jxu a0 181 (x2.toNat) 2) a209_ := jfr_eq he209_
  have h210_ : 0 ≤ r209_ := hq209_0
  have h211_ : r209_ ≤ 4 := hq209_1
  refine jt_ite (fun c212_ => ?_) (fun c212_ => ?_)
  ·
    have hf213_ : jfr jW_X12_drops a0 (jxu a0 181 (x2.toNat) 2) := jfr_put (jfr_rf _ _) rfl
    have hf214_ : jfr jW_X12_drops a0 a209_ := jfr_tr hf213_ hf209_ rfl
    have hg215_ : OC (jxu a0 181 (x2.toNat) 2) := (OC_put2 hp4 (by decide) (by omega))
    exact cp_X12_drops_29 E d hd x1 x2 a0 b0 hv0 hp0 hp1 hp2 hp3 hp4 r206_ a209_ hv209_ hf214_ (show 0 - 1 ≤ r206_ from by omega) (show r206_ ≤ 299 from by omega) (show 0 ≤ r206_ from by omega) (OC_fr hg215_ hf209_ rfl rfl (fun _ => rfl) (fun _ => rfl) (fun _ => rfl) (fun _ => rfl) (fun _ => rfl))
  ·
    have hf216_ : jfr jW_X12_drops a0 (jxu a0 181 (x2.toNat) 2) := jfr_put (jfr_rf _ _) rfl
    have hf217_ : jfr jW_X12_drops a0 a209_ := jfr_tr hf216_ hf209_ rfl
    have hg218_ : OC (jxu a0 181 (x2.toNat) 2) := (OC_put2 hp4 (by decide) (by omega))
    exact cp_X12_drops_27 E d hd x1 x2 a0 b0 hv0 hp0 hp1 hp2 hp3 hp4 a209_ hv209_ hf217_ (OC_fr hg218_ hf209_ rfl rfl (fun _ => rfl) (fun _ => rfl) (fun _ => rfl) (fun _ => rfl) (fun _ => rfl))
def jW_X12_drop : List (Nat × Nat) := [(153, 9999), (159, 9999), (181, 9999)]
abbrev jQ_X12_drop (x1 x2 : Int) (a0 b0 : Nat → Nat → Int) : List jxV → (Nat → Nat → Int) → (Nat → Nat → Int) → Prop := rI (fun r a b => (iv a) ∧ (jfr jW_X12_drop a0 a) ∧ (b0 = b) ∧ (OC a))
theorem cp_X12_drop_31 (E : jxE) (d : Nat) (hd : Nat.ble 5 (d + 1) = true) (x1 x2 : Int) (a0 b0 : Nat → Nat → Int) (hv0 : iv a0) (hp0 : OC a0) : ∀ (y1 y3 : Int) (a : Nat → Nat → Int), iv a → jfr jW_X12_drop a0 a → 0 ≤ y1 → 0 - 1 ≤ y3 → y3 ≤ 19 → (0 ≤ y3 → (a 181 (y3.toNat) = 1 ∧ a 182 (y3.toNat) = y1)) → y3 < a 146 49 → (OC a) → jt (jxX E d 278 31 [some (.inr (.inr (.inl 146))), some (.inl y1), none, some (.inl y3)] [] (jxSH, a, b0)) (jQ_X12_drop x1 x2 a0 b0) := by
  intro y1 y3 a hv hf hi0 hi1 hi2 hi3 hi4 hi5
  refine jt_eq (bq_X12_drop_31 E d y1 y3 a b0) ?_
  have h219_ := iv_get hv (k := 181) (j := y3.toNat) (l := 0) (u := 2) rfl
  have h220_ : a 182 (y3.toNat) = a0 182 (y3.toNat) := hf 182 (y3.toNat) rfl
  have h221_ := iv_get hv (k := 146) (j := 49) (l := 0) (u := 20) rfl
  have h222_ : a 146 49 = a0 146 49 := hf 146 49 rfl
  have h223_ := iv_get hv0 (k := 146) (j := 49) (l := 0) (u := 20) rfl
  refine jt_ite (fun c224_ => ?_) (fun c224_ => ?_)
  ·
    exact jt_rI ⟨hv, hf, rfl, hi5⟩
  ·
    refine jt_bI (sp_X12_drops E d (jd_le hd rfl) y1 y3 a b0 hv (show (0 ≤ y3 ∧ y3 ≤ 19) from by omega) (show y3 < a 146 49 from by omega) (show a 181 (y3.toNat) = 1 from by omega) (show y1 = a 182 (y3.toNat) from by omega) hi5) (fun r225_ a225_ b225_ h225_ => ?_)
    obtain ⟨hv225_, hf225_, rfl, hq225_0, hq225_1⟩ := h225_
    have hf226_ : jfr jW_X12_drop a0 a225_ := jfr_tr hf hf225_ rfl
    exact jt_rI ⟨hv225_, hf226_, rfl, hq225_1⟩
theorem sp_X12_drop (E : jxE) (d : Nat) (hd : Nat.ble 5 d = true) (x1 x2 : Int) (a0 b0 : Nat → Nat → Int) (hv0 : iv a0) (hp0 : OC a0) : jt (jxC E d 278 [.inr (.inr (.inl 146)), .inl x1, .inl x2] (jxSH, a0, b0)) (jQ_X12_drop x1 x2 a0 b0) := by
  obtain ⟨d, rfl⟩ := jd_succ hd
  refine jt_eq (bq_X12_drop E d x1 x2 a0 b0) ?_
  refine jt_eI (eq_X12_in E d (jd_le hd rfl) x1 0 (jxw ((a0 146 55) - 1)) a0 b0) ?_
  have h227_ := jxw_im ((a0 146 55) - 1)
  have h228_ := jxw_rg ((a0 146 55) - 1)
  have h229_ := f_X12_in_eq a0 b0 x1 0 (jxw ((a0 146 55) - 1))
  refine jt_ite (fun c230_ => ?_) (fun c230_ => ?_)
  ·
    exact jt_rI ⟨hv0, (jfr_rf _ _), rfl, hp0⟩
  ·
    refine jt_eI (eq_X12_isMember E d (jd_le hd rfl) x2 a0 b0) ?_
    have h231_ := f_X12_isMember_eq a0 b0 x2
    have h232_ := iv_get hv0 (k := 146) (j := 2) (l := 0) (u := 40) rfl
    have h233_ : jxw ((a0 146 2) - 1) = (a0 146 2) - 1 := jxw_id (by omega) (by omega)
    have h234_ := f_X12_in_eq a0 b0 x2 0 (jxw ((a0 146 2) - 1))
    refine jt_ite (fun c235_ => ?_) (fun c235_ => ?_)
    ·
      exact jt_rI ⟨hv0, (jfr_rf _ _), rfl, hp0⟩
    ·
      refine jt_bI (sp_X12_offerIn E d (jd_le hd rfl) x1 x2 a0 b0 hv0) (fun r236_ a236_ b236_ h236_ => ?_)
      obtain ⟨rfl, rfl, hq236_0, hq236_1, hq236_2, hq236_3⟩ := h236_
      have h237_ := iv_get hv0 (k := 146) (j := 49) (l := 0) (u := 20) rfl
      have h238_ := iv_get hv0 (k := 181) (j := r236_.toNat) (l := 0) (u := 2) rfl
      exact cp_X12_drop_31 E d hd x1 x2 a0 b0 hv0 hp0 x1 r236_ a0 hv0 (jfr_rf _ _) (show 0 ≤ x1 from by omega) (show 0 - 1 ≤ r236_ from by omega) (show r236_ ≤ 19 from by omega) (show (0 ≤ r236_ → (a0 181 (r236_.toNat) = 1 ∧ a0 182 (r236_.toNat) = x1)) from by omega) (show r236_ < a0 146 49 from by omega) hp0
abbrev jQ_X12_leastOf (x0 : Int) (a0 b0 : Nat → Nat → Int) : List jxV → (Nat → Nat → Int) → (Nat → Nat → Int) → Prop := rI (fun r a b => (a0 = a) ∧ (b0 = b) ∧ (0 ≤ r) ∧ (r ≤ 11) ∧ (¬ jxand (jxshr x0 r) 1 = 0))
theorem cp_X12_leastOf_2 (E : jxE) (d : Nat) (hd : Nat.ble 1 (d + 1) = true) (x0 : Int) (a0 b0 : Nat → Nat → Int) (hv0 : iv a0) (hp0 : 1 ≤ x0) (hp1 : x0 ≤ 4095) : ∀ n : Nat, (∀ (y0 y1 : Int), (((11 - y1) * 1) + 0).toNat ≤ n → 1 ≤ y0 → y0 ≤ 4095 → (y0 = x0) → 0 ≤ y1 → y1 ≤ 11 → (¬ jxshr x0 y1 = 0) → jt (jxX E d 269 2 [some (.inl y0), some (.inl y1)] [] (jxSH, a0, b0)) (jQ_X12_leastOf x0 a0 b0)) := by
  refine jx_ind fun n ih => ?_
  have ih2 : ∀ (y0 y1 : Int), (((11 - y1) * 1) + 0).toNat < n → 1 ≤ y0 → y0 ≤ 4095 → (y0 = x0) → 0 ≤ y1 → y1 ≤ 11 → (¬ jxshr x0 y1 = 0) → jt (jxX E d 269 2 [some (.inl y0), some (.inl y1)] [] (jxSH, a0, b0)) (jQ_X12_leastOf x0 a0 b0) := fun y0 y1 hlt i0 i1 i2 i3 i4 i5 => (ih _ hlt) y0 y1 (Nat.le_refl _) i0 i1 i2 i3 i4 i5
  have hc2 : ∀ (y0 y1 : Int), (((11 - y1) * 1) + 0).toNat ≤ n → 1 ≤ y0 → y0 ≤ 4095 → (y0 = x0) → 0 ≤ y1 → y1 ≤ 11 → (¬ jxshr x0 y1 = 0) → jt (jxX E d 269 2 [some (.inl y0), some (.inl y1)] [] (jxSH, a0, b0)) (jQ_X12_leastOf x0 a0 b0) := by
    intro y0 y1 hm hi0 hi1 hy0 hi3 hi4 hi5
    refine jt_eq (bq_X12_leastOf_2 E d y0 y1 a0 b0) ?_
    have hls : jxand (jxshr y0 y1) 1 = 0 → y1 + 1 ≤ 11 ∧ ¬ jxshr x0 (y1 + 1) = 0 := fun h => by rw [hy0] at h; exact least_step (by omega) (by omega) (by omega) (by omega) (by assumption) h
    have h239_ := jxshr_b y0 y1
    have h240_ := jxand_r (jxshr y0 y1) 1 (by decide) (by decide)
    refine jt_ite (fun c241_ => ?_) (fun c241_ => ?_)
    ·
      have h242_ : jxw (y1 + 1) = y1 + 1 := jxw_id (by omega) (by omega)
      exact ih2 y0 (jxw (y1 + 1)) (show (((11 - (jxw (y1 + 1))) * 1) + 0).toNat < n from by omega) (show 1 ≤ y0 from by omega) (show y0 ≤ 4095 from by omega) (by first | rfl | assumption) (show 0 ≤ jxw (y1 + 1) from by omega) (show jxw (y1 + 1) ≤ 11 from by omega) (by first | exact least0 hp0 hp1 | (rw [jxw_id (by omega) (by omega)]; exact (hls (by assumption)).2))
    ·
      exact jt_rI ⟨rfl, rfl, (show 0 ≤ y1 from by omega), (show y1 ≤ 11 from by omega), (by rw [← hy0]; assumption)⟩
  exact hc2
theorem sp_X12_leastOf (E : jxE) (d : Nat) (hd : Nat.ble 1 d = true) (x0 : Int) (a0 b0 : Nat → Nat → Int) (hv0 : iv a0) (hp0 : 1 ≤ x0) (hp1 : x0 ≤ 4095) : jt (jxC E d 269 [.inl x0] (jxSH, a0, b0)) (jQ_X12_leastOf x0 a0 b0) := by
  obtain ⟨d, rfl⟩ := jd_succ hd
  refine jt_eq (bq_X12_leastOf E d x0 a0 b0) ?_
  exact (cp_X12_leastOf_2 E d hd x0 a0 b0 hv0 hp0 hp1 _) x0 0 (Nat.le_refl _) (show 1 ≤ x0 from by omega) (show x0 ≤ 4095 from by omega) (by first | rfl | assumption) (show 0 ≤ 0 from by omega) (show 0 ≤ 11 from by omega) (by first | exact least0 hp0 hp1 | (rw [jxw_id (by omega) (by omega)]; exact (hls (by assumption)).2))
def jW_X12_weighs : List (Nat × Nat) := [(146, 44), (170, 9999), (174, 9999)]
abbrev jQ_X12_weighs (a0 b0 : Nat → Nat → Int) : List jxV → (Nat → Nat → Int) → (Nat → Nat → Int) → Prop := rV (fun a b => (iv a) ∧ (jfr jW_X12_weighs a0 a) ∧ (a 146 44 ≤ a 146 42))
theorem cp_X12_weighs_64 (E : jxE) (d : Nat) (hd : Nat.ble 8 (d + 1) = true) (a0 b0 : Nat → Nat → Int) (hv0 : iv a0) (hp0 : WFW a0) : ∀ n : Nat, (∀ (y1 y2 : Int) (a b : Nat → Nat → Int), (((((8 - y1) * 43) + 0) + ((40 - y2) * 1)) + 0).toNat ≤ n → iv a → jfr jW_X12_weighs a0 a → 0 ≤ y1 → y1 ≤ 7 → 0 ≤ y2 → y2 ≤ 39 → 1 ≤ a 146 2 → 1 ≤ a 146 44 → a 146 44 ≤ a 146 42 → jt (jxX E d 254 142 [some (.inr (.inr (.inl 146))), some (.inl y1), some (.inl y2), none] [] (jxSH, a, b)) (jQ_X12_weighs a0 b0)) ∧ (∀ (y1 y2 : Int) (a b : Nat → Nat → Int), (((((8 - y1) * 43) + 0) + ((40 - y2) * 1)) + 0).toNat ≤ n → iv a → jfr jW_X12_weighs a0 a → 0 ≤ y1 → y1 ≤ 7 → 0 ≤ y2 → y2 ≤ 40 → 1 ≤ a 146 44 → a 146 44 ≤ a 146 42 → jt (jxX E d 254 74 [some (.inr (.inr (.inl 146))), some (.inl y1), some (.inl y2), none] [] (jxSH, a, b)) (jQ_X12_weighs a0 b0)) ∧ (∀ (y1 : Int) (a b : Nat → Nat → Int), (((8 - y1) * 43) + 42).toNat ≤ n → iv a → jfr jW_X12_weighs a0 a → 0 ≤ y1 → y1 ≤ 8 → a 146 44 ≤ a 146 42 → jt (jxX E d 254 64 [some (.inr (.inr (.inl 146))), some (.inl y1), none, none] [] (jxSH, a, b)) (jQ_X12_weighs a0 b0)) := by
  refine jx_ind fun n ih => ?_
  have ih142 : ∀ (y1 y2 : Int) (a b : Nat → Nat → Int), (((((8 - y1) * 43) + 0) + ((40 - y2) * 1)) + 0).toNat < n → iv a → jfr jW_X12_weighs a0 a → 0 ≤ y1 → y1 ≤ 7 → 0 ≤ y2 → y2 ≤ 39 → 1 ≤ a 146 2 → 1 ≤ a 146 44 → a 146 44 ≤ a 146 42 → jt (jxX E d 254 142 [some (.inr (.inr (.inl 146))), some (.inl y1), some (.inl y2), none] [] (jxSH, a, b)) (jQ_X12_weighs a0 b0) := fun y1 y2 a b hlt i0 i1 i2 i3 i4 i5 i6 i7 i8 => (ih _ hlt).1 y1 y2 a b (Nat.le_refl _) i0 i1 i2 i3 i4 i5 i6 i7 i8
  have ih74 : ∀ (y1 y2 : Int) (a b : Nat → Nat → Int), (((((8 - y1) * 43) + 0) + ((40 - y2) * 1)) + 0).toNat < n → iv a → jfr jW_X12_weighs a0 a → 0 ≤ y1 → y1 ≤ 7 → 0 ≤ y2 → y2 ≤ 40 → 1 ≤ a 146 44 → a 146 44 ≤ a 146 42 → jt (jxX E d 254 74 [some (.inr (.inr (.inl 146))), some (.inl y1), some (.inl y2), none] [] (jxSH, a, b)) (jQ_X12_weighs a0 b0) := fun y1 y2 a b hlt i0 i1 i2 i3 i4 i5 i6 i7 => (ih _ hlt).2.1 y1 y2 a b (Nat.le_refl _) i0 i1 i2 i3 i4 i5 i6 i7
  have ih64 : ∀ (y1 : Int) (a b : Nat → Nat → Int), (((8 - y1) * 43) + 42).toNat < n → iv a → jfr jW_X12_weighs a0 a → 0 ≤ y1 → y1 ≤ 8 → a 146 44 ≤ a 146 42 → jt (jxX E d 254 64 [some (.inr (.inr (.inl 146))), some (.inl y1), none, none] [] (jxSH, a, b)) (jQ_X12_weighs a0 b0) := fun y1 a b hlt i0 i1 i2 i3 i4 => (ih _ hlt).2.2 y1 a b (Nat.le_refl _) i0 i1 i2 i3 i4
  have hc142 : ∀ (y1 y2 : Int) (a b : Nat → Nat → Int), (((((8 - y1) * 43) + 0) + ((40 - y2) * 1)) + 0).toNat ≤ n → iv a → jfr jW_X12_weighs a0 a → 0 ≤ y1 → y1 ≤ 7 → 0 ≤ y2 → y2 ≤ 39 → 1 ≤ a 146 2 → 1 ≤ a 146 44 → a 146 44 ≤ a 146 42 → jt (jxX E d 254 142 [some (.inr (.inr (.inl 146))), some (.inl y1), some (.inl y2), none] [] (jxSH, a, b)) (jQ_X12_weighs a0 b0) := by
    intro y1 y2 a b hm hv hf hi0 hi1 hi2 hi3 hi4 hi5 hi6
    refine jt_eq (bq_X12_weighs_142 E d y1 y2 a b) ?_
    have h243_ := iv_get hv (k := 146) (j := 2) (l := 0) (u := 40) rfl
    have h244_ : a 146 2 = a0 146 2 := hf 146 2 rfl
    have h245_ := iv_get hv0 (k := 146) (j := 2) (l := 0) (u := 40) rfl
    have h246_ := iv_get hv (k := 146) (j := 44) (l := 0) (u := 8) rfl
    have h247_ := iv_get hv (k := 146) (j := 42) (l := 0) (u := 8) rfl
    have h248_ : a 146 42 = a0 146 42 := hf 146 42 rfl
    have h249_ := iv_get hv0 (k := 146) (j := 42) (l := 0) (u := 8) rfl
    have h250_ : jxw (y2 + 1) = y2 + 1 := jxw_id (by omega) (by omega)
    exact ih74 y1 (jxw (y2 + 1)) a b (show (((((8 - y1) * 43) + 0) + ((40 - (jxw (y2 + 1))) * 1)) + 0).toNat < n from by omega) hv hf (show 0 ≤ y1 from by omega) (show y1 ≤ 7 from by omega) (show 0 ≤ jxw (y2 + 1) from by omega) (show jxw (y2 + 1) ≤ 40 from by omega) (show 1 ≤ a 146 44 from by omega) (show a 146 44 ≤ a 146 42 from by omega)
  have hc74 : ∀ (y1 y2 : Int) (a b : Nat → Nat → Int), (((((8 - y1) * 43) + 0) + ((40 - y2) * 1)) + 0).toNat ≤ n → iv a → jfr jW_X12_weighs a0 a → 0 ≤ y1 → y1 ≤ 7 → 0 ≤ y2 → y2 ≤ 40 → 1 ≤ a 146 44 → a 146 44 ≤ a 146 42 → jt (jxX E d 254 74 [some (.inr (.inr (.inl 146))), some (.inl y1), some (.inl y2), none] [] (jxSH, a, b)) (jQ_X12_weighs a0 b0) := by
    intro y1 y2 a b hm hv hf hi0 hi1 hi2 hi3 hi4 hi5
    refine jt_eq (bq_X12_weighs_74 E d y1 y2 a b) ?_
    have h251_ := iv_get hv (k := 146) (j := 44) (l := 0) (u := 8) rfl
    have h252_ := iv_get hv (k := 146) (j := 42) (l := 0) (u := 8) rfl
    have h253_ : a 146 42 = a0 146 42 := hf 146 42 rfl
    have h254_ := iv_get hv0 (k := 146) (j := 42) (l := 0) (u := 8) rfl
    have h255_ := iv_get hv (k := 146) (j := 2) (l := 0) (u := 40) rfl
    have h256_ : a 146 2 = a0 146 2 := hf 146 2 rfl
    have h257_ := iv_get hv0 (k := 146) (j := 2) (l := 0) (u := 40) rfl
    refine jt_ite (fun c258_ => ?_) (fun c258_ => ?_)
    ·
      refine jt_grd (by omega) ?_
      have h259_ := iv_get hv (k := 174) (j := y1.toNat) (l := 0) (u := 39) rfl
      refine jt_bI (sp_X12_mayGet E d (jd_le hd rfl) (a 174 (y1.toNat)) y2 a b hv (show (0 ≤ a 174 (y1.toNat) ∧ a 174 (y1.toNat) ≤ 39) from by omega) (show (0 ≤ y2 ∧ y2 ≤ 39) from by omega) (WFW_fr hp0 hf (fun _ => rfl) (fun _ => rfl))) (fun r260_ a260_ b260_ h260_ => ?_)
      obtain ⟨hv260_, hf260_, rfl, hq260_0⟩ := h260_
      refine jt_ite (fun c261_ => ?_) (fun c261_ => ?_)
      ·
        have h262_ : jxw (40 * y1) = 40 * y1 := jxw_id (by omega) (by omega)
        have h263_ : jxw ((jxw (40 * y1)) + y2) = (jxw (40 * y1)) + y2 := jxw_id (by omega) (by omega)
        refine jt_grd (by omega) ?_
        have hf264_ : jfr jW_X12_weighs a0 a260_ := jfr_tr hf hf260_ rfl
        have h265_ := iv_get hv260_ (k := 146) (j := 2) (l := 0) (u := 40) rfl
        have h266_ : a260_ 146 2 = a 146 2 := hf260_ 146 2 rfl
        have h267_ := iv_get hv260_ (k := 146) (j := 44) (l := 0) (u := 8) rfl
        have h268_ : a260_ 146 44 = a 146 44 := hf260_ 146 44 rfl
        have h269_ := iv_get hv260_ (k := 146) (j := 42) (l := 0) (u := 8) rfl
        have h270_ : a260_ 146 42 = a 146 42 := hf260_ 146 42 rfl
        exact hc142 y1 y2 a260_ (jxu b 175 ((jxw ((jxw (40 * y1)) + y2)).toNat) (-4000000000000000000)) (show (((((8 - y1) * 43) + 0) + ((40 - y2) * 1)) + 0).toNat ≤ n from by omega) hv260_ hf264_ (show 0 ≤ y1 from by omega) (show y1 ≤ 7 from by omega) (show 0 ≤ y2 from by omega) (show y2 ≤ 39 from by omega) (show 1 ≤ a260_ 146 2 from by omega) (show 1 ≤ a260_ 146 44 from by omega) (show a260_ 146 44 ≤ a260_ 146 42 from by omega)
      ·
        refine jt_grd (by omega) ?_
        have h271_ := iv_get hv260_ (k := 174) (j := y1.toNat) (l := 0) (u := 39) rfl
        have h272_ : a260_ 174 (y1.toNat) = a 174 (y1.toNat) := hf260_ 174 (y1.toNat) rfl
        refine jt_bI (sp_X12_unhappy E d (jd_le hd rfl) (a260_ 174 (y1.toNat)) y2 a260_ b hv260_ (show (0 ≤ a260_ 174 (y1.toNat) ∧ a260_ 174 (y1.toNat) ≤ 39) from by omega) (show (0 ≤ y2 ∧ y2 ≤ 39) from by omega) (WFW_fr (WFW_fr hp0 hf (fun _ => rfl) (fun _ => rfl)) hf260_ (fun _ => rfl) (fun _ => rfl))) (fun r273_ a273_ b273_ h273_ => ?_)
        obtain ⟨hv273_, hf273_, rfl, hq273_0, hq273_1⟩ := h273_
        refine jt_bI (sp_X12_owed E d (jd_le hd rfl) y2 a273_ b hv273_ (show (0 ≤ y2 ∧ y2 ≤ 39) from by omega)) (fun r274_ a274_ b274_ h274_ => ?_)
        obtain ⟨rfl, rfl⟩ := h274_
        have h275_ : jxw (40 * y1) = 40 * y1 := jxw_id (by omega) (by omega)
        have h276_ : jxw ((jxw (40 * y1)) + y2) = (jxw (40 * y1)) + y2 := jxw_id (by omega) (by omega)
        refine jt_grd (by omega) ?_
        have hf277_ : jfr jW_X12_weighs a0 a260_ := jfr_tr hf hf260_ rfl
        have hf278_ : jfr jW_X12_weighs a0 a273_ := jfr_tr hf277_ hf273_ rfl
        have h279_ := iv_get hv273_ (k := 146) (j := 2) (l := 0) (u := 40) rfl
        have h280_ : a273_ 146 2 = a260_ 146 2 := hf273_ 146 2 rfl
        have h281_ := iv_get hv260_ (k := 146) (j := 2) (l := 0) (u := 40) rfl
        have h282_ : a260_ 146 2 = a 146 2 := hf260_ 146 2 rfl
        have h283_ := iv_get hv273_ (k := 146) (j := 44) (l := 0) (u := 8) rfl
        have h284_ : a273_ 146 44 = a260_ 146 44 := hf273_ 146 44 rfl
        have h285_ := iv_get hv260_ (k := 146) (j := 44) (l := 0) (u := 8) rfl
        have h286_ : a260_ 146 44 = a 146 44 := hf260_ 146 44 rfl
        have h287_ := iv_get hv273_ (k := 146) (j := 42) (l := 0) (u := 8) rfl
        have h288_ : a273_ 146 42 = a260_ 146 42 := hf273_ 146 42 rfl
        have h289_ := iv_get hv260_ (k := 146) (j := 42) (l := 0) (u := 8) rfl
        have h290_ : a260_ 146 42 = a 146 42 := hf260_ 146 42 rfl
        exact hc142 y1 y2 a273_ (jxu b 175 ((jxw ((jxw (40 * y1)) + y2)).toNat) (jxwl ((jxwl (1000000000 - (jxwl (1000000 * r273_)))) + r274_))) (show (((((8 - y1) * 43) + 0) + ((40 - y2) * 1)) + 0).toNat ≤ n from by omega) hv273_ hf278_ (show 0 ≤ y1 from by omega) (show y1 ≤ 7 from by omega) (show 0 ≤ y2 from by omega) (show y2 ≤ 39 from by omega) (show 1 ≤ a273_ 146 2 from by omega) (show 1 ≤ a273_ 146 44 from by omega) (show a273_ 146 44 ≤ a273_ 146 42 from by omega)
    ·
      have h291_ : jxw (y1 + 1) = y1 + 1 := jxw_id (by omega) (by omega)
      exact ih64 (jxw (y1 + 1)) a b (show (((8 - (jxw (y1 + 1))) * 43) + 42).toNat < n from by omega) hv hf (show 0 ≤ jxw (y1 + 1) from by omega) (show jxw (y1 + 1) ≤ 8 from by omega) (show a 146 44 ≤ a 146 42 from by omega)
  have hc64 : ∀ (y1 : Int) (a b : Nat → Nat → Int), (((8 - y1) * 43) + 42).toNat ≤ n → iv a → jfr jW_X12_weighs a0 a → 0 ≤ y1 → y1 ≤ 8 → a 146 44 ≤ a 146 42 → jt (jxX E d 254 64 [some (.inr (.inr (.inl 146))), some (.inl y1), none, none] [] (jxSH, a, b)) (jQ_X12_weighs a0 b0) := by
    intro y1 a b hm hv hf hi0 hi1 hi2
    refine jt_eq (bq_X12_weighs_64 E d y1 a b) ?_
    have h292_ := iv_get hv (k := 146) (j := 44) (l := 0) (u := 8) rfl
    have h293_ := iv_get hv (k := 146) (j := 42) (l := 0) (u := 8) rfl
    have h294_ : a 146 42 = a0 146 42 := hf 146 42 rfl
    have h295_ := iv_get hv0 (k := 146) (j := 42) (l := 0) (u := 8) rfl
    refine jt_ite (fun c296_ => ?_) (fun c296_ => ?_)
    ·
      exact hc74 y1 0 a b (show (((((8 - y1) * 43) + 0) + ((40 - 0) * 1)) + 0).toNat ≤ n from by omega) hv hf (show 0 ≤ y1 from by omega) (show y1 ≤ 7 from by omega) (show 0 ≤ 0 from by omega) (show 0 ≤ 40 from by omega) (show 1 ≤ a 146 44 from by omega) (show a 146 44 ≤ a 146 42 from by omega)
    ·
      exact jt_rV ⟨hv, hf, (show a 146 44 ≤ a 146 42 from by omega)⟩
  exact ⟨hc142, hc74, hc64⟩
theorem cp_X12_weighs_7 (E : jxE) (d : Nat) (hd : Nat.ble 8 (d + 1) = true) (a0 b0 : Nat → Nat → Int) (hv0 : iv a0) (hp0 : WFW a0) : ∀ n : Nat, (∀ (y1 : Int) (a b : Nat → Nat → Int), (((8 - y1) * 1) + 0).toNat ≤ n → iv a → jfr jW_X12_weighs a0 a → 0 ≤ y1 → y1 ≤ 7 → 1 ≤ a 146 42 → a 146 44 ≤ 7 → a 146 44 ≤ y1 → y1 < a 146 42 → a 146 44 ≤ a 146 42 → jt (jxX E d 254 46 [some (.inr (.inr (.inl 146))), some (.inl y1), none, none] [] (jxSH, a, b)) (jQ_X12_weighs a0 b0)) ∧ (∀ (y1 : Int) (a b : Nat → Nat → Int), (((8 - y1) * 1) + 0).toNat ≤ n → iv a → jfr jW_X12_weighs a0 a → 0 ≤ y1 → y1 ≤ 8 → a 146 44 ≤ y1 → a 146 44 ≤ a 146 42 → jt (jxX E d 254 7 [some (.inr (.inr (.inl 146))), some (.inl y1), none, none] [] (jxSH, a, b)) (jQ_X12_weighs a0 b0)) := by
  refine jx_ind fun n ih => ?_
  have ih46 : ∀ (y1 : Int) (a b : Nat → Nat → Int), (((8 - y1) * 1) + 0).toNat < n → iv a → jfr jW_X12_weighs a0 a → 0 ≤ y1 → y1 ≤ 7 → 1 ≤ a 146 42 → a 146 44 ≤ 7 → a 146 44 ≤ y1 → y1 < a 146 42 → a 146 44 ≤ a 146 42 → jt (jxX E d 254 46 [some (.inr (.inr (.inl 146))), some (.inl y1), none, none] [] (jxSH, a, b)) (jQ_X12_weighs a0 b0) := fun y1 a b hlt i0 i1 i2 i3 i4 i5 i6 i7 i8 => (ih _ hlt).1 y1 a b (Nat.le_refl _) i0 i1 i2 i3 i4 i5 i6 i7 i8
  have ih7 : ∀ (y1 : Int) (a b : Nat → Nat → Int), (((8 - y1) * 1) + 0).toNat < n → iv a → jfr jW_X12_weighs a0 a → 0 ≤ y1 → y1 ≤ 8 → a 146 44 ≤ y1 → a 146 44 ≤ a 146 42 → jt (jxX E d 254 7 [some (.inr (.inr (.inl 146))), some (.inl y1), none, none] [] (jxSH, a, b)) (jQ_X12_weighs a0 b0) := fun y1 a b hlt i0 i1 i2 i3 i4 i5 => (ih _ hlt).2 y1 a b (Nat.le_refl _) i0 i1 i2 i3 i4 i5
  have hc46 : ∀ (y1 : Int) (a b : Nat → Nat → Int), (((8 - y1) * 1) + 0).toNat ≤ n → iv a → jfr jW_X12_weighs a0 a → 0 ≤ y1 → y1 ≤ 7 → 1 ≤ a 146 42 → a 146 44 ≤ 7 → a 146 44 ≤ y1 → y1 < a 146 42 → a 146 44 ≤ a 146 42 → jt (jxX E d 254 46 [some (.inr (.inr (.inl 146))), some (.inl y1), none, none] [] (jxSH, a, b)) (jQ_X12_weighs a0 b0) := by
    intro y1 a b hm hv hf hi0 hi1 hi2 hi3 hi4 hi5 hi6
    refine jt_eq (bq_X12_weighs_46 E d y1 a b) ?_
    have h297_ := iv_get hv (k := 146) (j := 42) (l := 0) (u := 8) rfl
    have h298_ : a 146 42 = a0 146 42 := hf 146 42 rfl
    have h299_ := iv_get hv0 (k := 146) (j := 42) (l := 0) (u := 8) rfl
    have h300_ := iv_get hv (k := 146) (j := 44) (l := 0) (u := 8) rfl
    have h302_ : jxw ((a 146 44) + 1) = (a 146 44) + 1 := jxw_id (by omega) (by omega)
    have hv301_ : iv (jxu a 146 44 (jxw ((a 146 44) + 1))) := iv_put hv (l := 0) (u := 8) rfl (by omega) (by omega)
    have hf303_ : jfr jW_X12_weighs a0 (jxu a 146 44 (jxw ((a 146 44) + 1))) := jfr_put hf rfl
    have h304_ : jxw (y1 + 1) = y1 + 1 := jxw_id (by omega) (by omega)
    exact ih7 (jxw (y1 + 1)) (jxu a 146 44 (jxw ((a 146 44) + 1))) b (show (((8 - (jxw (y1 + 1))) * 1) + 0).toNat < n from by omega) hv301_ hf303_ (show 0 ≤ jxw (y1 + 1) from by omega) (show jxw (y1 + 1) ≤ 8 from by omega) (show jxw ((a 146 44) + 1) ≤ jxw (y1 + 1) from by omega) (show jxw ((a 146 44) + 1) ≤ a 146 42 from by omega)
  have hc7 : ∀ (y1 : Int) (a b : Nat → Nat → Int), (((8 - y1) * 1) + 0).toNat ≤ n → iv a → jfr jW_X12_weighs a0 a → 0 ≤ y1 → y1 ≤ 8 → a 146 44 ≤ y1 → a 146 44 ≤ a 146 42 → jt (jxX E d 254 7 [some (.inr (.inr (.inl 146))), some (.inl y1), none, none] [] (jxSH, a, b)) (jQ_X12_weighs a0 b0) := by
    intro y1 a b hm hv hf hi0 hi1 hi2 hi3
    refine jt_eq (bq_X12_weighs_7 E d y1 a b) ?_
    have h305_ := iv_get hv (k := 146) (j := 44) (l := 0) (u := 8) rfl
    have h306_ := iv_get hv (k := 146) (j := 42) (l := 0) (u := 8) rfl
    have h307_ : a 146 42 = a0 146 42 := hf 146 42 rfl
    have h308_ := iv_get hv0 (k := 146) (j := 42) (l := 0) (u := 8) rfl
    refine jt_ite (fun c309_ => ?_) (fun c309_ => ?_)
    ·
      refine jt_grd (by omega) ?_
      have h310_ := iv_get hv (k := 173) (j := y1.toNat) (l := 0) (u := 39) rfl
      have h311_ : a 173 (y1.toNat) = a0 173 (y1.toNat) := hf 173 (y1.toNat) rfl
      have h312_ := iv_get hv0 (k := 173) (j := y1.toNat) (l := 0) (u := 39) rfl
      refine jt_bI (sp_X12_mayAsk E d (jd_le hd rfl) (a 173 (y1.toNat)) a b hv (show (0 ≤ a 173 (y1.toNat) ∧ a 173 (y1.toNat) ≤ 39) from by omega)) (fun r313_ a313_ b313_ h313_ => ?_)
      obtain ⟨rfl, rfl, hq313_0⟩ := h313_
      refine jt_ite (fun c314_ => ?_) (fun c314_ => ?_)
      ·
        have h315_ : jxw (y1 + 1) = y1 + 1 := jxw_id (by omega) (by omega)
        exact ih7 (jxw (y1 + 1)) a b (show (((8 - (jxw (y1 + 1))) * 1) + 0).toNat < n from by omega) hv hf (show 0 ≤ jxw (y1 + 1) from by omega) (show jxw (y1 + 1) ≤ 8 from by omega) (show a 146 44 ≤ jxw (y1 + 1) from by omega) (show a 146 44 ≤ a 146 42 from by omega)
      ·
        refine jt_grd (by omega) ?_
        refine jt_grd (by omega) ?_
        have hv316_ : iv (jxu a 174 ((a 146 44).toNat) (a 173 (y1.toNat))) := iv_put hv (l := 0) (u := 39) rfl (by omega) (by omega)
        have hf317_ : jfr jW_X12_weighs a0 (jxu a 174 ((a 146 44).toNat) (a 173 (y1.toNat))) := jfr_put hf rfl
        exact hc46 y1 (jxu a 174 ((a 146 44).toNat) (a 173 (y1.toNat))) b (show (((8 - y1) * 1) + 0).toNat ≤ n from by omega) hv316_ hf317_ (show 0 ≤ y1 from by omega) (show y1 ≤ 7 from by omega) (show 1 ≤ a 146 42 from by omega) (show a 146 44 ≤ 7 from by omega) (show a 146 44 ≤ y1 from by omega) (show y1 < a 146 42 from by omega) (show a 146 44 ≤ a 146 42 from by omega)
    ·
      exact (cp_X12_weighs_64 E d hd a0 b0 hv0 hp0 _).2.2 0 a b (Nat.le_refl _) hv hf (show 0 ≤ 0 from by omega) (show 0 ≤ 8 from by omega) (show a 146 44 ≤ a 146 42 from by omega)
  exact ⟨hc46, hc7⟩
theorem sp_X12_weighs (E : jxE) (d : Nat) (hd : Nat.ble 8 d = true) (a0 b0 : Nat → Nat → Int) (hv0 : iv a0) (hp0 : WFW a0) : jt (jxC E d 254 [.inr (.inr (.inl 146))] (jxSH, a0, b0)) (jQ_X12_weighs a0 b0) := by
  obtain ⟨d, rfl⟩ := jd_succ hd
  refine jt_eq (bq_X12_weighs E d a0 b0) ?_
  have hv318_ : iv (jxu a0 146 44 0) := iv_put hv0 (l := 0) (u := 8) rfl (by omega) (by omega)
  have hf319_ : jfr jW_X12_weighs a0 (jxu a0 146 44 0) := jfr_put (jfr_rf _ _) rfl
  have h320_ := iv_get hv0 (k := 146) (j := 42) (l := 0) (u := 8) rfl
  exact (cp_X12_weighs_7 E d hd a0 b0 hv0 hp0 _).2 0 (jxu a0 146 44 0) b0 (Nat.le_refl _) hv318_ hf319_ (show 0 ≤ 0 from by omega) (show 0 ≤ 8 from by omega) (show 0 ≤ 0 from by omega) (show 0 ≤ a0 146 42 from by omega)
def jW_X12_give : List (Nat × Nat) := [(146, 9), (146, 39), (146, 40), (146, 41), (146, 42), (146, 44), (154, 9999), (155, 9999), (156, 9999), (157, 9999), (158, 9999), (159, 9999), (160, 9999), (170, 9999), (174, 9999), (176, 9999)]
abbrev jQ_X12_give (a0 b0 : Nat → Nat → Int) : List jxV → (Nat → Nat → Int) → (Nat → Nat → Int) → Prop := rI (fun r a b => (iv a) ∧ (jfr jW_X12_give a0 a) ∧ (OC a))
theorem cp_X12_give_215 (E : jxE) (d : Nat) (hd : Nat.ble 9 (d + 1) = true) (a0 b0 : Nat → Nat → Int) (hv0 : iv a0) (hp0 : WFW a0) (hp1 : OC a0) : ∀ n : Nat, (∀ (y6 y7 : Int) (a b : Nat → Nat → Int), (((8 - y7) * 1) + 0).toNat ≤ n → iv a → jfr jW_X12_give a0 a → 0 ≤ y7 → y7 ≤ 7 → a 146 42 ≤ 0 → 1 ≤ a 146 44 → ((a 146 9) + (a 146 44)) - y7 ≤ 301 → (OC a) → jt (jxX E d 255 258 [some (.inr (.inr (.inl 146))), none, none, none, none, none, some (.inl y6), some (.inl y7)] [] (jxSH, a, b)) (jQ_X12_give a0 b0)) ∧ (∀ (y6 y7 : Int) (a b : Nat → Nat → Int), (((8 - y7) * 1) + 0).toNat ≤ n → iv a → jfr jW_X12_give a0 a → 0 ≤ y7 → y7 ≤ 8 → a 146 42 ≤ 0 → ((a 146 9) + (a 146 44)) - y7 ≤ 300 → (OC a) → jt (jxX E d 255 215 [some (.inr (.inr (.inl 146))), none, none, none, none, none, some (.inl y6), some (.inl y7)] [] (jxSH, a, b)) (jQ_X12_give a0 b0)) := by
  refine jx_ind fun n ih => ?_
  have ih258 : ∀ (y6 y7 : Int) (a b : Nat → Nat → Int), (((8 - y7) * 1) + 0).toNat < n → iv a → jfr jW_X12_give a0 a → 0 ≤ y7 → y7 ≤ 7 → a 146 42 ≤ 0 → 1 ≤ a 146 44 → ((a 146 9) + (a 146 44)) - y7 ≤ 301 → (OC a) → jt (jxX E d 255 258 [some (.inr (.inr (.inl 146))), none, none, none, none, none, some (.inl y6), some (.inl y7)] [] (jxSH, a, b)) (jQ_X12_give a0 b0) := fun y6 y7 a b hlt i0 i1 i2 i3 i4 i5 i6 i7 => (ih _ hlt).1 y6 y7 a b (Nat.le_refl _) i0 i1 i2 i3 i4 i5 i6 i7
  have ih215 : ∀ (y6 y7 : Int) (a b : Nat → Nat → Int), (((8 - y7) * 1) + 0).toNat < n → iv a → jfr jW_X12_give a0 a → 0 ≤ y7 → y7 ≤ 8 → a 146 42 ≤ 0 → ((a 146 9) + (a 146 44)) - y7 ≤ 300 → (OC a) → jt (jxX E d 255 215 [some (.inr (.inr (.inl 146))), none, none, none, none, none, some (.inl y6), some (.inl y7)] [] (jxSH, a, b)) (jQ_X12_give a0 b0) := fun y6 y7 a b hlt i0 i1 i2 i3 i4 i5 i6 => (ih _ hlt).2 y6 y7 a b (Nat.le_refl _) i0 i1 i2 i3 i4 i5 i6
  have hc258 : ∀ (y6 y7 : Int) (a b : Nat → Nat → Int), (((8 - y7) * 1) + 0).toNat ≤ n → iv a → jfr jW_X12_give a0 a → 0 ≤ y7 → y7 ≤ 7 → a 146 42 ≤ 0 → 1 ≤ a 146 44 → ((a 146 9) + (a 146 44)) - y7 ≤ 301 → (OC a) → jt (jxX E d 255 258 [some (.inr (.inr (.inl 146))), none, none, none, none, none, some (.inl y6), some (.inl y7)] [] (jxSH, a, b)) (jQ_X12_give a0 b0) := by
    intro y6 y7 a b hm hv hf hi0 hi1 hi2 hi3 hi4 hi5
    refine jt_eq (bq_X12_give_258 E d y6 y7 a b) ?_
    have h321_ := iv_get hv (k := 146) (j := 42) (l := 0) (u := 8) rfl
    have h322_ := iv_get hv (k := 146) (j := 44) (l := 0) (u := 8) rfl
    have h323_ := iv_get hv (k := 146) (j := 9) (l := 0) (u := 300) rfl
    have h324_ : jxw (y7 + 1) = y7 + 1 := jxw_id (by omega) (by omega)
    exact ih215 (jxw (y6 + 1)) (jxw (y7 + 1)) a b (show (((8 - (jxw (y7 + 1))) * 1) + 0).toNat < n from by omega) hv hf (show 0 ≤ jxw (y7 + 1) from by omega) (show jxw (y7 + 1) ≤ 8 from by omega) (show a 146 42 ≤ 0 from by omega) (show ((a 146 9) + (a 146 44)) - (jxw (y7 + 1)) ≤ 300 from by omega) hi5
  have hc215 : ∀ (y6 y7 : Int) (a b : Nat → Nat → Int), (((8 - y7) * 1) + 0).toNat ≤ n → iv a → jfr jW_X12_give a0 a → 0 ≤ y7 → y7 ≤ 8 → a 146 42 ≤ 0 → ((a 146 9) + (a 146 44)) - y7 ≤ 300 → (OC a) → jt (jxX E d 255 215 [some (.inr (.inr (.inl 146))), none, none, none, none, none, some (.inl y6), some (.inl y7)] [] (jxSH, a, b)) (jQ_X12_give a0 b0) := by
    intro y6 y7 a b hm hv hf hi0 hi1 hi2 hi3 hi4
    refine jt_eq (bq_X12_give_215 E d y6 y7 a b) ?_
    have h325_ := iv_get hv (k := 146) (j := 42) (l := 0) (u := 8) rfl
    have h326_ := iv_get hv (k := 146) (j := 9) (l := 0) (u := 300) rfl
    have h327_ := iv_get hv (k := 146) (j := 44) (l := 0) (u := 8) rfl
    refine jt_ite (fun c328_ => ?_) (fun c328_ => ?_)
    ·
      refine jt_grd (by omega) ?_
      have h329_ := iv_get hv (k := 176) (j := y7.toNat) (l := (-1)) (u := 39) rfl
      refine jt_ite (fun c330_ => ?_) (fun c330_ => ?_)
      ·
        have h331_ : jxw (y7 + 1) = y7 + 1 := jxw_id (by omega) (by omega)
        exact ih215 y6 (jxw (y7 + 1)) a b (show (((8 - (jxw (y7 + 1))) * 1) + 0).toNat < n from by omega) hv hf (show 0 ≤ jxw (y7 + 1) from by omega) (show jxw (y7 + 1) ≤ 8 from by omega) (show a 146 42 ≤ 0 from by omega) (show ((a 146 9) + (a 146 44)) - (jxw (y7 + 1)) ≤ 300 from by omega) hi4
      ·
        refine jt_grd (by omega) ?_
        refine jt_grd (by omega) ?_
        have h332_ := iv_get hv (k := 174) (j := y7.toNat) (l := 0) (u := 39) rfl
        refine jt_bI (sp_X12_sends E d (jd_le hd rfl) (a 174 (y7.toNat)) (a 176 (y7.toNat)) (-1) a b hv (show (0 ≤ a 174 (y7.toNat) ∧ a 174 (y7.toNat) ≤ 39) from by omega) (show (0 ≤ a 176 (y7.toNat) ∧ a 176 (y7.toNat) ≤ 39) from by omega) (show a 146 9 ≤ 299 from by omega)) (fun r333_ a333_ b333_ h333_ => ?_)
        obtain ⟨hv333_, hf333_, rfl, hq333_0, hq333_1, hq333_2⟩ := h333_
        have h334_ := iv_get hv333_ (k := 146) (j := 9) (l := 0) (u := 300) rfl
        have hf335_ : jfr jW_X12_give a0 a333_ := jfr_tr hf hf333_ rfl
        have h336_ := iv_get hv333_ (k := 146) (j := 42) (l := 0) (u := 8) rfl
        have h337_ : a333_ 146 42 = a 146 42 := hf333_ 146 42 rfl
        have h338_ := iv_get hv333_ (k := 146) (j := 44) (l := 0) (u := 8) rfl
        have h339_ : a333_ 146 44 = a 146 44 := hf333_ 146 44 rfl
        exact hc258 y6 y7 a333_ b (show (((8 - y7) * 1) + 0).toNat ≤ n from by omega) hv333_ hf335_ (show 0 ≤ y7 from by omega) (show y7 ≤ 7 from by omega) (show a333_ 146 42 ≤ 0 from by omega) (show 1 ≤ a333_ 146 44 from by omega) (show ((a333_ 146 9) + (a333_ 146 44)) - y7 ≤ 301 from by omega) (OC_card hi4 hq333_0 (hf333_ 146 49 rfl) (fun c hc => hq333_2 c hc) (fun j => hf333_ 178 j rfl) (fun j => hf333_ 181 j rfl) (fun j => hf333_ 182 j rfl))
    ·
      exact jt_rI ⟨hv, hf, hi4⟩
  exact ⟨hc258, hc215⟩
theorem cp_X12_give_48 (E : jxE) (d : Nat) (hd : Nat.ble 9 (d + 1) = true) (a0 b0 : Nat → Nat → Int) (hv0 : iv a0) (hp0 : WFW a0) (hp1 : OC a0) : ∀ n : Nat, (∀ (y1 y2 y4 y6 y7 : Int) (a b : Nat → Nat → Int), (((((8 - y6) * 43) + 0) + ((40 - y7) * 1)) + 0).toNat ≤ n → iv a → jfr jW_X12_give a0 a → 0 ≤ y1 → y1 ≤ 255 → 0 ≤ y6 → y6 ≤ 7 → 0 ≤ y7 → y7 ≤ 39 → 1 ≤ a 146 2 → a 146 42 ≤ 0 → 1 ≤ a 146 44 → (a 146 9) + (a 146 44) ≤ 300 → (OC a) → jt (jxX E d 255 197 [some (.inr (.inr (.inl 146))), some (.inl y1), some (.inr (.inl y2)), none, some (.inr (.inl y4)), none, some (.inl y6), some (.inl y7)] [] (jxSH, a, b)) (jQ_X12_give a0 b0)) ∧ (∀ (y1 y2 y4 y6 y7 : Int) (a b : Nat → Nat → Int), (((((8 - y6) * 43) + 0) + ((40 - y7) * 1)) + 0).toNat ≤ n → iv a → jfr jW_X12_give a0 a → 0 ≤ y1 → y1 ≤ 255 → 0 ≤ y6 → y6 ≤ 7 → 0 ≤ y7 → y7 ≤ 39 → 1 ≤ a 146 2 → a 146 42 ≤ 0 → 1 ≤ a 146 44 → (a 146 9) + (a 146 44) ≤ 300 → (OC a) → jt (jxX E d 255 160 [some (.inr (.inr (.inl 146))), some (.inl y1), some (.inr (.inl y2)), none, some (.inr (.inl y4)), none, some (.inl y6), some (.inl y7)] [] (jxSH, a, b)) (jQ_X12_give a0 b0)) ∧ (∀ (y1 y2 y4 y6 y7 : Int) (a b : Nat → Nat → Int), (((((8 - y6) * 43) + 0) + ((40 - y7) * 1)) + 0).toNat ≤ n → iv a → jfr jW_X12_give a0 a → 0 ≤ y1 → y1 ≤ 255 → 0 ≤ y6 → y6 ≤ 7 → 0 ≤ y7 → y7 ≤ 39 → 1 ≤ a 146 2 → a 146 42 ≤ 0 → 1 ≤ a 146 44 → (a 146 9) + (a 146 44) ≤ 300 → (OC a) → jt (jxX E d 255 163 [some (.inr (.inr (.inl 146))), some (.inl y1), some (.inr (.inl y2)), none, some (.inr (.inl y4)), none, some (.inl y6), some (.inl y7)] [] (jxSH, a, b)) (jQ_X12_give a0 b0)) ∧ (∀ (y1 y2 y4 y6 y7 : Int) (a b : Nat → Nat → Int), (((((8 - y6) * 43) + 0) + ((40 - y7) * 1)) + 0).toNat ≤ n → iv a → jfr jW_X12_give a0 a → 0 ≤ y1 → y1 ≤ 255 → 0 ≤ y6 → y6 ≤ 7 → 0 ≤ y7 → y7 ≤ 39 → 1 ≤ a 146 2 → a 146 42 ≤ 0 → 1 ≤ a 146 44 → (a 146 9) + (a 146 44) ≤ 300 → (OC a) → jt (jxX E d 255 106 [some (.inr (.inr (.inl 146))), some (.inl y1), some (.inr (.inl y2)), none, some (.inr (.inl y4)), none, some (.inl y6), some (.inl y7)] [] (jxSH, a, b)) (jQ_X12_give a0 b0)) ∧ (∀ (y1 y2 y4 y6 y7 : Int) (a b : Nat → Nat → Int), (((((8 - y6) * 43) + 0) + ((40 - y7) * 1)) + 0).toNat ≤ n → iv a → jfr jW_X12_give a0 a → 0 ≤ y1 → y1 ≤ 255 → 0 ≤ y6 → y6 ≤ 7 → 0 ≤ y7 → y7 ≤ 40 → a 146 42 ≤ 0 → 1 ≤ a 146 44 → (a 146 9) + (a 146 44) ≤ 300 → (OC a) → jt (jxX E d 255 75 [some (.inr (.inr (.inl 146))), some (.inl y1), some (.inr (.inl y2)), none, some (.inr (.inl y4)), none, some (.inl y6), some (.inl y7)] [] (jxSH, a, b)) (jQ_X12_give a0 b0)) ∧ (∀ (y1 y2 y4 y6 : Int) (a b : Nat → Nat → Int), (((8 - y6) * 43) + 42).toNat ≤ n → iv a → jfr jW_X12_give a0 a → 0 ≤ y1 → y1 ≤ 255 → 0 ≤ y6 → y6 ≤ 7 → a 146 42 ≤ 0 → 1 ≤ a 146 44 → (a 146 9) + (a 146 44) ≤ 300 → (OC a) → jt (jxX E d 255 72 [some (.inr (.inr (.inl 146))), some (.inl y1), some (.inr (.inl y2)), none, some (.inr (.inl y4)), none, some (.inl y6), none] [] (jxSH, a, b)) (jQ_X12_give a0 b0)) ∧ (∀ (y1 y2 y4 y6 : Int) (a b : Nat → Nat → Int), (((8 - y6) * 43) + 42).toNat ≤ n → iv a → jfr jW_X12_give a0 a → 0 ≤ y1 → y1 ≤ 255 → 0 ≤ y6 → y6 ≤ 8 → a 146 42 ≤ 0 → (a 146 9) + (a 146 44) ≤ 300 → (OC a) → jt (jxX E d 255 48 [some (.inr (.inr (.inl 146))), some (.inl y1), some (.inr (.inl y2)), none, some (.inr (.inl y4)), none, some (.inl y6), none] [] (jxSH, a, b)) (jQ_X12_give a0 b0)) := by
  refine jx_ind fun n ih => ?_
  have ih197 : ∀ (y1 y2 y4 y6 y7 : Int) (a b : Nat → Nat → Int), (((((8 - y6) * 43) + 0) + ((40 - y7) * 1)) + 0).toNat < n → iv a → jfr jW_X12_give a0 a → 0 ≤ y1 → y1 ≤ 255 → 0 ≤ y6 → y6 ≤ 7 → 0 ≤ y7 → y7 ≤ 39 → 1 ≤ a 146 2 → a 146 42 ≤ 0 → 1 ≤ a 146 44 → (a 146 9) + (a 146 44) ≤ 300 → (OC a) → jt (jxX E d 255 197 [some (.inr (.inr (.inl 146))), some (.inl y1), some (.inr (.inl y2)), none, some (.inr (.inl y4)), none, some (.inl y6), some (.inl y7)] [] (jxSH, a, b)) (jQ_X12_give a0 b0) := fun y1 y2 y4 y6 y7 a b hlt i0 i1 i2 i3 i4 i5 i6 i7 i8 i9 i10 i11 i12 => (ih _ hlt).1 y1 y2 y4 y6 y7 a b (Nat.le_refl _) i0 i1 i2 i3 i4 i5 i6 i7 i8 i9 i10 i11 i12
  have ih160 : ∀ (y1 y2 y4 y6 y7 : Int) (a b : Nat → Nat → Int), (((((8 - y6) * 43) + 0) + ((40 - y7) * 1)) + 0).toNat < n → iv a → jfr jW_X12_give a0 a → 0 ≤ y1 → y1 ≤ 255 → 0 ≤ y6 → y6 ≤ 7 → 0 ≤ y7 → y7 ≤ 39 → 1 ≤ a 146 2 → a 146 42 ≤ 0 → 1 ≤ a 146 44 → (a 146 9) + (a 146 44) ≤ 300 → (OC a) → jt (jxX E d 255 160 [some (.inr (.inr (.inl 146))), some (.inl y1), some (.inr (.inl y2)), none, some (.inr (.inl y4)), none, some (.inl y6), some (.inl y7)] [] (jxSH, a, b)) (jQ_X12_give a0 b0) := fun y1 y2 y4 y6 y7 a b hlt i0 i1 i2 i3 i4 i5 i6 i7 i8 i9 i10 i11 i12 => (ih _ hlt).2.1 y1 y2 y4 y6 y7 a b (Nat.le_refl _) i0 i1 i2 i3 i4 i5 i6 i7 i8 i9 i10 i11 i12
  have ih163 : ∀ (y1 y2 y4 y6 y7 : Int) (a b : Nat → Nat → Int), (((((8 - y6) * 43) + 0) + ((40 - y7) * 1)) + 0).toNat < n → iv a → jfr jW_X12_give a0 a → 0 ≤ y1 → y1 ≤ 255 → 0 ≤ y6 → y6 ≤ 7 → 0 ≤ y7 → y7 ≤ 39 → 1 ≤ a 146 2 → a 146 42 ≤ 0 → 1 ≤ a 146 44 → (a 146 9) + (a 146 44) ≤ 300 → (OC a) → jt (jxX E d 255 163 [some (.inr (.inr (.inl 146))), some (.inl y1), some (.inr (.inl y2)), none, some (.inr (.inl y4)), none, some (.inl y6), some (.inl y7)] [] (jxSH, a, b)) (jQ_X12_give a0 b0) := fun y1 y2 y4 y6 y7 a b hlt i0 i1 i2 i3 i4 i5 i6 i7 i8 i9 i10 i11 i12 => (ih _ hlt).2.2.1 y1 y2 y4 y6 y7 a b (Nat.le_refl _) i0 i1 i2 i3 i4 i5 i6 i7 i8 i9 i10 i11 i12
  have ih106 : ∀ (y1 y2 y4 y6 y7 : Int) (a b : Nat → Nat → Int), (((((8 - y6) * 43) + 0) + ((40 - y7) * 1)) + 0).toNat < n → iv a → jfr jW_X12_give a0 a → 0 ≤ y1 → y1 ≤ 255 → 0 ≤ y6 → y6 ≤ 7 → 0 ≤ y7 → y7 ≤ 39 → 1 ≤ a 146 2 → a 146 42 ≤ 0 → 1 ≤ a 146 44 → (a 146 9) + (a 146 44) ≤ 300 → (OC a) → jt (jxX E d 255 106 [some (.inr (.inr (.inl 146))), some (.inl y1), some (.inr (.inl y2)), none, some (.inr (.inl y4)), none, some (.inl y6), some (.inl y7)] [] (jxSH, a, b)) (jQ_X12_give a0 b0) := fun y1 y2 y4 y6 y7 a b hlt i0 i1 i2 i3 i4 i5 i6 i7 i8 i9 i10 i11 i12 => (ih _ hlt).2.2.2.1 y1 y2 y4 y6 y7 a b (Nat.le_refl _) i0 i1 i2 i3 i4 i5 i6 i7 i8 i9 i10 i11 i12
  have ih75 : ∀ (y1 y2 y4 y6 y7 : Int) (a b : Nat → Nat → Int), (((((8 - y6) * 43) + 0) + ((40 - y7) * 1)) + 0).toNat < n → iv a → jfr jW_X12_give a0 a → 0 ≤ y1 → y1 ≤ 255 → 0 ≤ y6 → y6 ≤ 7 → 0 ≤ y7 → y7 ≤ 40 → a 146 42 ≤ 0 → 1 ≤ a 146 44 → (a 146 9) + (a 146 44) ≤ 300 → (OC a) → jt (jxX E d 255 75 [some (.inr (.inr (.inl 146))), some (.inl y1), some (.inr (.inl y2)), none, some (.inr (.inl y4)), none, some (.inl y6), some (.inl y7)] [] (jxSH, a, b)) (jQ_X12_give a0 b0) := fun y1 y2 y4 y6 y7 a b hlt i0 i1 i2 i3 i4 i5 i6 i7 i8 i9 i10 i11 => (ih _ hlt).2.2.2.2.1 y1 y2 y4 y6 y7 a b (Nat.le_refl _) i0 i1 i2 i3 i4 i5 i6 i7 i8 i9 i10 i11
  have ih72 : ∀ (y1 y2 y4 y6 : Int) (a b : Nat → Nat → Int), (((8 - y6) * 43) + 42).toNat < n → iv a → jfr jW_X12_give a0 a → 0 ≤ y1 → y1 ≤ 255 → 0 ≤ y6 → y6 ≤ 7 → a 146 42 ≤ 0 → 1 ≤ a 146 44 → (a 146 9) + (a 146 44) ≤ 300 → (OC a) → jt (jxX E d 255 72 [some (.inr (.inr (.inl 146))), some (.inl y1), some (.inr (.inl y2)), none, some (.inr (.inl y4)), none, some (.inl y6), none] [] (jxSH, a, b)) (jQ_X12_give a0 b0) := fun y1 y2 y4 y6 a b hlt i0 i1 i2 i3 i4 i5 i6 i7 i8 i9 => (ih _ hlt).2.2.2.2.2.1 y1 y2 y4 y6 a b (Nat.le_refl _) i0 i1 i2 i3 i4 i5 i6 i7 i8 i9
  have ih48 : ∀ (y1 y2 y4 y6 : Int) (a b : Nat → Nat → Int), (((8 - y6) * 43) + 42).toNat < n → iv a → jfr jW_X12_give a0 a → 0 ≤ y1 → y1 ≤ 255 → 0 ≤ y6 → y6 ≤ 8 → a 146 42 ≤ 0 → (a 146 9) + (a 146 44) ≤ 300 → (OC a) → jt (jxX E d 255 48 [some (.inr (.inr (.inl 146))), some (.inl y1), some (.inr (.inl y2)), none, some (.inr (.inl y4)), none, some (.inl y6), none] [] (jxSH, a, b)) (jQ_X12_give a0 b0) := fun y1 y2 y4 y6 a b hlt i0 i1 i2 i3 i4 i5 i6 i7 i8 => (ih _ hlt).2.2.2.2.2.2 y1 y2 y4 y6 a b (Nat.le_refl _) i0 i1 i2 i3 i4 i5 i6 i7 i8
  have hc197 : ∀ (y1 y2 y4 y6 y7 : Int) (a b : Nat → Nat → Int), (((((8 - y6) * 43) + 0) + ((40 - y7) * 1)) + 0).toNat ≤ n → iv a → jfr jW_X12_give a0 a → 0 ≤ y1 → y1 ≤ 255 → 0 ≤ y6 → y6 ≤ 7 → 0 ≤ y7 → y7 ≤ 39 → 1 ≤ a 146 2 → a 146 42 ≤ 0 → 1 ≤ a 146 44 → (a 146 9) + (a 146 44) ≤ 300 → (OC a) → jt (jxX E d 255 197 [some (.inr (.inr (.inl 146))), some (.inl y1), some (.inr (.inl y2)), none, some (.inr (.inl y4)), none, some (.inl y6), some (.inl y7)] [] (jxSH, a, b)) (jQ_X12_give a0 b0) := by
    intro y1 y2 y4 y6 y7 a b hm hv hf hi0 hi1 hi2 hi3 hi4 hi5 hi6 hi7 hi8 hi9 hi10
    refine jt_eq (bq_X12_give_197 E d y1 y2 y4 y6 y7 a b) ?_
    have h340_ := iv_get hv (k := 146) (j := 2) (l := 0) (u := 40) rfl
    have h341_ : a 146 2 = a0 146 2 := hf 146 2 rfl
    have h342_ := iv_get hv0 (k := 146) (j := 2) (l := 0) (u := 40) rfl
    have h343_ := iv_get hv (k := 146) (j := 42) (l := 0) (u := 8) rfl
    have h344_ := iv_get hv (k := 146) (j := 44) (l := 0) (u := 8) rfl
    have h345_ := iv_get hv (k := 146) (j := 9) (l := 0) (u := 300) rfl
    have h346_ : jxw (y7 + 1) = y7 + 1 := jxw_id (by omega) (by omega)
    exact ih75 y1 y2 y4 y6 (jxw (y7 + 1)) a b (show (((((8 - y6) * 43) + 0) + ((40 - (jxw (y7 + 1))) * 1)) + 0).toNat < n from by omega) hv hf (show 0 ≤ y1 from by omega) (show y1 ≤ 255 from by omega) (show 0 ≤ y6 from by omega) (show y6 ≤ 7 from by omega) (show 0 ≤ jxw (y7 + 1) from by omega) (show jxw (y7 + 1) ≤ 40 from by omega) (show a 146 42 ≤ 0 from by omega) (show 1 ≤ a 146 44 from by omega) (show (a 146 9) + (a 146 44) ≤ 300 from by omega) hi10
  have hc160 : ∀ (y1 y2 y4 y6 y7 : Int) (a b : Nat → Nat → Int), (((((8 - y6) * 43) + 0) + ((40 - y7) * 1)) + 0).toNat ≤ n → iv a → jfr jW_X12_give a0 a → 0 ≤ y1 → y1 ≤ 255 → 0 ≤ y6 → y6 ≤ 7 → 0 ≤ y7 → y7 ≤ 39 → 1 ≤ a 146 2 → a 146 42 ≤ 0 → 1 ≤ a 146 44 → (a 146 9) + (a 146 44) ≤ 300 → (OC a) → jt (jxX E d 255 160 [some (.inr (.inr (.inl 146))), some (.inl y1), some (.inr (.inl y2)), none, some (.inr (.inl y4)), none, some (.inl y6), some (.inl y7)] [] (jxSH, a, b)) (jQ_X12_give a0 b0) := by
    intro y1 y2 y4 y6 y7 a b hm hv hf hi0 hi1 hi2 hi3 hi4 hi5 hi6 hi7 hi8 hi9 hi10
    refine jt_eq (bq_X12_give_160 E d y1 y2 y4 y6 y7 a b) ?_
    have h347_ := iv_get hv (k := 146) (j := 2) (l := 0) (u := 40) rfl
    have h348_ : a 146 2 = a0 146 2 := hf 146 2 rfl
    have h349_ := iv_get hv0 (k := 146) (j := 2) (l := 0) (u := 40) rfl
    have h350_ := iv_get hv (k := 146) (j := 42) (l := 0) (u := 8) rfl
    have h351_ := iv_get hv (k := 146) (j := 44) (l := 0) (u := 8) rfl
    have h352_ := iv_get hv (k := 146) (j := 9) (l := 0) (u := 300) rfl
    exact hc197 y1 y2 y4 y6 y7 a b (show (((((8 - y6) * 43) + 0) + ((40 - y7) * 1)) + 0).toNat ≤ n from by omega) hv hf (show 0 ≤ y1 from by omega) (show y1 ≤ 255 from by omega) (show 0 ≤ y6 from by omega) (show y6 ≤ 7 from by omega) (show 0 ≤ y7 from by omega) (show y7 ≤ 39 from by omega) (show 1 ≤ a 146 2 from by omega) (show a 146 42 ≤ 0 from by omega) (show 1 ≤ a 146 44 from by omega) (show (a 146 9) + (a 146 44) ≤ 300 from by omega) hi10
  have hc163 : ∀ (y1 y2 y4 y6 y7 : Int) (a b : Nat → Nat → Int), (((((8 - y6) * 43) + 0) + ((40 - y7) * 1)) + 0).toNat ≤ n → iv a → jfr jW_X12_give a0 a → 0 ≤ y1 → y1 ≤ 255 → 0 ≤ y6 → y6 ≤ 7 → 0 ≤ y7 → y7 ≤ 39 → 1 ≤ a 146 2 → a 146 42 ≤ 0 → 1 ≤ a 146 44 → (a 146 9) + (a 146 44) ≤ 300 → (OC a) → jt (jxX E d 255 163 [some (.inr (.inr (.inl 146))), some (.inl y1), some (.inr (.inl y2)), none, some (.inr (.inl y4)), none, some (.inl y6), some (.inl y7)] [] (jxSH, a, b)) (jQ_X12_give a0 b0) := by
    intro y1 y2 y4 y6 y7 a b hm hv hf hi0 hi1 hi2 hi3 hi4 hi5 hi6 hi7 hi8 hi9 hi10
    refine jt_eq (bq_X12_give_163 E d y1 y2 y4 y6 y7 a b) ?_
    have h353_ := iv_get hv (k := 146) (j := 2) (l := 0) (u := 40) rfl
    have h354_ : a 146 2 = a0 146 2 := hf 146 2 rfl
    have h355_ := iv_get hv0 (k := 146) (j := 2) (l := 0) (u := 40) rfl
    have h356_ := iv_get hv (k := 146) (j := 42) (l := 0) (u := 8) rfl
    have h357_ := iv_get hv (k := 146) (j := 44) (l := 0) (u := 8) rfl
    have h358_ := iv_get hv (k := 146) (j := 9) (l := 0) (u := 300) rfl
    refine jt_grd (by omega) ?_
    have h359_ : jxw (40 * y6) = 40 * y6 := jxw_id (by omega) (by omega)
    have h360_ : jxw ((jxw (40 * y6)) + y7) = (jxw (40 * y6)) + y7 := jxw_id (by omega) (by omega)
    refine jt_grd (by omega) ?_
    have hv361_ : iv (jxu a 176 (y6.toNat) y7) := iv_put hv (l := (-1)) (u := 39) rfl (by omega) (by omega)
    have hf362_ : jfr jW_X12_give a0 (jxu a 176 (y6.toNat) y7) := jfr_put hf rfl
    have hg363_ : OC (jxu a 176 (y6.toNat) y7) := (OC_fr hi10 (jfr_1 a 176 (y6.toNat) y7) rfl rfl (fun _ => rfl) (fun _ => rfl) (fun _ => rfl) (fun _ => rfl) (fun _ => rfl))
    exact hc197 y1 (jxorl y2 (jxshll 1 y7)) (jxwl (y4 - (b 175 ((jxw ((jxw (40 * y6)) + y7)).toNat)))) y6 y7 (jxu a 176 (y6.toNat) y7) b (show (((((8 - y6) * 43) + 0) + ((40 - y7) * 1)) + 0).toNat ≤ n from by omega) hv361_ hf362_ (show 0 ≤ y1 from by omega) (show y1 ≤ 255 from by omega) (show 0 ≤ y6 from by omega) (show y6 ≤ 7 from by omega) (show 0 ≤ y7 from by omega) (show y7 ≤ 39 from by omega) (show 1 ≤ a 146 2 from by omega) (show a 146 42 ≤ 0 from by omega) (show 1 ≤ a 146 44 from by omega) (show (a 146 9) + (a 146 44) ≤ 300 from by omega) hg363_
  have hc106 : ∀ (y1 y2 y4 y6 y7 : Int) (a b : Nat → Nat → Int), (((((8 - y6) * 43) + 0) + ((40 - y7) * 1)) + 0).toNat ≤ n → iv a → jfr jW_X12_give a0 a → 0 ≤ y1 → y1 ≤ 255 → 0 ≤ y6 → y6 ≤ 7 → 0 ≤ y7 → y7 ≤ 39 → 1 ≤ a 146 2 → a 146 42 ≤ 0 → 1 ≤ a 146 44 → (a 146 9) + (a 146 44) ≤ 300 → (OC a) → jt (jxX E d 255 106 [some (.inr (.inr (.inl 146))), some (.inl y1), some (.inr (.inl y2)), none, some (.inr (.inl y4)), none, some (.inl y6), some (.inl y7)] [] (jxSH, a, b)) (jQ_X12_give a0 b0) := by
    intro y1 y2 y4 y6 y7 a b hm hv hf hi0 hi1 hi2 hi3 hi4 hi5 hi6 hi7 hi8 hi9 hi10
    refine jt_eq (bq_X12_give_106 E d y1 y2 y4 y6 y7 a b) ?_
    have h364_ := iv_get hv (k := 146) (j := 2) (l := 0) (u := 40) rfl
    have h365_ : a 146 2 = a0 146 2 := hf 146 2 rfl
    have h366_ := iv_get hv0 (k := 146) (j := 2) (l := 0) (u := 40) rfl
    have h367_ := iv_get hv (k := 146) (j := 42) (l := 0) (u := 8) rfl
    have h368_ := iv_get hv (k := 146) (j := 44) (l := 0) (u := 8) rfl
    have h369_ := iv_get hv (k := 146) (j := 9) (l := 0) (u := 300) rfl
    have h370_ : jxw (40 * y6) = 40 * y6 := jxw_id (by omega) (by omega)
    have h371_ : jxw ((jxw (40 * y6)) + y7) = (jxw (40 * y6)) + y7 := jxw_id (by omega) (by omega)
    refine jt_grd (by omega) ?_
    have h372_ := jxlcmp_b (b 175 ((jxw ((jxw (40 * y6)) + y7)).toNat)) (-4000000000000000000)
    refine jt_ite (fun c373_ => ?_) (fun c373_ => ?_)
    ·
      exact hc197 y1 y2 y4 y6 y7 a b (show (((((8 - y6) * 43) + 0) + ((40 - y7) * 1)) + 0).toNat ≤ n from by omega) hv hf (show 0 ≤ y1 from by omega) (show y1 ≤ 255 from by omega) (show 0 ≤ y6 from by omega) (show y6 ≤ 7 from by omega) (show 0 ≤ y7 from by omega) (show y7 ≤ 39 from by omega) (show 1 ≤ a 146 2 from by omega) (show a 146 42 ≤ 0 from by omega) (show 1 ≤ a 146 44 from by omega) (show (a 146 9) + (a 146 44) ≤ 300 from by omega) hi10
    ·
      refine jt_grd (by omega) ?_
      refine jt_bJ (sp_X12_best E d (jd_le hd rfl) y1 (jxorl y2 (jxshll 1 y7)) a b hv (show (0 ≤ y1 ∧ y1 ≤ 255) from by omega)) (fun r374_ a374_ b374_ h374_ => ?_)
      subst h374_
      have h375_ := jxlcmp_b (jxwl ((b 175 ((jxw ((jxw (40 * y6)) + y7)).toNat)) + r374_)) y4
      refine jt_ite (fun c376_ => ?_) (fun c376_ => ?_)
      ·
        exact hc163 y1 y2 y4 y6 y7 a b374_ (show (((((8 - y6) * 43) + 0) + ((40 - y7) * 1)) + 0).toNat ≤ n from by omega) hv hf (show 0 ≤ y1 from by omega) (show y1 ≤ 255 from by omega) (show 0 ≤ y6 from by omega) (show y6 ≤ 7 from by omega) (show 0 ≤ y7 from by omega) (show y7 ≤ 39 from by omega) (show 1 ≤ a 146 2 from by omega) (show a 146 42 ≤ 0 from by omega) (show 1 ≤ a 146 44 from by omega) (show (a 146 9) + (a 146 44) ≤ 300 from by omega) hi10
      ·
        exact hc160 y1 y2 y4 y6 y7 a b374_ (show (((((8 - y6) * 43) + 0) + ((40 - y7) * 1)) + 0).toNat ≤ n from by omega) hv hf (show 0 ≤ y1 from by omega) (show y1 ≤ 255 from by omega) (show 0 ≤ y6 from by omega) (show y6 ≤ 7 from by omega) (show 0 ≤ y7 from by omega) (show y7 ≤ 39 from by omega) (show 1 ≤ a 146 2 from by omega) (show a 146 42 ≤ 0 from by omega) (show 1 ≤ a 146 44 from by omega) (show (a 146 9) + (a 146 44) ≤ 300 from by omega) hi10
  have hc75 : ∀ (y1 y2 y4 y6 y7 : Int) (a b : Nat → Nat → Int), (((((8 - y6) * 43) + 0) + ((40 - y7) * 1)) + 0).toNat ≤ n → iv a → jfr jW_X12_give a0 a → 0 ≤ y1 → y1 ≤ 255 → 0 ≤ y6 → y6 ≤ 7 → 0 ≤ y7 → y7 ≤ 40 → a 146 42 ≤ 0 → 1 ≤ a 146 44 → (a 146 9) + (a 146 44) ≤ 300 → (OC a) → jt (jxX E d 255 75 [some (.inr (.inr (.inl 146))), some (.inl y1), some (.inr (.inl y2)), none, some (.inr (.inl y4)), none, some (.inl y6), some (.inl y7)] [] (jxSH, a, b)) (jQ_X12_give a0 b0) := by
    intro y1 y2 y4 y6 y7 a b hm hv hf hi0 hi1 hi2 hi3 hi4 hi5 hi6 hi7 hi8 hi9
    refine jt_eq (bq_X12_give_75 E d y1 y2 y4 y6 y7 a b) ?_
    have h377_ := iv_get hv (k := 146) (j := 42) (l := 0) (u := 8) rfl
    have h378_ := iv_get hv (k := 146) (j := 44) (l := 0) (u := 8) rfl
    have h379_ := iv_get hv (k := 146) (j := 9) (l := 0) (u := 300) rfl
    have h380_ := iv_get hv (k := 146) (j := 2) (l := 0) (u := 40) rfl
    have h381_ : a 146 2 = a0 146 2 := hf 146 2 rfl
    have h382_ := iv_get hv0 (k := 146) (j := 2) (l := 0) (u := 40) rfl
    refine jt_ite (fun c383_ => ?_) (fun c383_ => ?_)
    ·
      refine jt_grd (by omega) ?_
      have h384_ := iv_get hv (k := 176) (j := y6.toNat) (l := (-1)) (u := 39) rfl
      refine jt_ite (fun c385_ => ?_) (fun c385_ => ?_)
      ·
        have h386_ := jxlcmp_b (jxandl (jxshrl y2 y7) 1) 1
        refine jt_ite (fun c387_ => ?_) (fun c387_ => ?_)
        ·
          exact hc197 y1 y2 y4 y6 y7 a b (show (((((8 - y6) * 43) + 0) + ((40 - y7) * 1)) + 0).toNat ≤ n from by omega) hv hf (show 0 ≤ y1 from by omega) (show y1 ≤ 255 from by omega) (show 0 ≤ y6 from by omega) (show y6 ≤ 7 from by omega) (show 0 ≤ y7 from by omega) (show y7 ≤ 39 from by omega) (show 1 ≤ a 146 2 from by omega) (show a 146 42 ≤ 0 from by omega) (show 1 ≤ a 146 44 from by omega) (show (a 146 9) + (a 146 44) ≤ 300 from by omega) hi9
        ·
          exact hc106 y1 y2 y4 y6 y7 a b (show (((((8 - y6) * 43) + 0) + ((40 - y7) * 1)) + 0).toNat ≤ n from by omega) hv hf (show 0 ≤ y1 from by omega) (show y1 ≤ 255 from by omega) (show 0 ≤ y6 from by omega) (show y6 ≤ 7 from by omega) (show 0 ≤ y7 from by omega) (show y7 ≤ 39 from by omega) (show 1 ≤ a 146 2 from by omega) (show a 146 42 ≤ 0 from by omega) (show 1 ≤ a 146 44 from by omega) (show (a 146 9) + (a 146 44) ≤ 300 from by omega) hi9
      ·
        have h388_ : jxw (y6 + 1) = y6 + 1 := jxw_id (by omega) (by omega)
        exact ih48 y1 y2 y4 (jxw (y6 + 1)) a b (show (((8 - (jxw (y6 + 1))) * 43) + 42).toNat < n from by omega) hv hf (show 0 ≤ y1 from by omega) (show y1 ≤ 255 from by omega) (show 0 ≤ jxw (y6 + 1) from by omega) (show jxw (y6 + 1) ≤ 8 from by omega) (show a 146 42 ≤ 0 from by omega) (show (a 146 9) + (a 146 44) ≤ 300 from by omega) hi9
    ·
      have h389_ : jxw (y6 + 1) = y6 + 1 := jxw_id (by omega) (by omega)
      exact ih48 y1 y2 y4 (jxw (y6 + 1)) a b (show (((8 - (jxw (y6 + 1))) * 43) + 42).toNat < n from by omega) hv hf (show 0 ≤ y1 from by omega) (show y1 ≤ 255 from by omega) (show 0 ≤ jxw (y6 + 1) from by omega) (show jxw (y6 + 1) ≤ 8 from by omega) (show a 146 42 ≤ 0 from by omega) (show (a 146 9) + (a 146 44) ≤ 300 from by omega) hi9
  have hc72 : ∀ (y1 y2 y4 y6 : Int) (a b : Nat → Nat → Int), (((8 - y6) * 43) + 42).toNat ≤ n → iv a → jfr jW_X12_give a0 a → 0 ≤ y1 → y1 ≤ 255 → 0 ≤ y6 → y6 ≤ 7 → a 146 42 ≤ 0 → 1 ≤ a 146 44 → (a 146 9) + (a 146 44) ≤ 300 → (OC a) → jt (jxX E d 255 72 [some (.inr (.inr (.inl 146))), some (.inl y1), some (.inr (.inl y2)), none, some (.inr (.inl y4)), none, some (.inl y6), none] [] (jxSH, a, b)) (jQ_X12_give a0 b0) := by
    intro y1 y2 y4 y6 a b hm hv hf hi0 hi1 hi2 hi3 hi4 hi5 hi6 hi7
    refine jt_eq (bq_X12_give_72 E d y1 y2 y4 y6 a b) ?_
    have h390_ := iv_get hv (k := 146) (j := 42) (l := 0) (u := 8) rfl
    have h391_ := iv_get hv (k := 146) (j := 44) (l := 0) (u := 8) rfl
    have h392_ := iv_get hv (k := 146) (j := 9) (l := 0) (u := 300) rfl
    exact hc75 y1 y2 y4 y6 0 a b (show (((((8 - y6) * 43) + 0) + ((40 - 0) * 1)) + 0).toNat ≤ n from by omega) hv hf (show 0 ≤ y1 from by omega) (show y1 ≤ 255 from by omega) (show 0 ≤ y6 from by omega) (show y6 ≤ 7 from by omega) (show 0 ≤ 0 from by omega) (show 0 ≤ 40 from by omega) (show a 146 42 ≤ 0 from by omega) (show 1 ≤ a 146 44 from by omega) (show (a 146 9) + (a 146 44) ≤ 300 from by omega) hi7
  have hc48 : ∀ (y1 y2 y4 y6 : Int) (a b : Nat → Nat → Int), (((8 - y6) * 43) + 42).toNat ≤ n → iv a → jfr jW_X12_give a0 a → 0 ≤ y1 → y1 ≤ 255 → 0 ≤ y6 → y6 ≤ 8 → a 146 42 ≤ 0 → (a 146 9) + (a 146 44) ≤ 300 → (OC a) → jt (jxX E d 255 48 [some (.inr (.inr (.inl 146))), some (.inl y1), some (.inr (.inl y2)), none, some (.inr (.inl y4)), none, some (.inl y6), none] [] (jxSH, a, b)) (jQ_X12_give a0 b0) := by
    intro y1 y2 y4 y6 a b hm hv hf hi0 hi1 hi2 hi3 hi4 hi5 hi6
    refine jt_eq (bq_X12_give_48 E d y1 y2 y4 y6 a b) ?_
    have h393_ := iv_get hv (k := 146) (j := 42) (l := 0) (u := 8) rfl
    have h394_ := iv_get hv (k := 146) (j := 9) (l := 0) (u := 300) rfl
    have h395_ := iv_get hv (k := 146) (j := 44) (l := 0) (u := 8) rfl
    refine jt_ite (fun c396_ => ?_) (fun c396_ => ?_)
    ·
      refine jt_grd (by omega) ?_
      have hv397_ : iv (jxu a 176 (y6.toNat) (-1)) := iv_put hv (l := (-1)) (u := 39) rfl (by omega) (by omega)
      have hf398_ : jfr jW_X12_give a0 (jxu a 176 (y6.toNat) (-1)) := jfr_put hf rfl
      have h399_ := jxshl1_b y6
      have h400_ := jxxor_b y1 (jxshl 1 y6)
      have hg401_ : OC (jxu a 176 (y6.toNat) (-1)) := (OC_fr hi6 (jfr_1 a 176 (y6.toNat) (-1)) rfl rfl (fun _ => rfl) (fun _ => rfl) (fun _ => rfl) (fun _ => rfl) (fun _ => rfl))
      exact hc72 (jxxor y1 (jxshl 1 y6)) y2 y4 y6 (jxu a 176 (y6.toNat) (-1)) b (show (((8 - y6) * 43) + 42).toNat ≤ n from by omega) hv397_ hf398_ (show 0 ≤ jxxor y1 (jxshl 1 y6) from by omega) (show jxxor y1 (jxshl 1 y6) ≤ 255 from by omega) (show 0 ≤ y6 from by omega) (show y6 ≤ 7 from by omega) (show a 146 42 ≤ 0 from by omega) (show 1 ≤ a 146 44 from by omega) (show (a 146 9) + (a 146 44) ≤ 300 from by omega) hg401_
    ·
      exact (cp_X12_give_215 E d hd a0 b0 hv0 hp0 hp1 _).2 0 0 a b (Nat.le_refl _) hv hf (show 0 ≤ 0 from by omega) (show 0 ≤ 8 from by omega) (show a 146 42 ≤ 0 from by omega) (show ((a 146 9) + (a 146 44)) - 0 ≤ 300 from by omega) hi6
  exact ⟨hc197, hc160, hc163, hc106, hc75, hc72, hc48⟩
theorem cp_X12_give_35 (E : jxE) (d : Nat) (hd : Nat.ble 9 (d + 1) = true) (a0 b0 : Nat → Nat → Int) (hv0 : iv a0) (hp0 : WFW a0) (hp1 : OC a0) : ∀ (y1 : Int) (a b : Nat → Nat → Int), iv a → jfr jW_X12_give a0 a → 0 ≤ y1 → y1 ≤ 255 → a 146 42 ≤ 0 → (a 146 9) + (a 146 44) ≤ 300 → (OC a) → jt (jxX E d 255 35 [some (.inr (.inr (.inl 146))), some (.inl y1), none, none, none, none, none, none] [] (jxSH, a, b)) (jQ_X12_give a0 b0) := by
  intro y1 a b hv hf hi0 hi1 hi2 hi3 hi4
  refine jt_eq (bq_X12_give_35 E d y1 a b) ?_
  have h402_ := iv_get hv (k := 146) (j := 42) (l := 0) (u := 8) rfl
  have h403_ := iv_get hv (k := 146) (j := 9) (l := 0) (u := 300) rfl
  have h404_ := iv_get hv (k := 146) (j := 44) (l := 0) (u := 8) rfl
  refine jt_bJ (sp_X12_best E d (jd_le hd rfl) y1 0 a b hv (show (0 ≤ y1 ∧ y1 ≤ 255) from by omega)) (fun r405_ a405_ b405_ h405_ => ?_)
  subst h405_
  exact (cp_X12_give_48 E d hd a0 b0 hv0 hp0 hp1 _).2.2.2.2.2.2 y1 0 r405_ 0 a b405_ (Nat.le_refl _) hv hf (show 0 ≤ y1 from by omega) (show y1 ≤ 255 from by omega) (show 0 ≤ 0 from by omega) (show 0 ≤ 8 from by omega) (show a 146 42 ≤ 0 from by omega) (show (a 146 9) + (a 146 44) ≤ 300 from by omega) hi4
theorem sp_X12_give (E : jxE) (d : Nat) (hd : Nat.ble 9 d = true) (a0 b0 : Nat → Nat → Int) (hv0 : iv a0) (hp0 : WFW a0) (hp1 : OC a0) : jt (jxC E d 255 [.inr (.inr (.inl 146))] (jxSH, a0, b0)) (jQ_X12_give a0 b0) := by
  obtain ⟨d, rfl⟩ := jd_succ hd
  refine jt_eq (bq_X12_give E d a0 b0) ?_
  have h406_ := iv_get hv0 (k := 146) (j := 9) (l := 0) (u := 300) rfl
  have h407_ := iv_get hv0 (k := 146) (j := 42) (l := 0) (u := 8) rfl
  have h408_ : jxw ((a0 146 9) + (a0 146 42)) = (a0 146 9) + (a0 146 42) := jxw_id (by omega) (by omega)
  refine jt_ite (fun c409_ => ?_) (fun c409_ => ?_)
  ·
    exact jt_rI ⟨hv0, (jfr_rf _ _), hp1⟩
  ·
    refine jt_bV (sp_X12_weighs E d (jd_le hd rfl) a0 b0 hv0 hp0) (fun a410_ b410_ h410_ => ?_)
    obtain ⟨hv410_, hf410_, hq410_0⟩ := h410_
    have h411_ := iv_get hv410_ (k := 146) (j := 44) (l := 0) (u := 8) rfl
    have h412_ := iv_get hv410_ (k := 146) (j := 42) (l := 0) (u := 8) rfl
    have h413_ : a410_ 146 42 = a0 146 42 := hf410_ 146 42 rfl
    have hv414_ : iv (jxu a410_ 146 42 0) := iv_put hv410_ (l := 0) (u := 8) rfl (by omega) (by omega)
    have hf415_ : jfr jW_X12_give a0 a410_ := jfr_tr (jfr_rf _ _) hf410_ rfl
    have hf416_ : jfr jW_X12_give a0 (jxu a410_ 146 42 0) := jfr_put hf415_ rfl
    have h417_ := jxshl1_b (a410_ 146 44)
    have h418_ : jxw ((jxshl 1 (a410_ 146 44)) - 1) = (jxshl 1 (a410_ 146 44)) - 1 := jxw_id (by omega) (by omega)
    have h419_ := iv_get hv410_ (k := 146) (j := 9) (l := 0) (u := 300) rfl
    have h420_ : a410_ 146 9 = a0 146 9 := hf410_ 146 9 rfl
    have hg421_ : OC (jxu a410_ 146 42 0) := (OC_fr (OC_fr hp1 hf410_ rfl rfl (fun _ => rfl) (fun _ => rfl) (fun _ => rfl) (fun _ => rfl) (fun _ => rfl)) (jfr_1s a410_ 146 42 0) rfl rfl (fun _ => rfl) (fun _ => rfl) (fun _ => rfl) (fun _ => rfl) (fun _ => rfl))
    exact cp_X12_give_35 E d hd a0 b0 hv0 hp0 hp1 (jxw ((jxshl 1 (a410_ 146 44)) - 1)) (jxu a410_ 146 42 0) b410_ hv414_ hf416_ (show 0 ≤ jxw ((jxshl 1 (a410_ 146 44)) - 1) from by omega) (show jxw ((jxshl 1 (a410_ 146 44)) - 1) ≤ 255 from by omega) (show 0 ≤ 0 from by omega) (show (a410_ 146 9) + (a410_ 146 44) ≤ 300 from by omega) hg421_
def jW_X12_leave : List (Nat × Nat) := [(152, 9999), (153, 9999), (159, 9999), (181, 9999)]
abbrev jQ_X12_leave (x1 : Int) (a0 b0 : Nat → Nat → Int) : List jxV → (Nat → Nat → Int) → (Nat → Nat → Int) → Prop := rI (fun r a b => (iv a) ∧ (jfr jW_X12_leave a0 a) ∧ (b0 = b) ∧ (OC a))
theorem cp_X12_leave_95 (E : jxE) (d : Nat) (hd : Nat.ble 5 (d + 1) = true) (x1 : Int) (a0 b0 : Nat → Nat → Int) (hv0 : iv a0) (hp0 : OC a0) : ∀ n : Nat, (∀ (y1 y2 y3 : Int) (a : Nat → Nat → Int), (((20 - y3) * 1) + 0).toNat ≤ n → iv a → jfr jW_X12_leave a0 a → 0 ≤ y1 → y1 ≤ 39 → 0 ≤ y3 → y3 ≤ 19 → 1 ≤ a 146 49 → y3 < a 146 49 → (OC a) → jt (jxX E d 279 140 [some (.inr (.inr (.inl 146))), some (.inl y1), some (.inl y2), some (.inl y3)] [] (jxSH, a, b0)) (jQ_X12_leave x1 a0 b0)) ∧ (∀ (y1 y2 y3 : Int) (a : Nat → Nat → Int), (((20 - y3) * 1) + 0).toNat ≤ n → iv a → jfr jW_X12_leave a0 a → 0 ≤ y1 → y1 ≤ 39 → 0 ≤ y3 → y3 ≤ 19 → 1 ≤ a 146 49 → a 181 (y3.toNat) = 1 → y3 < a 146 49 → (OC a) → jt (jxX E d 279 126 [some (.inr (.inr (.inl 146))), some (.inl y1), some (.inl y2), some (.inl y3)] [] (jxSH, a, b0)) (jQ_X12_leave x1 a0 b0)) ∧ (∀ (y1 y2 y3 : Int) (a : Nat → Nat → Int), (((20 - y3) * 1) + 0).toNat ≤ n → iv a → jfr jW_X12_leave a0 a → 0 ≤ y1 → y1 ≤ 39 → 0 ≤ y3 → y3 ≤ 20 → (OC a) → jt (jxX E d 279 95 [some (.inr (.inr (.inl 146))), some (.inl y1), some (.inl y2), some (.inl y3)] [] (jxSH, a, b0)) (jQ_X12_leave x1 a0 b0)) := by
  refine jx_ind fun n ih => ?_
  have ih140 : ∀ (y1 y2 y3 : Int) (a : Nat → Nat → Int), (((20 - y3) * 1) + 0).toNat < n → iv a → jfr jW_X12_leave a0 a → 0 ≤ y1 → y1 ≤ 39 → 0 ≤ y3 → y3 ≤ 19 → 1 ≤ a 146 49 → y3 < a 146 49 → (OC a) → jt (jxX E d 279 140 [some (.inr (.inr (.inl 146))), some (.inl y1), some (.inl y2), some (.inl y3)] [] (jxSH, a, b0)) (jQ_X12_leave x1 a0 b0) := fun y1 y2 y3 a hlt i0 i1 i2 i3 i4 i5 i6 i7 i8 => (ih _ hlt).1 y1 y2 y3 a (Nat.le_refl _) i0 i1 i2 i3 i4 i5 i6 i7 i8
  have ih126 : ∀ (y1 y2 y3 : Int) (a : Nat → Nat → Int), (((20 - y3) * 1) + 0).toNat < n → iv a → jfr jW_X12_leave a0 a → 0 ≤ y1 → y1 ≤ 39 → 0 ≤ y3 → y3 ≤ 19 → 1 ≤ a 146 49 → a 181 (y3.toNat) = 1 → y3 < a 146 49 → (OC a) → jt (jxX E d 279 126 [some (.inr (.inr (.inl 146))), some (.inl y1), some (.inl y2), some (.inl y3)] [] (jxSH, a, b0)) (jQ_X12_leave x1 a0 b0) := fun y1 y2 y3 a hlt i0 i1 i2 i3 i4 i5 i6 i7 i8 i9 => (ih _ hlt).2.1 y1 y2 y3 a (Nat.le_refl _) i0 i1 i2 i3 i4 i5 i6 i7 i8 i9
  have ih95 : ∀ (y1 y2 y3 : Int) (a : Nat → Nat → Int), (((20 - y3) * 1) + 0).toNat < n → iv a → jfr jW_X12_leave a0 a → 0 ≤ y1 → y1 ≤ 39 → 0 ≤ y3 → y3 ≤ 20 → (OC a) → jt (jxX E d 279 95 [some (.inr (.inr (.inl 146))), some (.inl y1), some (.inl y2), some (.inl y3)] [] (jxSH, a, b0)) (jQ_X12_leave x1 a0 b0) := fun y1 y2 y3 a hlt i0 i1 i2 i3 i4 i5 i6 => (ih _ hlt).2.2 y1 y2 y3 a (Nat.le_refl _) i0 i1 i2 i3 i4 i5 i6
  have hc140 : ∀ (y1 y2 y3 : Int) (a : Nat → Nat → Int), (((20 - y3) * 1) + 0).toNat ≤ n → iv a → jfr jW_X12_leave a0 a → 0 ≤ y1 → y1 ≤ 39 → 0 ≤ y3 → y3 ≤ 19 → 1 ≤ a 146 49 → y3 < a 146 49 → (OC a) → jt (jxX E d 279 140 [some (.inr (.inr (.inl 146))), some (.inl y1), some (.inl y2), some (.inl y3)] [] (jxSH, a, b0)) (jQ_X12_leave x1 a0 b0) := by
    intro y1 y2 y3 a hm hv hf hi0 hi1 hi2 hi3 hi4 hi5 hi6
    refine jt_eq (bq_X12_leave_140 E d y1 y2 y3 a b0) ?_
    have h422_ := iv_get hv (k := 146) (j := 49) (l := 0) (u := 20) rfl
    have h423_ : a 146 49 = a0 146 49 := hf 146 49 rfl
    have h424_ := iv_get hv0 (k := 146) (j := 49) (l := 0) (u := 20) rfl
    refine jt_grd (by omega) ?_
    have hv425_ : iv (jxu a 181 (y3.toNat) 2) := iv_put hv (l := 0) (u := 2) rfl (by omega) (by omega)
    have hf426_ : jfr jW_X12_leave a0 (jxu a 181 (y3.toNat) 2) := jfr_put hf rfl
    have h427_ : jxw (y3 + 1) = y3 + 1 := jxw_id (by omega) (by omega)
    have hg428_ : OC (jxu a 181 (y3.toNat) 2) := (OC_put2 hi6 (by decide) (by omega))
    exact ih95 y1 y2 (jxw (y3 + 1)) (jxu a 181 (y3.toNat) 2) (show (((20 - (jxw (y3 + 1))) * 1) + 0).toNat < n from by omega) hv425_ hf426_ (show 0 ≤ y1 from by omega) (show y1 ≤ 39 from by omega) (show 0 ≤ jxw (y3 + 1) from by omega) (show jxw (y3 + 1) ≤ 20 from by omega) hg428_
  have hc126 : ∀ (y1 y2 y3 : Int) (a : Nat → Nat → Int), (((20 - y3) * 1) + 0).toNat ≤ n → iv a → jfr jW_X12_leave a0 a → 0 ≤ y1 → y1 ≤ 39 → 0 ≤ y3 → y3 ≤ 19 → 1 ≤ a 146 49 → a 181 (y3.toNat) = 1 → y3 < a 146 49 → (OC a) → jt (jxX E d 279 126 [some (.inr (.inr (.inl 146))), some (.inl y1), some (.inl y2), some (.inl y3)] [] (jxSH, a, b0)) (jQ_X12_leave x1 a0 b0) := by
    intro y1 y2 y3 a hm hv hf hi0 hi1 hi2 hi3 hi4 hi5 hi6 hi7
    refine jt_eq (bq_X12_leave_126 E d y1 y2 y3 a b0) ?_
    have h429_ := iv_get hv (k := 146) (j := 49) (l := 0) (u := 20) rfl
    have h430_ : a 146 49 = a0 146 49 := hf 146 49 rfl
    have h431_ := iv_get hv0 (k := 146) (j := 49) (l := 0) (u := 20) rfl
    have h432_ := iv_get hv (k := 181) (j := y3.toNat) (l := 0) (u := 2) rfl
    refine jt_grd (by omega) ?_
    have h433_ : a 182 (y3.toNat) = a0 182 (y3.toNat) := hf 182 (y3.toNat) rfl
    refine jt_bI (sp_X12_drops E d (jd_le hd rfl) (a 182 (y3.toNat)) y3 a b0 hv (show (0 ≤ y3 ∧ y3 ≤ 19) from by omega) (show y3 < a 146 49 from by omega) (show a 181 (y3.toNat) = 1 from by omega) (show a 182 (y3.toNat) = a 182 (y3.toNat) from by omega) hi7) (fun r434_ a434_ b434_ h434_ => ?_)
    obtain ⟨hv434_, hf434_, rfl, hq434_0, hq434_1⟩ := h434_
    have hf435_ : jfr jW_X12_leave a0 a434_ := jfr_tr hf hf434_ rfl
    have h436_ := iv_get hv434_ (k := 146) (j := 49) (l := 0) (u := 20) rfl
    have h437_ : a434_ 146 49 = a 146 49 := hf434_ 146 49 rfl
    exact hc140 y1 (jxw (y2 + r434_)) y3 a434_ (show (((20 - y3) * 1) + 0).toNat ≤ n from by omega) hv434_ hf435_ (show 0 ≤ y1 from by omega) (show y1 ≤ 39 from by omega) (show 0 ≤ y3 from by omega) (show y3 ≤ 19 from by omega) (show 1 ≤ a434_ 146 49 from by omega) (show y3 < a434_ 146 49 from by omega) hq434_1
  have hc95 : ∀ (y1 y2 y3 : Int) (a : Nat → Nat → Int), (((20 - y3) * 1) + 0).toNat ≤ n → iv a → jfr jW_X12_leave a0 a → 0 ≤ y1 → y1 ≤ 39 → 0 ≤ y3 → y3 ≤ 20 → (OC a) → jt (jxX E d 279 95 [some (.inr (.inr (.inl 146))), some (.inl y1), some (.inl y2), some (.inl y3)] [] (jxSH, a, b0)) (jQ_X12_leave x1 a0 b0) := by
    intro y1 y2 y3 a hm hv hf hi0 hi1 hi2 hi3 hi4
    refine jt_eq (bq_X12_leave_95 E d y1 y2 y3 a b0) ?_
    have h438_ := iv_get hv (k := 146) (j := 49) (l := 0) (u := 20) rfl
    have h439_ : a 146 49 = a0 146 49 := hf 146 49 rfl
    have h440_ := iv_get hv0 (k := 146) (j := 49) (l := 0) (u := 20) rfl
    refine jt_ite (fun c441_ => ?_) (fun c441_ => ?_)
    ·
      refine jt_grd (by omega) ?_
      have h442_ := iv_get hv (k := 178) (j := y3.toNat) (l := 0) (u := 39) rfl
      have h443_ : a 178 (y3.toNat) = a0 178 (y3.toNat) := hf 178 (y3.toNat) rfl
      have h444_ := iv_get hv0 (k := 178) (j := y3.toNat) (l := 0) (u := 39) rfl
      refine jt_ite (fun c445_ => ?_) (fun c445_ => ?_)
      ·
        refine jt_grd (by omega) ?_
        have h446_ := iv_get hv (k := 181) (j := y3.toNat) (l := 0) (u := 2) rfl
        refine jt_ite (fun c447_ => ?_) (fun c447_ => ?_)
        ·
          exact hc126 y1 y2 y3 a (show (((20 - y3) * 1) + 0).toNat ≤ n from by omega) hv hf (show 0 ≤ y1 from by omega) (show y1 ≤ 39 from by omega) (show 0 ≤ y3 from by omega) (show y3 ≤ 19 from by omega) (show 1 ≤ a 146 49 from by omega) (show a 181 (y3.toNat) = 1 from by omega) (show y3 < a 146 49 from by omega) hi4
        ·
          exact hc140 y1 y2 y3 a (show (((20 - y3) * 1) + 0).toNat ≤ n from by omega) hv hf (show 0 ≤ y1 from by omega) (show y1 ≤ 39 from by omega) (show 0 ≤ y3 from by omega) (show y3 ≤ 19 from by omega) (show 1 ≤ a 146 49 from by omega) (show y3 < a 146 49 from by omega) hi4
      ·
        have h448_ : jxw (y3 + 1) = y3 + 1 := jxw_id (by omega) (by omega)
        exact ih95 y1 y2 (jxw (y3 + 1)) a (show (((20 - (jxw (y3 + 1))) * 1) + 0).toNat < n from by omega) hv hf (show 0 ≤ y1 from by omega) (show y1 ≤ 39 from by omega) (show 0 ≤ jxw (y3 + 1) from by omega) (show jxw (y3 + 1) ≤ 20 from by omega) hi4
    ·
      exact jt_rI ⟨hv, hf, rfl, hi4⟩
  exact ⟨hc140, hc126, hc95⟩
theorem cp_X12_leave_30 (E : jxE) (d : Nat) (hd : Nat.ble 5 (d + 1) = true) (x1 : Int) (a0 b0 : Nat → Nat → Int) (hv0 : iv a0) (hp0 : OC a0) : ∀ n : Nat, (∀ (y1 y2 y3 : Int) (a : Nat → Nat → Int), (((300 - y3) * 1) + 0).toNat ≤ n → iv a → jfr jW_X12_leave a0 a → 0 ≤ y1 → y1 ≤ 39 → 0 ≤ y3 → y3 ≤ 299 → 1 ≤ a 146 9 → (OC a) → jt (jxX E d 279 56 [some (.inr (.inr (.inl 146))), some (.inl y1), some (.inl y2), some (.inl y3)] [] (jxSH, a, b0)) (jQ_X12_leave x1 a0 b0)) ∧ (∀ (y1 y2 y3 : Int) (a : Nat → Nat → Int), (((300 - y3) * 1) + 0).toNat ≤ n → iv a → jfr jW_X12_leave a0 a → 0 ≤ y1 → y1 ≤ 39 → 0 ≤ y3 → y3 ≤ 299 → 1 ≤ a 146 9 → (OC a) → jt (jxX E d 279 84 [some (.inr (.inr (.inl 146))), some (.inl y1), some (.inl y2), some (.inl y3)] [] (jxSH, a, b0)) (jQ_X12_leave x1 a0 b0)) ∧ (∀ (y1 y2 y3 : Int) (a : Nat → Nat → Int), (((300 - y3) * 1) + 0).toNat ≤ n → iv a → jfr jW_X12_leave a0 a → 0 ≤ y1 → y1 ≤ 39 → 0 ≤ y3 → y3 ≤ 299 → 1 ≤ a 146 9 → (OC a) → jt (jxX E d 279 59 [some (.inr (.inr (.inl 146))), some (.inl y1), some (.inl y2), some (.inl y3)] [] (jxSH, a, b0)) (jQ_X12_leave x1 a0 b0)) ∧ (∀ (y1 y2 y3 : Int) (a : Nat → Nat → Int), (((300 - y3) * 1) + 0).toNat ≤ n → iv a → jfr jW_X12_leave a0 a → 0 ≤ y1 → y1 ≤ 39 → 0 ≤ y3 → y3 ≤ 300 → (OC a) → jt (jxX E d 279 30 [some (.inr (.inr (.inl 146))), some (.inl y1), some (.inl y2), some (.inl y3)] [] (jxSH, a, b0)) (jQ_X12_leave x1 a0 b0)) := by
  refine jx_ind fun n ih => ?_
  have ih56 : ∀ (y1 y2 y3 : Int) (a : Nat → Nat → Int), (((300 - y3) * 1) + 0).toNat < n → iv a → jfr jW_X12_leave a0 a → 0 ≤ y1 → y1 ≤ 39 → 0 ≤ y3 → y3 ≤ 299 → 1 ≤ a 146 9 → (OC a) → jt (jxX E d 279 56 [some (.inr (.inr (.inl 146))), some (.inl y1), some (.inl y2), some (.inl y3)] [] (jxSH, a, b0)) (jQ_X12_leave x1 a0 b0) := fun y1 y2 y3 a hlt i0 i1 i2 i3 i4 i5 i6 i7 => (ih _ hlt).1 y1 y2 y3 a (Nat.le_refl _) i0 i1 i2 i3 i4 i5 i6 i7
  have ih84 : ∀ (y1 y2 y3 : Int) (a : Nat → Nat → Int), (((300 - y3) * 1) + 0).toNat < n → iv a → jfr jW_X12_leave a0 a → 0 ≤ y1 → y1 ≤ 39 → 0 ≤ y3 → y3 ≤ 299 → 1 ≤ a 146 9 → (OC a) → jt (jxX E d 279 84 [some (.inr (.inr (.inl 146))), some (.inl y1), some (.inl y2), some (.inl y3)] [] (jxSH, a, b0)) (jQ_X12_leave x1 a0 b0) := fun y1 y2 y3 a hlt i0 i1 i2 i3 i4 i5 i6 i7 => (ih _ hlt).2.1 y1 y2 y3 a (Nat.le_refl _) i0 i1 i2 i3 i4 i5 i6 i7
  have ih59 : ∀ (y1 y2 y3 : Int) (a : Nat → Nat → Int), (((300 - y3) * 1) + 0).toNat < n → iv a → jfr jW_X12_leave a0 a → 0 ≤ y1 → y1 ≤ 39 → 0 ≤ y3 → y3 ≤ 299 → 1 ≤ a 146 9 → (OC a) → jt (jxX E d 279 59 [some (.inr (.inr (.inl 146))), some (.inl y1), some (.inl y2), some (.inl y3)] [] (jxSH, a, b0)) (jQ_X12_leave x1 a0 b0) := fun y1 y2 y3 a hlt i0 i1 i2 i3 i4 i5 i6 i7 => (ih _ hlt).2.2.1 y1 y2 y3 a (Nat.le_refl _) i0 i1 i2 i3 i4 i5 i6 i7
  have ih30 : ∀ (y1 y2 y3 : Int) (a : Nat → Nat → Int), (((300 - y3) * 1) + 0).toNat < n → iv a → jfr jW_X12_leave a0 a → 0 ≤ y1 → y1 ≤ 39 → 0 ≤ y3 → y3 ≤ 300 → (OC a) → jt (jxX E d 279 30 [some (.inr (.inr (.inl 146))), some (.inl y1), some (.inl y2), some (.inl y3)] [] (jxSH, a, b0)) (jQ_X12_leave x1 a0 b0) := fun y1 y2 y3 a hlt i0 i1 i2 i3 i4 i5 i6 => (ih _ hlt).2.2.2 y1 y2 y3 a (Nat.le_refl _) i0 i1 i2 i3 i4 i5 i6
  have hc56 : ∀ (y1 y2 y3 : Int) (a : Nat → Nat → Int), (((300 - y3) * 1) + 0).toNat ≤ n → iv a → jfr jW_X12_leave a0 a → 0 ≤ y1 → y1 ≤ 39 → 0 ≤ y3 → y3 ≤ 299 → 1 ≤ a 146 9 → (OC a) → jt (jxX E d 279 56 [some (.inr (.inr (.inl 146))), some (.inl y1), some (.inl y2), some (.inl y3)] [] (jxSH, a, b0)) (jQ_X12_leave x1 a0 b0) := by
    intro y1 y2 y3 a hm hv hf hi0 hi1 hi2 hi3 hi4 hi5
    refine jt_eq (bq_X12_leave_56 E d y1 y2 y3 a b0) ?_
    have h449_ := iv_get hv (k := 146) (j := 9) (l := 0) (u := 300) rfl
    have h450_ : a 146 9 = a0 146 9 := hf 146 9 rfl
    have h451_ := iv_get hv0 (k := 146) (j := 9) (l := 0) (u := 300) rfl
    have h452_ : jxw (y3 + 1) = y3 + 1 := jxw_id (by omega) (by omega)
    exact ih30 y1 y2 (jxw (y3 + 1)) a (show (((300 - (jxw (y3 + 1))) * 1) + 0).toNat < n from by omega) hv hf (show 0 ≤ y1 from by omega) (show y1 ≤ 39 from by omega) (show 0 ≤ jxw (y3 + 1) from by omega) (show jxw (y3 + 1) ≤ 300 from by omega) hi5
  have hc84 : ∀ (y1 y2 y3 : Int) (a : Nat → Nat → Int), (((300 - y3) * 1) + 0).toNat ≤ n → iv a → jfr jW_X12_leave a0 a → 0 ≤ y1 → y1 ≤ 39 → 0 ≤ y3 → y3 ≤ 299 → 1 ≤ a 146 9 → (OC a) → jt (jxX E d 279 84 [some (.inr (.inr (.inl 146))), some (.inl y1), some (.inl y2), some (.inl y3)] [] (jxSH, a, b0)) (jQ_X12_leave x1 a0 b0) := by
    intro y1 y2 y3 a hm hv hf hi0 hi1 hi2 hi3 hi4 hi5
    refine jt_eq (bq_X12_leave_84 E d y1 y2 y3 a b0) ?_
    have h453_ := iv_get hv (k := 146) (j := 9) (l := 0) (u := 300) rfl
    have h454_ : a 146 9 = a0 146 9 := hf 146 9 rfl
    have h455_ := iv_get hv0 (k := 146) (j := 9) (l := 0) (u := 300) rfl
    have h456_ : jxw (y3 + 1) = y3 + 1 := jxw_id (by omega) (by omega)
    exact ih30 y1 (jxw (y2 + 1)) (jxw (y3 + 1)) a (show (((300 - (jxw (y3 + 1))) * 1) + 0).toNat < n from by omega) hv hf (show 0 ≤ y1 from by omega) (show y1 ≤ 39 from by omega) (show 0 ≤ jxw (y3 + 1) from by omega) (show jxw (y3 + 1) ≤ 300 from by omega) hi5
  have hc59 : ∀ (y1 y2 y3 : Int) (a : Nat → Nat → Int), (((300 - y3) * 1) + 0).toNat ≤ n → iv a → jfr jW_X12_leave a0 a → 0 ≤ y1 → y1 ≤ 39 → 0 ≤ y3 → y3 ≤ 299 → 1 ≤ a 146 9 → (OC a) → jt (jxX E d 279 59 [some (.inr (.inr (.inl 146))), some (.inl y1), some (.inl y2), some (.inl y3)] [] (jxSH, a, b0)) (jQ_X12_leave x1 a0 b0) := by
    intro y1 y2 y3 a hm hv hf hi0 hi1 hi2 hi3 hi4 hi5
    refine jt_eq (bq_X12_leave_59 E d y1 y2 y3 a b0) ?_
    have h457_ := iv_get hv (k := 146) (j := 9) (l := 0) (u := 300) rfl
    have h458_ : a 146 9 = a0 146 9 := hf 146 9 rfl
    have h459_ := iv_get hv0 (k := 146) (j := 9) (l := 0) (u := 300) rfl
    refine jt_grd (by omega) ?_
    refine jt_grd (by omega) ?_
    have h460_ := iv_get hv (k := 154) (j := y3.toNat) (l := 0) (u := 39) rfl
    have h461_ : a 154 (y3.toNat) = a0 154 (y3.toNat) := hf 154 (y3.toNat) rfl
    have h462_ := iv_get hv0 (k := 154) (j := y3.toNat) (l := 0) (u := 39) rfl
    refine jt_grd (by omega) ?_
    refine jt_grd (by omega) ?_
    have hv463_ : iv (jxu a 159 (y3.toNat) (a 146 0)) := iv_putf hv rfl
    have hv464_ : iv (jxu (jxu a 159 (y3.toNat) (a 146 0)) 153 ((a 154 (y3.toNat)).toNat) (jxw ((a 153 ((a 154 (y3.toNat)).toNat)) + 1))) := iv_putf hv463_ rfl
    have hf465_ : jfr jW_X12_leave a0 (jxu a 159 (y3.toNat) (a 146 0)) := jfr_put hf rfl
    have hf466_ : jfr jW_X12_leave a0 (jxu (jxu a 159 (y3.toNat) (a 146 0)) 153 ((a 154 (y3.toNat)).toNat) (jxw ((a 153 ((a 154 (y3.toNat)).toNat)) + 1))) := jfr_put hf465_ rfl
    have hg467_ : OC (jxu a 159 (y3.toNat) (a 146 0)) := (OC_fr hi5 (jfr_1 a 159 (y3.toNat) (a 146 0)) rfl rfl (fun _ => rfl) (fun _ => rfl) (fun _ => rfl) (fun _ => rfl) (fun _ => rfl))
    have hg468_ : OC (jxu (jxu a 159 (y3.toNat) (a 146 0)) 153 ((a 154 (y3.toNat)).toNat) (jxw ((a 153 ((a 154 (y3.toNat)).toNat)) + 1))) := (OC_fr hg467_ (jfr_1 (jxu a 159 (y3.toNat) (a 146 0)) 153 ((a 154 (y3.toNat)).toNat) (jxw ((a 153 ((a 154 (y3.toNat)).toNat)) + 1))) rfl rfl (fun _ => rfl) (fun _ => rfl) (fun _ => rfl) (fun _ => rfl) (fun _ => rfl))
    exact hc84 y1 y2 y3 (jxu (jxu a 159 (y3.toNat) (a 146 0)) 153 ((a 154 (y3.toNat)).toNat) (jxw ((a 153 ((a 154 (y3.toNat)).toNat)) + 1))) (show (((300 - y3) * 1) + 0).toNat ≤ n from by omega) hv464_ hf466_ (show 0 ≤ y1 from by omega) (show y1 ≤ 39 from by omega) (show 0 ≤ y3 from by omega) (show y3 ≤ 299 from by omega) (show 1 ≤ a 146 9 from by omega) hg468_
  have hc30 : ∀ (y1 y2 y3 : Int) (a : Nat → Nat → Int), (((300 - y3) * 1) + 0).toNat ≤ n → iv a → jfr jW_X12_leave a0 a → 0 ≤ y1 → y1 ≤ 39 → 0 ≤ y3 → y3 ≤ 300 → (OC a) → jt (jxX E d 279 30 [some (.inr (.inr (.inl 146))), some (.inl y1), some (.inl y2), some (.inl y3)] [] (jxSH, a, b0)) (jQ_X12_leave x1 a0 b0) := by
    intro y1 y2 y3 a hm hv hf hi0 hi1 hi2 hi3 hi4
    refine jt_eq (bq_X12_leave_30 E d y1 y2 y3 a b0) ?_
    have h469_ := iv_get hv (k := 146) (j := 9) (l := 0) (u := 300) rfl
    have h470_ : a 146 9 = a0 146 9 := hf 146 9 rfl
    have h471_ := iv_get hv0 (k := 146) (j := 9) (l := 0) (u := 300) rfl
    refine jt_ite (fun c472_ => ?_) (fun c472_ => ?_)
    ·
      refine jt_grd (by omega) ?_
      have h473_ := iv_get hv (k := 155) (j := y3.toNat) (l := 0) (u := 39) rfl
      have h474_ : a 155 (y3.toNat) = a0 155 (y3.toNat) := hf 155 (y3.toNat) rfl
      have h475_ := iv_get hv0 (k := 155) (j := y3.toNat) (l := 0) (u := 39) rfl
      refine jt_ite (fun c476_ => ?_) (fun c476_ => ?_)
      ·
        refine jt_bI (sp_X12_stateNow E d (jd_le hd rfl) y3 a b0 hv (show (0 ≤ y3 ∧ y3 ≤ 299) from by omega)) (fun r477_ a477_ b477_ h477_ => ?_)
        obtain ⟨rfl, rfl, hq477_0, hq477_1⟩ := h477_
        refine jt_ite (fun c478_ => ?_) (fun c478_ => ?_)
        ·
          exact hc59 y1 y2 y3 a (show (((300 - y3) * 1) + 0).toNat ≤ n from by omega) hv hf (show 0 ≤ y1 from by omega) (show y1 ≤ 39 from by omega) (show 0 ≤ y3 from by omega) (show y3 ≤ 299 from by omega) (show 1 ≤ a 146 9 from by omega) hi4
        ·
          exact hc56 y1 y2 y3 a (show (((300 - y3) * 1) + 0).toNat ≤ n from by omega) hv hf (show 0 ≤ y1 from by omega) (show y1 ≤ 39 from by omega) (show 0 ≤ y3 from by omega) (show y3 ≤ 299 from by omega) (show 1 ≤ a 146 9 from by omega) hi4
      ·
        have h479_ : jxw (y3 + 1) = y3 + 1 := jxw_id (by omega) (by omega)
        exact ih30 y1 y2 (jxw (y3 + 1)) a (show (((300 - (jxw (y3 + 1))) * 1) + 0).toNat < n from by omega) hv hf (show 0 ≤ y1 from by omega) (show y1 ≤ 39 from by omega) (show 0 ≤ jxw (y3 + 1) from by omega) (show jxw (y3 + 1) ≤ 300 from by omega) hi4
    ·
      exact (cp_X12_leave_95 E d hd x1 a0 b0 hv0 hp0 _).2.2 y1 y2 0 a (Nat.le_refl _) hv hf (show 0 ≤ y1 from by omega) (show y1 ≤ 39 from by omega) (show 0 ≤ 0 from by omega) (show 0 ≤ 20 from by omega) hi4
  exact ⟨hc56, hc84, hc59, hc30⟩
theorem cp_X12_leave_26 (E : jxE) (d : Nat) (hd : Nat.ble 5 (d + 1) = true) (x1 : Int) (a0 b0 : Nat → Nat → Int) (hv0 : iv a0) (hp0 : OC a0) : ∀ (y1 : Int) (a : Nat → Nat → Int), iv a → jfr jW_X12_leave a0 a → 0 ≤ y1 → y1 ≤ 39 → (OC a) → jt (jxX E d 279 26 [some (.inr (.inr (.inl 146))), some (.inl y1), none, none] [] (jxSH, a, b0)) (jQ_X12_leave x1 a0 b0) := by
  intro y1 a hv hf hi0 hi1 hi2
  refine jt_eq (bq_X12_leave_26 E d y1 a b0) ?_
  exact (cp_X12_leave_30 E d hd x1 a0 b0 hv0 hp0 _).2.2.2 y1 0 0 a (Nat.le_refl _) hv hf (show 0 ≤ y1 from by omega) (show y1 ≤ 39 from by omega) (show 0 ≤ 0 from by omega) (show 0 ≤ 300 from by omega) hi2
theorem sp_X12_leave (E : jxE) (d : Nat) (hd : Nat.ble 5 d = true) (x1 : Int) (a0 b0 : Nat → Nat → Int) (hv0 : iv a0) (hp0 : OC a0) : jt (jxC E d 279 [.inr (.inr (.inl 146)), .inl x1] (jxSH, a0, b0)) (jQ_X12_leave x1 a0 b0) := by
  obtain ⟨d, rfl⟩ := jd_succ hd
  refine jt_eq (bq_X12_leave E d x1 a0 b0) ?_
  refine jt_eI (eq_X12_isMember E d (jd_le hd rfl) x1 a0 b0) ?_
  have h480_ := f_X12_isMember_eq a0 b0 x1
  have h481_ := iv_get hv0 (k := 146) (j := 2) (l := 0) (u := 40) rfl
  have h482_ : jxw ((a0 146 2) - 1) = (a0 146 2) - 1 := jxw_id (by omega) (by omega)
  have h483_ := f_X12_in_eq a0 b0 x1 0 (jxw ((a0 146 2) - 1))
  refine jt_ite (fun c484_ => ?_) (fun c484_ => ?_)
  ·
    exact jt_rI ⟨hv0, (jfr_rf _ _), rfl, hp0⟩
  ·
    refine jt_grd (by omega) ?_
    have h485_ := iv_get hv0 (k := 152) (j := x1.toNat) (l := 0) (u := 1) rfl
    refine jt_ite (fun c486_ => ?_) (fun c486_ => ?_)
    ·
      exact jt_rI ⟨hv0, (jfr_rf _ _), rfl, hp0⟩
    ·
      refine jt_grd (by omega) ?_
      have hv487_ : iv (jxu a0 152 (x1.toNat) 0) := iv_put hv0 (l := 0) (u := 1) rfl (by omega) (by omega)
      have hf488_ : jfr jW_X12_leave a0 (jxu a0 152 (x1.toNat) 0) := jfr_put (jfr_rf _ _) rfl
      have hg489_ : OC (jxu a0 152 (x1.toNat) 0) := (OC_fr hp0 (jfr_1 a0 152 (x1.toNat) 0) rfl rfl (fun _ => rfl) (fun _ => rfl) (fun _ => rfl) (fun _ => rfl) (fun _ => rfl))
      exact cp_X12_leave_26 E d hd x1 a0 b0 hv0 hp0 x1 (jxu a0 152 (x1.toNat) 0) hv487_ hf488_ (show 0 ≤ x1 from by omega) (show x1 ≤ 39 from by omega) hg489_
def jW_X12_makes : List (Nat × Nat) := [(199, 9999)]
abbrev jQ_X12_makes (a0 b0 : Nat → Nat → Int) : List jxV → (Nat → Nat → Int) → (Nat → Nat → Int) → Prop := rV (fun a b => (iv a) ∧ (jfr jW_X12_makes a0 a) ∧ (b0 = b))
theorem cp_X12_makes_39 (E : jxE) (d : Nat) (hd : Nat.ble 1 (d + 1) = true) (a0 b0 : Nat → Nat → Int) (hv0 : iv a0) (hp0 : SV a0) : ∀ n : Nat, (∀ (y1 y2 y3 y4 y5 : Int) (a : Nat → Nat → Int), (((((((y1 + 1) * 75709) + 0) + ((1400 - y2) * 54)) + 0) + ((51 - y4) * 1)) + 0).toNat ≤ n → iv a → jfr jW_X12_makes a0 a → 0 ≤ y1 → y1 ≤ 7 → 0 ≤ y2 → y2 ≤ 1399 → y3 ≤ 1000000 → 0 ≤ y4 → y4 ≤ 50 → jt (jxX E d 286 112 [some (.inr (.inr (.inl 146))), some (.inl y1), some (.inl y2), some (.inl y3), some (.inl y4), some (.inl y5)] [] (jxSH, a, b0)) (jQ_X12_makes a0 b0)) ∧ (∀ (y1 y2 y3 y4 : Int) (a : Nat → Nat → Int), (((((((y1 + 1) * 75709) + 0) + ((1400 - y2) * 54)) + 0) + ((51 - y4) * 1)) + 0).toNat ≤ n → iv a → jfr jW_X12_makes a0 a → 0 ≤ y1 → y1 ≤ 7 → 0 ≤ y2 → y2 ≤ 1399 → y3 ≤ 1000000 → 0 ≤ y4 → y4 ≤ 50 → y4 ≤ a 197 (y1.toNat) → y4 * (a 196 (y1.toNat)) ≤ y2 → 0 ≤ y4 → jt (jxX E d 286 83 [some (.inr (.inr (.inl 146))), some (.inl y1), some (.inl y2), some (.inl y3), some (.inl y4), none] [] (jxSH, a, b0)) (jQ_X12_makes a0 b0)) ∧ (∀ (y1 y2 y3 : Int) (a : Nat → Nat → Int), (((((y1 + 1) * 75709) + 0) + ((1400 - y2) * 54)) + 0).toNat ≤ n → iv a → jfr jW_X12_makes a0 a → 0 ≤ y1 → y1 ≤ 7 → 0 ≤ y2 → y2 ≤ 1399 → y3 ≤ 1000000 → jt (jxX E d 286 131 [some (.inr (.inr (.inl 146))), some (.inl y1), some (.inl y2), some (.inl y3), none, none] [] (jxSH, a, b0)) (jQ_X12_makes a0 b0)) ∧ (∀ (y1 y2 y3 y4 : Int) (a : Nat → Nat → Int), (((((((y1 + 1) * 75709) + 0) + ((1400 - y2) * 54)) + 0) + ((51 - y4) * 1)) + 0).toNat ≤ n → iv a → jfr jW_X12_makes a0 a → 0 ≤ y1 → y1 ≤ 7 → 0 ≤ y2 → y2 ≤ 1399 → y3 ≤ 1000000 → 0 ≤ y4 → y4 ≤ 51 → 0 ≤ y4 → jt (jxX E d 286 59 [some (.inr (.inr (.inl 146))), some (.inl y1), some (.inl y2), some (.inl y3), some (.inl y4), none] [] (jxSH, a, b0)) (jQ_X12_makes a0 b0)) ∧ (∀ (y1 y2 : Int) (a : Nat → Nat → Int), (((((y1 + 1) * 75709) + 0) + ((1400 - y2) * 54)) + 53).toNat ≤ n → iv a → jfr jW_X12_makes a0 a → 0 ≤ y1 → y1 ≤ 7 → 0 ≤ y2 → y2 ≤ 1400 → jt (jxX E d 286 45 [some (.inr (.inr (.inl 146))), some (.inl y1), some (.inl y2), none, none, none] [] (jxSH, a, b0)) (jQ_X12_makes a0 b0)) ∧ (∀ (y1 : Int) (a : Nat → Nat → Int), (((y1 + 1) * 75709) + 75708).toNat ≤ n → iv a → jfr jW_X12_makes a0 a → 0 - 1 ≤ y1 → y1 ≤ 7 → jt (jxX E d 286 39 [some (.inr (.inr (.inl 146))), some (.inl y1), none, none, none, none] [] (jxSH, a, b0)) (jQ_X12_makes a0 b0)) := by
  refine jx_ind fun n ih => ?_
  have ih112 : ∀ (y1 y2 y3 y4 y5 : Int) (a : Nat → Nat → Int), (((((((y1 + 1) * 75709) + 0) + ((1400 - y2) * 54)) + 0) + ((51 - y4) * 1)) + 0).toNat < n → iv a → jfr jW_X12_makes a0 a → 0 ≤ y1 → y1 ≤ 7 → 0 ≤ y2 → y2 ≤ 1399 → y3 ≤ 1000000 → 0 ≤ y4 → y4 ≤ 50 → jt (jxX E d 286 112 [some (.inr (.inr (.inl 146))), some (.inl y1), some (.inl y2), some (.inl y3), some (.inl y4), some (.inl y5)] [] (jxSH, a, b0)) (jQ_X12_makes a0 b0) := fun y1 y2 y3 y4 y5 a hlt i0 i1 i2 i3 i4 i5 i6 i7 i8 => (ih _ hlt).1 y1 y2 y3 y4 y5 a (Nat.le_refl _) i0 i1 i2 i3 i4 i5 i6 i7 i8
  have ih83 : ∀ (y1 y2 y3 y4 : Int) (a : Nat → Nat → Int), (((((((y1 + 1) * 75709) + 0) + ((1400 - y2) * 54)) + 0) + ((51 - y4) * 1)) + 0).toNat < n → iv a → jfr jW_X12_makes a0 a → 0 ≤ y1 → y1 ≤ 7 → 0 ≤ y2 → y2 ≤ 1399 → y3 ≤ 1000000 → 0 ≤ y4 → y4 ≤ 50 → y4 ≤ a 197 (y1.toNat) → y4 * (a 196 (y1.toNat)) ≤ y2 → 0 ≤ y4 → jt (jxX E d 286 83 [some (.inr (.inr (.inl 146))), some (.inl y1), some (.inl y2), some (.inl y3), some (.inl y4), none] [] (jxSH, a, b0)) (jQ_X12_makes a0 b0) := fun y1 y2 y3 y4 a hlt i0 i1 i2 i3 i4 i5 i6 i7 i8 i9 i10 i11 => (ih _ hlt).2.1 y1 y2 y3 y4 a (Nat.le_refl _) i0 i1 i2 i3 i4 i5 i6 i7 i8 i9 i10 i11
  have ih131 : ∀ (y1 y2 y3 : Int) (a : Nat → Nat → Int), (((((y1 + 1) * 75709) + 0) + ((1400 - y2) * 54)) + 0).toNat < n → iv a → jfr jW_X12_makes a0 a → 0 ≤ y1 → y1 ≤ 7 → 0 ≤ y2 → y2 ≤ 1399 → y3 ≤ 1000000 → jt (jxX E d 286 131 [some (.inr (.inr (.inl 146))), some (.inl y1), some (.inl y2), some (.inl y3), none, none] [] (jxSH, a, b0)) (jQ_X12_makes a0 b0) := fun y1 y2 y3 a hlt i0 i1 i2 i3 i4 i5 i6 => (ih _ hlt).2.2.1 y1 y2 y3 a (Nat.le_refl _) i0 i1 i2 i3 i4 i5 i6
  have ih59 : ∀ (y1 y2 y3 y4 : Int) (a : Nat → Nat → Int), (((((((y1 + 1) * 75709) + 0) + ((1400 - y2) * 54)) + 0) + ((51 - y4) * 1)) + 0).toNat < n → iv a → jfr jW_X12_makes a0 a → 0 ≤ y1 → y1 ≤ 7 → 0 ≤ y2 → y2 ≤ 1399 → y3 ≤ 1000000 → 0 ≤ y4 → y4 ≤ 51 → 0 ≤ y4 → jt (jxX E d 286 59 [some (.inr (.inr (.inl 146))), some (.inl y1), some (.inl y2), some (.inl y3), some (.inl y4), none] [] (jxSH, a, b0)) (jQ_X12_makes a0 b0) := fun y1 y2 y3 y4 a hlt i0 i1 i2 i3 i4 i5 i6 i7 i8 i9 => (ih _ hlt).2.2.2.1 y1 y2 y3 y4 a (Nat.le_refl _) i0 i1 i2 i3 i4 i5 i6 i7 i8 i9
  have ih45 : ∀ (y1 y2 : Int) (a : Nat → Nat → Int), (((((y1 + 1) * 75709) + 0) + ((1400 - y2) * 54)) + 53).toNat < n → iv a → jfr jW_X12_makes a0 a → 0 ≤ y1 → y1 ≤ 7 → 0 ≤ y2 → y2 ≤ 1400 → jt (jxX E d 286 45 [some (.inr (.inr (.inl 146))), some (.inl y1), some (.inl y2), none, none, none] [] (jxSH, a, b0)) (jQ_X12_makes a0 b0) := fun y1 y2 a hlt i0 i1 i2 i3 i4 i5 => (ih _ hlt).2.2.2.2.1 y1 y2 a (Nat.le_refl _) i0 i1 i2 i3 i4 i5
  have ih39 : ∀ (y1 : Int) (a : Nat → Nat → Int), (((y1 + 1) * 75709) + 75708).toNat < n → iv a → jfr jW_X12_makes a0 a → 0 - 1 ≤ y1 → y1 ≤ 7 → jt (jxX E d 286 39 [some (.inr (.inr (.inl 146))), some (.inl y1), none, none, none, none] [] (jxSH, a, b0)) (jQ_X12_makes a0 b0) := fun y1 a hlt i0 i1 i2 i3 => (ih _ hlt).2.2.2.2.2 y1 a (Nat.le_refl _) i0 i1 i2 i3
  have hc112 : ∀ (y1 y2 y3 y4 y5 : Int) (a : Nat → Nat → Int), (((((((y1 + 1) * 75709) + 0) + ((1400 - y2) * 54)) + 0) + ((51 - y4) * 1)) + 0).toNat ≤ n → iv a → jfr jW_X12_makes a0 a → 0 ≤ y1 → y1 ≤ 7 → 0 ≤ y2 → y2 ≤ 1399 → y3 ≤ 1000000 → 0 ≤ y4 → y4 ≤ 50 → jt (jxX E d 286 112 [some (.inr (.inr (.inl 146))), some (.inl y1), some (.inl y2), some (.inl y3), some (.inl y4), some (.inl y5)] [] (jxSH, a, b0)) (jQ_X12_makes a0 b0) := by
    intro y1 y2 y3 y4 y5 a hm hv hf hi0 hi1 hi2 hi3 hi4 hi5 hi6
    refine jt_eq (bq_X12_makes_112 E d y1 y2 y3 y4 y5 a b0) ?_
    refine jt_ite (fun c490_ => ?_) (fun c490_ => ?_)
    ·
      have h491_ : jxw (y4 + 1) = y4 + 1 := jxw_id (by omega) (by omega)
      exact ih59 y1 y2 y5 (jxw (y4 + 1)) a (show (((((((y1 + 1) * 75709) + 0) + ((1400 - y2) * 54)) + 0) + ((51 - (jxw (y4 + 1))) * 1)) + 0).toNat < n from by omega) hv hf (show 0 ≤ y1 from by omega) (show y1 ≤ 7 from by omega) (show 0 ≤ y2 from by omega) (show y2 ≤ 1399 from by omega) (show y5 ≤ 1000000 from by omega) (show 0 ≤ jxw (y4 + 1) from by omega) (show jxw (y4 + 1) ≤ 51 from by omega) (show 0 ≤ jxw (y4 + 1) from by omega)
    ·
      have h492_ : jxw (y4 + 1) = y4 + 1 := jxw_id (by omega) (by omega)
      exact ih59 y1 y2 y3 (jxw (y4 + 1)) a (show (((((((y1 + 1) * 75709) + 0) + ((1400 - y2) * 54)) + 0) + ((51 - (jxw (y4 + 1))) * 1)) + 0).toNat < n from by omega) hv hf (show 0 ≤ y1 from by omega) (show y1 ≤ 7 from by omega) (show 0 ≤ y2 from by omega) (show y2 ≤ 1399 from by omega) (show y3 ≤ 1000000 from by omega) (show 0 ≤ jxw (y4 + 1) from by omega) (show jxw (y4 + 1) ≤ 51 from by omega) (show 0 ≤ jxw (y4 + 1) from by omega)
  have hc83 : ∀ (y1 y2 y3 y4 : Int) (a : Nat → Nat → Int), (((((((y1 + 1) * 75709) + 0) + ((1400 - y2) * 54)) + 0) + ((51 - y4) * 1)) + 0).toNat ≤ n → iv a → jfr jW_X12_makes a0 a → 0 ≤ y1 → y1 ≤ 7 → 0 ≤ y2 → y2 ≤ 1399 → y3 ≤ 1000000 → 0 ≤ y4 → y4 ≤ 50 → y4 ≤ a 197 (y1.toNat) → y4 * (a 196 (y1.toNat)) ≤ y2 → 0 ≤ y4 → jt (jxX E d 286 83 [some (.inr (.inr (.inl 146))), some (.inl y1), some (.inl y2), some (.inl y3), some (.inl y4), none] [] (jxSH, a, b0)) (jQ_X12_makes a0 b0) := by
    intro y1 y2 y3 y4 a hm hv hf hi0 hi1 hi2 hi3 hi4 hi5 hi6 hi7 hi8 hi9
    refine jt_eq (bq_X12_makes_83 E d y1 y2 y3 y4 a b0) ?_
    have h493_ := iv_get hv (k := 197) (j := y1.toNat) (l := 0) (u := 50) rfl
    have h494_ : a 197 (y1.toNat) = a0 197 (y1.toNat) := hf 197 (y1.toNat) rfl
    have h495_ := iv_get hv0 (k := 197) (j := y1.toNat) (l := 0) (u := 50) rfl
    have h496_ := iv_get hv (k := 196) (j := y1.toNat) (l := (-1)) (u := 500) rfl
    have h497_ : a 196 (y1.toNat) = a0 196 (y1.toNat) := hf 196 (y1.toNat) rfl
    have h498_ := iv_get hv0 (k := 196) (j := y1.toNat) (l := (-1)) (u := 500) rfl
    have hsv := SV_fr hp0 hf (fun _ => rfl) (fun _ => rfl) y1.toNat (by omega)
    have i196 := iv_get hv (k := 196) (j := y1.toNat) (l := (-1)) (u := 500) rfl
    have i197 := iv_get hv (k := 197) (j := y1.toNat) (l := 0) (u := 50) rfl
    have hmul : y4 ≤ a 197 (y1.toNat) → 0 ≤ y4 * (a 196 (y1.toNat)) ∧ y4 * (a 196 (y1.toNat)) ≤ 25500 := fun h => mul_bd (by omega) (by omega) (by omega) (by omega)
    refine jt_grd (by omega) ?_
    have h499_ : jxw (y1 + 1) = y1 + 1 := jxw_id (by omega) (by omega)
    have h500_ : jxw (1400 * (jxw (y1 + 1))) = 1400 * (jxw (y1 + 1)) := jxw_id (by omega) (by omega)
    have h501_ : jxw ((jxw (1400 * (jxw (y1 + 1)))) + y2) = (jxw (1400 * (jxw (y1 + 1)))) + y2 := jxw_id (by omega) (by omega)
    have h502_ : jxw (y4 * (a 196 (y1.toNat))) = y4 * (a 196 (y1.toNat)) := jxw_id (by omega) (by omega)
    have h503_ : jxw ((jxw ((jxw (1400 * (jxw (y1 + 1)))) + y2)) - (jxw (y4 * (a 196 (y1.toNat))))) = (jxw ((jxw (1400 * (jxw (y1 + 1)))) + y2)) - (jxw (y4 * (a 196 (y1.toNat)))) := jxw_id (by omega) (by omega)
    refine jt_grd (by omega) ?_
    exact hc112 y1 y2 y3 y4 (jxw (y4 + (a 199 ((jxw ((jxw ((jxw (1400 * (jxw (y1 + 1)))) + y2)) - (jxw (y4 * (a 196 (y1.toNat)))))).toNat)))) a (show (((((((y1 + 1) * 75709) + 0) + ((1400 - y2) * 54)) + 0) + ((51 - y4) * 1)) + 0).toNat ≤ n from by omega) hv hf (show 0 ≤ y1 from by omega) (show y1 ≤ 7 from by omega) (show 0 ≤ y2 from by omega) (show y2 ≤ 1399 from by omega) (show y3 ≤ 1000000 from by omega) (show 0 ≤ y4 from by omega) (show y4 ≤ 50 from by omega)
  have hc131 : ∀ (y1 y2 y3 : Int) (a : Nat → Nat → Int), (((((y1 + 1) * 75709) + 0) + ((1400 - y2) * 54)) + 0).toNat ≤ n → iv a → jfr jW_X12_makes a0 a → 0 ≤ y1 → y1 ≤ 7 → 0 ≤ y2 → y2 ≤ 1399 → y3 ≤ 1000000 → jt (jxX E d 286 131 [some (.inr (.inr (.inl 146))), some (.inl y1), some (.inl y2), some (.inl y3), none, none] [] (jxSH, a, b0)) (jQ_X12_makes a0 b0) := by
    intro y1 y2 y3 a hm hv hf hi0 hi1 hi2 hi3 hi4
    refine jt_eq (bq_X12_makes_131 E d y1 y2 y3 a b0) ?_
    have h504_ : jxw (1400 * y1) = 1400 * y1 := jxw_id (by omega) (by omega)
    have h505_ : jxw ((jxw (1400 * y1)) + y2) = (jxw (1400 * y1)) + y2 := jxw_id (by omega) (by omega)
    refine jt_grd (by omega) ?_
    have hv506_ : iv (jxu a 199 ((jxw ((jxw (1400 * y1)) + y2)).toNat) y3) := iv_putf hv rfl
    have hf507_ : jfr jW_X12_makes a0 (jxu a 199 ((jxw ((jxw (1400 * y1)) + y2)).toNat) y3) := jfr_put hf rfl
    have h508_ : jxw (y2 + 1) = y2 + 1 := jxw_id (by omega) (by omega)
    exact ih45 y1 (jxw (y2 + 1)) (jxu a 199 ((jxw ((jxw (1400 * y1)) + y2)).toNat) y3) (show (((((y1 + 1) * 75709) + 0) + ((1400 - (jxw (y2 + 1))) * 54)) + 53).toNat < n from by omega) hv506_ hf507_ (show 0 ≤ y1 from by omega) (show y1 ≤ 7 from by omega) (show 0 ≤ jxw (y2 + 1) from by omega) (show jxw (y2 + 1) ≤ 1400 from by omega)
  have hc59 : ∀ (y1 y2 y3 y4 : Int) (a : Nat → Nat → Int), (((((((y1 + 1) * 75709) + 0) + ((1400 - y2) * 54)) + 0) + ((51 - y4) * 1)) + 0).toNat ≤ n → iv a → jfr jW_X12_makes a0 a → 0 ≤ y1 → y1 ≤ 7 → 0 ≤ y2 → y2 ≤ 1399 → y3 ≤ 1000000 → 0 ≤ y4 → y4 ≤ 51 → 0 ≤ y4 → jt (jxX E d 286 59 [some (.inr (.inr (.inl 146))), some (.inl y1), some (.inl y2), some (.inl y3), some (.inl y4), none] [] (jxSH, a, b0)) (jQ_X12_makes a0 b0) := by
    intro y1 y2 y3 y4 a hm hv hf hi0 hi1 hi2 hi3 hi4 hi5 hi6 hi7
    refine jt_eq (bq_X12_makes_59 E d y1 y2 y3 y4 a b0) ?_
    have hsv := SV_fr hp0 hf (fun _ => rfl) (fun _ => rfl) y1.toNat (by omega)
    have i196 := iv_get hv (k := 196) (j := y1.toNat) (l := (-1)) (u := 500) rfl
    have i197 := iv_get hv (k := 197) (j := y1.toNat) (l := 0) (u := 50) rfl
    have hmul : y4 ≤ a 197 (y1.toNat) → 0 ≤ y4 * (a 196 (y1.toNat)) ∧ y4 * (a 196 (y1.toNat)) ≤ 25500 := fun h => mul_bd (by omega) (by omega) (by omega) (by omega)
    refine jt_grd (by omega) ?_
    have h509_ := iv_get hv (k := 197) (j := y1.toNat) (l := 0) (u := 50) rfl
    have h510_ : a 197 (y1.toNat) = a0 197 (y1.toNat) := hf 197 (y1.toNat) rfl
    have h511_ := iv_get hv0 (k := 197) (j := y1.toNat) (l := 0) (u := 50) rfl
    refine jt_ite (fun c512_ => ?_) (fun c512_ => ?_)
    ·
      exact hc131 y1 y2 y3 a (show (((((y1 + 1) * 75709) + 0) + ((1400 - y2) * 54)) + 0).toNat ≤ n from by omega) hv hf (show 0 ≤ y1 from by omega) (show y1 ≤ 7 from by omega) (show 0 ≤ y2 from by omega) (show y2 ≤ 1399 from by omega) (show y3 ≤ 1000000 from by omega)
    ·
      refine jt_grd (by omega) ?_
      have h513_ := iv_get hv (k := 196) (j := y1.toNat) (l := (-1)) (u := 500) rfl
      have h514_ : a 196 (y1.toNat) = a0 196 (y1.toNat) := hf 196 (y1.toNat) rfl
      have h515_ := iv_get hv0 (k := 196) (j := y1.toNat) (l := (-1)) (u := 500) rfl
      have h516_ : jxw (y4 * (a 196 (y1.toNat))) = y4 * (a 196 (y1.toNat)) := jxw_id (by omega) (by omega)
      refine jt_ite (fun c517_ => ?_) (fun c517_ => ?_)
      ·
        exact hc131 y1 y2 y3 a (show (((((y1 + 1) * 75709) + 0) + ((1400 - y2) * 54)) + 0).toNat ≤ n from by omega) hv hf (show 0 ≤ y1 from by omega) (show y1 ≤ 7 from by omega) (show 0 ≤ y2 from by omega) (show y2 ≤ 1399 from by omega) (show y3 ≤ 1000000 from by omega)
      ·
        exact hc83 y1 y2 y3 y4 a (show (((((((y1 + 1) * 75709) + 0) + ((1400 - y2) * 54)) + 0) + ((51 - y4) * 1)) + 0).toNat ≤ n from by omega) hv hf (show 0 ≤ y1 from by omega) (show y1 ≤ 7 from by omega) (show 0 ≤ y2 from by omega) (show y2 ≤ 1399 from by omega) (show y3 ≤ 1000000 from by omega) (show 0 ≤ y4 from by omega) (show y4 ≤ 50 from by omega) (show y4 ≤ a 197 (y1.toNat) from by omega) (show y4 * (a 196 (y1.toNat)) ≤ y2 from by omega) (show 0 ≤ y4 from by omega)
  have hc45 : ∀ (y1 y2 : Int) (a : Nat → Nat → Int), (((((y1 + 1) * 75709) + 0) + ((1400 - y2) * 54)) + 53).toNat ≤ n → iv a → jfr jW_X12_makes a0 a → 0 ≤ y1 → y1 ≤ 7 → 0 ≤ y2 → y2 ≤ 1400 → jt (jxX E d 286 45 [some (.inr (.inr (.inl 146))), some (.inl y1), some (.inl y2), none, none, none] [] (jxSH, a, b0)) (jQ_X12_makes a0 b0) := by
    intro y1 y2 a hm hv hf hi0 hi1 hi2 hi3
    refine jt_eq (bq_X12_makes_45 E d y1 y2 a b0) ?_
    refine jt_ite (fun c518_ => ?_) (fun c518_ => ?_)
    ·
      exact hc59 y1 y2 1000000 0 a (show (((((((y1 + 1) * 75709) + 0) + ((1400 - y2) * 54)) + 0) + ((51 - 0) * 1)) + 0).toNat ≤ n from by omega) hv hf (show 0 ≤ y1 from by omega) (show y1 ≤ 7 from by omega) (show 0 ≤ y2 from by omega) (show y2 ≤ 1399 from by omega) (show 1000000 ≤ 1000000 from by omega) (show 0 ≤ 0 from by omega) (show 0 ≤ 51 from by omega) (show 0 ≤ 0 from by omega)
    ·
      have h519_ : jxw (y1 + (-1)) = y1 + (-1) := jxw_id (by omega) (by omega)
      exact ih39 (jxw (y1 + (-1))) a (show ((((jxw (y1 + (-1))) + 1) * 75709) + 75708).toNat < n from by omega) hv hf (show 0 - 1 ≤ jxw (y1 + (-1)) from by omega) (show jxw (y1 + (-1)) ≤ 7 from by omega)
  have hc39 : ∀ (y1 : Int) (a : Nat → Nat → Int), (((y1 + 1) * 75709) + 75708).toNat ≤ n → iv a → jfr jW_X12_makes a0 a → 0 - 1 ≤ y1 → y1 ≤ 7 → jt (jxX E d 286 39 [some (.inr (.inr (.inl 146))), some (.inl y1), none, none, none, none] [] (jxSH, a, b0)) (jQ_X12_makes a0 b0) := by
    intro y1 a hm hv hf hi0 hi1
    refine jt_eq (bq_X12_makes_39 E d y1 a b0) ?_
    refine jt_ite (fun c520_ => ?_) (fun c520_ => ?_)
    ·
      exact jt_rV ⟨hv, hf, rfl⟩
    ·
      exact hc45 y1 0 a (show (((((y1 + 1) * 75709) + 0) + ((1400 - 0) * 54)) + 53).toNat ≤ n from by omega) hv hf (show 0 ≤ y1 from by omega) (show y1 ≤ 7 from by omega) (show 0 ≤ 0 from by omega) (show 0 ≤ 1400 from by omega)
  exact ⟨hc112, hc83, hc131, hc59, hc45, hc39⟩
theorem cp_X12_makes_2 (E : jxE) (d : Nat) (hd : Nat.ble 1 (d + 1) = true) (a0 b0 : Nat → Nat → Int) (hv0 : iv a0) (hp0 : SV a0) : ∀ n : Nat, (∀ (y1 : Int) (a : Nat → Nat → Int), (((1400 - y1) * 2) + 1).toNat ≤ n → iv a → jfr jW_X12_makes a0 a → 1 ≤ y1 → y1 ≤ 1400 → jt (jxX E d 286 33 [some (.inr (.inr (.inl 146))), some (.inl y1), none, none, none, none] [] (jxSH, a, b0)) (jQ_X12_makes a0 b0)) ∧ (∀ (y1 : Int) (a : Nat → Nat → Int), (((1400 - y1) * 2) + 0).toNat ≤ n → iv a → jfr jW_X12_makes a0 a → 0 ≤ y1 → y1 ≤ 1400 → jt (jxX E d 286 2 [some (.inr (.inr (.inl 146))), some (.inl y1), none, none, none, none] [] (jxSH, a, b0)) (jQ_X12_makes a0 b0)) := by
  refine jx_ind fun n ih => ?_
  have ih33 : ∀ (y1 : Int) (a : Nat → Nat → Int), (((1400 - y1) * 2) + 1).toNat < n → iv a → jfr jW_X12_makes a0 a → 1 ≤ y1 → y1 ≤ 1400 → jt (jxX E d 286 33 [some (.inr (.inr (.inl 146))), some (.inl y1), none, none, none, none] [] (jxSH, a, b0)) (jQ_X12_makes a0 b0) := fun y1 a hlt i0 i1 i2 i3 => (ih _ hlt).1 y1 a (Nat.le_refl _) i0 i1 i2 i3
  have ih2 : ∀ (y1 : Int) (a : Nat → Nat → Int), (((1400 - y1) * 2) + 0).toNat < n → iv a → jfr jW_X12_makes a0 a → 0 ≤ y1 → y1 ≤ 1400 → jt (jxX E d 286 2 [some (.inr (.inr (.inl 146))), some (.inl y1), none, none, none, none] [] (jxSH, a, b0)) (jQ_X12_makes a0 b0) := fun y1 a hlt i0 i1 i2 i3 => (ih _ hlt).2 y1 a (Nat.le_refl _) i0 i1 i2 i3
  have hc33 : ∀ (y1 : Int) (a : Nat → Nat → Int), (((1400 - y1) * 2) + 1).toNat ≤ n → iv a → jfr jW_X12_makes a0 a → 1 ≤ y1 → y1 ≤ 1400 → jt (jxX E d 286 33 [some (.inr (.inr (.inl 146))), some (.inl y1), none, none, none, none] [] (jxSH, a, b0)) (jQ_X12_makes a0 b0) := by
    intro y1 a hm hv hf hi0 hi1
    refine jt_eq (bq_X12_makes_33 E d y1 a b0) ?_
    exact ih2 y1 a (show (((1400 - y1) * 2) + 0).toNat < n from by omega) hv hf (show 0 ≤ y1 from by omega) (show y1 ≤ 1400 from by omega)
  have hc2 : ∀ (y1 : Int) (a : Nat → Nat → Int), (((1400 - y1) * 2) + 0).toNat ≤ n → iv a → jfr jW_X12_makes a0 a → 0 ≤ y1 → y1 ≤ 1400 → jt (jxX E d 286 2 [some (.inr (.inr (.inl 146))), some (.inl y1), none, none, none, none] [] (jxSH, a, b0)) (jQ_X12_makes a0 b0) := by
    intro y1 a hm hv hf hi0 hi1
    refine jt_eq (bq_X12_makes_2 E d y1 a b0) ?_
    refine jt_ite (fun c521_ => ?_) (fun c521_ => ?_)
    ·
      refine jt_ite (fun c522_ => ?_) (fun c522_ => ?_)
      ·
        have h523_ : jxw (11200 + y1) = 11200 + y1 := jxw_id (by omega) (by omega)
        refine jt_grd (by omega) ?_
        have hv524_ : iv (jxu a 199 ((jxw (11200 + y1)).toNat) 0) := iv_putf hv rfl
        have hf525_ : jfr jW_X12_makes a0 (jxu a 199 ((jxw (11200 + y1)).toNat) 0) := jfr_put hf rfl
        have h526_ : jxw (y1 + 1) = y1 + 1 := jxw_id (by omega) (by omega)
        exact hc33 (jxw (y1 + 1)) (jxu a 199 ((jxw (11200 + y1)).toNat) 0) (show (((1400 - (jxw (y1 + 1))) * 2) + 1).toNat ≤ n from by omega) hv524_ hf525_ (show 1 ≤ jxw (y1 + 1) from by omega) (show jxw (y1 + 1) ≤ 1400 from by omega)
      ·
        have h527_ : jxw (11200 + y1) = 11200 + y1 := jxw_id (by omega) (by omega)
        refine jt_grd (by omega) ?_
        have hv528_ : iv (jxu a 199 ((jxw (11200 + y1)).toNat) 1000000) := iv_putf hv rfl
        have hf529_ : jfr jW_X12_makes a0 (jxu a 199 ((jxw (11200 + y1)).toNat) 1000000) := jfr_put hf rfl
        have h530_ : jxw (y1 + 1) = y1 + 1 := jxw_id (by omega) (by omega)
        exact hc33 (jxw (y1 + 1)) (jxu a 199 ((jxw (11200 + y1)).toNat) 1000000) (show (((1400 - (jxw (y1 + 1))) * 2) + 1).toNat ≤ n from by omega) hv528_ hf529_ (show 1 ≤ jxw (y1 + 1) from by omega) (show jxw (y1 + 1) ≤ 1400 from by omega)
    ·
      exact (cp_X12_makes_39 E d hd a0 b0 hv0 hp0 _).2.2.2.2.2 7 a (Nat.le_refl _) hv hf (show 0 - 1 ≤ 7 from by omega) (show 7 ≤ 7 from by omega)
  exact ⟨hc33, hc2⟩
theorem sp_X12_makes (E : jxE) (d : Nat) (hd : Nat.ble 1 d = true) (a0 b0 : Nat → Nat → Int) (hv0 : iv a0) (hp0 : SV a0) : jt (jxC E d 286 [.inr (.inr (.inl 146))] (jxSH, a0, b0)) (jQ_X12_makes a0 b0) := by
  obtain ⟨d, rfl⟩ := jd_succ hd
  refine jt_eq (bq_X12_makes E d a0 b0) ?_
  exact (cp_X12_makes_2 E d hd a0 b0 hv0 hp0 _).2 0 a0 (Nat.le_refl _) hv0 (jfr_rf _ _) (show 0 ≤ 0 from by omega) (show 0 ≤ 1400 from by omega)
def jW_X12_may : List (Nat × Nat) := [(170, 9999)]
abbrev jQ_X12_may (x1 x2 : Int) (a0 b0 : Nat → Nat → Int) : List jxV → (Nat → Nat → Int) → (Nat → Nat → Int) → Prop := rI (fun r a b => (iv a) ∧ (jfr jW_X12_may a0 a) ∧ (b0 = b))
theorem sp_X12_may (E : jxE) (d : Nat) (hd : Nat.ble 8 d = true) (x1 x2 : Int) (a0 b0 : Nat → Nat → Int) (hv0 : iv a0) (hp0 : WFW a0) : jt (jxC E d 249 [.inr (.inr (.inl 146)), .inl x1, .inl x2] (jxSH, a0, b0)) (jQ_X12_may x1 x2 a0 b0) := by
  obtain ⟨d, rfl⟩ := jd_succ hd
  refine jt_eq (bq_X12_may E d x1 x2 a0 b0) ?_
  refine jt_eI (eq_X12_isMember E d (jd_le hd rfl) x1 a0 b0) ?_
  have h531_ := f_X12_isMember_eq a0 b0 x1
  have h532_ := iv_get hv0 (k := 146) (j := 2) (l := 0) (u := 40) rfl
  have h533_ : jxw ((a0 146 2) - 1) = (a0 146 2) - 1 := jxw_id (by omega) (by omega)
  have h534_ := f_X12_in_eq a0 b0 x1 0 (jxw ((a0 146 2) - 1))
  refine jt_ite (fun c535_ => ?_) (fun c535_ => ?_)
  ·
    exact jt_rI ⟨hv0, (jfr_rf _ _), rfl⟩
  ·
    refine jt_eI (eq_X12_isMember E d (jd_le hd rfl) x2 a0 b0) ?_
    have h536_ := f_X12_isMember_eq a0 b0 x2
    have h537_ := f_X12_in_eq a0 b0 x2 0 (jxw ((a0 146 2) - 1))
    refine jt_ite (fun c538_ => ?_) (fun c538_ => ?_)
    ·
      exact jt_rI ⟨hv0, (jfr_rf _ _), rfl⟩
    ·
      refine jt_bI (sp_X12_mayGet E d (jd_le hd rfl) x1 x2 a0 b0 hv0 (show (0 ≤ x1 ∧ x1 ≤ 39) from by omega) (show (0 ≤ x2 ∧ x2 ≤ 39) from by omega) hp0) (fun r539_ a539_ b539_ h539_ => ?_)
      obtain ⟨hv539_, hf539_, rfl, hq539_0⟩ := h539_
      refine jt_ite (fun c540_ => ?_) (fun c540_ => ?_)
      ·
        have hf541_ : jfr jW_X12_may a0 a539_ := jfr_tr (jfr_rf _ _) hf539_ rfl
        exact jt_rI ⟨hv539_, hf541_, rfl⟩
      ·
        have hf542_ : jfr jW_X12_may a0 a539_ := jfr_tr (jfr_rf _ _) hf539_ rfl
        exact jt_rI ⟨hv539_, hf542_, rfl⟩
def jW_X12_meets : List (Nat × Nat) := [(170, 9999)]
abbrev jQ_X12_meets (x1 x2 : Int) (a0 b0 : Nat → Nat → Int) : List jxV → (Nat → Nat → Int) → (Nat → Nat → Int) → Prop := rI (fun r a b => (iv a) ∧ (jfr jW_X12_meets a0 a) ∧ (b0 = b))
theorem cp_X12_meets_34 (E : jxE) (d : Nat) (hd : Nat.ble 3 (d + 1) = true) (x1 x2 : Int) (a0 b0 : Nat → Nat → Int) (hv0 : iv a0) (hp0 : WFW a0) : ∀ (a : Nat → Nat → Int), iv a → jfr jW_X12_meets a0 a → jt (jxX E d 228 34 [none, none, none] [] (jxSH, a, b0)) (jQ_X12_meets x1 x2 a0 b0) := by
  intro a hv hf
  refine jt_eq (bq_X12_meets_34 E d a b0) ?_
  exact jt_rI ⟨hv, hf, rfl⟩
theorem cp_X12_meets_38 (E : jxE) (d : Nat) (hd : Nat.ble 3 (d + 1) = true) (x1 x2 : Int) (a0 b0 : Nat → Nat → Int) (hv0 : iv a0) (hp0 : WFW a0) : ∀ (a : Nat → Nat → Int), iv a → jfr jW_X12_meets a0 a → jt (jxX E d 228 38 [none, none, none] [] (jxSH, a, b0)) (jQ_X12_meets x1 x2 a0 b0) := by
  intro a hv hf
  refine jt_eq (bq_X12_meets_38 E d a b0) ?_
  exact jt_rI ⟨hv, hf, rfl⟩
theorem sp_X12_meets (E : jxE) (d : Nat) (hd : Nat.ble 3 d = true) (x1 x2 : Int) (a0 b0 : Nat → Nat → Int) (hv0 : iv a0) (hp0 : WFW a0) : jt (jxC E d 228 [.inr (.inr (.inl 146)), .inl x1, .inl x2] (jxSH, a0, b0)) (jQ_X12_meets x1 x2 a0 b0) := by
  obtain ⟨d, rfl⟩ := jd_succ hd
  refine jt_eq (bq_X12_meets E d x1 x2 a0 b0) ?_
  refine jt_eI (eq_X12_isMember E d (jd_le hd rfl) x1 a0 b0) ?_
  have h543_ := f_X12_isMember_eq a0 b0 x1
  have h544_ := iv_get hv0 (k := 146) (j := 2) (l := 0) (u := 40) rfl
  have h545_ : jxw ((a0 146 2) - 1) = (a0 146 2) - 1 := jxw_id (by omega) (by omega)
  have h546_ := f_X12_in_eq a0 b0 x1 0 (jxw ((a0 146 2) - 1))
  refine jt_ite (fun c547_ => ?_) (fun c547_ => ?_)
  ·
    exact jt_rI ⟨hv0, (jfr_rf _ _), rfl⟩
  ·
    refine jt_eI (eq_X12_isMember E d (jd_le hd rfl) x2 a0 b0) ?_
    have h548_ := f_X12_isMember_eq a0 b0 x2
    have h549_ := f_X12_in_eq a0 b0 x2 0 (jxw ((a0 146 2) - 1))
    refine jt_ite (fun c550_ => ?_) (fun c550_ => ?_)
    ·
      exact jt_rI ⟨hv0, (jfr_rf _ _), rfl⟩
    ·
      refine jt_ite (fun c551_ => ?_) (fun c551_ => ?_)
      ·
        exact jt_rI ⟨hv0, (jfr_rf _ _), rfl⟩
      ·
        refine jt_bI (sp_X12_isMet E d (jd_le hd rfl) x1 x2 a0 b0 hv0 (show (0 ≤ x1 ∧ x1 ≤ 39) from by omega) (show (0 ≤ x2 ∧ x2 ≤ 39) from by omega) hp0) (fun r552_ a552_ b552_ h552_ => ?_)
        obtain ⟨hv552_, hf552_, rfl, hq552_0⟩ := h552_
        refine jt_ite (fun c553_ => ?_) (fun c553_ => ?_)
        ·
          have hf554_ : jfr jW_X12_meets a0 a552_ := jfr_tr (jfr_rf _ _) hf552_ rfl
          exact cp_X12_meets_38 E d hd x1 x2 a0 b0 hv0 hp0 a552_ hv552_ hf554_
        ·
          have hf555_ : jfr jW_X12_meets a0 a552_ := jfr_tr (jfr_rf _ _) hf552_ rfl
          exact cp_X12_meets_34 E d hd x1 x2 a0 b0 hv0 hp0 a552_ hv552_ hf555_
def jW_X12_offer : List (Nat × Nat) := [(146, 49), (178, 9999), (179, 9999), (180, 9999), (182, 9999)]
abbrev jQ_X12_offer (x1 x2 x3 : Int) (a0 b0 : Nat → Nat → Int) : List jxV → (Nat → Nat → Int) → (Nat → Nat → Int) → Prop := rI (fun r a b => (iv a) ∧ (jfr jW_X12_offer a0 a) ∧ (b0 = b) ∧ (OC a) ∧ (FO a) ∧ (FW a))
theorem cp_X12_offer_36 (E : jxE) (d : Nat) (hd : Nat.ble 3 (d + 1) = true) (x1 x2 x3 : Int) (a0 b0 : Nat → Nat → Int) (hv0 : iv a0) (hp0 : OC a0) (hp1 : FO a0) (hp2 : FW a0) : ∀ (a : Nat → Nat → Int), iv a → jfr jW_X12_offer a0 a → (OC a) → (FO a) → (FW a) → jt (jxX E d 262 36 [none, none, none, none] [] (jxSH, a, b0)) (jQ_X12_offer x1 x2 x3 a0 b0) := by
  intro a hv hf hi0 hi1 hi2
  refine jt_eq (bq_X12_offer_36 E d a b0) ?_
  exact jt_rI ⟨hv, hf, rfl, hi0, hi1, hi2⟩
theorem cp_X12_offer_68 (E : jxE) (d : Nat) (hd : Nat.ble 3 (d + 1) = true) (x1 x2 x3 : Int) (a0 b0 : Nat → Nat → Int) (hv0 : iv a0) (hp0 : OC a0) (hp1 : FO a0) (hp2 : FW a0) : ∀ (a : Nat → Nat → Int), iv a → jfr jW_X12_offer a0 a → a 146 49 ≤ 19 → (OC a) → (FO a) → (FW a) → jt (jxX E d 262 68 [some (.inr (.inr (.inl 146))), none, none, none] [] (jxSH, a, b0)) (jQ_X12_offer x1 x2 x3 a0 b0) := by
  intro a hv hf hi0 hi1 hi2 hi3
  refine jt_eq (bq_X12_offer_68 E d a b0) ?_
  have h556_ := iv_get hv (k := 146) (j := 49) (l := 0) (u := 20) rfl
  refine jt_grd (by omega) ?_
  have hv557_ : iv (jxu a 182 ((a 146 49).toNat) (-1)) := iv_putf hv rfl
  have h559_ : jxw ((a 146 49) + 1) = (a 146 49) + 1 := jxw_id (by omega) (by omega)
  have hv558_ : iv (jxu (jxu a 182 ((a 146 49).toNat) (-1)) 146 49 (jxw ((a 146 49) + 1))) := iv_put hv557_ (l := 0) (u := 20) rfl (by omega) (by omega)
  have hf560_ : jfr jW_X12_offer a0 (jxu a 182 ((a 146 49).toNat) (-1)) := jfr_put hf rfl
  have hf561_ : jfr jW_X12_offer a0 (jxu (jxu a 182 ((a 146 49).toNat) (-1)) 146 49 (jxw ((a 146 49) + 1))) := jfr_put hf560_ rfl
  have hg562_ : OC (jxu a 182 ((a 146 49).toNat) (-1)) := (OC_putx hi1 (by decide) (show a 146 49 ≤ ((((a 146 49).toNat) : Nat) : Int) from by omega))
  have hg563_ : OC (jxu (jxu a 182 ((a 146 49).toNat) (-1)) 146 49 (jxw ((a 146 49) + 1))) := (OC_put49 hg562_ (show 0 ≤ a 146 49 from by omega) (show jxw ((a 146 49) + 1) = a 146 49 + 1 from by omega))
  have hg564_ : FO (jxu a 182 ((a 146 49).toNat) (-1)) := (FO_fr hi2 (jfr_1 a 182 ((a 146 49).toNat) (-1)) rfl rfl (fun _ => rfl))
  have hg565_ : FO (jxu (jxu a 182 ((a 146 49).toNat) (-1)) 146 49 (jxw ((a 146 49) + 1))) := (FO_put49 hg564_ (show a 146 49 ≤ jxw ((a 146 49) + 1) from by omega))
  have hg566_ : FW (jxu a 182 ((a 146 49).toNat) (-1)) := (FW_fr hi3 (jfr_1 a 182 ((a 146 49).toNat) (-1)) rfl (fun _ => rfl))
  have hg567_ : FW (jxu (jxu a 182 ((a 146 49).toNat) (-1)) 146 49 (jxw ((a 146 49) + 1))) := (FW_put49 hg566_ (show a 146 49 ≤ jxw ((a 146 49) + 1) from by omega))
  exact jt_rI ⟨hv558_, hf561_, rfl, hg563_, hg565_, hg567_⟩
theorem cp_X12_offer_38 (E : jxE) (d : Nat) (hd : Nat.ble 3 (d + 1) = true) (x1 x2 x3 : Int) (a0 b0 : Nat → Nat → Int) (hv0 : iv a0) (hp0 : OC a0) (hp1 : FO a0) (hp2 : FW a0) : ∀ (y1 y2 y3 : Int) (a : Nat → Nat → Int), iv a → jfr jW_X12_offer a0 a → 0 ≤ y1 → y1 ≤ 39 → 0 ≤ y2 → y2 ≤ 31 → a 146 49 ≤ 19 → (OC a) → (FO a) → (FW a) → jt (jxX E d 262 38 [some (.inr (.inr (.inl 146))), some (.inl y1), some (.inl y2), some (.inl y3)] [] (jxSH, a, b0)) (jQ_X12_offer x1 x2 x3 a0 b0) := by
  intro y1 y2 y3 a hv hf hi0 hi1 hi2 hi3 hi4 hi5 hi6 hi7
  refine jt_eq (bq_X12_offer_38 E d y1 y2 y3 a b0) ?_
  have h568_ := iv_get hv (k := 146) (j := 49) (l := 0) (u := 20) rfl
  refine jt_grd (by omega) ?_
  refine jt_grd (by omega) ?_
  refine jt_grd (by omega) ?_
  have hv569_ : iv (jxu a 178 ((a 146 49).toNat) y1) := iv_put hv (l := 0) (u := 39) rfl (by omega) (by omega)
  have hv570_ : iv (jxu (jxu a 178 ((a 146 49).toNat) y1) 179 ((a 146 49).toNat) y2) := iv_put hv569_ (l := 0) (u := 31) rfl (by omega) (by omega)
  have hv571_ : iv (jxu (jxu (jxu a 178 ((a 146 49).toNat) y1) 179 ((a 146 49).toNat) y2) 180 ((a 146 49).toNat) y3) := iv_putf hv570_ rfl
  have hf572_ : jfr jW_X12_offer a0 (jxu a 178 ((a 146 49).toNat) y1) := jfr_put hf rfl
  have hf573_ : jfr jW_X12_offer a0 (jxu (jxu a 178 ((a 146 49).toNat) y1) 179 ((a 146 49).toNat) y2) := jfr_put hf572_ rfl
  have hf574_ : jfr jW_X12_offer a0 (jxu (jxu (jxu a 178 ((a 146 49).toNat) y1) 179 ((a 146 49).toNat) y2) 180 ((a 146 49).toNat) y3) := jfr_put hf573_ rfl
  have hg575_ : OC (jxu a 178 ((a 146 49).toNat) y1) := (OC_putx hi5 (by decide) (show a 146 49 ≤ ((((a 146 49).toNat) : Nat) : Int) from by omega))
  have hg576_ : OC (jxu (jxu a 178 ((a 146 49).toNat) y1) 179 ((a 146 49).toNat) y2) := (OC_fr hg575_ (jfr_1 (jxu a 178 ((a 146 49).toNat) y1) 179 ((a 146 49).toNat) y2) rfl rfl (fun _ => rfl) (fun _ => rfl) (fun _ => rfl) (fun _ => rfl) (fun _ => rfl))
  have hg577_ : OC (jxu (jxu (jxu a 178 ((a 146 49).toNat) y1) 179 ((a 146 49).toNat) y2) 180 ((a 146 49).toNat) y3) := (OC_fr hg576_ (jfr_1 (jxu (jxu a 178 ((a 146 49).toNat) y1) 179 ((a 146 49).toNat) y2) 180 ((a 146 49).toNat) y3) rfl rfl (fun _ => rfl) (fun _ => rfl) (fun _ => rfl) (fun _ => rfl) (fun _ => rfl))
  have hg578_ : FO (jxu a 178 ((a 146 49).toNat) y1) := (FO_fr hi6 (jfr_1 a 178 ((a 146 49).toNat) y1) rfl rfl (fun _ => rfl))
  have hg579_ : FO (jxu (jxu a 178 ((a 146 49).toNat) y1) 179 ((a 146 49).toNat) y2) := (FO_fr hg578_ (jfr_1 (jxu a 178 ((a 146 49).toNat) y1) 179 ((a 146 49).toNat) y2) rfl rfl (fun _ => rfl))
  have hg580_ : FO (jxu (jxu (jxu a 178 ((a 146 49).toNat) y1) 179 ((a 146 49).toNat) y2) 180 ((a 146 49).toNat) y3) := (FO_fr hg579_ (jfr_1 (jxu (jxu a 178 ((a 146 49).toNat) y1) 179 ((a 146 49).toNat) y2) 180 ((a 146 49).toNat) y3) rfl rfl (fun _ => rfl))
  have hg581_ : FW (jxu a 178 ((a 146 49).toNat) y1) := (FW_fr hi7 (jfr_1 a 178 ((a 146 49).toNat) y1) rfl (fun _ => rfl))
  have hg582_ : FW (jxu (jxu a 178 ((a 146 49).toNat) y1) 179 ((a 146 49).toNat) y2) := (FW_fr hg581_ (jfr_1 (jxu a 178 ((a 146 49).toNat) y1) 179 ((a 146 49).toNat) y2) rfl (fun _ => rfl))
  have hg583_ : FW (jxu (jxu (jxu a 178 ((a 146 49).toNat) y1) 179 ((a 146 49).toNat) y2) 180 ((a 146 49).toNat) y3) := (FW_fr hg582_ (jfr_1 (jxu (jxu a 178 ((a 146 49).toNat) y1) 179 ((a 146 49).toNat) y2) 180 ((a 146 49).toNat) y3) rfl (fun _ => rfl))
  exact cp_X12_offer_68 E d hd x1 x2 x3 a0 b0 hv0 hp0 hp1 hp2 (jxu (jxu (jxu a 178 ((a 146 49).toNat) y1) 179 ((a 146 49).toNat) y2) 180 ((a 146 49).toNat) y3) hv571_ hf574_ (show a 146 49 ≤ 19 from by omega) hg577_ hg580_ hg583_
theorem sp_X12_offer (E : jxE) (d : Nat) (hd : Nat.ble 3 d = true) (x1 x2 x3 : Int) (a0 b0 : Nat → Nat → Int) (hv0 : iv a0) (hp0 : OC a0) (hp1 : FO a0) (hp2 : FW a0) : jt (jxC E d 262 [.inr (.inr (.inl 146)), .inl x1, .inl x2, .inl x3] (jxSH, a0, b0)) (jQ_X12_offer x1 x2 x3 a0 b0) := by
  obtain ⟨d, rfl⟩ := jd_succ hd
  refine jt_eq (bq_X12_offer E d x1 x2 x3 a0 b0) ?_
  have h584_ := iv_get hv0 (k := 146) (j := 49) (l := 0) (u := 20) rfl
  refine jt_ite (fun c585_ => ?_) (fun c585_ => ?_)
  ·
    exact cp_X12_offer_36 E d hd x1 x2 x3 a0 b0 hv0 hp0 hp1 hp2 a0 hv0 (jfr_rf _ _) hp0 hp1 hp2
  ·
    refine jt_eI (eq_X12_isMember E d (jd_le hd rfl) x1 a0 b0) ?_
    have h586_ := f_X12_isMember_eq a0 b0 x1
    have h587_ := iv_get hv0 (k := 146) (j := 2) (l := 0) (u := 40) rfl
    have h588_ : jxw ((a0 146 2) - 1) = (a0 146 2) - 1 := jxw_id (by omega) (by omega)
    have h589_ := f_X12_in_eq a0 b0 x1 0 (jxw ((a0 146 2) - 1))
    refine jt_ite (fun c590_ => ?_) (fun c590_ => ?_)
    ·
      exact cp_X12_offer_36 E d hd x1 x2 x3 a0 b0 hv0 hp0 hp1 hp2 a0 hv0 (jfr_rf _ _) hp0 hp1 hp2
    ·
      refine jt_grd (by omega) ?_
      have h591_ := iv_get hv0 (k := 152) (j := x1.toNat) (l := 0) (u := 1) rfl
      refine jt_ite (fun c592_ => ?_) (fun c592_ => ?_)
      ·
        exact cp_X12_offer_36 E d hd x1 x2 x3 a0 b0 hv0 hp0 hp1 hp2 a0 hv0 (jfr_rf _ _) hp0 hp1 hp2
      ·
        refine jt_eI (eq_X12_in E d (jd_le hd rfl) x2 0 31 a0 b0) ?_
        have h593_ := f_X12_in_eq a0 b0 x2 0 31
        refine jt_ite (fun c594_ => ?_) (fun c594_ => ?_)
        ·
          exact cp_X12_offer_36 E d hd x1 x2 x3 a0 b0 hv0 hp0 hp1 hp2 a0 hv0 (jfr_rf _ _) hp0 hp1 hp2
        ·
          exact cp_X12_offer_38 E d hd x1 x2 x3 a0 b0 hv0 hp0 hp1 hp2 x1 x2 x3 a0 hv0 (jfr_rf _ _) (show 0 ≤ x1 from by omega) (show x1 ≤ 39 from by omega) (show 0 ≤ x2 from by omega) (show x2 ≤ 31 from by omega) (show a0 146 49 ≤ 19 from by omega) hp0 hp1 hp2
def jW_X12_pay : List (Nat × Nat) := [(146, 75), (197, 9999), (198, 9999), (199, 9999)]
abbrev jQ_X12_pay (x1 x2 : Int) (a0 b0 : Nat → Nat → Int) : List jxV → (Nat → Nat → Int) → (Nat → Nat → Int) → Prop := rI (fun r a b => (iv a) ∧ (jfr jW_X12_pay a0 a) ∧ (b0 = b) ∧ (SV a))
theorem cp_X12_pay_118 (E : jxE) (d : Nat) (hd : Nat.ble 2 (d + 1) = true) (x1 x2 : Int) (a0 b0 : Nat → Nat → Int) (hv0 : iv a0) (hp0 : SV a0) : ∀ n : Nat, (∀ (y4 y5 y6 y7 : Int) (a : Nat → Nat → Int), (((((8 - y6) * 53) + 0) + ((y7 + 0) * 1)) + 0).toNat ≤ n → iv a → jfr jW_X12_pay a0 a → 0 ≤ y4 → y4 ≤ 1399 → 0 ≤ y5 → y5 ≤ 1399 → 0 ≤ y6 → y6 ≤ 7 → 1 ≤ y7 → y7 ≤ 50 → 0 ≤ y5 → y5 ≤ 1399 → 0 ≤ y7 → y7 ≤ a 197 (y6.toNat) → 1 ≤ y7 → (SV a) → jt (jxX E d 287 201 [some (.inr (.inr (.inl 146))), none, none, none, some (.inl y4), some (.inl y5), some (.inl y6), some (.inl y7)] [] (jxSH, a, b0)) (jQ_X12_pay x1 x2 a0 b0)) ∧ (∀ (y4 y5 y6 : Int) (a : Nat → Nat → Int), (((8 - y6) * 53) + 0).toNat ≤ n → iv a → jfr jW_X12_pay a0 a → 0 ≤ y4 → y4 ≤ 1399 → 0 ≤ y5 → y5 ≤ 1399 → 0 ≤ y6 → y6 ≤ 7 → 0 ≤ y5 → y5 ≤ 1399 → (SV a) → jt (jxX E d 287 243 [some (.inr (.inr (.inl 146))), none, none, none, some (.inl y4), some (.inl y5), some (.inl y6), none] [] (jxSH, a, b0)) (jQ_X12_pay x1 x2 a0 b0)) ∧ (∀ (y4 y5 y6 y7 : Int) (a : Nat → Nat → Int), (((8 - y6) * 53) + 0).toNat ≤ n → iv a → jfr jW_X12_pay a0 a → 0 ≤ y4 → y4 ≤ 1399 → 0 ≤ y5 → y5 ≤ 1399 → 0 ≤ y6 → y6 ≤ 7 → 0 ≤ y7 → y7 ≤ 50 → 0 ≤ y5 → y5 ≤ 1399 → 0 ≤ y7 → y7 ≤ a 197 (y6.toNat) → y7 * (a 196 (y6.toNat)) ≤ y5 → (SV a) → jt (jxX E d 287 207 [some (.inr (.inr (.inl 146))), none, none, none, some (.inl y4), some (.inl y5), some (.inl y6), some (.inl y7)] [] (jxSH, a, b0)) (jQ_X12_pay x1 x2 a0 b0)) ∧ (∀ (y4 y5 y6 y7 : Int) (a : Nat → Nat → Int), (((((8 - y6) * 53) + 0) + ((y7 + 0) * 1)) + 0).toNat ≤ n → iv a → jfr jW_X12_pay a0 a → 0 ≤ y4 → y4 ≤ 1399 → 0 ≤ y5 → y5 ≤ 1399 → 0 ≤ y6 → y6 ≤ 7 → 0 ≤ y7 → y7 ≤ 50 → 0 ≤ y5 → y5 ≤ 1399 → 0 ≤ y7 → y7 ≤ a 197 (y6.toNat) → (SV a) → jt (jxX E d 287 134 [some (.inr (.inr (.inl 146))), none, none, none, some (.inl y4), some (.inl y5), some (.inl y6), some (.inl y7)] [] (jxSH, a, b0)) (jQ_X12_pay x1 x2 a0 b0)) ∧ (∀ (y4 y5 y6 : Int) (a : Nat → Nat → Int), (((8 - y6) * 53) + 52).toNat ≤ n → iv a → jfr jW_X12_pay a0 a → 0 ≤ y4 → y4 ≤ 1399 → 0 ≤ y5 → y5 ≤ 1399 → 0 ≤ y6 → y6 ≤ 8 → 0 ≤ y5 → y5 ≤ 1399 → (SV a) → jt (jxX E d 287 118 [some (.inr (.inr (.inl 146))), none, none, none, some (.inl y4), some (.inl y5), some (.inl y6), none] [] (jxSH, a, b0)) (jQ_X12_pay x1 x2 a0 b0)) := by
  refine jx_ind fun n ih => ?_
  have ih201 : ∀ (y4 y5 y6 y7 : Int) (a : Nat → Nat → Int), (((((8 - y6) * 53) + 0) + ((y7 + 0) * 1)) + 0).toNat < n → iv a → jfr jW_X12_pay a0 a → 0 ≤ y4 → y4 ≤ 1399 → 0 ≤ y5 → y5 ≤ 1399 → 0 ≤ y6 → y6 ≤ 7 → 1 ≤ y7 → y7 ≤ 50 → 0 ≤ y5 → y5 ≤ 1399 → 0 ≤ y7 → y7 ≤ a 197 (y6.toNat) → 1 ≤ y7 → (SV a) → jt (jxX E d 287 201 [some (.inr (.inr (.inl 146))), none, none, none, some (.inl y4), some (.inl y5), some (.inl y6), some (.inl y7)] [] (jxSH, a, b0)) (jQ_X12_pay x1 x2 a0 b0) := fun y4 y5 y6 y7 a hlt i0 i1 i2 i3 i4 i5 i6 i7 i8 i9 i10 i11 i12 i13 i14 i15 => (ih _ hlt).1 y4 y5 y6 y7 a (Nat.le_refl _) i0 i1 i2 i3 i4 i5 i6 i7 i8 i9 i10 i11 i12 i13 i14 i15
  have ih243 : ∀ (y4 y5 y6 : Int) (a : Nat → Nat → Int), (((8 - y6) * 53) + 0).toNat < n → iv a → jfr jW_X12_pay a0 a → 0 ≤ y4 → y4 ≤ 1399 → 0 ≤ y5 → y5 ≤ 1399 → 0 ≤ y6 → y6 ≤ 7 → 0 ≤ y5 → y5 ≤ 1399 → (SV a) → jt (jxX E d 287 243 [some (.inr (.inr (.inl 146))), none, none, none, some (.inl y4), some (.inl y5), some (.inl y6), none] [] (jxSH, a, b0)) (jQ_X12_pay x1 x2 a0 b0) := fun y4 y5 y6 a hlt i0 i1 i2 i3 i4 i5 i6 i7 i8 i9 i10 => (ih _ hlt).2.1 y4 y5 y6 a (Nat.le_refl _) i0 i1 i2 i3 i4 i5 i6 i7 i8 i9 i10
  have ih207 : ∀ (y4 y5 y6 y7 : Int) (a : Nat → Nat → Int), (((8 - y6) * 53) + 0).toNat < n → iv a → jfr jW_X12_pay a0 a → 0 ≤ y4 → y4 ≤ 1399 → 0 ≤ y5 → y5 ≤ 1399 → 0 ≤ y6 → y6 ≤ 7 → 0 ≤ y7 → y7 ≤ 50 → 0 ≤ y5 → y5 ≤ 1399 → 0 ≤ y7 → y7 ≤ a 197 (y6.toNat) → y7 * (a 196 (y6.toNat)) ≤ y5 → (SV a) → jt (jxX E d 287 207 [some (.inr (.inr (.inl 146))), none, none, none, some (.inl y4), some (.inl y5), some (.inl y6), some (.inl y7)] [] (jxSH, a, b0)) (jQ_X12_pay x1 x2 a0 b0) := fun y4 y5 y6 y7 a hlt i0 i1 i2 i3 i4 i5 i6 i7 i8 i9 i10 i11 i12 i13 i14 i15 => (ih _ hlt).2.2.1 y4 y5 y6 y7 a (Nat.le_refl _) i0 i1 i2 i3 i4 i5 i6 i7 i8 i9 i10 i11 i12 i13 i14 i15
  have ih134 : ∀ (y4 y5 y6 y7 : Int) (a : Nat → Nat → Int), (((((8 - y6) * 53) + 0) + ((y7 + 0) * 1)) + 0).toNat < n → iv a → jfr jW_X12_pay a0 a → 0 ≤ y4 → y4 ≤ 1399 → 0 ≤ y5 → y5 ≤ 1399 → 0 ≤ y6 → y6 ≤ 7 → 0 ≤ y7 → y7 ≤ 50 → 0 ≤ y5 → y5 ≤ 1399 → 0 ≤ y7 → y7 ≤ a 197 (y6.toNat) → (SV a) → jt (jxX E d 287 134 [some (.inr (.inr (.inl 146))), none, none, none, some (.inl y4), some (.inl y5), some (.inl y6), some (.inl y7)] [] (jxSH, a, b0)) (jQ_X12_pay x1 x2 a0 b0) := fun y4 y5 y6 y7 a hlt i0 i1 i2 i3 i4 i5 i6 i7 i8 i9 i10 i11 i12 i13 i14 => (ih _ hlt).2.2.2.1 y4 y5 y6 y7 a (Nat.le_refl _) i0 i1 i2 i3 i4 i5 i6 i7 i8 i9 i10 i11 i12 i13 i14
  have ih118 : ∀ (y4 y5 y6 : Int) (a : Nat → Nat → Int), (((8 - y6) * 53) + 52).toNat < n → iv a → jfr jW_X12_pay a0 a → 0 ≤ y4 → y4 ≤ 1399 → 0 ≤ y5 → y5 ≤ 1399 → 0 ≤ y6 → y6 ≤ 8 → 0 ≤ y5 → y5 ≤ 1399 → (SV a) → jt (jxX E d 287 118 [some (.inr (.inr (.inl 146))), none, none, none, some (.inl y4), some (.inl y5), some (.inl y6), none] [] (jxSH, a, b0)) (jQ_X12_pay x1 x2 a0 b0) := fun y4 y5 y6 a hlt i0 i1 i2 i3 i4 i5 i6 i7 i8 i9 i10 => (ih _ hlt).2.2.2.2 y4 y5 y6 a (Nat.le_refl _) i0 i1 i2 i3 i4 i5 i6 i7 i8 i9 i10
  have hc201 : ∀ (y4 y5 y6 y7 : Int) (a : Nat → Nat → Int), (((((8 - y6) * 53) + 0) + ((y7 + 0) * 1)) + 0).toNat ≤ n → iv a → jfr jW_X12_pay a0 a → 0 ≤ y4 → y4 ≤ 1399 → 0 ≤ y5 → y5 ≤ 1399 → 0 ≤ y6 → y6 ≤ 7 → 1 ≤ y7 → y7 ≤ 50 → 0 ≤ y5 → y5 ≤ 1399 → 0 ≤ y7 → y7 ≤ a 197 (y6.toNat) → 1 ≤ y7 → (SV a) → jt (jxX E d 287 201 [some (.inr (.inr (.inl 146))), none, none, none, some (.inl y4), some (.inl y5), some (.inl y6), some (.inl y7)] [] (jxSH, a, b0)) (jQ_X12_pay x1 x2 a0 b0) := by
    intro y4 y5 y6 y7 a hm hv hf hi0 hi1 hi2 hi3 hi4 hi5 hi6 hi7 hi8 hi9 hi10 hi11 hi12 hi13
    refine jt_eq (bq_X12_pay_201 E d y4 y5 y6 y7 a b0) ?_
    have h595_ := iv_get hv (k := 197) (j := y6.toNat) (l := 0) (u := 50) rfl
    have i196 := iv_get hv (k := 196) (j := y6.toNat) (l := (-1)) (u := 500) rfl
    have i197 := iv_get hv (k := 197) (j := y6.toNat) (l := 0) (u := 50) rfl
    have hmul : y7 ≤ a 197 (y6.toNat) → 0 ≤ y7 * (a 196 (y6.toNat)) ∧ y7 * (a 196 (y6.toNat)) ≤ 25500 := fun h => mul_bd (by omega) (by omega) (by omega) (by have := (by assumption : SV a) y6.toNat (by omega); omega)
    have hz : y7 = 0 → y7 * (a 196 (y6.toNat)) = 0 := fun h => by rw [h]; exact Int.zero_mul _
    have h596_ : jxw (y7 + (-1)) = y7 + (-1) := jxw_id (by omega) (by omega)
    exact ih134 y4 y5 y6 (jxw (y7 + (-1))) a (show (((((8 - y6) * 53) + 0) + (((jxw (y7 + (-1))) + 0) * 1)) + 0).toNat < n from by omega) hv hf (show 0 ≤ y4 from by omega) (show y4 ≤ 1399 from by omega) (show 0 ≤ y5 from by omega) (show y5 ≤ 1399 from by omega) (show 0 ≤ y6 from by omega) (show y6 ≤ 7 from by omega) (show 0 ≤ jxw (y7 + (-1)) from by omega) (show jxw (y7 + (-1)) ≤ 50 from by omega) (show 0 ≤ y5 from by omega) (show y5 ≤ 1399 from by omega) (show 0 ≤ jxw (y7 + (-1)) from by omega) (show jxw (y7 + (-1)) ≤ a 197 (y6.toNat) from by omega) hi13
  have hc243 : ∀ (y4 y5 y6 : Int) (a : Nat → Nat → Int), (((8 - y6) * 53) + 0).toNat ≤ n → iv a → jfr jW_X12_pay a0 a → 0 ≤ y4 → y4 ≤ 1399 → 0 ≤ y5 → y5 ≤ 1399 → 0 ≤ y6 → y6 ≤ 7 → 0 ≤ y5 → y5 ≤ 1399 → (SV a) → jt (jxX E d 287 243 [some (.inr (.inr (.inl 146))), none, none, none, some (.inl y4), some (.inl y5), some (.inl y6), none] [] (jxSH, a, b0)) (jQ_X12_pay x1 x2 a0 b0) := by
    intro y4 y5 y6 a hm hv hf hi0 hi1 hi2 hi3 hi4 hi5 hi6 hi7 hi8
    refine jt_eq (bq_X12_pay_243 E d y4 y5 y6 a b0) ?_
    have h597_ : jxw (y6 + 1) = y6 + 1 := jxw_id (by omega) (by omega)
    exact ih118 y4 y5 (jxw (y6 + 1)) a (show (((8 - (jxw (y6 + 1))) * 53) + 52).toNat < n from by omega) hv hf (show 0 ≤ y4 from by omega) (show y4 ≤ 1399 from by omega) (show 0 ≤ y5 from by omega) (show y5 ≤ 1399 from by omega) (show 0 ≤ jxw (y6 + 1) from by omega) (show jxw (y6 + 1) ≤ 8 from by omega) (show 0 ≤ y5 from by omega) (show y5 ≤ 1399 from by omega) hi8
  have hc207 : ∀ (y4 y5 y6 y7 : Int) (a : Nat → Nat → Int), (((8 - y6) * 53) + 0).toNat ≤ n → iv a → jfr jW_X12_pay a0 a → 0 ≤ y4 → y4 ≤ 1399 → 0 ≤ y5 → y5 ≤ 1399 → 0 ≤ y6 → y6 ≤ 7 → 0 ≤ y7 → y7 ≤ 50 → 0 ≤ y5 → y5 ≤ 1399 → 0 ≤ y7 → y7 ≤ a 197 (y6.toNat) → y7 * (a 196 (y6.toNat)) ≤ y5 → (SV a) → jt (jxX E d 287 207 [some (.inr (.inr (.inl 146))), none, none, none, some (.inl y4), some (.inl y5), some (.inl y6), some (.inl y7)] [] (jxSH, a, b0)) (jQ_X12_pay x1 x2 a0 b0) := by
    intro y4 y5 y6 y7 a hm hv hf hi0 hi1 hi2 hi3 hi4 hi5 hi6 hi7 hi8 hi9 hi10 hi11 hi12 hi13
    refine jt_eq (bq_X12_pay_207 E d y4 y5 y6 y7 a b0) ?_
    have h598_ := iv_get hv (k := 197) (j := y6.toNat) (l := 0) (u := 50) rfl
    have h599_ := iv_get hv (k := 196) (j := y6.toNat) (l := (-1)) (u := 500) rfl
    have h600_ : a 196 (y6.toNat) = a0 196 (y6.toNat) := hf 196 (y6.toNat) rfl
    have h601_ := iv_get hv0 (k := 196) (j := y6.toNat) (l := (-1)) (u := 500) rfl
    have i196 := iv_get hv (k := 196) (j := y6.toNat) (l := (-1)) (u := 500) rfl
    have i197 := iv_get hv (k := 197) (j := y6.toNat) (l := 0) (u := 50) rfl
    have hmul : y7 ≤ a 197 (y6.toNat) → 0 ≤ y7 * (a 196 (y6.toNat)) ∧ y7 * (a 196 (y6.toNat)) ≤ 25500 := fun h => mul_bd (by omega) (by omega) (by omega) (by have := (by assumption : SV a) y6.toNat (by omega); omega)
    have hz : y7 = 0 → y7 * (a 196 (y6.toNat)) = 0 := fun h => by rw [h]; exact Int.zero_mul _
    refine jt_grd (by omega) ?_
    refine jt_grd (by omega) ?_
    refine jt_grd (by omega) ?_
    refine jt_grd (by omega) ?_
    have hv602_ : iv (jxu a 198 (y6.toNat) y7) := iv_putf hv rfl
    have h604_ : jxw ((a 197 (y6.toNat)) - y7) = (a 197 (y6.toNat)) - y7 := jxw_id (by omega) (by omega)
    have hv603_ : iv (jxu (jxu a 198 (y6.toNat) y7) 197 (y6.toNat) (jxw ((a 197 (y6.toNat)) - y7))) := iv_put hv602_ (l := 0) (u := 50) rfl (by omega) (by omega)
    have hf605_ : jfr jW_X12_pay a0 (jxu a 198 (y6.toNat) y7) := jfr_put hf rfl
    have hf606_ : jfr jW_X12_pay a0 (jxu (jxu a 198 (y6.toNat) y7) 197 (y6.toNat) (jxw ((a 197 (y6.toNat)) - y7))) := jfr_put hf605_ rfl
    have h607_ : jxw (y7 * (a 196 (y6.toNat))) = y7 * (a 196 (y6.toNat)) := jxw_id (by omega) (by omega)
    have h608_ : jxw (y5 - (jxw (y7 * (a 196 (y6.toNat))))) = y5 - (jxw (y7 * (a 196 (y6.toNat)))) := jxw_id (by omega) (by omega)
    have hg609_ : SV (jxu a 198 (y6.toNat) y7) := (SV_fr hi13 (jfr_1 a 198 (y6.toNat) y7) (fun _ => rfl) (fun _ => rfl))
    have hg610_ : SV (jxu (jxu a 198 (y6.toNat) y7) 197 (y6.toNat) (jxw ((a 197 (y6.toNat)) - y7))) := (SV_put197 hg609_ (by first | (left; show jxw ((a 197 (y6.toNat)) - y7) ≤ a 197 (y6.toNat); omega) | (right; show 1 ≤ a 196 (y6.toNat); omega)))
    exact hc243 y4 (jxw (y5 - (jxw (y7 * (a 196 (y6.toNat)))))) y6 (jxu (jxu a 198 (y6.toNat) y7) 197 (y6.toNat) (jxw ((a 197 (y6.toNat)) - y7))) (show (((8 - y6) * 53) + 0).toNat ≤ n from by omega) hv603_ hf606_ (show 0 ≤ y4 from by omega) (show y4 ≤ 1399 from by omega) (show 0 ≤ jxw (y5 - (jxw (y7 * (a 196 (y6.toNat))))) from by omega) (show jxw (y5 - (jxw (y7 * (a 196 (y6.toNat))))) ≤ 1399 from by omega) (show 0 ≤ y6 from by omega) (show y6 ≤ 7 from by omega) (show 0 ≤ jxw (y5 - (jxw (y7 * (a 196 (y6.toNat))))) from by omega) (show jxw (y5 - (jxw (y7 * (a 196 (y6.toNat))))) ≤ 1399 from by omega) hg610_
  have hc134 : ∀ (y4 y5 y6 y7 : Int) (a : Nat → Nat → Int), (((((8 - y6) * 53) + 0) + ((y7 + 0) * 1)) + 0).toNat ≤ n → iv a → jfr jW_X12_pay a0 a → 0 ≤ y4 → y4 ≤ 1399 → 0 ≤ y5 → y5 ≤ 1399 → 0 ≤ y6 → y6 ≤ 7 → 0 ≤ y7 → y7 ≤ 50 → 0 ≤ y5 → y5 ≤ 1399 → 0 ≤ y7 → y7 ≤ a 197 (y6.toNat) → (SV a) → jt (jxX E d 287 134 [some (.inr (.inr (.inl 146))), none, none, none, some (.inl y4), some (.inl y5), some (.inl y6), some (.inl y7)] [] (jxSH, a, b0)) (jQ_X12_pay x1 x2 a0 b0) := by
    intro y4 y5 y6 y7 a hm hv hf hi0 hi1 hi2 hi3 hi4 hi5 hi6 hi7 hi8 hi9 hi10 hi11 hi12
    refine jt_eq (bq_X12_pay_134 E d y4 y5 y6 y7 a b0) ?_
    have h611_ := iv_get hv (k := 197) (j := y6.toNat) (l := 0) (u := 50) rfl
    have i196 := iv_get hv (k := 196) (j := y6.toNat) (l := (-1)) (u := 500) rfl
    have i197 := iv_get hv (k := 197) (j := y6.toNat) (l := 0) (u := 50) rfl
    have hmul : y7 ≤ a 197 (y6.toNat) → 0 ≤ y7 * (a 196 (y6.toNat)) ∧ y7 * (a 196 (y6.toNat)) ≤ 25500 := fun h => mul_bd (by omega) (by omega) (by omega) (by have := (by assumption : SV a) y6.toNat (by omega); omega)
    have hz : y7 = 0 → y7 * (a 196 (y6.toNat)) = 0 := fun h => by rw [h]; exact Int.zero_mul _
    refine jt_ite (fun c612_ => ?_) (fun c612_ => ?_)
    ·
      refine jt_grd (by omega) ?_
      have h613_ := iv_get hv (k := 196) (j := y6.toNat) (l := (-1)) (u := 500) rfl
      have h614_ : a 196 (y6.toNat) = a0 196 (y6.toNat) := hf 196 (y6.toNat) rfl
      have h615_ := iv_get hv0 (k := 196) (j := y6.toNat) (l := (-1)) (u := 500) rfl
      have h616_ : jxw (y7 * (a 196 (y6.toNat))) = y7 * (a 196 (y6.toNat)) := jxw_id (by omega) (by omega)
      refine jt_ite (fun c617_ => ?_) (fun c617_ => ?_)
      ·
        exact hc201 y4 y5 y6 y7 a (show (((((8 - y6) * 53) + 0) + ((y7 + 0) * 1)) + 0).toNat ≤ n from by omega) hv hf (show 0 ≤ y4 from by omega) (show y4 ≤ 1399 from by omega) (show 0 ≤ y5 from by omega) (show y5 ≤ 1399 from by omega) (show 0 ≤ y6 from by omega) (show y6 ≤ 7 from by omega) (show 1 ≤ y7 from by omega) (show y7 ≤ 50 from by omega) (show 0 ≤ y5 from by omega) (show y5 ≤ 1399 from by omega) (show 0 ≤ y7 from by omega) (show y7 ≤ a 197 (y6.toNat) from by omega) (show 1 ≤ y7 from by omega) hi12
      ·
        refine jt_grd (by omega) ?_
        have h618_ : jxw (y6 + 1) = y6 + 1 := jxw_id (by omega) (by omega)
        have h619_ : jxw (1400 * (jxw (y6 + 1))) = 1400 * (jxw (y6 + 1)) := jxw_id (by omega) (by omega)
        have h620_ : jxw ((jxw (1400 * (jxw (y6 + 1)))) + y5) = (jxw (1400 * (jxw (y6 + 1)))) + y5 := jxw_id (by omega) (by omega)
        have h621_ : jxw ((jxw ((jxw (1400 * (jxw (y6 + 1)))) + y5)) - (jxw (y7 * (a 196 (y6.toNat))))) = (jxw ((jxw (1400 * (jxw (y6 + 1)))) + y5)) - (jxw (y7 * (a 196 (y6.toNat)))) := jxw_id (by omega) (by omega)
        refine jt_grd (by omega) ?_
        have h622_ : jxw (1400 * y6) = 1400 * y6 := jxw_id (by omega) (by omega)
        have h623_ : jxw ((jxw (1400 * y6)) + y5) = (jxw (1400 * y6)) + y5 := jxw_id (by omega) (by omega)
        refine jt_grd (by omega) ?_
        have h624_ := jxw_im (y7 + (a 199 ((jxw ((jxw ((jxw (1400 * (jxw (y6 + 1)))) + y5)) - (jxw (y7 * (a 196 (y6.toNat)))))).toNat)))
        have h625_ := jxw_rg (y7 + (a 199 ((jxw ((jxw ((jxw (1400 * (jxw (y6 + 1)))) + y5)) - (jxw (y7 * (a 196 (y6.toNat)))))).toNat)))
        refine jt_ite (fun c626_ => ?_) (fun c626_ => ?_)
        ·
          exact hc207 y4 y5 y6 y7 a (show (((8 - y6) * 53) + 0).toNat ≤ n from by omega) hv hf (show 0 ≤ y4 from by omega) (show y4 ≤ 1399 from by omega) (show 0 ≤ y5 from by omega) (show y5 ≤ 1399 from by omega) (show 0 ≤ y6 from by omega) (show y6 ≤ 7 from by omega) (show 0 ≤ y7 from by omega) (show y7 ≤ 50 from by omega) (show 0 ≤ y5 from by omega) (show y5 ≤ 1399 from by omega) (show 0 ≤ y7 from by omega) (show y7 ≤ a 197 (y6.toNat) from by omega) (show y7 * (a 196 (y6.toNat)) ≤ y5 from by omega) hi12
        ·
          exact hc201 y4 y5 y6 y7 a (show (((((8 - y6) * 53) + 0) + ((y7 + 0) * 1)) + 0).toNat ≤ n from by omega) hv hf (show 0 ≤ y4 from by omega) (show y4 ≤ 1399 from by omega) (show 0 ≤ y5 from by omega) (show y5 ≤ 1399 from by omega) (show 0 ≤ y6 from by omega) (show y6 ≤ 7 from by omega) (show 1 ≤ y7 from by omega) (show y7 ≤ 50 from by omega) (show 0 ≤ y5 from by omega) (show y5 ≤ 1399 from by omega) (show 0 ≤ y7 from by omega) (show y7 ≤ a 197 (y6.toNat) from by omega) (show 1 ≤ y7 from by omega) hi12
    ·
      have h627_ := iv_get hv (k := 196) (j := y6.toNat) (l := (-1)) (u := 500) rfl
      have h628_ : a 196 (y6.toNat) = a0 196 (y6.toNat) := hf 196 (y6.toNat) rfl
      have h629_ := iv_get hv0 (k := 196) (j := y6.toNat) (l := (-1)) (u := 500) rfl
      exact hc207 y4 y5 y6 y7 a (show (((8 - y6) * 53) + 0).toNat ≤ n from by omega) hv hf (show 0 ≤ y4 from by omega) (show y4 ≤ 1399 from by omega) (show 0 ≤ y5 from by omega) (show y5 ≤ 1399 from by omega) (show 0 ≤ y6 from by omega) (show y6 ≤ 7 from by omega) (show 0 ≤ y7 from by omega) (show y7 ≤ 50 from by omega) (show 0 ≤ y5 from by omega) (show y5 ≤ 1399 from by omega) (show 0 ≤ y7 from by omega) (show y7 ≤ a 197 (y6.toNat) from by omega) (show y7 * (a 196 (y6.toNat)) ≤ y5 from by omega) hi12
  have hc118 : ∀ (y4 y5 y6 : Int) (a : Nat → Nat → Int), (((8 - y6) * 53) + 52).toNat ≤ n → iv a → jfr jW_X12_pay a0 a → 0 ≤ y4 → y4 ≤ 1399 → 0 ≤ y5 → y5 ≤ 1399 → 0 ≤ y6 → y6 ≤ 8 → 0 ≤ y5 → y5 ≤ 1399 → (SV a) → jt (jxX E d 287 118 [some (.inr (.inr (.inl 146))), none, none, none, some (.inl y4), some (.inl y5), some (.inl y6), none] [] (jxSH, a, b0)) (jQ_X12_pay x1 x2 a0 b0) := by
    intro y4 y5 y6 a hm hv hf hi0 hi1 hi2 hi3 hi4 hi5 hi6 hi7 hi8
    refine jt_eq (bq_X12_pay_118 E d y4 y5 y6 a b0) ?_
    refine jt_ite (fun c630_ => ?_) (fun c630_ => ?_)
    ·
      refine jt_grd (by omega) ?_
      have h631_ := iv_get hv (k := 197) (j := y6.toNat) (l := 0) (u := 50) rfl
      exact hc134 y4 y5 y6 (a 197 (y6.toNat)) a (show (((((8 - y6) * 53) + 0) + (((a 197 (y6.toNat)) + 0) * 1)) + 0).toNat ≤ n from by omega) hv hf (show 0 ≤ y4 from by omega) (show y4 ≤ 1399 from by omega) (show 0 ≤ y5 from by omega) (show y5 ≤ 1399 from by omega) (show 0 ≤ y6 from by omega) (show y6 ≤ 7 from by omega) (show 0 ≤ a 197 (y6.toNat) from by omega) (show a 197 (y6.toNat) ≤ 50 from by omega) (show 0 ≤ y5 from by omega) (show y5 ≤ 1399 from by omega) (show 0 ≤ a 197 (y6.toNat) from by omega) (show a 197 (y6.toNat) ≤ a 197 (y6.toNat) from by omega) hi8
    ·
      have hv632_ : iv (jxu a 146 75 1) := iv_putf hv rfl
      have hf633_ : jfr jW_X12_pay a0 (jxu a 146 75 1) := jfr_put hf rfl
      have hg634_ : SV (jxu a 146 75 1) := (SV_fr hi8 (jfr_1s a 146 75 1) (fun _ => rfl) (fun _ => rfl))
      exact jt_rI ⟨hv632_, hf633_, rfl, hg634_⟩
  exact ⟨hc201, hc243, hc207, hc134, hc118⟩
theorem cp_X12_pay_100 (E : jxE) (d : Nat) (hd : Nat.ble 2 (d + 1) = true) (x1 x2 : Int) (a0 b0 : Nat → Nat → Int) (hv0 : iv a0) (hp0 : SV a0) : ∀ (y4 : Int) (a : Nat → Nat → Int), iv a → jfr jW_X12_pay a0 a → 0 ≤ y4 → y4 ≤ 1400 → (SV a) → jt (jxX E d 287 100 [some (.inr (.inr (.inl 146))), none, none, none, some (.inl y4), none, none, none] [] (jxSH, a, b0)) (jQ_X12_pay x1 x2 a0 b0) := by
  intro y4 a hv hf hi0 hi1 hi2
  refine jt_eq (bq_X12_pay_100 E d y4 a b0) ?_
  refine jt_ite (fun c635_ => ?_) (fun c635_ => ?_)
  ·
    exact jt_rI ⟨hv, hf, rfl, hi2⟩
  ·
    exact (cp_X12_pay_118 E d hd x1 x2 a0 b0 hv0 hp0 _).2.2.2.2 y4 y4 0 a (Nat.le_refl _) hv hf (show 0 ≤ y4 from by omega) (show y4 ≤ 1399 from by omega) (show 0 ≤ y4 from by omega) (show y4 ≤ 1399 from by omega) (show 0 ≤ 0 from by omega) (show 0 ≤ 8 from by omega) (show 0 ≤ y4 from by omega) (show y4 ≤ 1399 from by omega) hi2
theorem cp_X12_pay_73 (E : jxE) (d : Nat) (hd : Nat.ble 2 (d + 1) = true) (x1 x2 : Int) (a0 b0 : Nat → Nat → Int) (hv0 : iv a0) (hp0 : SV a0) : ∀ n : Nat, (∀ (y4 : Int) (a : Nat → Nat → Int), (((1400 - y4) * 1) + 0).toNat ≤ n → iv a → jfr jW_X12_pay a0 a → 0 ≤ y4 → y4 ≤ 1400 → (SV a) → jt (jxX E d 287 73 [some (.inr (.inr (.inl 146))), none, none, none, some (.inl y4), none, none, none] [] (jxSH, a, b0)) (jQ_X12_pay x1 x2 a0 b0)) := by
  refine jx_ind fun n ih => ?_
  have ih73 : ∀ (y4 : Int) (a : Nat → Nat → Int), (((1400 - y4) * 1) + 0).toNat < n → iv a → jfr jW_X12_pay a0 a → 0 ≤ y4 → y4 ≤ 1400 → (SV a) → jt (jxX E d 287 73 [some (.inr (.inr (.inl 146))), none, none, none, some (.inl y4), none, none, none] [] (jxSH, a, b0)) (jQ_X12_pay x1 x2 a0 b0) := fun y4 a hlt i0 i1 i2 i3 i4 => (ih _ hlt) y4 a (Nat.le_refl _) i0 i1 i2 i3 i4
  have hc73 : ∀ (y4 : Int) (a : Nat → Nat → Int), (((1400 - y4) * 1) + 0).toNat ≤ n → iv a → jfr jW_X12_pay a0 a → 0 ≤ y4 → y4 ≤ 1400 → (SV a) → jt (jxX E d 287 73 [some (.inr (.inr (.inl 146))), none, none, none, some (.inl y4), none, none, none] [] (jxSH, a, b0)) (jQ_X12_pay x1 x2 a0 b0) := by
    intro y4 a hm hv hf hi0 hi1 hi2
    refine jt_eq (bq_X12_pay_73 E d y4 a b0) ?_
    refine jt_ite (fun c636_ => ?_) (fun c636_ => ?_)
    ·
      refine jt_grd (by omega) ?_
      refine jt_ite (fun c637_ => ?_) (fun c637_ => ?_)
      ·
        exact cp_X12_pay_100 E d hd x1 x2 a0 b0 hv0 hp0 y4 a hv hf (show 0 ≤ y4 from by omega) (show y4 ≤ 1400 from by omega) hi2
      ·
        have h638_ : jxw (y4 + 1) = y4 + 1 := jxw_id (by omega) (by omega)
        exact ih73 (jxw (y4 + 1)) a (show (((1400 - (jxw (y4 + 1))) * 1) + 0).toNat < n from by omega) hv hf (show 0 ≤ jxw (y4 + 1) from by omega) (show jxw (y4 + 1) ≤ 1400 from by omega) hi2
    ·
      exact cp_X12_pay_100 E d hd x1 x2 a0 b0 hv0 hp0 y4 a hv hf (show 0 ≤ y4 from by omega) (show y4 ≤ 1400 from by omega) hi2
  exact hc73
theorem cp_X12_pay_59 (E : jxE) (d : Nat) (hd : Nat.ble 2 (d + 1) = true) (x1 x2 : Int) (a0 b0 : Nat → Nat → Int) (hv0 : iv a0) (hp0 : SV a0) : ∀ (y3 : Int) (a : Nat → Nat → Int), iv a → jfr jW_X12_pay a0 a → 0 - 2 ≤ y3 → y3 ≤ 900 → (SV a) → jt (jxX E d 287 59 [some (.inr (.inr (.inl 146))), none, none, some (.inl y3), none, none, none, none] [] (jxSH, a, b0)) (jQ_X12_pay x1 x2 a0 b0) := by
  intro y3 a hv hf hi0 hi1 hi2
  refine jt_eq (bq_X12_pay_59 E d y3 a b0) ?_
  refine jt_ite (fun c639_ => ?_) (fun c639_ => ?_)
  ·
    exact jt_rI ⟨hv, hf, rfl, hi2⟩
  ·
    refine jt_bV (sp_X12_makes E d (jd_le hd rfl) a b0 hv hi2) (fun a640_ b640_ h640_ => ?_)
    obtain ⟨hv640_, hf640_, rfl⟩ := h640_
    have hf641_ : jfr jW_X12_pay a0 a640_ := jfr_tr hf hf640_ rfl
    exact (cp_X12_pay_73 E d hd x1 x2 a0 b0 hv0 hp0 _) y3 a640_ (Nat.le_refl _) hv640_ hf641_ (show 0 ≤ y3 from by omega) (show y3 ≤ 1400 from by omega) (SV_fr hi2 hf640_ (fun _ => rfl) (fun _ => rfl))
theorem sp_X12_pay (E : jxE) (d : Nat) (hd : Nat.ble 2 d = true) (x1 x2 : Int) (a0 b0 : Nat → Nat → Int) (hv0 : iv a0) (hp0 : SV a0) : jt (jxC E d 287 [.inr (.inr (.inl 146)), .inl x1, .inl x2] (jxSH, a0, b0)) (jQ_X12_pay x1 x2 a0 b0) := by
  obtain ⟨d, rfl⟩ := jd_succ hd
  refine jt_eq (bq_X12_pay E d x1 x2 a0 b0) ?_
  refine jt_eI (eq_X12_in E d (jd_le hd rfl) x1 0 (jxw ((a0 146 9) - 1)) a0 b0) ?_
  have h642_ := iv_get hv0 (k := 146) (j := 9) (l := 0) (u := 300) rfl
  have h643_ : jxw ((a0 146 9) - 1) = (a0 146 9) - 1 := jxw_id (by omega) (by omega)
  have h644_ := f_X12_in_eq a0 b0 x1 0 (jxw ((a0 146 9) - 1))
  refine jt_ite (fun c645_ => ?_) (fun c645_ => ?_)
  ·
    exact jt_rI ⟨hv0, (jfr_rf _ _), rfl, hp0⟩
  ·
    refine jt_eI (eq_X12_in E d (jd_le hd rfl) x2 1 500 a0 b0) ?_
    have h646_ := f_X12_in_eq a0 b0 x2 1 500
    refine jt_ite (fun c647_ => ?_) (fun c647_ => ?_)
    ·
      exact jt_rI ⟨hv0, (jfr_rf _ _), rfl, hp0⟩
    ·
      refine jt_grd (by omega) ?_
      have h648_ := iv_get hv0 (k := 154) (j := x1.toNat) (l := 0) (u := 39) rfl
      refine jt_grd (by omega) ?_
      refine jt_grd (by omega) ?_
      have h649_ := iv_get hv0 (k := 155) (j := x1.toNat) (l := 0) (u := 39) rfl
      refine jt_grd (by omega) ?_
      have h650_ := iv_get hv0 (k := 148) (j := (a0 154 (x1.toNat)).toNat) (l := 0) (u := 15) rfl
      have h651_ := iv_get hv0 (k := 148) (j := (a0 155 (x1.toNat)).toNat) (l := 0) (u := 15) rfl
      refine jt_bI (sp_X12_priceOf E d (jd_le hd rfl) (a0 148 ((a0 154 (x1.toNat)).toNat)) (a0 148 ((a0 155 (x1.toNat)).toNat)) x2 (a0 146 0) a0 b0 hv0 (show (0 ≤ a0 148 ((a0 154 (x1.toNat)).toNat) ∧ a0 148 ((a0 154 (x1.toNat)).toNat) ≤ 15) from by omega) (show (0 ≤ a0 148 ((a0 155 (x1.toNat)).toNat) ∧ a0 148 ((a0 155 (x1.toNat)).toNat) ≤ 15) from by omega)) (fun r652_ a652_ b652_ h652_ => ?_)
      obtain ⟨rfl, rfl, hq652_0, hq652_1⟩ := h652_
      exact cp_X12_pay_59 E d hd x1 x2 a0 b0 hv0 hp0 r652_ a0 hv0 (jfr_rf _ _) (show 0 - 2 ≤ r652_ from by omega) (show r652_ ≤ 900 from by omega) hp0
def jW_X12_stamps : List (Nat × Nat) := [(196, 9999), (197, 9999)]
abbrev jQ_X12_stamps (x1 x2 x3 : Int) (a0 b0 : Nat → Nat → Int) : List jxV → (Nat → Nat → Int) → (Nat → Nat → Int) → Prop := rI (fun r a b => (iv a) ∧ (jfr jW_X12_stamps a0 a) ∧ (b0 = b) ∧ ((0 ≤ r ∧ r ≤ 1)) ∧ (SV a) ∧ ((((((((r = 1 ∧ 0 ≤ x1) ∧ x1 ≤ 7) ∧ 1 ≤ x2) ∧ x2 ≤ 500) ∧ 0 ≤ x3) ∧ x3 ≤ 50) ∨ (r = 0 ∧ (((((x1 < 0 ∨ 7 < x1) ∨ x2 < 1) ∨ 500 < x2) ∨ x3 < 0) ∨ 50 < x3)))))
theorem cp_X12_stamps_31 (E : jxE) (d : Nat) (hd : Nat.ble 2 (d + 1) = true) (x1 x2 x3 : Int) (a0 b0 : Nat → Nat → Int) (hv0 : iv a0) (hp0 : SV a0) : ∀ (a : Nat → Nat → Int), iv a → jfr jW_X12_stamps a0 a → (((((x1 < 0 ∨ 7 < x1) ∨ x2 < 1) ∨ 500 < x2) ∨ x3 < 0) ∨ 50 < x3) → (SV a) → jt (jxX E d 285 31 [none, none, none, none] [] (jxSH, a, b0)) (jQ_X12_stamps x1 x2 x3 a0 b0) := by
  intro a hv hf hi0 hi1
  refine jt_eq (bq_X12_stamps_31 E d a b0) ?_
  exact jt_rI ⟨hv, hf, rfl, (show (0 ≤ 0 ∧ 0 ≤ 1) from by omega), hi1, (show (((((((0 = 1 ∧ 0 ≤ x1) ∧ x1 ≤ 7) ∧ 1 ≤ x2) ∧ x2 ≤ 500) ∧ 0 ≤ x3) ∧ x3 ≤ 50) ∨ (0 = 0 ∧ (((((x1 < 0 ∨ 7 < x1) ∨ x2 < 1) ∨ 500 < x2) ∨ x3 < 0) ∨ 50 < x3))) from by omega)⟩
theorem cp_X12_stamps_33 (E : jxE) (d : Nat) (hd : Nat.ble 2 (d + 1) = true) (x1 x2 x3 : Int) (a0 b0 : Nat → Nat → Int) (hv0 : iv a0) (hp0 : SV a0) : ∀ (y1 y2 y3 : Int) (a : Nat → Nat → Int), iv a → jfr jW_X12_stamps a0 a → 0 ≤ y1 → y1 ≤ 7 → 1 ≤ y2 → y2 ≤ 500 → 0 ≤ y3 → y3 ≤ 50 → y1 = x1 → y2 = x2 → y3 = x3 → (((((0 ≤ x1 ∧ x1 ≤ 7) ∧ 1 ≤ x2) ∧ x2 ≤ 500) ∧ 0 ≤ x3) ∧ x3 ≤ 50) → (SV a) → jt (jxX E d 285 33 [some (.inr (.inr (.inl 146))), some (.inl y1), some (.inl y2), some (.inl y3)] [] (jxSH, a, b0)) (jQ_X12_stamps x1 x2 x3 a0 b0) := by
  intro y1 y2 y3 a hv hf hi0 hi1 hi2 hi3 hi4 hi5 hi6 hi7 hi8 hi9 hi10
  refine jt_eq (bq_X12_stamps_33 E d y1 y2 y3 a b0) ?_
  refine jt_grd (by omega) ?_
  refine jt_grd (by omega) ?_
  have hv653_ : iv (jxu a 196 (y1.toNat) y2) := iv_put hv (l := (-1)) (u := 500) rfl (by omega) (by omega)
  have hv654_ : iv (jxu (jxu a 196 (y1.toNat) y2) 197 (y1.toNat) y3) := iv_put hv653_ (l := 0) (u := 50) rfl (by omega) (by omega)
  have hf655_ : jfr jW_X12_stamps a0 (jxu a 196 (y1.toNat) y2) := jfr_put hf rfl
  have hf656_ : jfr jW_X12_stamps a0 (jxu (jxu a 196 (y1.toNat) y2) 197 (y1.toNat) y3) := jfr_put hf655_ rfl
  have hg657_ : SV (jxu a 196 (y1.toNat) y2) := (SV_put196 hi10 (by omega))
  have h658_ := iv_get hv (k := 197) (j := y1.toNat) (l := 0) (u := 50) rfl
  have h659_ := iv_get hv653_ (k := 196) (j := y1.toNat) (l := (-1)) (u := 500) rfl
  have h660_ := jxu_sp a 196 (y1.toNat) y2 (y1.toNat)
  have h661_ := iv_get hv (k := 196) (j := y1.toNat) (l := (-1)) (u := 500) rfl
  have hg662_ : SV (jxu (jxu a 196 (y1.toNat) y2) 197 (y1.toNat) y3) := (SV_put197 hg657_ (by first | (left; show y3 ≤ a 197 (y1.toNat); omega) | (right; show 1 ≤ (jxu a 196 (y1.toNat) y2) 196 (y1.toNat); omega)))
  exact jt_rI ⟨hv654_, hf656_, rfl, (show (0 ≤ 1 ∧ 1 ≤ 1) from by omega), hg662_, (show (((((((1 = 1 ∧ 0 ≤ x1) ∧ x1 ≤ 7) ∧ 1 ≤ x2) ∧ x2 ≤ 500) ∧ 0 ≤ x3) ∧ x3 ≤ 50) ∨ (1 = 0 ∧ (((((x1 < 0 ∨ 7 < x1) ∨ x2 < 1) ∨ 500 < x2) ∨ x3 < 0) ∨ 50 < x3))) from by omega)⟩
theorem sp_X12_stamps (E : jxE) (d : Nat) (hd : Nat.ble 2 d = true) (x1 x2 x3 : Int) (a0 b0 : Nat → Nat → Int) (hv0 : iv a0) (hp0 : SV a0) : jt (jxC E d 285 [.inr (.inr (.inl 146)), .inl x1, .inl x2, .inl x3] (jxSH, a0, b0)) (jQ_X12_stamps x1 x2 x3 a0 b0) := by
  obtain ⟨d, rfl⟩ := jd_succ hd
  refine jt_eq (bq_X12_stamps E d x1 x2 x3 a0 b0) ?_
  refine jt_eI (eq_X12_in E d (jd_le hd rfl) x1 0 7 a0 b0) ?_
  have h663_ := f_X12_in_eq a0 b0 x1 0 7
  refine jt_ite (fun c664_ => ?_) (fun c664_ => ?_)
  ·
    exact cp_X12_stamps_31 E d hd x1 x2 x3 a0 b0 hv0 hp0 a0 hv0 (jfr_rf _ _) (show (((((x1 < 0 ∨ 7 < x1) ∨ x2 < 1) ∨ 500 < x2) ∨ x3 < 0) ∨ 50 < x3) from by omega) hp0
  ·
    refine jt_eI (eq_X12_in E d (jd_le hd rfl) x2 1 500 a0 b0) ?_
    have h665_ := f_X12_in_eq a0 b0 x2 1 500
    refine jt_ite (fun c666_ => ?_) (fun c666_ => ?_)
    ·
      exact cp_X12_stamps_31 E d hd x1 x2 x3 a0 b0 hv0 hp0 a0 hv0 (jfr_rf _ _) (show (((((x1 < 0 ∨ 7 < x1) ∨ x2 < 1) ∨ 500 < x2) ∨ x3 < 0) ∨ 50 < x3) from by omega) hp0
    ·
      refine jt_eI (eq_X12_in E d (jd_le hd rfl) x3 0 50 a0 b0) ?_
      have h667_ := f_X12_in_eq a0 b0 x3 0 50
      refine jt_ite (fun c668_ => ?_) (fun c668_ => ?_)
      ·
        exact cp_X12_stamps_31 E d hd x1 x2 x3 a0 b0 hv0 hp0 a0 hv0 (jfr_rf _ _) (show (((((x1 < 0 ∨ 7 < x1) ∨ x2 < 1) ∨ 500 < x2) ∨ x3 < 0) ∨ 50 < x3) from by omega) hp0
      ·
        exact cp_X12_stamps_33 E d hd x1 x2 x3 a0 b0 hv0 hp0 x1 x2 x3 a0 hv0 (jfr_rf _ _) (show 0 ≤ x1 from by omega) (show x1 ≤ 7 from by omega) (show 1 ≤ x2 from by omega) (show x2 ≤ 500 from by omega) (show 0 ≤ x3 from by omega) (show x3 ≤ 50 from by omega) (show x1 = x1 from by omega) (show x2 = x2 from by omega) (show x3 = x3 from by omega) (show (((((0 ≤ x1 ∧ x1 ≤ 7) ∧ 1 ≤ x2) ∧ x2 ≤ 500) ∧ 0 ≤ x3) ∧ x3 ≤ 50) from by omega) hp0
