def jW_X12_isMet : List (Nat × Nat) := [(170, 9999)]
abbrev jQ_X12_isMet (x1 x2 : Int) (a0 b0 : Nat → Nat → Int) : List jxV → (Nat → Nat → Int) → (Nat → Nat → Int) → Prop := rI (fun r a b => (iv a) ∧ (jfr jW_X12_isMet a0 a) ∧ (b0 = b) ∧ ((0 ≤ r ∧ r ≤ 1)))
theorem cp_X12_isMet_16 (E : jxE) (d : Nat) (hd : Nat.ble 2 (d + 1) = true) (x1 x2 : Int) (a0 b0 : Nat → Nat → Int) (hv0 : iv a0) (hp0 : (0 ≤ x1 ∧ x1 ≤ 39)) (hp1 : (0 ≤ x2 ∧ x2 ≤ 39)) (hp2 : WFW a0) : ∀ n : Nat, (∀ (y1 y2 y3 y4 : Int) (a : Nat → Nat → Int), (((64 - y4) * 1) + 0).toNat ≤ n → iv a → jfr jW_X12_isMet a0 a → 0 ≤ y1 → y1 ≤ 39 → 0 ≤ y2 → y2 ≤ 39 → 0 ≤ y4 → y4 ≤ 63 → y1 = x1 → y2 = x2 → 0 ≤ y4 → 0 ≤ y3 → y4 < a 167 (y1.toNat) → (y3 = jhg (fun k => a0 166 (64 * x1.toNat + k)) (y4.toNat + 1)) → jt (jxX E d 227 172 [some (.inr (.inr (.inl 146))), some (.inl y1), some (.inl y2), some (.inl y3), some (.inl y4), none] [] (jxSH, a, b0)) (jQ_X12_isMet x1 x2 a0 b0)) ∧ (∀ (y1 y2 y3 y4 : Int) (a : Nat → Nat → Int), (((64 - y4) * 1) + 0).toNat ≤ n → iv a → jfr jW_X12_isMet a0 a → 0 ≤ y1 → y1 ≤ 39 → 0 ≤ y2 → y2 ≤ 39 → 0 ≤ y4 → y4 ≤ 63 → y1 = x1 → y2 = x2 → 0 ≤ y4 → 0 ≤ y3 → y4 < a 167 (y1.toNat) → (y3 = jhg (fun k => a0 166 (64 * x1.toNat + k)) (y4.toNat + 1)) → jt (jxX E d 227 99 [some (.inr (.inr (.inl 146))), some (.inl y1), some (.inl y2), some (.inl y3), some (.inl y4), none] [] (jxSH, a, b0)) (jQ_X12_isMet x1 x2 a0 b0)) ∧ (∀ (y1 y2 y3 y4 y5 : Int) (a : Nat → Nat → Int), (((64 - y4) * 1) + 0).toNat ≤ n → iv a → jfr jW_X12_isMet a0 a → 0 ≤ y1 → y1 ≤ 39 → 0 ≤ y2 → y2 ≤ 39 → 0 ≤ y4 → y4 ≤ 63 → y1 = x1 → y2 = x2 → 0 ≤ y4 → 0 ≤ y3 → y4 < a 167 (y1.toNat) → (y3 = jhg (fun k => a0 166 (64 * x1.toNat + k)) y4.toNat) → (y5 = a0 166 (64 * x1.toNat + y4.toNat)) → jt (jxX E d 227 41 [some (.inr (.inr (.inl 146))), some (.inl y1), some (.inl y2), some (.inl y3), some (.inl y4), some (.inl y5)] [] (jxSH, a, b0)) (jQ_X12_isMet x1 x2 a0 b0)) ∧ (∀ (y1 y2 y3 y4 : Int) (a : Nat → Nat → Int), (((64 - y4) * 1) + 0).toNat ≤ n → iv a → jfr jW_X12_isMet a0 a → 0 ≤ y1 → y1 ≤ 39 → 0 ≤ y2 → y2 ≤ 39 → 0 ≤ y4 → y4 ≤ 64 → y1 = x1 → y2 = x2 → 0 ≤ y4 → 0 ≤ y3 → y4 ≤ a 167 (y1.toNat) → (y3 = jhg (fun k => a0 166 (64 * x1.toNat + k)) y4.toNat) → jt (jxX E d 227 16 [some (.inr (.inr (.inl 146))), some (.inl y1), some (.inl y2), some (.inl y3), some (.inl y4), none] [] (jxSH, a, b0)) (jQ_X12_isMet x1 x2 a0 b0)) := by
  refine jx_ind fun n ih => ?_
  have ih172 : ∀ (y1 y2 y3 y4 : Int) (a : Nat → Nat → Int), (((64 - y4) * 1) + 0).toNat < n → iv a → jfr jW_X12_isMet a0 a → 0 ≤ y1 → y1 ≤ 39 → 0 ≤ y2 → y2 ≤ 39 → 0 ≤ y4 → y4 ≤ 63 → y1 = x1 → y2 = x2 → 0 ≤ y4 → 0 ≤ y3 → y4 < a 167 (y1.toNat) → (y3 = jhg (fun k => a0 166 (64 * x1.toNat + k)) (y4.toNat + 1)) → jt (jxX E d 227 172 [some (.inr (.inr (.inl 146))), some (.inl y1), some (.inl y2), some (.inl y3), some (.inl y4), none] [] (jxSH, a, b0)) (jQ_X12_isMet x1 x2 a0 b0) := fun y1 y2 y3 y4 a hlt i0 i1 i2 i3 i4 i5 i6 i7 i8 i9 i10 i11 i12 i13 => (ih _ hlt).1 y1 y2 y3 y4 a (Nat.le_refl _) i0 i1 i2 i3 i4 i5 i6 i7 i8 i9 i10 i11 i12 i13
  have ih99 : ∀ (y1 y2 y3 y4 : Int) (a : Nat → Nat → Int), (((64 - y4) * 1) + 0).toNat < n → iv a → jfr jW_X12_isMet a0 a → 0 ≤ y1 → y1 ≤ 39 → 0 ≤ y2 → y2 ≤ 39 → 0 ≤ y4 → y4 ≤ 63 → y1 = x1 → y2 = x2 → 0 ≤ y4 → 0 ≤ y3 → y4 < a 167 (y1.toNat) → (y3 = jhg (fun k => a0 166 (64 * x1.toNat + k)) (y4.toNat + 1)) → jt (jxX E d 227 99 [some (.inr (.inr (.inl 146))), some (.inl y1), some (.inl y2), some (.inl y3), some (.inl y4), none] [] (jxSH, a, b0)) (jQ_X12_isMet x1 x2 a0 b0) := fun y1 y2 y3 y4 a hlt i0 i1 i2 i3 i4 i5 i6 i7 i8 i9 i10 i11 i12 i13 => (ih _ hlt).2.1 y1 y2 y3 y4 a (Nat.le_refl _) i0 i1 i2 i3 i4 i5 i6 i7 i8 i9 i10 i11 i12 i13
  have ih41 : ∀ (y1 y2 y3 y4 y5 : Int) (a : Nat → Nat → Int), (((64 - y4) * 1) + 0).toNat < n → iv a → jfr jW_X12_isMet a0 a → 0 ≤ y1 → y1 ≤ 39 → 0 ≤ y2 → y2 ≤ 39 → 0 ≤ y4 → y4 ≤ 63 → y1 = x1 → y2 = x2 → 0 ≤ y4 → 0 ≤ y3 → y4 < a 167 (y1.toNat) → (y3 = jhg (fun k => a0 166 (64 * x1.toNat + k)) y4.toNat) → (y5 = a0 166 (64 * x1.toNat + y4.toNat)) → jt (jxX E d 227 41 [some (.inr (.inr (.inl 146))), some (.inl y1), some (.inl y2), some (.inl y3), some (.inl y4), some (.inl y5)] [] (jxSH, a, b0)) (jQ_X12_isMet x1 x2 a0 b0) := fun y1 y2 y3 y4 y5 a hlt i0 i1 i2 i3 i4 i5 i6 i7 i8 i9 i10 i11 i12 i13 i14 => (ih _ hlt).2.2.1 y1 y2 y3 y4 y5 a (Nat.le_refl _) i0 i1 i2 i3 i4 i5 i6 i7 i8 i9 i10 i11 i12 i13 i14
  have ih16 : ∀ (y1 y2 y3 y4 : Int) (a : Nat → Nat → Int), (((64 - y4) * 1) + 0).toNat < n → iv a → jfr jW_X12_isMet a0 a → 0 ≤ y1 → y1 ≤ 39 → 0 ≤ y2 → y2 ≤ 39 → 0 ≤ y4 → y4 ≤ 64 → y1 = x1 → y2 = x2 → 0 ≤ y4 → 0 ≤ y3 → y4 ≤ a 167 (y1.toNat) → (y3 = jhg (fun k => a0 166 (64 * x1.toNat + k)) y4.toNat) → jt (jxX E d 227 16 [some (.inr (.inr (.inl 146))), some (.inl y1), some (.inl y2), some (.inl y3), some (.inl y4), none] [] (jxSH, a, b0)) (jQ_X12_isMet x1 x2 a0 b0) := fun y1 y2 y3 y4 a hlt i0 i1 i2 i3 i4 i5 i6 i7 i8 i9 i10 i11 i12 i13 => (ih _ hlt).2.2.2 y1 y2 y3 y4 a (Nat.le_refl _) i0 i1 i2 i3 i4 i5 i6 i7 i8 i9 i10 i11 i12 i13
  have hc172 : ∀ (y1 y2 y3 y4 : Int) (a : Nat → Nat → Int), (((64 - y4) * 1) + 0).toNat ≤ n → iv a → jfr jW_X12_isMet a0 a → 0 ≤ y1 → y1 ≤ 39 → 0 ≤ y2 → y2 ≤ 39 → 0 ≤ y4 → y4 ≤ 63 → y1 = x1 → y2 = x2 → 0 ≤ y4 → 0 ≤ y3 → y4 < a 167 (y1.toNat) → (y3 = jhg (fun k => a0 166 (64 * x1.toNat + k)) (y4.toNat + 1)) → jt (jxX E d 227 172 [some (.inr (.inr (.inl 146))), some (.inl y1), some (.inl y2), some (.inl y3), some (.inl y4), none] [] (jxSH, a, b0)) (jQ_X12_isMet x1 x2 a0 b0) := by
    intro y1 y2 y3 y4 a hm hv hf hi0 hi1 hi2 hi3 hi4 hi5 hi6 hi7 hi8 hi9 hi10 hi11
    refine jt_eq (bq_X12_isMet_172 E d y1 y2 y3 y4 a b0) ?_
    have h1_ := iv_get hv (k := 167) (j := y1.toNat) (l := 0) (u := 64) rfl
    have h2_ : a 167 (y1.toNat) = a0 167 (y1.toNat) := hf 167 (y1.toNat) rfl
    have h3_ := iv_get hv0 (k := 167) (j := y1.toNat) (l := 0) (u := 64) rfl
    have h4_ : jxw (y4 + 1) = y4 + 1 := jxw_id (by omega) (by omega)
    exact ih16 y1 y2 y3 (jxw (y4 + 1)) a (show (((64 - (jxw (y4 + 1))) * 1) + 0).toNat < n from by omega) hv hf (show 0 ≤ y1 from by omega) (show y1 ≤ 39 from by omega) (show 0 ≤ y2 from by omega) (show y2 ≤ 39 from by omega) (show 0 ≤ jxw (y4 + 1) from by omega) (show jxw (y4 + 1) ≤ 64 from by omega) (show y1 = x1 from by omega) (show y2 = x2 from by omega) (show 0 ≤ jxw (y4 + 1) from by omega) (show 0 ≤ y3 from by omega) (show jxw (y4 + 1) ≤ a 167 (y1.toNat) from by omega) (by first | rfl | (rw [show (jxw (y4 + 1)).toNat = y4.toNat + 1 from by omega]; assumption))
  have hc99 : ∀ (y1 y2 y3 y4 : Int) (a : Nat → Nat → Int), (((64 - y4) * 1) + 0).toNat ≤ n → iv a → jfr jW_X12_isMet a0 a → 0 ≤ y1 → y1 ≤ 39 → 0 ≤ y2 → y2 ≤ 39 → 0 ≤ y4 → y4 ≤ 63 → y1 = x1 → y2 = x2 → 0 ≤ y4 → 0 ≤ y3 → y4 < a 167 (y1.toNat) → (y3 = jhg (fun k => a0 166 (64 * x1.toNat + k)) (y4.toNat + 1)) → jt (jxX E d 227 99 [some (.inr (.inr (.inl 146))), some (.inl y1), some (.inl y2), some (.inl y3), some (.inl y4), none] [] (jxSH, a, b0)) (jQ_X12_isMet x1 x2 a0 b0) := by
    intro y1 y2 y3 y4 a hm hv hf hi0 hi1 hi2 hi3 hi4 hi5 hi6 hi7 hi8 hi9 hi10 hi11
    refine jt_eq (bq_X12_isMet_99 E d y1 y2 y3 y4 a b0) ?_
    have h5_ := iv_get hv (k := 167) (j := y1.toNat) (l := 0) (u := 64) rfl
    have h6_ : a 167 (y1.toNat) = a0 167 (y1.toNat) := hf 167 (y1.toNat) rfl
    have h7_ := iv_get hv0 (k := 167) (j := y1.toNat) (l := 0) (u := 64) rfl
    exact hc172 y1 y2 y3 y4 a (show (((64 - y4) * 1) + 0).toNat ≤ n from by omega) hv hf (show 0 ≤ y1 from by omega) (show y1 ≤ 39 from by omega) (show 0 ≤ y2 from by omega) (show y2 ≤ 39 from by omega) (show 0 ≤ y4 from by omega) (show y4 ≤ 63 from by omega) (show y1 = x1 from by omega) (show y2 = x2 from by omega) (show 0 ≤ y4 from by omega) (show 0 ≤ y3 from by omega) (show y4 < a 167 (y1.toNat) from by omega) (by first | assumption | omega)
  have hc41 : ∀ (y1 y2 y3 y4 y5 : Int) (a : Nat → Nat → Int), (((64 - y4) * 1) + 0).toNat ≤ n → iv a → jfr jW_X12_isMet a0 a → 0 ≤ y1 → y1 ≤ 39 → 0 ≤ y2 → y2 ≤ 39 → 0 ≤ y4 → y4 ≤ 63 → y1 = x1 → y2 = x2 → 0 ≤ y4 → 0 ≤ y3 → y4 < a 167 (y1.toNat) → (y3 = jhg (fun k => a0 166 (64 * x1.toNat + k)) y4.toNat) → (y5 = a0 166 (64 * x1.toNat + y4.toNat)) → jt (jxX E d 227 41 [some (.inr (.inr (.inl 146))), some (.inl y1), some (.inl y2), some (.inl y3), some (.inl y4), some (.inl y5)] [] (jxSH, a, b0)) (jQ_X12_isMet x1 x2 a0 b0) := by
    intro y1 y2 y3 y4 y5 a hm hv hf hi0 hi1 hi2 hi3 hi4 hi5 hi6 hi7 hi8 hi9 hi10 hi11 hi12
    refine jt_eq (bq_X12_isMet_41 E d y1 y2 y3 y4 y5 a b0) ?_
    have h8_ := iv_get hv (k := 167) (j := y1.toNat) (l := 0) (u := 64) rfl
    have h9_ : a 167 (y1.toNat) = a0 167 (y1.toNat) := hf 167 (y1.toNat) rfl
    have h10_ := iv_get hv0 (k := 167) (j := y1.toNat) (l := 0) (u := 64) rfl
    have h167a := hf 167 y1.toNat rfl
    have h167c : a0 167 x1.toNat = a0 167 y1.toNat := by rw [show y1 = x1 from by omega]
    have hst := wf_step hp2 hp0 (y := y4) (by omega) (by omega)
    have h167 := iv_get hv0 (k := 167) (j := x1.toNat) (l := 0) (u := 64) rfl
    have h167b := hf 167 x1.toNat rfl
    obtain ⟨hst1, hst2, hst3⟩ := hst
    have hy5 : y5 = a0 166 (64 * x1.toNat + y4.toNat) := by assumption
    have hy3 : y3 = jhg (fun k => a0 166 (64 * x1.toNat + k)) y4.toNat := by assumption
    rw [← hy5, ← hy3] at hst1 hst2
    rw [← hy3] at hst3
    refine jt_ite (fun c11_ => ?_) (fun c11_ => ?_)
    ·
      refine jt_ite (fun c12_ => ?_) (fun c12_ => ?_)
      ·
        have h13_ := jxw_im (y3 - 1)
        have h14_ := jxw_rg (y3 - 1)
        refine jt_grd (by omega) ?_
        have h15_ := iv_get hv (k := 170) (j := (jxw (y3 - 1)).toNat) (l := 0) (u := 1) rfl
        refine jt_ite (fun c16_ => ?_) (fun c16_ => ?_)
        ·
          refine jt_grd (by omega) ?_
          have hv17_ : iv (jxu a 170 ((jxw (y3 - 1)).toNat) 1) := iv_put hv (l := 0) (u := 1) rfl (by omega) (by omega)
          have hf18_ : jfr jW_X12_isMet a0 (jxu a 170 ((jxw (y3 - 1)).toNat) 1) := jfr_put hf rfl
          exact hc99 y1 y2 y3 y4 (jxu a 170 ((jxw (y3 - 1)).toNat) 1) (show (((64 - y4) * 1) + 0).toNat ≤ n from by omega) hv17_ hf18_ (show 0 ≤ y1 from by omega) (show y1 ≤ 39 from by omega) (show 0 ≤ y2 from by omega) (show y2 ≤ 39 from by omega) (show 0 ≤ y4 from by omega) (show y4 ≤ 63 from by omega) (show y1 = x1 from by omega) (show y2 = x2 from by omega) (show 0 ≤ y4 from by omega) (show 0 ≤ y3 from by omega) (show y4 < a 167 (y1.toNat) from by omega) (by omega)
        ·
          refine jt_grd (by omega) ?_
          have hv19_ : iv (jxu a 170 ((jxw (y3 - 1)).toNat) 0) := iv_put hv (l := 0) (u := 1) rfl (by omega) (by omega)
          have hf20_ : jfr jW_X12_isMet a0 (jxu a 170 ((jxw (y3 - 1)).toNat) 0) := jfr_put hf rfl
          exact hc99 y1 y2 y3 y4 (jxu a 170 ((jxw (y3 - 1)).toNat) 0) (show (((64 - y4) * 1) + 0).toNat ≤ n from by omega) hv19_ hf20_ (show 0 ≤ y1 from by omega) (show y1 ≤ 39 from by omega) (show 0 ≤ y2 from by omega) (show y2 ≤ 39 from by omega) (show 0 ≤ y4 from by omega) (show y4 ≤ 63 from by omega) (show y1 = x1 from by omega) (show y2 = x2 from by omega) (show 0 ≤ y4 from by omega) (show 0 ≤ y3 from by omega) (show y4 < a 167 (y1.toNat) from by omega) (by omega)
      ·
        refine jt_ite (fun c21_ => ?_) (fun c21_ => ?_)
        ·
          have h22_ := jxw_im (y3 + (-1))
          have h23_ := jxw_rg (y3 + (-1))
          have h24_ := jxw_im ((jxw (y3 + (-1))) - 1)
          have h25_ := jxw_rg ((jxw (y3 + (-1))) - 1)
          refine jt_grd (by omega) ?_
          have h26_ := iv_get hv (k := 170) (j := (jxw ((jxw (y3 + (-1))) - 1)).toNat) (l := 0) (u := 1) rfl
          refine jt_ite (fun c27_ => ?_) (fun c27_ => ?_)
          ·
            refine jt_grd (by omega) ?_
            have hv28_ : iv (jxu a 170 ((jxw ((jxw (y3 + (-1))) - 1)).toNat) 0) := iv_put hv (l := 0) (u := 1) rfl (by omega) (by omega)
            have hf29_ : jfr jW_X12_isMet a0 (jxu a 170 ((jxw ((jxw (y3 + (-1))) - 1)).toNat) 0) := jfr_put hf rfl
            exact hc172 y1 y2 (jxw (y3 + (-1))) y4 (jxu a 170 ((jxw ((jxw (y3 + (-1))) - 1)).toNat) 0) (show (((64 - y4) * 1) + 0).toNat ≤ n from by omega) hv28_ hf29_ (show 0 ≤ y1 from by omega) (show y1 ≤ 39 from by omega) (show 0 ≤ y2 from by omega) (show y2 ≤ 39 from by omega) (show 0 ≤ y4 from by omega) (show y4 ≤ 63 from by omega) (show y1 = x1 from by omega) (show y2 = x2 from by omega) (show 0 ≤ y4 from by omega) (show 0 ≤ jxw (y3 + (-1)) from by omega) (show y4 < a 167 (y1.toNat) from by omega) (by first | assumption | omega)
          ·
            refine jt_grd (by omega) ?_
            have h30_ := iv_get hv (k := 170) (j := (jxw (y3 + (-1))).toNat) (l := 0) (u := 1) rfl
            refine jt_ite (fun c31_ => ?_) (fun c31_ => ?_)
            ·
              refine jt_grd (by omega) ?_
              have hv32_ : iv (jxu a 170 ((jxw ((jxw (y3 + (-1))) - 1)).toNat) 0) := iv_put hv (l := 0) (u := 1) rfl (by omega) (by omega)
              have hf33_ : jfr jW_X12_isMet a0 (jxu a 170 ((jxw ((jxw (y3 + (-1))) - 1)).toNat) 0) := jfr_put hf rfl
              exact hc172 y1 y2 (jxw (y3 + (-1))) y4 (jxu a 170 ((jxw ((jxw (y3 + (-1))) - 1)).toNat) 0) (show (((64 - y4) * 1) + 0).toNat ≤ n from by omega) hv32_ hf33_ (show 0 ≤ y1 from by omega) (show y1 ≤ 39 from by omega) (show 0 ≤ y2 from by omega) (show y2 ≤ 39 from by omega) (show 0 ≤ y4 from by omega) (show y4 ≤ 63 from by omega) (show y1 = x1 from by omega) (show y2 = x2 from by omega) (show 0 ≤ y4 from by omega) (show 0 ≤ jxw (y3 + (-1)) from by omega) (show y4 < a 167 (y1.toNat) from by omega) (by first | assumption | omega)
            ·
              refine jt_grd (by omega) ?_
              have hv34_ : iv (jxu a 170 ((jxw ((jxw (y3 + (-1))) - 1)).toNat) 1) := iv_put hv (l := 0) (u := 1) rfl (by omega) (by omega)
              have hf35_ : jfr jW_X12_isMet a0 (jxu a 170 ((jxw ((jxw (y3 + (-1))) - 1)).toNat) 1) := jfr_put hf rfl
              exact hc172 y1 y2 (jxw (y3 + (-1))) y4 (jxu a 170 ((jxw ((jxw (y3 + (-1))) - 1)).toNat) 1) (show (((64 - y4) * 1) + 0).toNat ≤ n from by omega) hv34_ hf35_ (show 0 ≤ y1 from by omega) (show y1 ≤ 39 from by omega) (show 0 ≤ y2 from by omega) (show y2 ≤ 39 from by omega) (show 0 ≤ y4 from by omega) (show y4 ≤ 63 from by omega) (show y1 = x1 from by omega) (show y2 = x2 from by omega) (show 0 ≤ y4 from by omega) (show 0 ≤ jxw (y3 + (-1)) from by omega) (show y4 < a 167 (y1.toNat) from by omega) (by first | assumption | omega)
        ·
          have h36_ := jxw_im (y3 + (-1))
          have h37_ := jxw_rg (y3 + (-1))
          have h38_ := jxw_im ((jxw (y3 + (-1))) - 1)
          have h39_ := jxw_rg ((jxw (y3 + (-1))) - 1)
          refine jt_grd (by omega) ?_
          have h40_ := iv_get hv (k := 170) (j := (jxw ((jxw (y3 + (-1))) - 1)).toNat) (l := 0) (u := 1) rfl
          refine jt_ite (fun c41_ => ?_) (fun c41_ => ?_)
          ·
            refine jt_grd (by omega) ?_
            have h42_ := iv_get hv (k := 170) (j := (jxw (y3 + (-1))).toNat) (l := 0) (u := 1) rfl
            refine jt_ite (fun c43_ => ?_) (fun c43_ => ?_)
            ·
              refine jt_grd (by omega) ?_
              have hv44_ : iv (jxu a 170 ((jxw ((jxw (y3 + (-1))) - 1)).toNat) 0) := iv_put hv (l := 0) (u := 1) rfl (by omega) (by omega)
              have hf45_ : jfr jW_X12_isMet a0 (jxu a 170 ((jxw ((jxw (y3 + (-1))) - 1)).toNat) 0) := jfr_put hf rfl
              exact hc172 y1 y2 (jxw (y3 + (-1))) y4 (jxu a 170 ((jxw ((jxw (y3 + (-1))) - 1)).toNat) 0) (show (((64 - y4) * 1) + 0).toNat ≤ n from by omega) hv44_ hf45_ (show 0 ≤ y1 from by omega) (show y1 ≤ 39 from by omega) (show 0 ≤ y2 from by omega) (show y2 ≤ 39 from by omega) (show 0 ≤ y4 from by omega) (show y4 ≤ 63 from by omega) (show y1 = x1 from by omega) (show y2 = x2 from by omega) (show 0 ≤ y4 from by omega) (show 0 ≤ jxw (y3 + (-1)) from by omega) (show y4 < a 167 (y1.toNat) from by omega) (by first | assumption | omega)
            ·
              refine jt_grd (by omega) ?_
              have hv46_ : iv (jxu a 170 ((jxw ((jxw (y3 + (-1))) - 1)).toNat) 1) := iv_put hv (l := 0) (u := 1) rfl (by omega) (by omega)
              have hf47_ : jfr jW_X12_isMet a0 (jxu a 170 ((jxw ((jxw (y3 + (-1))) - 1)).toNat) 1) := jfr_put hf rfl
              exact hc172 y1 y2 (jxw (y3 + (-1))) y4 (jxu a 170 ((jxw ((jxw (y3 + (-1))) - 1)).toNat) 1) (show (((64 - y4) * 1) + 0).toNat ≤ n from by omega) hv46_ hf47_ (show 0 ≤ y1 from by omega) (show y1 ≤ 39 from by omega) (show 0 ≤ y2 from by omega) (show y2 ≤ 39 from by omega) (show 0 ≤ y4 from by omega) (show y4 ≤ 63 from by omega) (show y1 = x1 from by omega) (show y2 = x2 from by omega) (show 0 ≤ y4 from by omega) (show 0 ≤ jxw (y3 + (-1)) from by omega) (show y4 < a 167 (y1.toNat) from by omega) (by first | assumption | omega)
          ·
            refine jt_grd (by omega) ?_
            have hv48_ : iv (jxu a 170 ((jxw ((jxw (y3 + (-1))) - 1)).toNat) 1) := iv_put hv (l := 0) (u := 1) rfl (by omega) (by omega)
            have hf49_ : jfr jW_X12_isMet a0 (jxu a 170 ((jxw ((jxw (y3 + (-1))) - 1)).toNat) 1) := jfr_put hf rfl
            exact hc172 y1 y2 (jxw (y3 + (-1))) y4 (jxu a 170 ((jxw ((jxw (y3 + (-1))) - 1)).toNat) 1) (show (((64 - y4) * 1) + 0).toNat ≤ n from by omega) hv48_ hf49_ (show 0 ≤ y1 from by omega) (show y1 ≤ 39 from by omega) (show 0 ≤ y2 from by omega) (show y2 ≤ 39 from by omega) (show 0 ≤ y4 from by omega) (show y4 ≤ 63 from by omega) (show y1 = x1 from by omega) (show y2 = x2 from by omega) (show 0 ≤ y4 from by omega) (show 0 ≤ jxw (y3 + (-1)) from by omega) (show y4 < a 167 (y1.toNat) from by omega) (by first | assumption | omega)
    ·
      refine jt_eI (eq_X12_isAtom E d (jd_le hd rfl) y5 y1 y2 a b0 hv (show (0 ≤ y1 ∧ y1 < 40) from by omega) (show (0 ≤ y2 ∧ y2 < 40) from by omega)) ?_
      refine jt_grd (by omega) ?_
      have h50_ := f_X12_isAtom_bool a b0 y5 y1 y2
      refine jt_grd (by omega) ?_
      have hv51_ : iv (jxu a 170 (y3.toNat) (f_X12_isAtom a b0 y5 y1 y2)) := iv_put hv (l := 0) (u := 1) rfl (by omega) (by omega)
      have hf52_ : jfr jW_X12_isMet a0 (jxu a 170 (y3.toNat) (f_X12_isAtom a b0 y5 y1 y2)) := jfr_put hf rfl
      have h53_ : jxw (y3 + 1) = y3 + 1 := jxw_id (by omega) (by omega)
      exact hc172 y1 y2 (jxw (y3 + 1)) y4 (jxu a 170 (y3.toNat) (f_X12_isAtom a b0 y5 y1 y2)) (show (((64 - y4) * 1) + 0).toNat ≤ n from by omega) hv51_ hf52_ (show 0 ≤ y1 from by omega) (show y1 ≤ 39 from by omega) (show 0 ≤ y2 from by omega) (show y2 ≤ 39 from by omega) (show 0 ≤ y4 from by omega) (show y4 ≤ 63 from by omega) (show y1 = x1 from by omega) (show y2 = x2 from by omega) (show 0 ≤ y4 from by omega) (show 0 ≤ jxw (y3 + 1) from by omega) (show y4 < a 167 (y1.toNat) from by omega) (by first | assumption | omega)
  have hc16 : ∀ (y1 y2 y3 y4 : Int) (a : Nat → Nat → Int), (((64 - y4) * 1) + 0).toNat ≤ n → iv a → jfr jW_X12_isMet a0 a → 0 ≤ y1 → y1 ≤ 39 → 0 ≤ y2 → y2 ≤ 39 → 0 ≤ y4 → y4 ≤ 64 → y1 = x1 → y2 = x2 → 0 ≤ y4 → 0 ≤ y3 → y4 ≤ a 167 (y1.toNat) → (y3 = jhg (fun k => a0 166 (64 * x1.toNat + k)) y4.toNat) → jt (jxX E d 227 16 [some (.inr (.inr (.inl 146))), some (.inl y1), some (.inl y2), some (.inl y3), some (.inl y4), none] [] (jxSH, a, b0)) (jQ_X12_isMet x1 x2 a0 b0) := by
    intro y1 y2 y3 y4 a hm hv hf hi0 hi1 hi2 hi3 hi4 hi5 hi6 hi7 hi8 hi9 hi10 hi11
    refine jt_eq (bq_X12_isMet_16 E d y1 y2 y3 y4 a b0) ?_
    have h54_ := iv_get hv (k := 167) (j := y1.toNat) (l := 0) (u := 64) rfl
    have h55_ : a 167 (y1.toNat) = a0 167 (y1.toNat) := hf 167 (y1.toNat) rfl
    have h56_ := iv_get hv0 (k := 167) (j := y1.toNat) (l := 0) (u := 64) rfl
    have hix : (jxw ((jxw (64 * y1)) + y4)).toNat = 64 * x1.toNat + y4.toNat ∨ a 167 y1.toNat ≤ y4 := by
      have := iv_get hv (k := 167) (j := y1.toNat) (l := 0) (u := 64) rfl
      by_cases hc : a 167 y1.toNat ≤ y4
      · exact Or.inr hc
      · left
        rw [jxw_id (x := 64 * y1) (by omega) (by omega), jxw_id (by omega) (by omega)]
        omega
    have hs : y4 < a 167 y1.toNat → a 166 ((jxw ((jxw (64 * y1)) + y4)).toNat) = a0 166 (64 * x1.toNat + y4.toNat) := by
      intro hlt
      rcases hix with h | h
      · rw [h]; exact hf 166 _ rfl
      · omega
    refine jt_grd (by omega) ?_
    refine jt_ite (fun c57_ => ?_) (fun c57_ => ?_)
    ·
      have h58_ : jxw (64 * y1) = 64 * y1 := jxw_id (by omega) (by omega)
      have h59_ : jxw ((jxw (64 * y1)) + y4) = (jxw (64 * y1)) + y4 := jxw_id (by omega) (by omega)
      refine jt_grd (by omega) ?_
      have h60_ : a 166 ((jxw ((jxw (64 * y1)) + y4)).toNat) = a0 166 ((jxw ((jxw (64 * y1)) + y4)).toNat) := hf 166 ((jxw ((jxw (64 * y1)) + y4)).toNat) rfl
      exact hc41 y1 y2 y3 y4 (a 166 ((jxw ((jxw (64 * y1)) + y4)).toNat)) a (show (((64 - y4) * 1) + 0).toNat ≤ n from by omega) hv hf (show 0 ≤ y1 from by omega) (show y1 ≤ 39 from by omega) (show 0 ≤ y2 from by omega) (show y2 ≤ 39 from by omega) (show 0 ≤ y4 from by omega) (show y4 ≤ 63 from by omega) (show y1 = x1 from by omega) (show y2 = x2 from by omega) (show 0 ≤ y4 from by omega) (show 0 ≤ y3 from by omega) (show y4 < a 167 (y1.toNat) from by omega) (by assumption) (by first | assumption | exact hs (by omega))
    ·
      have h61_ := iv_get hv (k := 170) (j := 0) (l := 0) (u := 1) rfl
      refine jt_grd (by omega) ?_
      exact jt_rI ⟨hv, hf, rfl, (show (0 ≤ a 170 0 ∧ a 170 0 ≤ 1) from by omega)⟩
  exact ⟨hc172, hc99, hc41, hc16⟩
theorem sp_X12_isMet (E : jxE) (d : Nat) (hd : Nat.ble 2 d = true) (x1 x2 : Int) (a0 b0 : Nat → Nat → Int) (hv0 : iv a0) (hp0 : (0 ≤ x1 ∧ x1 ≤ 39)) (hp1 : (0 ≤ x2 ∧ x2 ≤ 39)) (hp2 : WFW a0) : jt (jxC E d 227 [.inr (.inr (.inl 146)), .inl x1, .inl x2] (jxSH, a0, b0)) (jQ_X12_isMet x1 x2 a0 b0) := by
  obtain ⟨d, rfl⟩ := jd_succ hd
  refine jt_eq (bq_X12_isMet E d x1 x2 a0 b0) ?_
  refine jt_grd (by omega) ?_
  have h62_ := iv_get hv0 (k := 167) (j := x1.toNat) (l := 0) (u := 64) rfl
  refine jt_ite (fun c63_ => ?_) (fun c63_ => ?_)
  ·
    exact jt_rI ⟨hv0, (jfr_rf _ _), rfl, (show (0 ≤ 1 ∧ 1 ≤ 1) from by omega)⟩
  ·
    exact (cp_X12_isMet_16 E d hd x1 x2 a0 b0 hv0 hp0 hp1 hp2 _).2.2.2 x1 x2 0 0 a0 (Nat.le_refl _) hv0 (jfr_rf _ _) (show 0 ≤ x1 from by omega) (show x1 ≤ 39 from by omega) (show 0 ≤ x2 from by omega) (show x2 ≤ 39 from by omega) (show 0 ≤ 0 from by omega) (show 0 ≤ 64 from by omega) (show x1 = x1 from by omega) (show x2 = x2 from by omega) (show 0 ≤ 0 from by omega) (show 0 ≤ 0 from by omega) (show 0 ≤ a0 167 (x1.toNat) from by omega) (by first | rfl | (rw [show (jxw (y4 + 1)).toNat = y4.toNat + 1 from by omega]; assumption))
def jW_X12_unhappy : List (Nat × Nat) := [(170, 9999)]
abbrev jQ_X12_unhappy (x1 x2 : Int) (a0 b0 : Nat → Nat → Int) : List jxV → (Nat → Nat → Int) → (Nat → Nat → Int) → Prop := rI (fun r a b => (iv a) ∧ (jfr jW_X12_unhappy a0 a) ∧ (b0 = b) ∧ (0 ≤ r) ∧ (r ≤ 2))
theorem cp_X12_unhappy_14 (E : jxE) (d : Nat) (hd : Nat.ble 3 (d + 1) = true) (x1 x2 : Int) (a0 b0 : Nat → Nat → Int) (hv0 : iv a0) (hp0 : (0 ≤ x1 ∧ x1 ≤ 39)) (hp1 : (0 ≤ x2 ∧ x2 ≤ 39)) (hp2 : WFW a0) : ∀ (y1 y2 s0 : Int) (a : Nat → Nat → Int), iv a → jfr jW_X12_unhappy a0 a → 0 ≤ y1 → y1 ≤ 39 → 0 ≤ y2 → y2 ≤ 39 → 0 ≤ s0 → s0 ≤ 1 → jt (jxX E d 229 14 [some (.inr (.inr (.inl 146))), some (.inl y1), some (.inl y2)] [.inl s0] (jxSH, a, b0)) (jQ_X12_unhappy x1 x2 a0 b0) := by
  intro y1 y2 s0 a hv hf hi0 hi1 hi2 hi3 hi4 hi5
  refine jt_eq (bq_X12_unhappy_14 E d y1 y2 s0 a b0) ?_
  refine jt_bI (sp_X12_isMet E d (jd_le hd rfl) y2 y1 a b0 hv (show (0 ≤ y2 ∧ y2 ≤ 39) from by omega) (show (0 ≤ y1 ∧ y1 ≤ 39) from by omega) (WFW_fr hp2 hf (fun _ => rfl) (fun _ => rfl))) (fun r64_ a64_ b64_ h64_ => ?_)
  obtain ⟨hv64_, hf64_, rfl, hq64_0⟩ := h64_
  refine jt_ite (fun c65_ => ?_) (fun c65_ => ?_)
  ·
    have hf66_ : jfr jW_X12_unhappy a0 a64_ := jfr_tr hf hf64_ rfl
    have h67_ : jxw (s0 + 1) = s0 + 1 := jxw_id (by omega) (by omega)
    exact jt_rI ⟨hv64_, hf66_, rfl, (show 0 ≤ jxw (s0 + 1) from by omega), (show jxw (s0 + 1) ≤ 2 from by omega)⟩
  ·
    have hf68_ : jfr jW_X12_unhappy a0 a64_ := jfr_tr hf hf64_ rfl
    have h69_ : jxw (s0 + 0) = s0 + 0 := jxw_id (by omega) (by omega)
    exact jt_rI ⟨hv64_, hf68_, rfl, (show 0 ≤ jxw (s0 + 0) from by omega), (show jxw (s0 + 0) ≤ 2 from by omega)⟩
theorem sp_X12_unhappy (E : jxE) (d : Nat) (hd : Nat.ble 3 d = true) (x1 x2 : Int) (a0 b0 : Nat → Nat → Int) (hv0 : iv a0) (hp0 : (0 ≤ x1 ∧ x1 ≤ 39)) (hp1 : (0 ≤ x2 ∧ x2 ≤ 39)) (hp2 : WFW a0) : jt (jxC E d 229 [.inr (.inr (.inl 146)), .inl x1, .inl x2] (jxSH, a0, b0)) (jQ_X12_unhappy x1 x2 a0 b0) := by
  obtain ⟨d, rfl⟩ := jd_succ hd
  refine jt_eq (bq_X12_unhappy E d x1 x2 a0 b0) ?_
  refine jt_bI (sp_X12_isMet E d (jd_le hd rfl) x1 x2 a0 b0 hv0 (show (0 ≤ x1 ∧ x1 ≤ 39) from by omega) (show (0 ≤ x2 ∧ x2 ≤ 39) from by omega) hp2) (fun r70_ a70_ b70_ h70_ => ?_)
  obtain ⟨hv70_, hf70_, rfl, hq70_0⟩ := h70_
  refine jt_ite (fun c71_ => ?_) (fun c71_ => ?_)
  ·
    have hf72_ : jfr jW_X12_unhappy a0 a70_ := jfr_tr (jfr_rf _ _) hf70_ rfl
    exact cp_X12_unhappy_14 E d hd x1 x2 a0 b0 hv0 hp0 hp1 hp2 x1 x2 1 a70_ hv70_ hf72_ (show 0 ≤ x1 from by omega) (show x1 ≤ 39 from by omega) (show 0 ≤ x2 from by omega) (show x2 ≤ 39 from by omega) (show 0 ≤ 1 from by omega) (show 1 ≤ 1 from by omega)
  ·
    have hf73_ : jfr jW_X12_unhappy a0 a70_ := jfr_tr (jfr_rf _ _) hf70_ rfl
    exact cp_X12_unhappy_14 E d hd x1 x2 a0 b0 hv0 hp0 hp1 hp2 x1 x2 0 a70_ hv70_ hf73_ (show 0 ≤ x1 from by omega) (show x1 ≤ 39 from by omega) (show 0 ≤ x2 from by omega) (show x2 ≤ 39 from by omega) (show 0 ≤ 0 from by omega) (show 0 ≤ 1 from by omega)
def jW_X12_mayGet : List (Nat × Nat) := [(170, 9999)]
abbrev jQ_X12_mayGet (x1 x2 : Int) (a0 b0 : Nat → Nat → Int) : List jxV → (Nat → Nat → Int) → (Nat → Nat → Int) → Prop := rI (fun r a b => (iv a) ∧ (jfr jW_X12_mayGet a0 a) ∧ (b0 = b) ∧ ((0 ≤ r ∧ r ≤ 1)))
theorem cp_X12_mayGet_96 (E : jxE) (d : Nat) (hd : Nat.ble 7 (d + 1) = true) (x1 x2 : Int) (a0 b0 : Nat → Nat → Int) (hv0 : iv a0) (hp0 : (0 ≤ x1 ∧ x1 ≤ 39)) (hp1 : (0 ≤ x2 ∧ x2 ≤ 39)) (hp2 : WFW a0) : ∀ (a : Nat → Nat → Int), iv a → jfr jW_X12_mayGet a0 a → jt (jxX E d 248 96 [none, none, none, none] [] (jxSH, a, b0)) (jQ_X12_mayGet x1 x2 a0 b0) := by
  intro a hv hf
  refine jt_eq (bq_X12_mayGet_96 E d a b0) ?_
  exact jt_rI ⟨hv, hf, rfl, (show (0 ≤ 0 ∧ 0 ≤ 1) from by omega)⟩
theorem cp_X12_mayGet_54 (E : jxE) (d : Nat) (hd : Nat.ble 7 (d + 1) = true) (x1 x2 : Int) (a0 b0 : Nat → Nat → Int) (hv0 : iv a0) (hp0 : (0 ≤ x1 ∧ x1 ≤ 39)) (hp1 : (0 ≤ x2 ∧ x2 ≤ 39)) (hp2 : WFW a0) : ∀ (a : Nat → Nat → Int), iv a → jfr jW_X12_mayGet a0 a → 1 ≤ a 146 9 → jt (jxX E d 248 54 [none, none, none, none] [] (jxSH, a, b0)) (jQ_X12_mayGet x1 x2 a0 b0) := by
  intro a hv hf hi0
  refine jt_eq (bq_X12_mayGet_54 E d a b0) ?_
  have h74_ := iv_get hv (k := 146) (j := 9) (l := 0) (u := 300) rfl
  have h75_ : a 146 9 = a0 146 9 := hf 146 9 rfl
  have h76_ := iv_get hv0 (k := 146) (j := 9) (l := 0) (u := 300) rfl
  exact jt_rI ⟨hv, hf, rfl, (show (0 ≤ 0 ∧ 0 ≤ 1) from by omega)⟩
theorem cp_X12_mayGet_92 (E : jxE) (d : Nat) (hd : Nat.ble 7 (d + 1) = true) (x1 x2 : Int) (a0 b0 : Nat → Nat → Int) (hv0 : iv a0) (hp0 : (0 ≤ x1 ∧ x1 ≤ 39)) (hp1 : (0 ≤ x2 ∧ x2 ≤ 39)) (hp2 : WFW a0) : ∀ (a : Nat → Nat → Int), iv a → jfr jW_X12_mayGet a0 a → jt (jxX E d 248 92 [none, none, none, none] [] (jxSH, a, b0)) (jQ_X12_mayGet x1 x2 a0 b0) := by
  intro a hv hf
  refine jt_eq (bq_X12_mayGet_92 E d a b0) ?_
  exact jt_rI ⟨hv, hf, rfl, (show (0 ≤ 1 ∧ 1 ≤ 1) from by omega)⟩
theorem cp_X12_mayGet_22 (E : jxE) (d : Nat) (hd : Nat.ble 7 (d + 1) = true) (x1 x2 : Int) (a0 b0 : Nat → Nat → Int) (hv0 : iv a0) (hp0 : (0 ≤ x1 ∧ x1 ≤ 39)) (hp1 : (0 ≤ x2 ∧ x2 ≤ 39)) (hp2 : WFW a0) : ∀ n : Nat, (∀ (y1 y2 y3 : Int) (a : Nat → Nat → Int), (((300 - y3) * 1) + 0).toNat ≤ n → iv a → jfr jW_X12_mayGet a0 a → 0 ≤ y1 → y1 ≤ 39 → 0 ≤ y2 → y2 ≤ 39 → 0 ≤ y3 → y3 ≤ 299 → 1 ≤ a 146 9 → jt (jxX E d 248 56 [some (.inr (.inr (.inl 146))), some (.inl y1), some (.inl y2), some (.inl y3)] [] (jxSH, a, b0)) (jQ_X12_mayGet x1 x2 a0 b0)) ∧ (∀ (y1 y2 y3 : Int) (a : Nat → Nat → Int), (((300 - y3) * 1) + 0).toNat ≤ n → iv a → jfr jW_X12_mayGet a0 a → 0 ≤ y1 → y1 ≤ 39 → 0 ≤ y2 → y2 ≤ 39 → 0 ≤ y3 → y3 ≤ 300 → jt (jxX E d 248 22 [some (.inr (.inr (.inl 146))), some (.inl y1), some (.inl y2), some (.inl y3)] [] (jxSH, a, b0)) (jQ_X12_mayGet x1 x2 a0 b0)) := by
  refine jx_ind fun n ih => ?_
  have ih56 : ∀ (y1 y2 y3 : Int) (a : Nat → Nat → Int), (((300 - y3) * 1) + 0).toNat < n → iv a → jfr jW_X12_mayGet a0 a → 0 ≤ y1 → y1 ≤ 39 → 0 ≤ y2 → y2 ≤ 39 → 0 ≤ y3 → y3 ≤ 299 → 1 ≤ a 146 9 → jt (jxX E d 248 56 [some (.inr (.inr (.inl 146))), some (.inl y1), some (.inl y2), some (.inl y3)] [] (jxSH, a, b0)) (jQ_X12_mayGet x1 x2 a0 b0) := fun y1 y2 y3 a hlt i0 i1 i2 i3 i4 i5 i6 i7 i8 => (ih _ hlt).1 y1 y2 y3 a (Nat.le_refl _) i0 i1 i2 i3 i4 i5 i6 i7 i8
  have ih22 : ∀ (y1 y2 y3 : Int) (a : Nat → Nat → Int), (((300 - y3) * 1) + 0).toNat < n → iv a → jfr jW_X12_mayGet a0 a → 0 ≤ y1 → y1 ≤ 39 → 0 ≤ y2 → y2 ≤ 39 → 0 ≤ y3 → y3 ≤ 300 → jt (jxX E d 248 22 [some (.inr (.inr (.inl 146))), some (.inl y1), some (.inl y2), some (.inl y3)] [] (jxSH, a, b0)) (jQ_X12_mayGet x1 x2 a0 b0) := fun y1 y2 y3 a hlt i0 i1 i2 i3 i4 i5 i6 i7 => (ih _ hlt).2 y1 y2 y3 a (Nat.le_refl _) i0 i1 i2 i3 i4 i5 i6 i7
  have hc56 : ∀ (y1 y2 y3 : Int) (a : Nat → Nat → Int), (((300 - y3) * 1) + 0).toNat ≤ n → iv a → jfr jW_X12_mayGet a0 a → 0 ≤ y1 → y1 ≤ 39 → 0 ≤ y2 → y2 ≤ 39 → 0 ≤ y3 → y3 ≤ 299 → 1 ≤ a 146 9 → jt (jxX E d 248 56 [some (.inr (.inr (.inl 146))), some (.inl y1), some (.inl y2), some (.inl y3)] [] (jxSH, a, b0)) (jQ_X12_mayGet x1 x2 a0 b0) := by
    intro y1 y2 y3 a hm hv hf hi0 hi1 hi2 hi3 hi4 hi5 hi6
    refine jt_eq (bq_X12_mayGet_56 E d y1 y2 y3 a b0) ?_
    have h77_ := iv_get hv (k := 146) (j := 9) (l := 0) (u := 300) rfl
    have h78_ : a 146 9 = a0 146 9 := hf 146 9 rfl
    have h79_ := iv_get hv0 (k := 146) (j := 9) (l := 0) (u := 300) rfl
    have h80_ : jxw (y3 + 1) = y3 + 1 := jxw_id (by omega) (by omega)
    exact ih22 y1 y2 (jxw (y3 + 1)) a (show (((300 - (jxw (y3 + 1))) * 1) + 0).toNat < n from by omega) hv hf (show 0 ≤ y1 from by omega) (show y1 ≤ 39 from by omega) (show 0 ≤ y2 from by omega) (show y2 ≤ 39 from by omega) (show 0 ≤ jxw (y3 + 1) from by omega) (show jxw (y3 + 1) ≤ 300 from by omega)
  have hc22 : ∀ (y1 y2 y3 : Int) (a : Nat → Nat → Int), (((300 - y3) * 1) + 0).toNat ≤ n → iv a → jfr jW_X12_mayGet a0 a → 0 ≤ y1 → y1 ≤ 39 → 0 ≤ y2 → y2 ≤ 39 → 0 ≤ y3 → y3 ≤ 300 → jt (jxX E d 248 22 [some (.inr (.inr (.inl 146))), some (.inl y1), some (.inl y2), some (.inl y3)] [] (jxSH, a, b0)) (jQ_X12_mayGet x1 x2 a0 b0) := by
    intro y1 y2 y3 a hm hv hf hi0 hi1 hi2 hi3 hi4 hi5
    refine jt_eq (bq_X12_mayGet_22 E d y1 y2 y3 a b0) ?_
    have h81_ := iv_get hv (k := 146) (j := 9) (l := 0) (u := 300) rfl
    have h82_ : a 146 9 = a0 146 9 := hf 146 9 rfl
    have h83_ := iv_get hv0 (k := 146) (j := 9) (l := 0) (u := 300) rfl
    refine jt_ite (fun c84_ => ?_) (fun c84_ => ?_)
    ·
      refine jt_grd (by omega) ?_
      have h85_ := iv_get hv (k := 155) (j := y3.toNat) (l := 0) (u := 39) rfl
      have h86_ : a 155 (y3.toNat) = a0 155 (y3.toNat) := hf 155 (y3.toNat) rfl
      have h87_ := iv_get hv0 (k := 155) (j := y3.toNat) (l := 0) (u := 39) rfl
      refine jt_ite (fun c88_ => ?_) (fun c88_ => ?_)
      ·
        refine jt_grd (by omega) ?_
        have h89_ := iv_get hv (k := 154) (j := y3.toNat) (l := 0) (u := 39) rfl
        have h90_ : a 154 (y3.toNat) = a0 154 (y3.toNat) := hf 154 (y3.toNat) rfl
        have h91_ := iv_get hv0 (k := 154) (j := y3.toNat) (l := 0) (u := 39) rfl
        refine jt_eI (eq_X12_isKin E d (jd_le hd rfl) (a 154 (y3.toNat)) y1 a b0 (show (0 ≤ a 154 (y3.toNat) ∧ a 154 (y3.toNat) < 40) from by omega) (show (0 ≤ y1 ∧ y1 < 40) from by omega)) ?_
        have h92_ := f_X12_isKin_bool a b0 (a 154 (y3.toNat)) y1
        refine jt_ite (fun c93_ => ?_) (fun c93_ => ?_)
        ·
          exact hc56 y1 y2 y3 a (show (((300 - y3) * 1) + 0).toNat ≤ n from by omega) hv hf (show 0 ≤ y1 from by omega) (show y1 ≤ 39 from by omega) (show 0 ≤ y2 from by omega) (show y2 ≤ 39 from by omega) (show 0 ≤ y3 from by omega) (show y3 ≤ 299 from by omega) (show 1 ≤ a 146 9 from by omega)
        ·
          exact cp_X12_mayGet_54 E d hd x1 x2 a0 b0 hv0 hp0 hp1 hp2 a hv hf (show 1 ≤ a 146 9 from by omega)
      ·
        exact hc56 y1 y2 y3 a (show (((300 - y3) * 1) + 0).toNat ≤ n from by omega) hv hf (show 0 ≤ y1 from by omega) (show y1 ≤ 39 from by omega) (show 0 ≤ y2 from by omega) (show y2 ≤ 39 from by omega) (show 0 ≤ y3 from by omega) (show y3 ≤ 299 from by omega) (show 1 ≤ a 146 9 from by omega)
    ·
      refine jt_bI (sp_X12_owed E d (jd_le hd rfl) y2 a b0 hv (show (0 ≤ y2 ∧ y2 ≤ 39) from by omega)) (fun r94_ a94_ b94_ h94_ => ?_)
      obtain ⟨rfl, rfl⟩ := h94_
      have h95_ : a 171 2 = a0 171 2 := hf 171 2 rfl
      have h96_ := jxw_im (r94_ + (a 171 2))
      have h97_ := jxw_rg (r94_ + (a 171 2))
      refine jt_ite (fun c98_ => ?_) (fun c98_ => ?_)
      ·
        refine jt_bI (sp_X12_unhappy E d (jd_le hd rfl) y1 y2 a b0 hv (show (0 ≤ y1 ∧ y1 ≤ 39) from by omega) (show (0 ≤ y2 ∧ y2 ≤ 39) from by omega) (WFW_fr hp2 hf (fun _ => rfl) (fun _ => rfl))) (fun r99_ a99_ b99_ h99_ => ?_)
        obtain ⟨hv99_, hf99_, rfl, hq99_0, hq99_1⟩ := h99_
        have h100_ : a99_ 171 4 = a 171 4 := hf99_ 171 4 rfl
        have h101_ : a 171 4 = a0 171 4 := hf 171 4 rfl
        refine jt_ite (fun c102_ => ?_) (fun c102_ => ?_)
        ·
          have hf103_ : jfr jW_X12_mayGet a0 a99_ := jfr_tr hf hf99_ rfl
          exact cp_X12_mayGet_96 E d hd x1 x2 a0 b0 hv0 hp0 hp1 hp2 a99_ hv99_ hf103_
        ·
          have hf104_ : jfr jW_X12_mayGet a0 a99_ := jfr_tr hf hf99_ rfl
          exact cp_X12_mayGet_92 E d hd x1 x2 a0 b0 hv0 hp0 hp1 hp2 a99_ hv99_ hf104_
      ·
        exact cp_X12_mayGet_96 E d hd x1 x2 a0 b0 hv0 hp0 hp1 hp2 a hv hf
  exact ⟨hc56, hc22⟩
theorem sp_X12_mayGet (E : jxE) (d : Nat) (hd : Nat.ble 7 d = true) (x1 x2 : Int) (a0 b0 : Nat → Nat → Int) (hv0 : iv a0) (hp0 : (0 ≤ x1 ∧ x1 ≤ 39)) (hp1 : (0 ≤ x2 ∧ x2 ≤ 39)) (hp2 : WFW a0) : jt (jxC E d 248 [.inr (.inr (.inl 146)), .inl x1, .inl x2] (jxSH, a0, b0)) (jQ_X12_mayGet x1 x2 a0 b0) := by
  obtain ⟨d, rfl⟩ := jd_succ hd
  refine jt_eq (bq_X12_mayGet E d x1 x2 a0 b0) ?_
  refine jt_grd (by omega) ?_
  have h105_ := iv_get hv0 (k := 152) (j := x2.toNat) (l := 0) (u := 1) rfl
  refine jt_ite (fun c106_ => ?_) (fun c106_ => ?_)
  ·
    exact jt_rI ⟨hv0, (jfr_rf _ _), rfl, (show (0 ≤ 0 ∧ 0 ≤ 1) from by omega)⟩
  ·
    refine jt_eI (eq_X12_isKin E d (jd_le hd rfl) x1 x2 a0 b0 (show (0 ≤ x1 ∧ x1 < 40) from by omega) (show (0 ≤ x2 ∧ x2 < 40) from by omega)) ?_
    have h107_ := f_X12_isKin_bool a0 b0 x1 x2
    refine jt_ite (fun c108_ => ?_) (fun c108_ => ?_)
    ·
      exact (cp_X12_mayGet_22 E d hd x1 x2 a0 b0 hv0 hp0 hp1 hp2 _).2 x1 x2 0 a0 (Nat.le_refl _) hv0 (jfr_rf _ _) (show 0 ≤ x1 from by omega) (show x1 ≤ 39 from by omega) (show 0 ≤ x2 from by omega) (show x2 ≤ 39 from by omega) (show 0 ≤ 0 from by omega) (show 0 ≤ 300 from by omega)
    ·
      exact jt_rI ⟨hv0, (jfr_rf _ _), rfl, (show (0 ≤ 0 ∧ 0 ≤ 1) from by omega)⟩
def jW_X12_ask : List (Nat × Nat) := [(146, 9), (146, 39), (146, 40), (146, 41), (154, 9999), (155, 9999), (156, 9999), (157, 9999), (158, 9999), (159, 9999), (160, 9999), (170, 9999)]
abbrev jQ_X12_ask (x1 : Int) (a0 b0 : Nat → Nat → Int) : List jxV → (Nat → Nat → Int) → (Nat → Nat → Int) → Prop := rI (fun r a b => (iv a) ∧ (jfr jW_X12_ask a0 a) ∧ (b0 = b) ∧ (OC a) ∧ ((a0 146 2 = 0 → r = 0 - 1)))
theorem cp_X12_ask_44 (E : jxE) (d : Nat) (hd : Nat.ble 8 (d + 1) = true) (x1 : Int) (a0 b0 : Nat → Nat → Int) (hv0 : iv a0) (hp0 : WFW a0) (hp1 : OC a0) : ∀ n : Nat, (∀ (y1 y2 y3 y4 y5 y6 y7 y8 y9 s0 : Int) (a : Nat → Nat → Int), (((40 - y6) * 1) + 0).toNat ≤ n → iv a → jfr jW_X12_ask a0 a → 0 ≤ y1 → y1 ≤ 39 → 0 - 1 ≤ y2 → y2 ≤ 39 → 0 ≤ y4 → y4 ≤ 2 → 0 ≤ y6 → y6 ≤ 39 → 0 ≤ y8 → y8 ≤ 2 → 0 ≤ s0 → s0 ≤ 1 → 1 ≤ a 146 2 → a 146 9 ≤ 299 → (OC a) → 1 ≤ a0 146 2 → jt (jxX E d 251 139 [some (.inr (.inr (.inl 146))), some (.inl y1), some (.inl y2), some (.inl y3), some (.inl y4), some (.inl y5), some (.inl y6), some (.inl y7), some (.inl y8), some (.inl y9), none] [.inl s0] (jxSH, a, b0)) (jQ_X12_ask x1 a0 b0)) ∧ (∀ (y1 y2 y3 y4 y5 y6 y7 y8 y9 : Int) (a : Nat → Nat → Int), (((40 - y6) * 1) + 0).toNat ≤ n → iv a → jfr jW_X12_ask a0 a → 0 ≤ y1 → y1 ≤ 39 → 0 - 1 ≤ y2 → y2 ≤ 39 → 0 ≤ y4 → y4 ≤ 2 → 0 ≤ y6 → y6 ≤ 39 → 0 ≤ y8 → y8 ≤ 2 → 1 ≤ a 146 2 → a 146 9 ≤ 299 → (OC a) → 1 ≤ a0 146 2 → jt (jxX E d 251 134 [some (.inr (.inr (.inl 146))), some (.inl y1), some (.inl y2), some (.inl y3), some (.inl y4), some (.inl y5), some (.inl y6), some (.inl y7), some (.inl y8), some (.inl y9), none] [] (jxSH, a, b0)) (jQ_X12_ask x1 a0 b0)) ∧ (∀ (y1 y2 y3 y4 y5 y6 y7 y8 y9 : Int) (a : Nat → Nat → Int), (((40 - y6) * 1) + 0).toNat ≤ n → iv a → jfr jW_X12_ask a0 a → 0 ≤ y1 → y1 ≤ 39 → 0 ≤ y2 → y2 ≤ 39 → 1 ≤ y4 → y4 ≤ 2 → 0 ≤ y6 → y6 ≤ 39 → 0 ≤ y8 → y8 ≤ 1 → 1 ≤ a 146 2 → a 146 9 ≤ 299 → (OC a) → 1 ≤ a0 146 2 → jt (jxX E d 251 124 [some (.inr (.inr (.inl 146))), some (.inl y1), some (.inl y2), some (.inl y3), some (.inl y4), some (.inl y5), some (.inl y6), some (.inl y7), some (.inl y8), some (.inl y9), none] [] (jxSH, a, b0)) (jQ_X12_ask x1 a0 b0)) ∧ (∀ (y1 y2 y3 y4 y5 y6 y7 y8 y9 : Int) (a : Nat → Nat → Int), (((40 - y6) * 1) + 0).toNat ≤ n → iv a → jfr jW_X12_ask a0 a → 0 ≤ y1 → y1 ≤ 39 → 0 ≤ y2 → y2 ≤ 39 → 0 ≤ y4 → y4 ≤ 2 → 0 ≤ y6 → y6 ≤ 39 → 0 ≤ y8 → y8 ≤ 2 → 1 ≤ a 146 2 → a 146 9 ≤ 299 → (OC a) → 1 ≤ a0 146 2 → jt (jxX E d 251 138 [some (.inr (.inr (.inl 146))), some (.inl y1), some (.inl y2), some (.inl y3), some (.inl y4), some (.inl y5), some (.inl y6), some (.inl y7), some (.inl y8), some (.inl y9), none] [] (jxSH, a, b0)) (jQ_X12_ask x1 a0 b0)) ∧ (∀ (y1 y2 y3 y4 y5 y6 y7 y8 : Int) (a : Nat → Nat → Int), (((40 - y6) * 1) + 0).toNat ≤ n → iv a → jfr jW_X12_ask a0 a → 0 ≤ y1 → y1 ≤ 39 → 0 - 1 ≤ y2 → y2 ≤ 39 → 0 ≤ y4 → y4 ≤ 2 → 0 ≤ y6 → y6 ≤ 39 → 0 ≤ y8 → y8 ≤ 2 → 1 ≤ a 146 2 → a 146 9 ≤ 299 → (OC a) → 1 ≤ a0 146 2 → jt (jxX E d 251 83 [some (.inr (.inr (.inl 146))), some (.inl y1), some (.inl y2), some (.inl y3), some (.inl y4), some (.inl y5), some (.inl y6), some (.inl y7), some (.inl y8), none, none] [] (jxSH, a, b0)) (jQ_X12_ask x1 a0 b0)) ∧ (∀ (y1 y2 y3 y4 y5 y6 : Int) (a : Nat → Nat → Int), (((40 - y6) * 1) + 0).toNat ≤ n → iv a → jfr jW_X12_ask a0 a → 0 ≤ y1 → y1 ≤ 39 → 0 - 1 ≤ y2 → y2 ≤ 39 → 0 ≤ y4 → y4 ≤ 2 → 0 ≤ y6 → y6 ≤ 40 → a 146 9 ≤ 299 → (OC a) → 1 ≤ a0 146 2 → jt (jxX E d 251 44 [some (.inr (.inr (.inl 146))), some (.inl y1), some (.inl y2), some (.inl y3), some (.inl y4), some (.inl y5), some (.inl y6), none, none, none, none] [] (jxSH, a, b0)) (jQ_X12_ask x1 a0 b0)) := by
  refine jx_ind fun n ih => ?_
  have ih139 : ∀ (y1 y2 y3 y4 y5 y6 y7 y8 y9 s0 : Int) (a : Nat → Nat → Int), (((40 - y6) * 1) + 0).toNat < n → iv a → jfr jW_X12_ask a0 a → 0 ≤ y1 → y1 ≤ 39 → 0 - 1 ≤ y2 → y2 ≤ 39 → 0 ≤ y4 → y4 ≤ 2 → 0 ≤ y6 → y6 ≤ 39 → 0 ≤ y8 → y8 ≤ 2 → 0 ≤ s0 → s0 ≤ 1 → 1 ≤ a 146 2 → a 146 9 ≤ 299 → (OC a) → 1 ≤ a0 146 2 → jt (jxX E d 251 139 [some (.inr (.inr (.inl 146))), some (.inl y1), some (.inl y2), some (.inl y3), some (.inl y4), some (.inl y5), some (.inl y6), some (.inl y7), some (.inl y8), some (.inl y9), none] [.inl s0] (jxSH, a, b0)) (jQ_X12_ask x1 a0 b0) := fun y1 y2 y3 y4 y5 y6 y7 y8 y9 s0 a hlt i0 i1 i2 i3 i4 i5 i6 i7 i8 i9 i10 i11 i12 i13 i14 i15 i16 i17 => (ih _ hlt).1 y1 y2 y3 y4 y5 y6 y7 y8 y9 s0 a (Nat.le_refl _) i0 i1 i2 i3 i4 i5 i6 i7 i8 i9 i10 i11 i12 i13 i14 i15 i16 i17
  have ih134 : ∀ (y1 y2 y3 y4 y5 y6 y7 y8 y9 : Int) (a : Nat → Nat → Int), (((40 - y6) * 1) + 0).toNat < n → iv a → jfr jW_X12_ask a0 a → 0 ≤ y1 → y1 ≤ 39 → 0 - 1 ≤ y2 → y2 ≤ 39 → 0 ≤ y4 → y4 ≤ 2 → 0 ≤ y6 → y6 ≤ 39 → 0 ≤ y8 → y8 ≤ 2 → 1 ≤ a 146 2 → a 146 9 ≤ 299 → (OC a) → 1 ≤ a0 146 2 → jt (jxX E d 251 134 [some (.inr (.inr (.inl 146))), some (.inl y1), some (.inl y2), some (.inl y3), some (.inl y4), some (.inl y5), some (.inl y6), some (.inl y7), some (.inl y8), some (.inl y9), none] [] (jxSH, a, b0)) (jQ_X12_ask x1 a0 b0) := fun y1 y2 y3 y4 y5 y6 y7 y8 y9 a hlt i0 i1 i2 i3 i4 i5 i6 i7 i8 i9 i10 i11 i12 i13 i14 i15 => (ih _ hlt).2.1 y1 y2 y3 y4 y5 y6 y7 y8 y9 a (Nat.le_refl _) i0 i1 i2 i3 i4 i5 i6 i7 i8 i9 i10 i11 i12 i13 i14 i15
  have ih124 : ∀ (y1 y2 y3 y4 y5 y6 y7 y8 y9 : Int) (a : Nat → Nat → Int), (((40 - y6) * 1) + 0).toNat < n → iv a → jfr jW_X12_ask a0 a → 0 ≤ y1 → y1 ≤ 39 → 0 ≤ y2 → y2 ≤ 39 → 1 ≤ y4 → y4 ≤ 2 → 0 ≤ y6 → y6 ≤ 39 → 0 ≤ y8 → y8 ≤ 1 → 1 ≤ a 146 2 → a 146 9 ≤ 299 → (OC a) → 1 ≤ a0 146 2 → jt (jxX E d 251 124 [some (.inr (.inr (.inl 146))), some (.inl y1), some (.inl y2), some (.inl y3), some (.inl y4), some (.inl y5), some (.inl y6), some (.inl y7), some (.inl y8), some (.inl y9), none] [] (jxSH, a, b0)) (jQ_X12_ask x1 a0 b0) := fun y1 y2 y3 y4 y5 y6 y7 y8 y9 a hlt i0 i1 i2 i3 i4 i5 i6 i7 i8 i9 i10 i11 i12 i13 i14 i15 => (ih _ hlt).2.2.1 y1 y2 y3 y4 y5 y6 y7 y8 y9 a (Nat.le_refl _) i0 i1 i2 i3 i4 i5 i6 i7 i8 i9 i10 i11 i12 i13 i14 i15
  have ih138 : ∀ (y1 y2 y3 y4 y5 y6 y7 y8 y9 : Int) (a : Nat → Nat → Int), (((40 - y6) * 1) + 0).toNat < n → iv a → jfr jW_X12_ask a0 a → 0 ≤ y1 → y1 ≤ 39 → 0 ≤ y2 → y2 ≤ 39 → 0 ≤ y4 → y4 ≤ 2 → 0 ≤ y6 → y6 ≤ 39 → 0 ≤ y8 → y8 ≤ 2 → 1 ≤ a 146 2 → a 146 9 ≤ 299 → (OC a) → 1 ≤ a0 146 2 → jt (jxX E d 251 138 [some (.inr (.inr (.inl 146))), some (.inl y1), some (.inl y2), some (.inl y3), some (.inl y4), some (.inl y5), some (.inl y6), some (.inl y7), some (.inl y8), some (.inl y9), none] [] (jxSH, a, b0)) (jQ_X12_ask x1 a0 b0) := fun y1 y2 y3 y4 y5 y6 y7 y8 y9 a hlt i0 i1 i2 i3 i4 i5 i6 i7 i8 i9 i10 i11 i12 i13 i14 i15 => (ih _ hlt).2.2.2.1 y1 y2 y3 y4 y5 y6 y7 y8 y9 a (Nat.le_refl _) i0 i1 i2 i3 i4 i5 i6 i7 i8 i9 i10 i11 i12 i13 i14 i15
  have ih83 : ∀ (y1 y2 y3 y4 y5 y6 y7 y8 : Int) (a : Nat → Nat → Int), (((40 - y6) * 1) + 0).toNat < n → iv a → jfr jW_X12_ask a0 a → 0 ≤ y1 → y1 ≤ 39 → 0 - 1 ≤ y2 → y2 ≤ 39 → 0 ≤ y4 → y4 ≤ 2 → 0 ≤ y6 → y6 ≤ 39 → 0 ≤ y8 → y8 ≤ 2 → 1 ≤ a 146 2 → a 146 9 ≤ 299 → (OC a) → 1 ≤ a0 146 2 → jt (jxX E d 251 83 [some (.inr (.inr (.inl 146))), some (.inl y1), some (.inl y2), some (.inl y3), some (.inl y4), some (.inl y5), some (.inl y6), some (.inl y7), some (.inl y8), none, none] [] (jxSH, a, b0)) (jQ_X12_ask x1 a0 b0) := fun y1 y2 y3 y4 y5 y6 y7 y8 a hlt i0 i1 i2 i3 i4 i5 i6 i7 i8 i9 i10 i11 i12 i13 i14 i15 => (ih _ hlt).2.2.2.2.1 y1 y2 y3 y4 y5 y6 y7 y8 a (Nat.le_refl _) i0 i1 i2 i3 i4 i5 i6 i7 i8 i9 i10 i11 i12 i13 i14 i15
  have ih44 : ∀ (y1 y2 y3 y4 y5 y6 : Int) (a : Nat → Nat → Int), (((40 - y6) * 1) + 0).toNat < n → iv a → jfr jW_X12_ask a0 a → 0 ≤ y1 → y1 ≤ 39 → 0 - 1 ≤ y2 → y2 ≤ 39 → 0 ≤ y4 → y4 ≤ 2 → 0 ≤ y6 → y6 ≤ 40 → a 146 9 ≤ 299 → (OC a) → 1 ≤ a0 146 2 → jt (jxX E d 251 44 [some (.inr (.inr (.inl 146))), some (.inl y1), some (.inl y2), some (.inl y3), some (.inl y4), some (.inl y5), some (.inl y6), none, none, none, none] [] (jxSH, a, b0)) (jQ_X12_ask x1 a0 b0) := fun y1 y2 y3 y4 y5 y6 a hlt i0 i1 i2 i3 i4 i5 i6 i7 i8 i9 i10 i11 i12 => (ih _ hlt).2.2.2.2.2 y1 y2 y3 y4 y5 y6 a (Nat.le_refl _) i0 i1 i2 i3 i4 i5 i6 i7 i8 i9 i10 i11 i12
  have hc139 : ∀ (y1 y2 y3 y4 y5 y6 y7 y8 y9 s0 : Int) (a : Nat → Nat → Int), (((40 - y6) * 1) + 0).toNat ≤ n → iv a → jfr jW_X12_ask a0 a → 0 ≤ y1 → y1 ≤ 39 → 0 - 1 ≤ y2 → y2 ≤ 39 → 0 ≤ y4 → y4 ≤ 2 → 0 ≤ y6 → y6 ≤ 39 → 0 ≤ y8 → y8 ≤ 2 → 0 ≤ s0 → s0 ≤ 1 → 1 ≤ a 146 2 → a 146 9 ≤ 299 → (OC a) → 1 ≤ a0 146 2 → jt (jxX E d 251 139 [some (.inr (.inr (.inl 146))), some (.inl y1), some (.inl y2), some (.inl y3), some (.inl y4), some (.inl y5), some (.inl y6), some (.inl y7), some (.inl y8), some (.inl y9), none] [.inl s0] (jxSH, a, b0)) (jQ_X12_ask x1 a0 b0) := by
    intro y1 y2 y3 y4 y5 y6 y7 y8 y9 s0 a hm hv hf hi0 hi1 hi2 hi3 hi4 hi5 hi6 hi7 hi8 hi9 hi10 hi11 hi12 hi13 hi14 hi15
    refine jt_eq (bq_X12_ask_139 E d y1 y2 y3 y4 y5 y6 y7 y8 y9 s0 a b0) ?_
    have h109_ := iv_get hv (k := 146) (j := 2) (l := 0) (u := 40) rfl
    have h110_ : a 146 2 = a0 146 2 := hf 146 2 rfl
    have h111_ := iv_get hv0 (k := 146) (j := 2) (l := 0) (u := 40) rfl
    have h112_ := iv_get hv (k := 146) (j := 9) (l := 0) (u := 300) rfl
    refine jt_ite (fun c113_ => ?_) (fun c113_ => ?_)
    ·
      have h114_ : jxw (y6 + 1) = y6 + 1 := jxw_id (by omega) (by omega)
      exact ih44 y1 y2 y3 y4 y5 (jxw (y6 + 1)) a (show (((40 - (jxw (y6 + 1))) * 1) + 0).toNat < n from by omega) hv hf (show 0 ≤ y1 from by omega) (show y1 ≤ 39 from by omega) (show 0 - 1 ≤ y2 from by omega) (show y2 ≤ 39 from by omega) (show 0 ≤ y4 from by omega) (show y4 ≤ 2 from by omega) (show 0 ≤ jxw (y6 + 1) from by omega) (show jxw (y6 + 1) ≤ 40 from by omega) (show a 146 9 ≤ 299 from by omega) hi14 (show 1 ≤ a0 146 2 from by omega)
    ·
      have h115_ : jxw (y6 + 1) = y6 + 1 := jxw_id (by omega) (by omega)
      exact ih44 y1 y6 y7 y8 y9 (jxw (y6 + 1)) a (show (((40 - (jxw (y6 + 1))) * 1) + 0).toNat < n from by omega) hv hf (show 0 ≤ y1 from by omega) (show y1 ≤ 39 from by omega) (show 0 - 1 ≤ y6 from by omega) (show y6 ≤ 39 from by omega) (show 0 ≤ y8 from by omega) (show y8 ≤ 2 from by omega) (show 0 ≤ jxw (y6 + 1) from by omega) (show jxw (y6 + 1) ≤ 40 from by omega) (show a 146 9 ≤ 299 from by omega) hi14 (show 1 ≤ a0 146 2 from by omega)
  have hc134 : ∀ (y1 y2 y3 y4 y5 y6 y7 y8 y9 : Int) (a : Nat → Nat → Int), (((40 - y6) * 1) + 0).toNat ≤ n → iv a → jfr jW_X12_ask a0 a → 0 ≤ y1 → y1 ≤ 39 → 0 - 1 ≤ y2 → y2 ≤ 39 → 0 ≤ y4 → y4 ≤ 2 → 0 ≤ y6 → y6 ≤ 39 → 0 ≤ y8 → y8 ≤ 2 → 1 ≤ a 146 2 → a 146 9 ≤ 299 → (OC a) → 1 ≤ a0 146 2 → jt (jxX E d 251 134 [some (.inr (.inr (.inl 146))), some (.inl y1), some (.inl y2), some (.inl y3), some (.inl y4), some (.inl y5), some (.inl y6), some (.inl y7), some (.inl y8), some (.inl y9), none] [] (jxSH, a, b0)) (jQ_X12_ask x1 a0 b0) := by
    intro y1 y2 y3 y4 y5 y6 y7 y8 y9 a hm hv hf hi0 hi1 hi2 hi3 hi4 hi5 hi6 hi7 hi8 hi9 hi10 hi11 hi12 hi13
    refine jt_eq (bq_X12_ask_134 E d y1 y2 y3 y4 y5 y6 y7 y8 y9 a b0) ?_
    have h116_ := iv_get hv (k := 146) (j := 2) (l := 0) (u := 40) rfl
    have h117_ : a 146 2 = a0 146 2 := hf 146 2 rfl
    have h118_ := iv_get hv0 (k := 146) (j := 2) (l := 0) (u := 40) rfl
    have h119_ := iv_get hv (k := 146) (j := 9) (l := 0) (u := 300) rfl
    exact hc139 y1 y2 y3 y4 y5 y6 y7 y8 y9 1 a (show (((40 - y6) * 1) + 0).toNat ≤ n from by omega) hv hf (show 0 ≤ y1 from by omega) (show y1 ≤ 39 from by omega) (show 0 - 1 ≤ y2 from by omega) (show y2 ≤ 39 from by omega) (show 0 ≤ y4 from by omega) (show y4 ≤ 2 from by omega) (show 0 ≤ y6 from by omega) (show y6 ≤ 39 from by omega) (show 0 ≤ y8 from by omega) (show y8 ≤ 2 from by omega) (show 0 ≤ 1 from by omega) (show 1 ≤ 1 from by omega) (show 1 ≤ a 146 2 from by omega) (show a 146 9 ≤ 299 from by omega) hi12 (show 1 ≤ a0 146 2 from by omega)
  have hc124 : ∀ (y1 y2 y3 y4 y5 y6 y7 y8 y9 : Int) (a : Nat → Nat → Int), (((40 - y6) * 1) + 0).toNat ≤ n → iv a → jfr jW_X12_ask a0 a → 0 ≤ y1 → y1 ≤ 39 → 0 ≤ y2 → y2 ≤ 39 → 1 ≤ y4 → y4 ≤ 2 → 0 ≤ y6 → y6 ≤ 39 → 0 ≤ y8 → y8 ≤ 1 → 1 ≤ a 146 2 → a 146 9 ≤ 299 → (OC a) → 1 ≤ a0 146 2 → jt (jxX E d 251 124 [some (.inr (.inr (.inl 146))), some (.inl y1), some (.inl y2), some (.inl y3), some (.inl y4), some (.inl y5), some (.inl y6), some (.inl y7), some (.inl y8), some (.inl y9), none] [] (jxSH, a, b0)) (jQ_X12_ask x1 a0 b0) := by
    intro y1 y2 y3 y4 y5 y6 y7 y8 y9 a hm hv hf hi0 hi1 hi2 hi3 hi4 hi5 hi6 hi7 hi8 hi9 hi10 hi11 hi12 hi13
    refine jt_eq (bq_X12_ask_124 E d y1 y2 y3 y4 y5 y6 y7 y8 y9 a b0) ?_
    have h120_ := iv_get hv (k := 146) (j := 2) (l := 0) (u := 40) rfl
    have h121_ : a 146 2 = a0 146 2 := hf 146 2 rfl
    have h122_ := iv_get hv0 (k := 146) (j := 2) (l := 0) (u := 40) rfl
    have h123_ := iv_get hv (k := 146) (j := 9) (l := 0) (u := 300) rfl
    exact hc134 y1 y2 y3 y4 y5 y6 y7 y8 y9 a (show (((40 - y6) * 1) + 0).toNat ≤ n from by omega) hv hf (show 0 ≤ y1 from by omega) (show y1 ≤ 39 from by omega) (show 0 - 1 ≤ y2 from by omega) (show y2 ≤ 39 from by omega) (show 0 ≤ y4 from by omega) (show y4 ≤ 2 from by omega) (show 0 ≤ y6 from by omega) (show y6 ≤ 39 from by omega) (show 0 ≤ y8 from by omega) (show y8 ≤ 2 from by omega) (show 1 ≤ a 146 2 from by omega) (show a 146 9 ≤ 299 from by omega) hi12 (show 1 ≤ a0 146 2 from by omega)
  have hc138 : ∀ (y1 y2 y3 y4 y5 y6 y7 y8 y9 : Int) (a : Nat → Nat → Int), (((40 - y6) * 1) + 0).toNat ≤ n → iv a → jfr jW_X12_ask a0 a → 0 ≤ y1 → y1 ≤ 39 → 0 ≤ y2 → y2 ≤ 39 → 0 ≤ y4 → y4 ≤ 2 → 0 ≤ y6 → y6 ≤ 39 → 0 ≤ y8 → y8 ≤ 2 → 1 ≤ a 146 2 → a 146 9 ≤ 299 → (OC a) → 1 ≤ a0 146 2 → jt (jxX E d 251 138 [some (.inr (.inr (.inl 146))), some (.inl y1), some (.inl y2), some (.inl y3), some (.inl y4), some (.inl y5), some (.inl y6), some (.inl y7), some (.inl y8), some (.inl y9), none] [] (jxSH, a, b0)) (jQ_X12_ask x1 a0 b0) := by
    intro y1 y2 y3 y4 y5 y6 y7 y8 y9 a hm hv hf hi0 hi1 hi2 hi3 hi4 hi5 hi6 hi7 hi8 hi9 hi10 hi11 hi12 hi13
    refine jt_eq (bq_X12_ask_138 E d y1 y2 y3 y4 y5 y6 y7 y8 y9 a b0) ?_
    have h124_ := iv_get hv (k := 146) (j := 2) (l := 0) (u := 40) rfl
    have h125_ : a 146 2 = a0 146 2 := hf 146 2 rfl
    have h126_ := iv_get hv0 (k := 146) (j := 2) (l := 0) (u := 40) rfl
    have h127_ := iv_get hv (k := 146) (j := 9) (l := 0) (u := 300) rfl
    exact hc139 y1 y2 y3 y4 y5 y6 y7 y8 y9 0 a (show (((40 - y6) * 1) + 0).toNat ≤ n from by omega) hv hf (show 0 ≤ y1 from by omega) (show y1 ≤ 39 from by omega) (show 0 - 1 ≤ y2 from by omega) (show y2 ≤ 39 from by omega) (show 0 ≤ y4 from by omega) (show y4 ≤ 2 from by omega) (show 0 ≤ y6 from by omega) (show y6 ≤ 39 from by omega) (show 0 ≤ y8 from by omega) (show y8 ≤ 2 from by omega) (show 0 ≤ 0 from by omega) (show 0 ≤ 1 from by omega) (show 1 ≤ a 146 2 from by omega) (show a 146 9 ≤ 299 from by omega) hi12 (show 1 ≤ a0 146 2 from by omega)
  have hc83 : ∀ (y1 y2 y3 y4 y5 y6 y7 y8 : Int) (a : Nat → Nat → Int), (((40 - y6) * 1) + 0).toNat ≤ n → iv a → jfr jW_X12_ask a0 a → 0 ≤ y1 → y1 ≤ 39 → 0 - 1 ≤ y2 → y2 ≤ 39 → 0 ≤ y4 → y4 ≤ 2 → 0 ≤ y6 → y6 ≤ 39 → 0 ≤ y8 → y8 ≤ 2 → 1 ≤ a 146 2 → a 146 9 ≤ 299 → (OC a) → 1 ≤ a0 146 2 → jt (jxX E d 251 83 [some (.inr (.inr (.inl 146))), some (.inl y1), some (.inl y2), some (.inl y3), some (.inl y4), some (.inl y5), some (.inl y6), some (.inl y7), some (.inl y8), none, none] [] (jxSH, a, b0)) (jQ_X12_ask x1 a0 b0) := by
    intro y1 y2 y3 y4 y5 y6 y7 y8 a hm hv hf hi0 hi1 hi2 hi3 hi4 hi5 hi6 hi7 hi8 hi9 hi10 hi11 hi12 hi13
    refine jt_eq (bq_X12_ask_83 E d y1 y2 y3 y4 y5 y6 y7 y8 a b0) ?_
    have h128_ := iv_get hv (k := 146) (j := 2) (l := 0) (u := 40) rfl
    have h129_ : a 146 2 = a0 146 2 := hf 146 2 rfl
    have h130_ := iv_get hv0 (k := 146) (j := 2) (l := 0) (u := 40) rfl
    have h131_ := iv_get hv (k := 146) (j := 9) (l := 0) (u := 300) rfl
    refine jt_bI (sp_X12_lastSentTo E d (jd_le hd rfl) y6 a b0 hv) (fun r132_ a132_ b132_ h132_ => ?_)
    obtain ⟨rfl, rfl⟩ := h132_
    refine jt_ite (fun c133_ => ?_) (fun c133_ => ?_)
    ·
      exact hc134 y1 y2 y3 y4 y5 y6 y7 y8 r132_ a (show (((40 - y6) * 1) + 0).toNat ≤ n from by omega) hv hf (show 0 ≤ y1 from by omega) (show y1 ≤ 39 from by omega) (show 0 - 1 ≤ y2 from by omega) (show y2 ≤ 39 from by omega) (show 0 ≤ y4 from by omega) (show y4 ≤ 2 from by omega) (show 0 ≤ y6 from by omega) (show y6 ≤ 39 from by omega) (show 0 ≤ y8 from by omega) (show y8 ≤ 2 from by omega) (show 1 ≤ a 146 2 from by omega) (show a 146 9 ≤ 299 from by omega) hi12 (show 1 ≤ a0 146 2 from by omega)
    ·
      refine jt_ite (fun c134_ => ?_) (fun c134_ => ?_)
      ·
        refine jt_ite (fun c135_ => ?_) (fun c135_ => ?_)
        ·
          refine jt_ite (fun c136_ => ?_) (fun c136_ => ?_)
          ·
            exact hc134 y1 y2 y3 y4 y5 y6 y7 y8 r132_ a (show (((40 - y6) * 1) + 0).toNat ≤ n from by omega) hv hf (show 0 ≤ y1 from by omega) (show y1 ≤ 39 from by omega) (show 0 - 1 ≤ y2 from by omega) (show y2 ≤ 39 from by omega) (show 0 ≤ y4 from by omega) (show y4 ≤ 2 from by omega) (show 0 ≤ y6 from by omega) (show y6 ≤ 39 from by omega) (show 0 ≤ y8 from by omega) (show y8 ≤ 2 from by omega) (show 1 ≤ a 146 2 from by omega) (show a 146 9 ≤ 299 from by omega) hi12 (show 1 ≤ a0 146 2 from by omega)
          ·
            exact hc138 y1 y2 y3 y4 y5 y6 y7 y8 r132_ a (show (((40 - y6) * 1) + 0).toNat ≤ n from by omega) hv hf (show 0 ≤ y1 from by omega) (show y1 ≤ 39 from by omega) (show 0 ≤ y2 from by omega) (show y2 ≤ 39 from by omega) (show 0 ≤ y4 from by omega) (show y4 ≤ 2 from by omega) (show 0 ≤ y6 from by omega) (show y6 ≤ 39 from by omega) (show 0 ≤ y8 from by omega) (show y8 ≤ 2 from by omega) (show 1 ≤ a 146 2 from by omega) (show a 146 9 ≤ 299 from by omega) hi12 (show 1 ≤ a0 146 2 from by omega)
        ·
          refine jt_ite (fun c137_ => ?_) (fun c137_ => ?_)
          ·
            exact hc124 y1 y2 y3 y4 y5 y6 y7 y8 r132_ a (show (((40 - y6) * 1) + 0).toNat ≤ n from by omega) hv hf (show 0 ≤ y1 from by omega) (show y1 ≤ 39 from by omega) (show 0 ≤ y2 from by omega) (show y2 ≤ 39 from by omega) (show 1 ≤ y4 from by omega) (show y4 ≤ 2 from by omega) (show 0 ≤ y6 from by omega) (show y6 ≤ 39 from by omega) (show 0 ≤ y8 from by omega) (show y8 ≤ 1 from by omega) (show 1 ≤ a 146 2 from by omega) (show a 146 9 ≤ 299 from by omega) hi12 (show 1 ≤ a0 146 2 from by omega)
          ·
            exact hc138 y1 y2 y3 y4 y5 y6 y7 y8 r132_ a (show (((40 - y6) * 1) + 0).toNat ≤ n from by omega) hv hf (show 0 ≤ y1 from by omega) (show y1 ≤ 39 from by omega) (show 0 ≤ y2 from by omega) (show y2 ≤ 39 from by omega) (show 0 ≤ y4 from by omega) (show y4 ≤ 2 from by omega) (show 0 ≤ y6 from by omega) (show y6 ≤ 39 from by omega) (show 0 ≤ y8 from by omega) (show y8 ≤ 2 from by omega) (show 1 ≤ a 146 2 from by omega) (show a 146 9 ≤ 299 from by omega) hi12 (show 1 ≤ a0 146 2 from by omega)
      ·
        refine jt_ite (fun c138_ => ?_) (fun c138_ => ?_)
        ·
          exact hc134 y1 y2 y3 y4 y5 y6 y7 y8 r132_ a (show (((40 - y6) * 1) + 0).toNat ≤ n from by omega) hv hf (show 0 ≤ y1 from by omega) (show y1 ≤ 39 from by omega) (show 0 - 1 ≤ y2 from by omega) (show y2 ≤ 39 from by omega) (show 0 ≤ y4 from by omega) (show y4 ≤ 2 from by omega) (show 0 ≤ y6 from by omega) (show y6 ≤ 39 from by omega) (show 0 ≤ y8 from by omega) (show y8 ≤ 2 from by omega) (show 1 ≤ a 146 2 from by omega) (show a 146 9 ≤ 299 from by omega) hi12 (show 1 ≤ a0 146 2 from by omega)
        ·
          exact hc138 y1 y2 y3 y4 y5 y6 y7 y8 r132_ a (show (((40 - y6) * 1) + 0).toNat ≤ n from by omega) hv hf (show 0 ≤ y1 from by omega) (show y1 ≤ 39 from by omega) (show 0 ≤ y2 from by omega) (show y2 ≤ 39 from by omega) (show 0 ≤ y4 from by omega) (show y4 ≤ 2 from by omega) (show 0 ≤ y6 from by omega) (show y6 ≤ 39 from by omega) (show 0 ≤ y8 from by omega) (show y8 ≤ 2 from by omega) (show 1 ≤ a 146 2 from by omega) (show a 146 9 ≤ 299 from by omega) hi12 (show 1 ≤ a0 146 2 from by omega)
  have hc44 : ∀ (y1 y2 y3 y4 y5 y6 : Int) (a : Nat → Nat → Int), (((40 - y6) * 1) + 0).toNat ≤ n → iv a → jfr jW_X12_ask a0 a → 0 ≤ y1 → y1 ≤ 39 → 0 - 1 ≤ y2 → y2 ≤ 39 → 0 ≤ y4 → y4 ≤ 2 → 0 ≤ y6 → y6 ≤ 40 → a 146 9 ≤ 299 → (OC a) → 1 ≤ a0 146 2 → jt (jxX E d 251 44 [some (.inr (.inr (.inl 146))), some (.inl y1), some (.inl y2), some (.inl y3), some (.inl y4), some (.inl y5), some (.inl y6), none, none, none, none] [] (jxSH, a, b0)) (jQ_X12_ask x1 a0 b0) := by
    intro y1 y2 y3 y4 y5 y6 a hm hv hf hi0 hi1 hi2 hi3 hi4 hi5 hi6 hi7 hi8 hi9 hi10
    refine jt_eq (bq_X12_ask_44 E d y1 y2 y3 y4 y5 y6 a b0) ?_
    have h139_ := iv_get hv (k := 146) (j := 9) (l := 0) (u := 300) rfl
    have h140_ := iv_get hv0 (k := 146) (j := 2) (l := 0) (u := 40) rfl
    have h141_ := iv_get hv (k := 146) (j := 2) (l := 0) (u := 40) rfl
    have h142_ : a 146 2 = a0 146 2 := hf 146 2 rfl
    refine jt_ite (fun c143_ => ?_) (fun c143_ => ?_)
    ·
      refine jt_bI (sp_X12_mayGet E d (jd_le hd rfl) y1 y6 a b0 hv (show (0 ≤ y1 ∧ y1 ≤ 39) from by omega) (show (0 ≤ y6 ∧ y6 ≤ 39) from by omega) (WFW_fr hp0 hf (fun _ => rfl) (fun _ => rfl))) (fun r144_ a144_ b144_ h144_ => ?_)
      obtain ⟨hv144_, hf144_, rfl, hq144_0⟩ := h144_
      refine jt_ite (fun c145_ => ?_) (fun c145_ => ?_)
      ·
        have hf146_ : jfr jW_X12_ask a0 a144_ := jfr_tr hf hf144_ rfl
        have h147_ : jxw (y6 + 1) = y6 + 1 := jxw_id (by omega) (by omega)
        have h148_ := iv_get hv144_ (k := 146) (j := 9) (l := 0) (u := 300) rfl
        have h149_ : a144_ 146 9 = a 146 9 := hf144_ 146 9 rfl
        exact ih44 y1 y2 y3 y4 y5 (jxw (y6 + 1)) a144_ (show (((40 - (jxw (y6 + 1))) * 1) + 0).toNat < n from by omega) hv144_ hf146_ (show 0 ≤ y1 from by omega) (show y1 ≤ 39 from by omega) (show 0 - 1 ≤ y2 from by omega) (show y2 ≤ 39 from by omega) (show 0 ≤ y4 from by omega) (show y4 ≤ 2 from by omega) (show 0 ≤ jxw (y6 + 1) from by omega) (show jxw (y6 + 1) ≤ 40 from by omega) (show a144_ 146 9 ≤ 299 from by omega) (OC_fr hi9 hf144_ rfl rfl (fun _ => rfl) (fun _ => rfl) (fun _ => rfl) (fun _ => rfl) (fun _ => rfl)) (show 1 ≤ a0 146 2 from by omega)
      ·
        refine jt_bI (sp_X12_owed E d (jd_le hd rfl) y6 a144_ b0 hv144_ (show (0 ≤ y6 ∧ y6 ≤ 39) from by omega)) (fun r150_ a150_ b150_ h150_ => ?_)
        obtain ⟨rfl, rfl⟩ := h150_
        refine jt_bI (sp_X12_unhappy E d (jd_le hd rfl) y1 y6 a144_ b0 hv144_ (show (0 ≤ y1 ∧ y1 ≤ 39) from by omega) (show (0 ≤ y6 ∧ y6 ≤ 39) from by omega) (WFW_fr (WFW_fr hp0 hf (fun _ => rfl) (fun _ => rfl)) hf144_ (fun _ => rfl) (fun _ => rfl))) (fun r151_ a151_ b151_ h151_ => ?_)
        obtain ⟨hv151_, hf151_, rfl, hq151_0, hq151_1⟩ := h151_
        have hf152_ : jfr jW_X12_ask a0 a144_ := jfr_tr hf hf144_ rfl
        have hf153_ : jfr jW_X12_ask a0 a151_ := jfr_tr hf152_ hf151_ rfl
        have h154_ := iv_get hv151_ (k := 146) (j := 2) (l := 0) (u := 40) rfl
        have h155_ : a151_ 146 2 = a144_ 146 2 := hf151_ 146 2 rfl
        have h156_ := iv_get hv144_ (k := 146) (j := 2) (l := 0) (u := 40) rfl
        have h157_ : a144_ 146 2 = a 146 2 := hf144_ 146 2 rfl
        have h158_ := iv_get hv151_ (k := 146) (j := 9) (l := 0) (u := 300) rfl
        have h159_ : a151_ 146 9 = a144_ 146 9 := hf151_ 146 9 rfl
        have h160_ := iv_get hv144_ (k := 146) (j := 9) (l := 0) (u := 300) rfl
        have h161_ : a144_ 146 9 = a 146 9 := hf144_ 146 9 rfl
        exact hc83 y1 y2 y3 y4 y5 y6 r150_ r151_ a151_ (show (((40 - y6) * 1) + 0).toNat ≤ n from by omega) hv151_ hf153_ (show 0 ≤ y1 from by omega) (show y1 ≤ 39 from by omega) (show 0 - 1 ≤ y2 from by omega) (show y2 ≤ 39 from by omega) (show 0 ≤ y4 from by omega) (show y4 ≤ 2 from by omega) (show 0 ≤ y6 from by omega) (show y6 ≤ 39 from by omega) (show 0 ≤ r151_ from by omega) (show r151_ ≤ 2 from by omega) (show 1 ≤ a151_ 146 2 from by omega) (show a151_ 146 9 ≤ 299 from by omega) (OC_fr (OC_fr hi9 hf144_ rfl rfl (fun _ => rfl) (fun _ => rfl) (fun _ => rfl) (fun _ => rfl) (fun _ => rfl)) hf151_ rfl rfl (fun _ => rfl) (fun _ => rfl) (fun _ => rfl) (fun _ => rfl) (fun _ => rfl)) (show 1 ≤ a0 146 2 from by omega)
    ·
      refine jt_ite (fun c162_ => ?_) (fun c162_ => ?_)
      ·
        exact jt_rI ⟨hv, hf, rfl, hi9, (show (a0 146 2 = 0 → (-3) = 0 - 1) from by omega)⟩
      ·
        refine jt_bI (sp_X12_sends E d (jd_le hd rfl) y1 y2 (-1) a b0 hv (show (0 ≤ y1 ∧ y1 ≤ 39) from by omega) (show (0 ≤ y2 ∧ y2 ≤ 39) from by omega) (show a 146 9 ≤ 299 from by omega)) (fun r163_ a163_ b163_ h163_ => ?_)
        obtain ⟨hv163_, hf163_, rfl, hq163_0, hq163_1, hq163_2⟩ := h163_
        have h164_ := iv_get hv163_ (k := 146) (j := 9) (l := 0) (u := 300) rfl
        have hf165_ : jfr jW_X12_ask a0 a163_ := jfr_tr hf hf163_ rfl
        exact jt_rI ⟨hv163_, hf165_, rfl, (OC_card hi9 hq163_0 (hf163_ 146 49 rfl) (fun c hc => hq163_2 c hc) (fun j => hf163_ 178 j rfl) (fun j => hf163_ 181 j rfl) (fun j => hf163_ 182 j rfl)), (show (a0 146 2 = 0 → r163_ = 0 - 1) from by omega)⟩
  exact ⟨hc139, hc134, hc124, hc138, hc83, hc44⟩
theorem cp_X12_ask_33 (E : jxE) (d : Nat) (hd : Nat.ble 8 (d + 1) = true) (x1 : Int) (a0 b0 : Nat → Nat → Int) (hv0 : iv a0) (hp0 : WFW a0) (hp1 : OC a0) : ∀ (y1 y2 : Int) (a : Nat → Nat → Int), iv a → jfr jW_X12_ask a0 a → 0 ≤ y1 → y1 ≤ 39 → 0 - 1 ≤ y2 → y2 ≤ 0 - 1 → a 146 9 ≤ 299 → (OC a) → 1 ≤ a0 146 2 → jt (jxX E d 251 33 [some (.inr (.inr (.inl 146))), some (.inl y1), some (.inl y2), none, none, none, none, none, none, none, none] [] (jxSH, a, b0)) (jQ_X12_ask x1 a0 b0) := by
  intro y1 y2 a hv hf hi0 hi1 hi2 hi3 hi4 hi5 hi6
  refine jt_eq (bq_X12_ask_33 E d y1 y2 a b0) ?_
  have h166_ := iv_get hv (k := 146) (j := 9) (l := 0) (u := 300) rfl
  have h167_ := iv_get hv0 (k := 146) (j := 2) (l := 0) (u := 40) rfl
  exact (cp_X12_ask_44 E d hd x1 a0 b0 hv0 hp0 hp1 _).2.2.2.2.2 y1 y2 0 0 0 0 a (Nat.le_refl _) hv hf (show 0 ≤ y1 from by omega) (show y1 ≤ 39 from by omega) (show 0 - 1 ≤ y2 from by omega) (show y2 ≤ 39 from by omega) (show 0 ≤ 0 from by omega) (show 0 ≤ 2 from by omega) (show 0 ≤ 0 from by omega) (show 0 ≤ 40 from by omega) (show a 146 9 ≤ 299 from by omega) hi5 (show 1 ≤ a0 146 2 from by omega)
theorem sp_X12_ask (E : jxE) (d : Nat) (hd : Nat.ble 8 d = true) (x1 : Int) (a0 b0 : Nat → Nat → Int) (hv0 : iv a0) (hp0 : WFW a0) (hp1 : OC a0) : jt (jxC E d 251 [.inr (.inr (.inl 146)), .inl x1] (jxSH, a0, b0)) (jQ_X12_ask x1 a0 b0) := by
  obtain ⟨d, rfl⟩ := jd_succ hd
  refine jt_eq (bq_X12_ask E d x1 a0 b0) ?_
  refine jt_eI (eq_X12_isMember E d (jd_le hd rfl) x1 a0 b0) ?_
  have h168_ := f_X12_isMember_eq a0 b0 x1
  have h169_ := iv_get hv0 (k := 146) (j := 2) (l := 0) (u := 40) rfl
  have h170_ : jxw ((a0 146 2) - 1) = (a0 146 2) - 1 := jxw_id (by omega) (by omega)
  have h171_ := f_X12_in_eq a0 b0 x1 0 (jxw ((a0 146 2) - 1))
  refine jt_ite (fun c172_ => ?_) (fun c172_ => ?_)
  ·
    exact jt_rI ⟨hv0, (jfr_rf _ _), rfl, hp1, (show (a0 146 2 = 0 → (-1) = 0 - 1) from by omega)⟩
  ·
    have h173_ := iv_get hv0 (k := 146) (j := 9) (l := 0) (u := 300) rfl
    refine jt_ite (fun c174_ => ?_) (fun c174_ => ?_)
    ·
      exact jt_rI ⟨hv0, (jfr_rf _ _), rfl, hp1, (show (a0 146 2 = 0 → (-1) = 0 - 1) from by omega)⟩
    ·
      refine jt_bI (sp_X12_mayAsk E d (jd_le hd rfl) x1 a0 b0 hv0 (show (0 ≤ x1 ∧ x1 ≤ 39) from by omega)) (fun r175_ a175_ b175_ h175_ => ?_)
      obtain ⟨rfl, rfl, hq175_0⟩ := h175_
      refine jt_ite (fun c176_ => ?_) (fun c176_ => ?_)
      ·
        exact jt_rI ⟨hv0, (jfr_rf _ _), rfl, hp1, (show (a0 146 2 = 0 → (-2) = 0 - 1) from by omega)⟩
      ·
        exact cp_X12_ask_33 E d hd x1 a0 b0 hv0 hp0 hp1 x1 (-1) a0 hv0 (jfr_rf _ _) (show 0 ≤ x1 from by omega) (show x1 ≤ 39 from by omega) (show 0 - 1 ≤ (-1) from by omega) (show (-1) ≤ 0 - 1 from by omega) (show a0 146 9 ≤ 299 from by omega) hp1 (show 1 ≤ a0 146 2 from by omega)
def jW_X12_away : List (Nat × Nat) := [(181, 9999)]
abbrev jQ_X12_away (x1 : Int) (a0 b0 : Nat → Nat → Int) : List jxV → (Nat → Nat → Int) → (Nat → Nat → Int) → Prop := rI (fun r a b => (iv a) ∧ (jfr jW_X12_away a0 a) ∧ (b0 = b) ∧ ((0 ≤ r ∧ r ≤ 1)) ∧ (OC a) ∧ ((a0 146 49 = 0 → r = 0)))
theorem cp_X12_away_32 (E : jxE) (d : Nat) (hd : Nat.ble 2 (d + 1) = true) (x1 : Int) (a0 b0 : Nat → Nat → Int) (hv0 : iv a0) (hp0 : OC a0) : ∀ (a : Nat → Nat → Int), iv a → jfr jW_X12_away a0 a → 1 ≤ a0 146 49 → (OC a) → jt (jxX E d 263 32 [none, none] [] (jxSH, a, b0)) (jQ_X12_away x1 a0 b0) := by
  intro a hv hf hi0 hi1
  refine jt_eq (bq_X12_away_32 E d a b0) ?_
  have h177_ := iv_get hv0 (k := 146) (j := 49) (l := 0) (u := 20) rfl
  exact jt_rI ⟨hv, hf, rfl, (show (0 ≤ 1 ∧ 1 ≤ 1) from by omega), hi1, (show (a0 146 49 = 0 → 1 = 0) from by omega)⟩
theorem sp_X12_away (E : jxE) (d : Nat) (hd : Nat.ble 2 d = true) (x1 : Int) (a0 b0 : Nat → Nat → Int) (hv0 : iv a0) (hp0 : OC a0) : jt (jxC E d 263 [.inr (.inr (.inl 146)), .inl x1] (jxSH, a0, b0)) (jQ_X12_away x1 a0 b0) := by
  obtain ⟨d, rfl⟩ := jd_succ hd
  refine jt_eq (bq_X12_away E d x1 a0 b0) ?_
  refine jt_eI (eq_X12_in E d (jd_le hd rfl) x1 0 (jxw ((a0 146 49) - 1)) a0 b0) ?_
  have h178_ := iv_get hv0 (k := 146) (j := 49) (l := 0) (u := 20) rfl
  have h179_ : jxw ((a0 146 49) - 1) = (a0 146 49) - 1 := jxw_id (by omega) (by omega)
  have h180_ := f_X12_in_eq a0 b0 x1 0 (jxw ((a0 146 49) - 1))
  refine jt_ite (fun c181_ => ?_) (fun c181_ => ?_)
  ·
    exact jt_rI ⟨hv0, (jfr_rf _ _), rfl, (show (0 ≤ 0 ∧ 0 ≤ 1) from by omega), hp0, (show (a0 146 49 = 0 → 0 = 0) from by omega)⟩
  ·
    refine jt_grd (by omega) ?_
    have h182_ := iv_get hv0 (k := 181) (j := x1.toNat) (l := 0) (u := 2) rfl
    refine jt_ite (fun c183_ => ?_) (fun c183_ => ?_)
    ·
      refine jt_grd (by omega) ?_
      have hv184_ : iv (jxu a0 181 (x1.toNat) 2) := iv_put hv0 (l := 0) (u := 2) rfl (by omega) (by omega)
      have hf185_ : jfr jW_X12_away a0 (jxu a0 181 (x1.toNat) 2) := jfr_put (jfr_rf _ _) rfl
      have hg186_ : OC (jxu a0 181 (x1.toNat) 2) := (OC_put2 hp0 (by decide) (by omega))
      exact cp_X12_away_32 E d hd x1 a0 b0 hv0 hp0 (jxu a0 181 (x1.toNat) 2) hv184_ hf185_ (show 1 ≤ a0 146 49 from by omega) hg186_
    ·
      exact jt_rI ⟨hv0, (jfr_rf _ _), rfl, (show (0 ≤ 0 ∧ 0 ≤ 1) from by omega), hp0, (show (a0 146 49 = 0 → 0 = 0) from by omega)⟩
def jW_X12_drops : List (Nat × Nat) := [(153, 9999), (159, 9999), (181, 9999)]
abbrev jQ_X12_drops (x1 x2 : Int) (a0 b0 : Nat → Nat → Int) : List jxV → (Nat → Nat → Int) → (Nat → Nat → Int) → Prop := rI (fun r a b => (iv a) ∧ (jfr jW_X12_drops a0 a) ∧ (b0 = b) ∧ ((0 ≤ r ∧ r ≤ 1)) ∧ (OC a))
theorem cp_X12_drops_27 (E : jxE) (d : Nat) (hd : Nat.ble 4 (d + 1) = true) (x1 x2 : Int) (a0 b0 : Nat → Nat → Int) (hv0 : iv a0) (hp0 : (0 ≤ x2 ∧ x2 ≤ 19)) (hp1 : x2 < a0 146 49) (hp2 : a0 181 (x2.toNat) = 1) (hp3 : x1 = a0 182 (x2.toNat)) (hp4 : OC a0) : ∀ (a : Nat → Nat → Int), iv a → jfr jW_X12_drops a0 a → (OC a) → jt (jxX E d 277 27 [none, none, none, none] [] (jxSH, a, b0)) (jQ_X12_drops x1 x2 a0 b0) := by
  intro a hv hf hi0
  refine jt_eq (bq_X12_drops_27 E d a b0) ?_
  exact jt_rI ⟨hv, hf, rfl, (show (0 ≤ 0 ∧ 0 ≤ 1) from by omega), hi0⟩
theorem cp_X12_drops_68 (E : jxE) (d : Nat) (hd : Nat.ble 4 (d + 1) = true) (x1 x2 : Int) (a0 b0 : Nat → Nat → Int) (hv0 : iv a0) (hp0 : (0 ≤ x2 ∧ x2 ≤ 19)) (hp1 : x2 < a0 146 49) (hp2 : a0 181 (x2.toNat) = 1) (hp3 : x1 = a0 182 (x2.toNat)) (hp4 : OC a0) : ∀ (a : Nat → Nat → Int), iv a → jfr jW_X12_drops a0 a → (OC a) → jt (jxX E d 277 68 [none, none, none, none] [] (jxSH, a, b0)) (jQ_X12_drops x1 x2 a0 b0) := by
  intro a hv hf hi0
  refine jt_eq (bq_X12_drops_68 E d a b0) ?_
  exact jt_rI ⟨hv, hf, rfl, (show (0 ≤ 1 ∧ 1 ≤ 1) from by omega), hi0⟩
theorem cp_X12_drops_53 (E : jxE) (d : Nat) (hd : Nat.ble 4 (d + 1) = true) (x1 x2 : Int) (a0 b0 : Nat → Nat → Int) (hv0 : iv a0) (hp0 : (0 ≤ x2 ∧ x2 ≤ 19)) (hp1 : x2 < a0 146 49) (hp2 : a0 181 (x2.toNat) = 1) (hp3 : x1 = a0 182 (x2.toNat)) (hp4 : OC a0) : ∀ (y3 : Int) (a : Nat → Nat → Int), iv a → jfr jW_X12_drops a0 a → 0 ≤ y3 → y3 ≤ 299 → 0 ≤ y3 → (OC a) → jt (jxX E d 277 53 [some (.inr (.inr (.inl 146))), none, none, some (.inl y3)] [] (jxSH, a, b0)) (jQ_X12_drops x1 x2 a0 b0) := by
  intro y3 a hv hf hi0 hi1 hi2 hi3
  refine jt_eq (bq_X12_drops_53 E d y3 a b0) ?_
  refine jt_grd (by omega) ?_
  have h187_ := iv_get hv (k := 155) (j := y3.toNat) (l := 0) (u := 39) rfl
  have h188_ : a 155 (y3.toNat) = a0 155 (y3.toNat) := hf 155 (y3.toNat) rfl
  have h189_ := iv_get hv0 (k := 155) (j := y3.toNat) (l := 0) (u := 39) rfl
  refine jt_grd (by omega) ?_
  refine jt_grd (by omega) ?_
  have hv190_ : iv (jxu a 153 ((a 155 (y3.toNat)).toNat) (jxw ((a 153 ((a 155 (y3.toNat)).toNat)) + 1))) := iv_putf hv rfl
  have hf191_ : jfr jW_X12_drops a0 (jxu a 153 ((a 155 (y3.toNat)).toNat) (jxw ((a 153 ((a 155 (y3.toNat)).toNat)) + 1))) := jfr_put hf rfl
  have hg192_ : OC (jxu a 153 ((a 155 (y3.toNat)).toNat) (jxw ((a 153 ((a 155 (y3.toNat)).toNat)) + 1))) := (OC_fr hi3 (jfr_1 a 153 ((a 155 (y3.toNat)).toNat) (jxw ((a 153 ((a 155 (y3.toNat)).toNat)) + 1))) rfl rfl (fun _ => rfl) (fun _ => rfl) (fun _ => rfl) (fun _ => rfl) (fun _ => rfl))
  exact cp_X12_drops_68 E d hd x1 x2 a0 b0 hv0 hp0 hp1 hp2 hp3 hp4 (jxu a 153 ((a 155 (y3.toNat)).toNat) (jxw ((a 153 ((a 155 (y3.toNat)).toNat)) + 1))) hv190_ hf191_ hg192_
theorem cp_X12_drops_29 (E : jxE) (d : Nat) (hd : Nat.ble 4 (d + 1) = true) (x1 x2 : Int) (a0 b0 : Nat → Nat → Int) (hv0 : iv a0) (hp0 : (0 ≤ x2 ∧ x2 ≤ 19)) (hp1 : x2 < a0 146 49) (hp2 : a0 181 (x2.toNat) = 1) (hp3 : x1 = a0 182 (x2.toNat)) (hp4 : OC a0) : ∀ (y3 : Int) (a : Nat → Nat → Int), iv a → jfr jW_X12_drops a0 a → 0 - 1 ≤ y3 → y3 ≤ 299 → 0 ≤ y3 → (OC a) → jt (jxX E d 277 29 [some (.inr (.inr (.inl 146))), none, none, some (.inl y3)] [] (jxSH, a, b0)) (jQ_X12_drops x1 x2 a0 b0) := by
  intro y3 a hv hf hi0 hi1 hi2 hi3
  refine jt_eq (bq_X12_drops_29 E d y3 a b0) ?_
  refine jt_grd (by omega) ?_
  refine jt_grd (by omega) ?_
  have h193_ := iv_get hv (k := 155) (j := y3.toNat) (l := 0) (u := 39) rfl
  have h194_ : a 155 (y3.toNat) = a0 155 (y3.toNat) := hf 155 (y3.toNat) rfl
  have h195_ := iv_get hv0 (k := 155) (j := y3.toNat) (l := 0) (u := 39) rfl
  refine jt_grd (by omega) ?_
  have h196_ := iv_get hv (k := 152) (j := (a 155 (y3.toNat)).toNat) (l := 0) (u := 1) rfl
  have h197_ : a 152 ((a 155 (y3.toNat)).toNat) = a0 152 ((a 155 (y3.toNat)).toNat) := hf 152 ((a 155 (y3.toNat)).toNat) rfl
  have h198_ := iv_get hv0 (k := 152) (j := (a 155 (y3.toNat)).toNat) (l := 0) (u := 1) rfl
  refine jt_ite (fun c199_ => ?_) (fun c199_ => ?_)
  ·
    have hv200_ : iv (jxu a 159 (y3.toNat) (a 146 0)) := iv_putf hv rfl
    have hf201_ : jfr jW_X12_drops a0 (jxu a 159 (y3.toNat) (a 146 0)) := jfr_put hf rfl
    have hg202_ : OC (jxu a 159 (y3.toNat) (a 146 0)) := (OC_fr hi3 (jfr_1 a 159 (y3.toNat) (a 146 0)) rfl rfl (fun _ => rfl) (fun _ => rfl) (fun _ => rfl) (fun _ => rfl) (fun _ => rfl))
    exact cp_X12_drops_68 E d hd x1 x2 a0 b0 hv0 hp0 hp1 hp2 hp3 hp4 (jxu a 159 (y3.toNat) (a 146 0)) hv200_ hf201_ hg202_
  ·
    have hv203_ : iv (jxu a 159 (y3.toNat) (a 146 0)) := iv_putf hv rfl
    have hf204_ : jfr jW_X12_drops a0 (jxu a 159 (y3.toNat) (a 146 0)) := jfr_put hf rfl
    have hg205_ : OC (jxu a 159 (y3.toNat) (a 146 0)) := (OC_fr hi3 (jfr_1 a 159 (y3.toNat) (a 146 0)) rfl rfl (fun _ => rfl) (fun _ => rfl) (fun _ => rfl) (fun _ => rfl) (fun _ => rfl))
    exact cp_X12_drops_53 E d hd x1 x2 a0 b0 hv0 hp0 hp1 hp2 hp3 hp4 y3 (jxu a 159 (y3.toNat) (a 146 0)) hv203_ hf204_ (show 0 ≤ y3 from by omega) (show y3 ≤ 299 from by omega) (show 0 ≤ y3 from by omega) hg205_
theorem sp_X12_drops (E : jxE) (d : Nat) (hd : Nat.ble 4 d = true) (x1 x2 : Int) (a0 b0 : Nat → Nat → Int) (hv0 : iv a0) (hp0 : (0 ≤ x2 ∧ x2 ≤ 19)) (hp1 : x2 < a0 146 49) (hp2 : a0 181 (x2.toNat) = 1) (hp3 : x1 = a0 182 (x2.toNat)) (hp4 : OC a0) : jt (jxC E d 277 [.inr (.inr (.inl 146)), .inl x1, .inl x2] (jxSH, a0, b0)) (jQ_X12_drops x1 x2 a0 b0) := by
  obtain ⟨d, rfl⟩ := jd_succ hd
  refine jt_eq (bq_X12_drops E d x1 x2 a0 b0) ?_
  have h206_ := iv_get hv0 (k := 146) (j := 49) (l := 0) (u := 20) rfl
  have h207_ := iv_get hv0 (k := 181) (j := x2.toNat) (l := 0) (u := 2) rfl
  obtain ⟨oc, hoc1, hoc2, hoc3⟩ := hp4.1 x2.toNat (by omega) (by omega)
  refine jt_grd (by omega) ?_
  refine jt_bI (sp_X12_cardOf E d (jd_le hd rfl) x1 (a0 178 (x2.toNat)) a0 b0 hv0) (fun r208_ a208_ b208_ h208_ => ?_)
  obtain ⟨rfl, rfl, hq208_0, hq208_1, hq208_2, hq208_3⟩ := h208_
  have h209_ := iv_get hv0 (k := 146) (j := 9) (l := 0) (u := 300) rfl
  have hr208_ : 0 ≤ r208_ := hq208_3 ⟨oc, hoc1, (by omega), (by omega)⟩
  refine jt_grd (by omega) ?_
  have hv210_ : iv (jxu a0 181 (x2.toNat) 2) := iv_put hv0 (l := 0) (u := 2) rfl (by omega) (by omega)
  refine jt_bI (sp_X12_stateNow E d (jd_le hd rfl) r208_ (jxu a0 181 (x2.toNat) 2) b0 hv210_ (show (0 ≤ r208_ ∧ r208_ ≤ 299) from by omega)) (fun r211_ a211_ b211_ h211_ => ?_)
  obtain ⟨he211_, rfl, hq211_0, hq211_1⟩ := h211_
  have hv211_ : iv a211_ := he211_ ▸ hv210_
  have hf211_ : jfr [] (jxu a0 181 (x2.toNat) 2) a211_ := jfr_eq he211_
  have h212_ : 0 ≤ r211_ := hq211_0
  have h213_ : r211_ ≤ 4 := hq211_1
  refine jt_ite (fun c214_ => ?_) (fun c214_ => ?_)
  ·
    have hf215_ : jfr jW_X12_drops a0 (jxu a0 181 (x2.toNat) 2) := jfr_put (jfr_rf _ _) rfl
    have hf216_ : jfr jW_X12_drops a0 a211_ := jfr_tr hf215_ hf211_ rfl
    have hg217_ : OC (jxu a0 181 (x2.toNat) 2) := (OC_put2 hp4 (by decide) (by omega))
    exact cp_X12_drops_29 E d hd x1 x2 a0 b0 hv0 hp0 hp1 hp2 hp3 hp4 r208_ a211_ hv211_ hf216_ (show 0 - 1 ≤ r208_ from by omega) (show r208_ ≤ 299 from by omega) (show 0 ≤ r208_ from by omega) (OC_fr hg217_ hf211_ rfl rfl (fun _ => rfl) (fun _ => rfl) (fun _ => rfl) (fun _ => rfl) (fun _ => rfl))
  ·
    have hf218_ : jfr jW_X12_drops a0 (jxu a0 181 (x2.toNat) 2) := jfr_put (jfr_rf _ _) rfl
    have hf219_ : jfr jW_X12_drops a0 a211_ := jfr_tr hf218_ hf211_ rfl
    have hg220_ : OC (jxu a0 181 (x2.toNat) 2) := (OC_put2 hp4 (by decide) (by omega))
    exact cp_X12_drops_27 E d hd x1 x2 a0 b0 hv0 hp0 hp1 hp2 hp3 hp4 a211_ hv211_ hf219_ (OC_fr hg220_ hf211_ rfl rfl (fun _ => rfl) (fun _ => rfl) (fun _ => rfl) (fun _ => rfl) (fun _ => rfl))
def jW_X12_drop : List (Nat × Nat) := [(153, 9999), (159, 9999), (181, 9999)]
abbrev jQ_X12_drop (x1 x2 : Int) (a0 b0 : Nat → Nat → Int) : List jxV → (Nat → Nat → Int) → (Nat → Nat → Int) → Prop := rI (fun r a b => (iv a) ∧ (jfr jW_X12_drop a0 a) ∧ (b0 = b) ∧ (OC a) ∧ ((a0 146 55 = 0 → r = 0 - 1)))
theorem cp_X12_drop_31 (E : jxE) (d : Nat) (hd : Nat.ble 5 (d + 1) = true) (x1 x2 : Int) (a0 b0 : Nat → Nat → Int) (hv0 : iv a0) (hp0 : OC a0) : ∀ (y1 y3 : Int) (a : Nat → Nat → Int), iv a → jfr jW_X12_drop a0 a → 0 ≤ y1 → 0 - 1 ≤ y3 → y3 ≤ 19 → (0 ≤ y3 → (a 181 (y3.toNat) = 1 ∧ a 182 (y3.toNat) = y1)) → y3 < a 146 49 → ¬ a0 146 55 = 0 → (OC a) → jt (jxX E d 278 31 [some (.inr (.inr (.inl 146))), some (.inl y1), none, some (.inl y3)] [] (jxSH, a, b0)) (jQ_X12_drop x1 x2 a0 b0) := by
  intro y1 y3 a hv hf hi0 hi1 hi2 hi3 hi4 hi5 hi6
  refine jt_eq (bq_X12_drop_31 E d y1 y3 a b0) ?_
  have h221_ := iv_get hv (k := 181) (j := y3.toNat) (l := 0) (u := 2) rfl
  have h222_ : a 182 (y3.toNat) = a0 182 (y3.toNat) := hf 182 (y3.toNat) rfl
  have h223_ := iv_get hv (k := 146) (j := 49) (l := 0) (u := 20) rfl
  have h224_ : a 146 49 = a0 146 49 := hf 146 49 rfl
  have h225_ := iv_get hv0 (k := 146) (j := 49) (l := 0) (u := 20) rfl
  refine jt_ite (fun c226_ => ?_) (fun c226_ => ?_)
  ·
    exact jt_rI ⟨hv, hf, rfl, hi6, (show (a0 146 55 = 0 → (-1) = 0 - 1) from by omega)⟩
  ·
    refine jt_bI (sp_X12_drops E d (jd_le hd rfl) y1 y3 a b0 hv (show (0 ≤ y3 ∧ y3 ≤ 19) from by omega) (show y3 < a 146 49 from by omega) (show a 181 (y3.toNat) = 1 from by omega) (show y1 = a 182 (y3.toNat) from by omega) hi6) (fun r227_ a227_ b227_ h227_ => ?_)
    obtain ⟨hv227_, hf227_, rfl, hq227_0, hq227_1⟩ := h227_
    have hf228_ : jfr jW_X12_drop a0 a227_ := jfr_tr hf hf227_ rfl
    exact jt_rI ⟨hv227_, hf228_, rfl, hq227_1, (show (a0 146 55 = 0 → r227_ = 0 - 1) from by omega)⟩
theorem sp_X12_drop (E : jxE) (d : Nat) (hd : Nat.ble 5 d = true) (x1 x2 : Int) (a0 b0 : Nat → Nat → Int) (hv0 : iv a0) (hp0 : OC a0) : jt (jxC E d 278 [.inr (.inr (.inl 146)), .inl x1, .inl x2] (jxSH, a0, b0)) (jQ_X12_drop x1 x2 a0 b0) := by
  obtain ⟨d, rfl⟩ := jd_succ hd
  refine jt_eq (bq_X12_drop E d x1 x2 a0 b0) ?_
  refine jt_eI (eq_X12_in E d (jd_le hd rfl) x1 0 (jxw ((a0 146 55) - 1)) a0 b0) ?_
  have h229_ := jxw_im ((a0 146 55) - 1)
  have h230_ := jxw_rg ((a0 146 55) - 1)
  have h231_ := f_X12_in_eq a0 b0 x1 0 (jxw ((a0 146 55) - 1))
  refine jt_ite (fun c232_ => ?_) (fun c232_ => ?_)
  ·
    exact jt_rI ⟨hv0, (jfr_rf _ _), rfl, hp0, (show (a0 146 55 = 0 → (-1) = 0 - 1) from by omega)⟩
  ·
    refine jt_eI (eq_X12_isMember E d (jd_le hd rfl) x2 a0 b0) ?_
    have h233_ := f_X12_isMember_eq a0 b0 x2
    have h234_ := iv_get hv0 (k := 146) (j := 2) (l := 0) (u := 40) rfl
    have h235_ : jxw ((a0 146 2) - 1) = (a0 146 2) - 1 := jxw_id (by omega) (by omega)
    have h236_ := f_X12_in_eq a0 b0 x2 0 (jxw ((a0 146 2) - 1))
    refine jt_ite (fun c237_ => ?_) (fun c237_ => ?_)
    ·
      exact jt_rI ⟨hv0, (jfr_rf _ _), rfl, hp0, (show (a0 146 55 = 0 → (-1) = 0 - 1) from by omega)⟩
    ·
      refine jt_bI (sp_X12_offerIn E d (jd_le hd rfl) x1 x2 a0 b0 hv0) (fun r238_ a238_ b238_ h238_ => ?_)
      obtain ⟨rfl, rfl, hq238_0, hq238_1, hq238_2, hq238_3⟩ := h238_
      have h239_ := iv_get hv0 (k := 146) (j := 49) (l := 0) (u := 20) rfl
      have h240_ := iv_get hv0 (k := 181) (j := r238_.toNat) (l := 0) (u := 2) rfl
      exact cp_X12_drop_31 E d hd x1 x2 a0 b0 hv0 hp0 x1 r238_ a0 hv0 (jfr_rf _ _) (show 0 ≤ x1 from by omega) (show 0 - 1 ≤ r238_ from by omega) (show r238_ ≤ 19 from by omega) (show (0 ≤ r238_ → (a0 181 (r238_.toNat) = 1 ∧ a0 182 (r238_.toNat) = x1)) from by omega) (show r238_ < a0 146 49 from by omega) (show ¬ a0 146 55 = 0 from by omega) hp0
abbrev jQ_X12_leastOf (x0 : Int) (a0 b0 : Nat → Nat → Int) : List jxV → (Nat → Nat → Int) → (Nat → Nat → Int) → Prop := rI (fun r a b => (a0 = a) ∧ (b0 = b) ∧ (0 ≤ r) ∧ (r ≤ 11) ∧ (¬ jxand (jxshr x0 r) 1 = 0))
theorem cp_X12_leastOf_2 (E : jxE) (d : Nat) (hd : Nat.ble 1 (d + 1) = true) (x0 : Int) (a0 b0 : Nat → Nat → Int) (hv0 : iv a0) (hp0 : 1 ≤ x0) (hp1 : x0 ≤ 4095) : ∀ n : Nat, (∀ (y0 y1 : Int), (((11 - y1) * 1) + 0).toNat ≤ n → 1 ≤ y0 → y0 ≤ 4095 → (y0 = x0) → 0 ≤ y1 → y1 ≤ 11 → (¬ jxshr x0 y1 = 0) → jt (jxX E d 269 2 [some (.inl y0), some (.inl y1)] [] (jxSH, a0, b0)) (jQ_X12_leastOf x0 a0 b0)) := by
  refine jx_ind fun n ih => ?_
  have ih2 : ∀ (y0 y1 : Int), (((11 - y1) * 1) + 0).toNat < n → 1 ≤ y0 → y0 ≤ 4095 → (y0 = x0) → 0 ≤ y1 → y1 ≤ 11 → (¬ jxshr x0 y1 = 0) → jt (jxX E d 269 2 [some (.inl y0), some (.inl y1)] [] (jxSH, a0, b0)) (jQ_X12_leastOf x0 a0 b0) := fun y0 y1 hlt i0 i1 i2 i3 i4 i5 => (ih _ hlt) y0 y1 (Nat.le_refl _) i0 i1 i2 i3 i4 i5
  have hc2 : ∀ (y0 y1 : Int), (((11 - y1) * 1) + 0).toNat ≤ n → 1 ≤ y0 → y0 ≤ 4095 → (y0 = x0) → 0 ≤ y1 → y1 ≤ 11 → (¬ jxshr x0 y1 = 0) → jt (jxX E d 269 2 [some (.inl y0), some (.inl y1)] [] (jxSH, a0, b0)) (jQ_X12_leastOf x0 a0 b0) := by
    intro y0 y1 hm hi0 hi1 hy0 hi3 hi4 hi5
    refine jt_eq (bq_X12_leastOf_2 E d y0 y1 a0 b0) ?_
    have hls : jxand (jxshr y0 y1) 1 = 0 → y1 + 1 ≤ 11 ∧ ¬ jxshr x0 (y1 + 1) = 0 := fun h => by rw [hy0] at h; exact least_step (by omega) (by omega) (by omega) (by omega) (by assumption) h
    have h241_ := jxshr_b y0 y1
    have h242_ := jxand_r (jxshr y0 y1) 1 (by decide) (by decide)
    refine jt_ite (fun c243_ => ?_) (fun c243_ => ?_)
    ·
      have h244_ : jxw (y1 + 1) = y1 + 1 := jxw_id (by omega) (by omega)
      exact ih2 y0 (jxw (y1 + 1)) (show (((11 - (jxw (y1 + 1))) * 1) + 0).toNat < n from by omega) (show 1 ≤ y0 from by omega) (show y0 ≤ 4095 from by omega) (by first | rfl | assumption) (show 0 ≤ jxw (y1 + 1) from by omega) (show jxw (y1 + 1) ≤ 11 from by omega) (by first | exact least0 hp0 hp1 | (rw [jxw_id (by omega) (by omega)]; exact (hls (by assumption)).2))
    ·
      exact jt_rI ⟨rfl, rfl, (show 0 ≤ y1 from by omega), (show y1 ≤ 11 from by omega), (by rw [← hy0]; assumption)⟩
  exact hc2
theorem sp_X12_leastOf (E : jxE) (d : Nat) (hd : Nat.ble 1 d = true) (x0 : Int) (a0 b0 : Nat → Nat → Int) (hv0 : iv a0) (hp0 : 1 ≤ x0) (hp1 : x0 ≤ 4095) : jt (jxC E d 269 [.inl x0] (jxSH, a0, b0)) (jQ_X12_leastOf x0 a0 b0) := by
  obtain ⟨d, rfl⟩ := jd_succ hd
  refine jt_eq (bq_X12_leastOf E d x0 a0 b0) ?_
  exact (cp_X12_leastOf_2 E d hd x0 a0 b0 hv0 hp0 hp1 _) x0 0 (Nat.le_refl _) (show 1 ≤ x0 from by omega) (show x0 ≤ 4095 from by omega) (by first | rfl | assumption) (show 0 ≤ 0 from by omega) (show 0 ≤ 11 from by omega) (by first | exact least0 hp0 hp1 | (rw [jxw_id (by omega) (by omega)]; exact (hls (by assumption)).2))
def jW_X12_weighs : List (Nat × Nat) := [(146, 44), (170, 9999), (174, 9999)]
abbrev jQ_X12_weighs (a0 b0 : Nat → Nat → Int) : List jxV → (Nat → Nat → Int) → (Nat → Nat → Int) → Prop := rV (fun a b => (iv a) ∧ (jfr jW_X12_weighs a0 a) ∧ (a 146 44 ≤ a 146 42))
theorem cp_X12_weighs_64 (E : jxE) (d : Nat) (hd : Nat.ble 8 (d + 1) = true) (a0 b0 : Nat → Nat → Int) (hv0 : iv a0) (hp0 : WFW a0) : ∀ n : Nat, (∀ (y1 y2 : Int) (a b : Nat → Nat → Int), (((((8 - y1) * 43) + 0) + ((40 - y2) * 1)) + 0).toNat ≤ n → iv a → jfr jW_X12_weighs a0 a → 0 ≤ y1 → y1 ≤ 7 → 0 ≤ y2 → y2 ≤ 39 → 1 ≤ a 146 2 → 1 ≤ a 146 44 → a 146 44 ≤ a 146 42 → jt (jxX E d 254 142 [some (.inr (.inr (.inl 146))), some (.inl y1), some (.inl y2), none] [] (jxSH, a, b)) (jQ_X12_weighs a0 b0)) ∧ (∀ (y1 y2 : Int) (a b : Nat → Nat → Int), (((((8 - y1) * 43) + 0) + ((40 - y2) * 1)) + 0).toNat ≤ n → iv a → jfr jW_X12_weighs a0 a → 0 ≤ y1 → y1 ≤ 7 → 0 ≤ y2 → y2 ≤ 40 → 1 ≤ a 146 44 → a 146 44 ≤ a 146 42 → jt (jxX E d 254 74 [some (.inr (.inr (.inl 146))), some (.inl y1), some (.inl y2), none] [] (jxSH, a, b)) (jQ_X12_weighs a0 b0)) ∧ (∀ (y1 : Int) (a b : Nat → Nat → Int), (((8 - y1) * 43) + 42).toNat ≤ n → iv a → jfr jW_X12_weighs a0 a → 0 ≤ y1 → y1 ≤ 8 → a 146 44 ≤ a 146 42 → jt (jxX E d 254 64 [some (.inr (.inr (.inl 146))), some (.inl y1), none, none] [] (jxSH, a, b)) (jQ_X12_weighs a0 b0)) := by
  refine jx_ind fun n ih => ?_
  have ih142 : ∀ (y1 y2 : Int) (a b : Nat → Nat → Int), (((((8 - y1) * 43) + 0) + ((40 - y2) * 1)) + 0).toNat < n → iv a → jfr jW_X12_weighs a0 a → 0 ≤ y1 → y1 ≤ 7 → 0 ≤ y2 → y2 ≤ 39 → 1 ≤ a 146 2 → 1 ≤ a 146 44 → a 146 44 ≤ a 146 42 → jt (jxX E d 254 142 [some (.inr (.inr (.inl 146))), some (.inl y1), some (.inl y2), none] [] (jxSH, a, b)) (jQ_X12_weighs a0 b0) := fun y1 y2 a b hlt i0 i1 i2 i3 i4 i5 i6 i7 i8 => (ih _ hlt).1 y1 y2 a b (Nat.le_refl _) i0 i1 i2 i3 i4 i5 i6 i7 i8
  have ih74 : ∀ (y1 y2 : Int) (a b : Nat → Nat → Int), (((((8 - y1) * 43) + 0) + ((40 - y2) * 1)) + 0).toNat < n → iv a → jfr jW_X12_weighs a0 a → 0 ≤ y1 → y1 ≤ 7 → 0 ≤ y2 → y2 ≤ 40 → 1 ≤ a 146 44 → a 146 44 ≤ a 146 42 → jt (jxX E d 254 74 [some (.inr (.inr (.inl 146))), some (.inl y1), some (.inl y2), none] [] (jxSH, a, b)) (jQ_X12_weighs a0 b0) := fun y1 y2 a b hlt i0 i1 i2 i3 i4 i5 i6 i7 => (ih _ hlt).2.1 y1 y2 a b (Nat.le_refl _) i0 i1 i2 i3 i4 i5 i6 i7
  have ih64 : ∀ (y1 : Int) (a b : Nat → Nat → Int), (((8 - y1) * 43) + 42).toNat < n → iv a → jfr jW_X12_weighs a0 a → 0 ≤ y1 → y1 ≤ 8 → a 146 44 ≤ a 146 42 → jt (jxX E d 254 64 [some (.inr (.inr (.inl 146))), some (.inl y1), none, none] [] (jxSH, a, b)) (jQ_X12_weighs a0 b0) := fun y1 a b hlt i0 i1 i2 i3 i4 => (ih _ hlt).2.2 y1 a b (Nat.le_refl _) i0 i1 i2 i3 i4
  have hc142 : ∀ (y1 y2 : Int) (a b : Nat → Nat → Int), (((((8 - y1) * 43) + 0) + ((40 - y2) * 1)) + 0).toNat ≤ n → iv a → jfr jW_X12_weighs a0 a → 0 ≤ y1 → y1 ≤ 7 → 0 ≤ y2 → y2 ≤ 39 → 1 ≤ a 146 2 → 1 ≤ a 146 44 → a 146 44 ≤ a 146 42 → jt (jxX E d 254 142 [some (.inr (.inr (.inl 146))), some (.inl y1), some (.inl y2), none] [] (jxSH, a, b)) (jQ_X12_weighs a0 b0) := by
    intro y1 y2 a b hm hv hf hi0 hi1 hi2 hi3 hi4 hi5 hi6
    refine jt_eq (bq_X12_weighs_142 E d y1 y2 a b) ?_
    have h245_ := iv_get hv (k := 146) (j := 2) (l := 0) (u := 40) rfl
    have h246_ : a 146 2 = a0 146 2 := hf 146 2 rfl
    have h247_ := iv_get hv0 (k := 146) (j := 2) (l := 0) (u := 40) rfl
    have h248_ := iv_get hv (k := 146) (j := 44) (l := 0) (u := 8) rfl
    have h249_ := iv_get hv (k := 146) (j := 42) (l := 0) (u := 8) rfl
    have h250_ : a 146 42 = a0 146 42 := hf 146 42 rfl
    have h251_ := iv_get hv0 (k := 146) (j := 42) (l := 0) (u := 8) rfl
    have h252_ : jxw (y2 + 1) = y2 + 1 := jxw_id (by omega) (by omega)
    exact ih74 y1 (jxw (y2 + 1)) a b (show (((((8 - y1) * 43) + 0) + ((40 - (jxw (y2 + 1))) * 1)) + 0).toNat < n from by omega) hv hf (show 0 ≤ y1 from by omega) (show y1 ≤ 7 from by omega) (show 0 ≤ jxw (y2 + 1) from by omega) (show jxw (y2 + 1) ≤ 40 from by omega) (show 1 ≤ a 146 44 from by omega) (show a 146 44 ≤ a 146 42 from by omega)
  have hc74 : ∀ (y1 y2 : Int) (a b : Nat → Nat → Int), (((((8 - y1) * 43) + 0) + ((40 - y2) * 1)) + 0).toNat ≤ n → iv a → jfr jW_X12_weighs a0 a → 0 ≤ y1 → y1 ≤ 7 → 0 ≤ y2 → y2 ≤ 40 → 1 ≤ a 146 44 → a 146 44 ≤ a 146 42 → jt (jxX E d 254 74 [some (.inr (.inr (.inl 146))), some (.inl y1), some (.inl y2), none] [] (jxSH, a, b)) (jQ_X12_weighs a0 b0) := by
    intro y1 y2 a b hm hv hf hi0 hi1 hi2 hi3 hi4 hi5
    refine jt_eq (bq_X12_weighs_74 E d y1 y2 a b) ?_
    have h253_ := iv_get hv (k := 146) (j := 44) (l := 0) (u := 8) rfl
    have h254_ := iv_get hv (k := 146) (j := 42) (l := 0) (u := 8) rfl
    have h255_ : a 146 42 = a0 146 42 := hf 146 42 rfl
    have h256_ := iv_get hv0 (k := 146) (j := 42) (l := 0) (u := 8) rfl
    have h257_ := iv_get hv (k := 146) (j := 2) (l := 0) (u := 40) rfl
    have h258_ : a 146 2 = a0 146 2 := hf 146 2 rfl
    have h259_ := iv_get hv0 (k := 146) (j := 2) (l := 0) (u := 40) rfl
    refine jt_ite (fun c260_ => ?_) (fun c260_ => ?_)
    ·
      refine jt_grd (by omega) ?_
      have h261_ := iv_get hv (k := 174) (j := y1.toNat) (l := 0) (u := 39) rfl
      refine jt_bI (sp_X12_mayGet E d (jd_le hd rfl) (a 174 (y1.toNat)) y2 a b hv (show (0 ≤ a 174 (y1.toNat) ∧ a 174 (y1.toNat) ≤ 39) from by omega) (show (0 ≤ y2 ∧ y2 ≤ 39) from by omega) (WFW_fr hp0 hf (fun _ => rfl) (fun _ => rfl))) (fun r262_ a262_ b262_ h262_ => ?_)
      obtain ⟨hv262_, hf262_, rfl, hq262_0⟩ := h262_
      refine jt_ite (fun c263_ => ?_) (fun c263_ => ?_)
      ·
        have h264_ : jxw (40 * y1) = 40 * y1 := jxw_id (by omega) (by omega)
        have h265_ : jxw ((jxw (40 * y1)) + y2) = (jxw (40 * y1)) + y2 := jxw_id (by omega) (by omega)
        refine jt_grd (by omega) ?_
        have hf266_ : jfr jW_X12_weighs a0 a262_ := jfr_tr hf hf262_ rfl
        have h267_ := iv_get hv262_ (k := 146) (j := 2) (l := 0) (u := 40) rfl
        have h268_ : a262_ 146 2 = a 146 2 := hf262_ 146 2 rfl
        have h269_ := iv_get hv262_ (k := 146) (j := 44) (l := 0) (u := 8) rfl
        have h270_ : a262_ 146 44 = a 146 44 := hf262_ 146 44 rfl
        have h271_ := iv_get hv262_ (k := 146) (j := 42) (l := 0) (u := 8) rfl
        have h272_ : a262_ 146 42 = a 146 42 := hf262_ 146 42 rfl
        exact hc142 y1 y2 a262_ (jxu b 175 ((jxw ((jxw (40 * y1)) + y2)).toNat) (-4000000000000000000)) (show (((((8 - y1) * 43) + 0) + ((40 - y2) * 1)) + 0).toNat ≤ n from by omega) hv262_ hf266_ (show 0 ≤ y1 from by omega) (show y1 ≤ 7 from by omega) (show 0 ≤ y2 from by omega) (show y2 ≤ 39 from by omega) (show 1 ≤ a262_ 146 2 from by omega) (show 1 ≤ a262_ 146 44 from by omega) (show a262_ 146 44 ≤ a262_ 146 42 from by omega)
      ·
        refine jt_grd (by omega) ?_
        have h273_ := iv_get hv262_ (k := 174) (j := y1.toNat) (l := 0) (u := 39) rfl
        have h274_ : a262_ 174 (y1.toNat) = a 174 (y1.toNat) := hf262_ 174 (y1.toNat) rfl
        refine jt_bI (sp_X12_unhappy E d (jd_le hd rfl) (a262_ 174 (y1.toNat)) y2 a262_ b hv262_ (show (0 ≤ a262_ 174 (y1.toNat) ∧ a262_ 174 (y1.toNat) ≤ 39) from by omega) (show (0 ≤ y2 ∧ y2 ≤ 39) from by omega) (WFW_fr (WFW_fr hp0 hf (fun _ => rfl) (fun _ => rfl)) hf262_ (fun _ => rfl) (fun _ => rfl))) (fun r275_ a275_ b275_ h275_ => ?_)
        obtain ⟨hv275_, hf275_, rfl, hq275_0, hq275_1⟩ := h275_
        refine jt_bI (sp_X12_owed E d (jd_le hd rfl) y2 a275_ b hv275_ (show (0 ≤ y2 ∧ y2 ≤ 39) from by omega)) (fun r276_ a276_ b276_ h276_ => ?_)
        obtain ⟨rfl, rfl⟩ := h276_
        have h277_ : jxw (40 * y1) = 40 * y1 := jxw_id (by omega) (by omega)
        have h278_ : jxw ((jxw (40 * y1)) + y2) = (jxw (40 * y1)) + y2 := jxw_id (by omega) (by omega)
        refine jt_grd (by omega) ?_
        have hf279_ : jfr jW_X12_weighs a0 a262_ := jfr_tr hf hf262_ rfl
        have hf280_ : jfr jW_X12_weighs a0 a275_ := jfr_tr hf279_ hf275_ rfl
        have h281_ := iv_get hv275_ (k := 146) (j := 2) (l := 0) (u := 40) rfl
        have h282_ : a275_ 146 2 = a262_ 146 2 := hf275_ 146 2 rfl
        have h283_ := iv_get hv262_ (k := 146) (j := 2) (l := 0) (u := 40) rfl
        have h284_ : a262_ 146 2 = a 146 2 := hf262_ 146 2 rfl
        have h285_ := iv_get hv275_ (k := 146) (j := 44) (l := 0) (u := 8) rfl
        have h286_ : a275_ 146 44 = a262_ 146 44 := hf275_ 146 44 rfl
        have h287_ := iv_get hv262_ (k := 146) (j := 44) (l := 0) (u := 8) rfl
        have h288_ : a262_ 146 44 = a 146 44 := hf262_ 146 44 rfl
        have h289_ := iv_get hv275_ (k := 146) (j := 42) (l := 0) (u := 8) rfl
        have h290_ : a275_ 146 42 = a262_ 146 42 := hf275_ 146 42 rfl
        have h291_ := iv_get hv262_ (k := 146) (j := 42) (l := 0) (u := 8) rfl
        have h292_ : a262_ 146 42 = a 146 42 := hf262_ 146 42 rfl
        exact hc142 y1 y2 a275_ (jxu b 175 ((jxw ((jxw (40 * y1)) + y2)).toNat) (jxwl ((jxwl (1000000000 - (jxwl (1000000 * r275_)))) + r276_))) (show (((((8 - y1) * 43) + 0) + ((40 - y2) * 1)) + 0).toNat ≤ n from by omega) hv275_ hf280_ (show 0 ≤ y1 from by omega) (show y1 ≤ 7 from by omega) (show 0 ≤ y2 from by omega) (show y2 ≤ 39 from by omega) (show 1 ≤ a275_ 146 2 from by omega) (show 1 ≤ a275_ 146 44 from by omega) (show a275_ 146 44 ≤ a275_ 146 42 from by omega)
    ·
      have h293_ : jxw (y1 + 1) = y1 + 1 := jxw_id (by omega) (by omega)
      exact ih64 (jxw (y1 + 1)) a b (show (((8 - (jxw (y1 + 1))) * 43) + 42).toNat < n from by omega) hv hf (show 0 ≤ jxw (y1 + 1) from by omega) (show jxw (y1 + 1) ≤ 8 from by omega) (show a 146 44 ≤ a 146 42 from by omega)
  have hc64 : ∀ (y1 : Int) (a b : Nat → Nat → Int), (((8 - y1) * 43) + 42).toNat ≤ n → iv a → jfr jW_X12_weighs a0 a → 0 ≤ y1 → y1 ≤ 8 → a 146 44 ≤ a 146 42 → jt (jxX E d 254 64 [some (.inr (.inr (.inl 146))), some (.inl y1), none, none] [] (jxSH, a, b)) (jQ_X12_weighs a0 b0) := by
    intro y1 a b hm hv hf hi0 hi1 hi2
    refine jt_eq (bq_X12_weighs_64 E d y1 a b) ?_
    have h294_ := iv_get hv (k := 146) (j := 44) (l := 0) (u := 8) rfl
    have h295_ := iv_get hv (k := 146) (j := 42) (l := 0) (u := 8) rfl
    have h296_ : a 146 42 = a0 146 42 := hf 146 42 rfl
    have h297_ := iv_get hv0 (k := 146) (j := 42) (l := 0) (u := 8) rfl
    refine jt_ite (fun c298_ => ?_) (fun c298_ => ?_)
    ·
      exact hc74 y1 0 a b (show (((((8 - y1) * 43) + 0) + ((40 - 0) * 1)) + 0).toNat ≤ n from by omega) hv hf (show 0 ≤ y1 from by omega) (show y1 ≤ 7 from by omega) (show 0 ≤ 0 from by omega) (show 0 ≤ 40 from by omega) (show 1 ≤ a 146 44 from by omega) (show a 146 44 ≤ a 146 42 from by omega)
    ·
      exact jt_rV ⟨hv, hf, (show a 146 44 ≤ a 146 42 from by omega)⟩
  exact ⟨hc142, hc74, hc64⟩
theorem cp_X12_weighs_7 (E : jxE) (d : Nat) (hd : Nat.ble 8 (d + 1) = true) (a0 b0 : Nat → Nat → Int) (hv0 : iv a0) (hp0 : WFW a0) : ∀ n : Nat, (∀ (y1 : Int) (a b : Nat → Nat → Int), (((8 - y1) * 1) + 0).toNat ≤ n → iv a → jfr jW_X12_weighs a0 a → 0 ≤ y1 → y1 ≤ 7 → 1 ≤ a 146 42 → a 146 44 ≤ 7 → a 146 44 ≤ y1 → y1 < a 146 42 → a 146 44 ≤ a 146 42 → jt (jxX E d 254 46 [some (.inr (.inr (.inl 146))), some (.inl y1), none, none] [] (jxSH, a, b)) (jQ_X12_weighs a0 b0)) ∧ (∀ (y1 : Int) (a b : Nat → Nat → Int), (((8 - y1) * 1) + 0).toNat ≤ n → iv a → jfr jW_X12_weighs a0 a → 0 ≤ y1 → y1 ≤ 8 → a 146 44 ≤ y1 → a 146 44 ≤ a 146 42 → jt (jxX E d 254 7 [some (.inr (.inr (.inl 146))), some (.inl y1), none, none] [] (jxSH, a, b)) (jQ_X12_weighs a0 b0)) := by
  refine jx_ind fun n ih => ?_
  have ih46 : ∀ (y1 : Int) (a b : Nat → Nat → Int), (((8 - y1) * 1) + 0).toNat < n → iv a → jfr jW_X12_weighs a0 a → 0 ≤ y1 → y1 ≤ 7 → 1 ≤ a 146 42 → a 146 44 ≤ 7 → a 146 44 ≤ y1 → y1 < a 146 42 → a 146 44 ≤ a 146 42 → jt (jxX E d 254 46 [some (.inr (.inr (.inl 146))), some (.inl y1), none, none] [] (jxSH, a, b)) (jQ_X12_weighs a0 b0) := fun y1 a b hlt i0 i1 i2 i3 i4 i5 i6 i7 i8 => (ih _ hlt).1 y1 a b (Nat.le_refl _) i0 i1 i2 i3 i4 i5 i6 i7 i8
  have ih7 : ∀ (y1 : Int) (a b : Nat → Nat → Int), (((8 - y1) * 1) + 0).toNat < n → iv a → jfr jW_X12_weighs a0 a → 0 ≤ y1 → y1 ≤ 8 → a 146 44 ≤ y1 → a 146 44 ≤ a 146 42 → jt (jxX E d 254 7 [some (.inr (.inr (.inl 146))), some (.inl y1), none, none] [] (jxSH, a, b)) (jQ_X12_weighs a0 b0) := fun y1 a b hlt i0 i1 i2 i3 i4 i5 => (ih _ hlt).2 y1 a b (Nat.le_refl _) i0 i1 i2 i3 i4 i5
  have hc46 : ∀ (y1 : Int) (a b : Nat → Nat → Int), (((8 - y1) * 1) + 0).toNat ≤ n → iv a → jfr jW_X12_weighs a0 a → 0 ≤ y1 → y1 ≤ 7 → 1 ≤ a 146 42 → a 146 44 ≤ 7 → a 146 44 ≤ y1 → y1 < a 146 42 → a 146 44 ≤ a 146 42 → jt (jxX E d 254 46 [some (.inr (.inr (.inl 146))), some (.inl y1), none, none] [] (jxSH, a, b)) (jQ_X12_weighs a0 b0) := by
    intro y1 a b hm hv hf hi0 hi1 hi2 hi3 hi4 hi5 hi6
    refine jt_eq (bq_X12_weighs_46 E d y1 a b) ?_
    have h299_ := iv_get hv (k := 146) (j := 42) (l := 0) (u := 8) rfl
    have h300_ : a 146 42 = a0 146 42 := hf 146 42 rfl
    have h301_ := iv_get hv0 (k := 146) (j := 42) (l := 0) (u := 8) rfl
    have h302_ := iv_get hv (k := 146) (j := 44) (l := 0) (u := 8) rfl
    have h304_ : jxw ((a 146 44) + 1) = (a 146 44) + 1 := jxw_id (by omega) (by omega)
    have hv303_ : iv (jxu a 146 44 (jxw ((a 146 44) + 1))) := iv_put hv (l := 0) (u := 8) rfl (by omega) (by omega)
    have hf305_ : jfr jW_X12_weighs a0 (jxu a 146 44 (jxw ((a 146 44) + 1))) := jfr_put hf rfl
    have h306_ : jxw (y1 + 1) = y1 + 1 := jxw_id (by omega) (by omega)
    exact ih7 (jxw (y1 + 1)) (jxu a 146 44 (jxw ((a 146 44) + 1))) b (show (((8 - (jxw (y1 + 1))) * 1) + 0).toNat < n from by omega) hv303_ hf305_ (show 0 ≤ jxw (y1 + 1) from by omega) (show jxw (y1 + 1) ≤ 8 from by omega) (show jxw ((a 146 44) + 1) ≤ jxw (y1 + 1) from by omega) (show jxw ((a 146 44) + 1) ≤ a 146 42 from by omega)
  have hc7 : ∀ (y1 : Int) (a b : Nat → Nat → Int), (((8 - y1) * 1) + 0).toNat ≤ n → iv a → jfr jW_X12_weighs a0 a → 0 ≤ y1 → y1 ≤ 8 → a 146 44 ≤ y1 → a 146 44 ≤ a 146 42 → jt (jxX E d 254 7 [some (.inr (.inr (.inl 146))), some (.inl y1), none, none] [] (jxSH, a, b)) (jQ_X12_weighs a0 b0) := by
    intro y1 a b hm hv hf hi0 hi1 hi2 hi3
    refine jt_eq (bq_X12_weighs_7 E d y1 a b) ?_
    have h307_ := iv_get hv (k := 146) (j := 44) (l := 0) (u := 8) rfl
    have h308_ := iv_get hv (k := 146) (j := 42) (l := 0) (u := 8) rfl
    have h309_ : a 146 42 = a0 146 42 := hf 146 42 rfl
    have h310_ := iv_get hv0 (k := 146) (j := 42) (l := 0) (u := 8) rfl
    refine jt_ite (fun c311_ => ?_) (fun c311_ => ?_)
    ·
      refine jt_grd (by omega) ?_
      have h312_ := iv_get hv (k := 173) (j := y1.toNat) (l := 0) (u := 39) rfl
      have h313_ : a 173 (y1.toNat) = a0 173 (y1.toNat) := hf 173 (y1.toNat) rfl
      have h314_ := iv_get hv0 (k := 173) (j := y1.toNat) (l := 0) (u := 39) rfl
      refine jt_bI (sp_X12_mayAsk E d (jd_le hd rfl) (a 173 (y1.toNat)) a b hv (show (0 ≤ a 173 (y1.toNat) ∧ a 173 (y1.toNat) ≤ 39) from by omega)) (fun r315_ a315_ b315_ h315_ => ?_)
      obtain ⟨rfl, rfl, hq315_0⟩ := h315_
      refine jt_ite (fun c316_ => ?_) (fun c316_ => ?_)
      ·
        have h317_ : jxw (y1 + 1) = y1 + 1 := jxw_id (by omega) (by omega)
        exact ih7 (jxw (y1 + 1)) a b (show (((8 - (jxw (y1 + 1))) * 1) + 0).toNat < n from by omega) hv hf (show 0 ≤ jxw (y1 + 1) from by omega) (show jxw (y1 + 1) ≤ 8 from by omega) (show a 146 44 ≤ jxw (y1 + 1) from by omega) (show a 146 44 ≤ a 146 42 from by omega)
      ·
        refine jt_grd (by omega) ?_
        refine jt_grd (by omega) ?_
        have hv318_ : iv (jxu a 174 ((a 146 44).toNat) (a 173 (y1.toNat))) := iv_put hv (l := 0) (u := 39) rfl (by omega) (by omega)
        have hf319_ : jfr jW_X12_weighs a0 (jxu a 174 ((a 146 44).toNat) (a 173 (y1.toNat))) := jfr_put hf rfl
        exact hc46 y1 (jxu a 174 ((a 146 44).toNat) (a 173 (y1.toNat))) b (show (((8 - y1) * 1) + 0).toNat ≤ n from by omega) hv318_ hf319_ (show 0 ≤ y1 from by omega) (show y1 ≤ 7 from by omega) (show 1 ≤ a 146 42 from by omega) (show a 146 44 ≤ 7 from by omega) (show a 146 44 ≤ y1 from by omega) (show y1 < a 146 42 from by omega) (show a 146 44 ≤ a 146 42 from by omega)
    ·
      exact (cp_X12_weighs_64 E d hd a0 b0 hv0 hp0 _).2.2 0 a b (Nat.le_refl _) hv hf (show 0 ≤ 0 from by omega) (show 0 ≤ 8 from by omega) (show a 146 44 ≤ a 146 42 from by omega)
  exact ⟨hc46, hc7⟩
theorem sp_X12_weighs (E : jxE) (d : Nat) (hd : Nat.ble 8 d = true) (a0 b0 : Nat → Nat → Int) (hv0 : iv a0) (hp0 : WFW a0) : jt (jxC E d 254 [.inr (.inr (.inl 146))] (jxSH, a0, b0)) (jQ_X12_weighs a0 b0) := by
  obtain ⟨d, rfl⟩ := jd_succ hd
  refine jt_eq (bq_X12_weighs E d a0 b0) ?_
  have hv320_ : iv (jxu a0 146 44 0) := iv_put hv0 (l := 0) (u := 8) rfl (by omega) (by omega)
  have hf321_ : jfr jW_X12_weighs a0 (jxu a0 146 44 0) := jfr_put (jfr_rf _ _) rfl
  have h322_ := iv_get hv0 (k := 146) (j := 42) (l := 0) (u := 8) rfl
  exact (cp_X12_weighs_7 E d hd a0 b0 hv0 hp0 _).2 0 (jxu a0 146 44 0) b0 (Nat.le_refl _) hv320_ hf321_ (show 0 ≤ 0 from by omega) (show 0 ≤ 8 from by omega) (show 0 ≤ 0 from by omega) (show 0 ≤ a0 146 42 from by omega)
def jW_X12_give : List (Nat × Nat) := [(146, 9), (146, 39), (146, 40), (146, 41), (146, 42), (146, 44), (154, 9999), (155, 9999), (156, 9999), (157, 9999), (158, 9999), (159, 9999), (160, 9999), (170, 9999), (174, 9999), (176, 9999)]
abbrev jQ_X12_give (a0 b0 : Nat → Nat → Int) : List jxV → (Nat → Nat → Int) → (Nat → Nat → Int) → Prop := rI (fun r a b => (iv a) ∧ (jfr jW_X12_give a0 a) ∧ (OC a) ∧ ((a0 146 42 = 0 → r = 0)))
theorem cp_X12_give_215 (E : jxE) (d : Nat) (hd : Nat.ble 9 (d + 1) = true) (a0 b0 : Nat → Nat → Int) (hv0 : iv a0) (hp0 : WFW a0) (hp1 : OC a0) : ∀ n : Nat, (∀ (y6 y7 : Int) (a b : Nat → Nat → Int), (((8 - y7) * 1) + 0).toNat ≤ n → iv a → jfr jW_X12_give a0 a → 0 ≤ y7 → y7 ≤ 7 → a 146 42 ≤ 0 → 1 ≤ a 146 44 → ((a 146 9) + (a 146 44)) - y7 ≤ 301 → (a0 146 42 = 0 → y6 = 0) → (OC a) → (a0 146 42 = 0 → a 146 44 = 0) → jt (jxX E d 255 258 [some (.inr (.inr (.inl 146))), none, none, none, none, none, some (.inl y6), some (.inl y7)] [] (jxSH, a, b)) (jQ_X12_give a0 b0)) ∧ (∀ (y6 y7 : Int) (a b : Nat → Nat → Int), (((8 - y7) * 1) + 0).toNat ≤ n → iv a → jfr jW_X12_give a0 a → 0 ≤ y7 → y7 ≤ 8 → a 146 42 ≤ 0 → ((a 146 9) + (a 146 44)) - y7 ≤ 300 → (a0 146 42 = 0 → y6 = 0) → (OC a) → (a0 146 42 = 0 → a 146 44 = 0) → jt (jxX E d 255 215 [some (.inr (.inr (.inl 146))), none, none, none, none, none, some (.inl y6), some (.inl y7)] [] (jxSH, a, b)) (jQ_X12_give a0 b0)) := by
  refine jx_ind fun n ih => ?_
  have ih258 : ∀ (y6 y7 : Int) (a b : Nat → Nat → Int), (((8 - y7) * 1) + 0).toNat < n → iv a → jfr jW_X12_give a0 a → 0 ≤ y7 → y7 ≤ 7 → a 146 42 ≤ 0 → 1 ≤ a 146 44 → ((a 146 9) + (a 146 44)) - y7 ≤ 301 → (a0 146 42 = 0 → y6 = 0) → (OC a) → (a0 146 42 = 0 → a 146 44 = 0) → jt (jxX E d 255 258 [some (.inr (.inr (.inl 146))), none, none, none, none, none, some (.inl y6), some (.inl y7)] [] (jxSH, a, b)) (jQ_X12_give a0 b0) := fun y6 y7 a b hlt i0 i1 i2 i3 i4 i5 i6 i7 i8 i9 => (ih _ hlt).1 y6 y7 a b (Nat.le_refl _) i0 i1 i2 i3 i4 i5 i6 i7 i8 i9
  have ih215 : ∀ (y6 y7 : Int) (a b : Nat → Nat → Int), (((8 - y7) * 1) + 0).toNat < n → iv a → jfr jW_X12_give a0 a → 0 ≤ y7 → y7 ≤ 8 → a 146 42 ≤ 0 → ((a 146 9) + (a 146 44)) - y7 ≤ 300 → (a0 146 42 = 0 → y6 = 0) → (OC a) → (a0 146 42 = 0 → a 146 44 = 0) → jt (jxX E d 255 215 [some (.inr (.inr (.inl 146))), none, none, none, none, none, some (.inl y6), some (.inl y7)] [] (jxSH, a, b)) (jQ_X12_give a0 b0) := fun y6 y7 a b hlt i0 i1 i2 i3 i4 i5 i6 i7 i8 => (ih _ hlt).2 y6 y7 a b (Nat.le_refl _) i0 i1 i2 i3 i4 i5 i6 i7 i8
  have hc258 : ∀ (y6 y7 : Int) (a b : Nat → Nat → Int), (((8 - y7) * 1) + 0).toNat ≤ n → iv a → jfr jW_X12_give a0 a → 0 ≤ y7 → y7 ≤ 7 → a 146 42 ≤ 0 → 1 ≤ a 146 44 → ((a 146 9) + (a 146 44)) - y7 ≤ 301 → (a0 146 42 = 0 → y6 = 0) → (OC a) → (a0 146 42 = 0 → a 146 44 = 0) → jt (jxX E d 255 258 [some (.inr (.inr (.inl 146))), none, none, none, none, none, some (.inl y6), some (.inl y7)] [] (jxSH, a, b)) (jQ_X12_give a0 b0) := by
    intro y6 y7 a b hm hv hf hi0 hi1 hi2 hi3 hi4 hi5 hi6 hi7
    refine jt_eq (bq_X12_give_258 E d y6 y7 a b) ?_
    have h323_ := iv_get hv (k := 146) (j := 42) (l := 0) (u := 8) rfl
    have h324_ := iv_get hv (k := 146) (j := 44) (l := 0) (u := 8) rfl
    have h325_ := iv_get hv (k := 146) (j := 9) (l := 0) (u := 300) rfl
    have h326_ := iv_get hv0 (k := 146) (j := 42) (l := 0) (u := 8) rfl
    have h327_ : jxw (y7 + 1) = y7 + 1 := jxw_id (by omega) (by omega)
    have h328_ := jxw_im (y6 + 1)
    have h329_ := jxw_rg (y6 + 1)
    exact ih215 (jxw (y6 + 1)) (jxw (y7 + 1)) a b (show (((8 - (jxw (y7 + 1))) * 1) + 0).toNat < n from by omega) hv hf (show 0 ≤ jxw (y7 + 1) from by omega) (show jxw (y7 + 1) ≤ 8 from by omega) (show a 146 42 ≤ 0 from by omega) (show ((a 146 9) + (a 146 44)) - (jxw (y7 + 1)) ≤ 300 from by omega) (show (a0 146 42 = 0 → jxw (y6 + 1) = 0) from by omega) hi6 (show (a0 146 42 = 0 → a 146 44 = 0) from by omega)
  have hc215 : ∀ (y6 y7 : Int) (a b : Nat → Nat → Int), (((8 - y7) * 1) + 0).toNat ≤ n → iv a → jfr jW_X12_give a0 a → 0 ≤ y7 → y7 ≤ 8 → a 146 42 ≤ 0 → ((a 146 9) + (a 146 44)) - y7 ≤ 300 → (a0 146 42 = 0 → y6 = 0) → (OC a) → (a0 146 42 = 0 → a 146 44 = 0) → jt (jxX E d 255 215 [some (.inr (.inr (.inl 146))), none, none, none, none, none, some (.inl y6), some (.inl y7)] [] (jxSH, a, b)) (jQ_X12_give a0 b0) := by
    intro y6 y7 a b hm hv hf hi0 hi1 hi2 hi3 hi4 hi5 hi6
    refine jt_eq (bq_X12_give_215 E d y6 y7 a b) ?_
    have h330_ := iv_get hv (k := 146) (j := 42) (l := 0) (u := 8) rfl
    have h331_ := iv_get hv (k := 146) (j := 9) (l := 0) (u := 300) rfl
    have h332_ := iv_get hv (k := 146) (j := 44) (l := 0) (u := 8) rfl
    have h333_ := iv_get hv0 (k := 146) (j := 42) (l := 0) (u := 8) rfl
    refine jt_ite (fun c334_ => ?_) (fun c334_ => ?_)
    ·
      refine jt_grd (by omega) ?_
      have h335_ := iv_get hv (k := 176) (j := y7.toNat) (l := (-1)) (u := 39) rfl
      refine jt_ite (fun c336_ => ?_) (fun c336_ => ?_)
      ·
        have h337_ : jxw (y7 + 1) = y7 + 1 := jxw_id (by omega) (by omega)
        exact ih215 y6 (jxw (y7 + 1)) a b (show (((8 - (jxw (y7 + 1))) * 1) + 0).toNat < n from by omega) hv hf (show 0 ≤ jxw (y7 + 1) from by omega) (show jxw (y7 + 1) ≤ 8 from by omega) (show a 146 42 ≤ 0 from by omega) (show ((a 146 9) + (a 146 44)) - (jxw (y7 + 1)) ≤ 300 from by omega) (show (a0 146 42 = 0 → y6 = 0) from by omega) hi5 (show (a0 146 42 = 0 → a 146 44 = 0) from by omega)
      ·
        refine jt_grd (by omega) ?_
        refine jt_grd (by omega) ?_
        have h338_ := iv_get hv (k := 174) (j := y7.toNat) (l := 0) (u := 39) rfl
        refine jt_bI (sp_X12_sends E d (jd_le hd rfl) (a 174 (y7.toNat)) (a 176 (y7.toNat)) (-1) a b hv (show (0 ≤ a 174 (y7.toNat) ∧ a 174 (y7.toNat) ≤ 39) from by omega) (show (0 ≤ a 176 (y7.toNat) ∧ a 176 (y7.toNat) ≤ 39) from by omega) (show a 146 9 ≤ 299 from by omega)) (fun r339_ a339_ b339_ h339_ => ?_)
        obtain ⟨hv339_, hf339_, rfl, hq339_0, hq339_1, hq339_2⟩ := h339_
        have h340_ := iv_get hv339_ (k := 146) (j := 9) (l := 0) (u := 300) rfl
        have hf341_ : jfr jW_X12_give a0 a339_ := jfr_tr hf hf339_ rfl
        have h342_ := iv_get hv339_ (k := 146) (j := 42) (l := 0) (u := 8) rfl
        have h343_ : a339_ 146 42 = a 146 42 := hf339_ 146 42 rfl
        have h344_ := iv_get hv339_ (k := 146) (j := 44) (l := 0) (u := 8) rfl
        have h345_ : a339_ 146 44 = a 146 44 := hf339_ 146 44 rfl
        exact hc258 y6 y7 a339_ b (show (((8 - y7) * 1) + 0).toNat ≤ n from by omega) hv339_ hf341_ (show 0 ≤ y7 from by omega) (show y7 ≤ 7 from by omega) (show a339_ 146 42 ≤ 0 from by omega) (show 1 ≤ a339_ 146 44 from by omega) (show ((a339_ 146 9) + (a339_ 146 44)) - y7 ≤ 301 from by omega) (show (a0 146 42 = 0 → y6 = 0) from by omega) (OC_card hi5 hq339_0 (hf339_ 146 49 rfl) (fun c hc => hq339_2 c hc) (fun j => hf339_ 178 j rfl) (fun j => hf339_ 181 j rfl) (fun j => hf339_ 182 j rfl)) (show (a0 146 42 = 0 → a339_ 146 44 = 0) from by omega)
    ·
      exact jt_rI ⟨hv, hf, hi5, (show (a0 146 42 = 0 → y6 = 0) from by omega)⟩
  exact ⟨hc258, hc215⟩
theorem cp_X12_give_48 (E : jxE) (d : Nat) (hd : Nat.ble 9 (d + 1) = true) (a0 b0 : Nat → Nat → Int) (hv0 : iv a0) (hp0 : WFW a0) (hp1 : OC a0) : ∀ n : Nat, (∀ (y1 y2 y4 y6 y7 : Int) (a b : Nat → Nat → Int), (((((8 - y6) * 43) + 0) + ((40 - y7) * 1)) + 0).toNat ≤ n → iv a → jfr jW_X12_give a0 a → 0 ≤ y1 → y1 ≤ 255 → 0 ≤ y6 → y6 ≤ 7 → 0 ≤ y7 → y7 ≤ 39 → 1 ≤ a 146 2 → a 146 42 ≤ 0 → 1 ≤ a 146 44 → (a 146 9) + (a 146 44) ≤ 300 → (OC a) → (a0 146 42 = 0 → a 146 44 = 0) → jt (jxX E d 255 197 [some (.inr (.inr (.inl 146))), some (.inl y1), some (.inr (.inl y2)), none, some (.inr (.inl y4)), none, some (.inl y6), some (.inl y7)] [] (jxSH, a, b)) (jQ_X12_give a0 b0)) ∧ (∀ (y1 y2 y4 y6 y7 : Int) (a b : Nat → Nat → Int), (((((8 - y6) * 43) + 0) + ((40 - y7) * 1)) + 0).toNat ≤ n → iv a → jfr jW_X12_give a0 a → 0 ≤ y1 → y1 ≤ 255 → 0 ≤ y6 → y6 ≤ 7 → 0 ≤ y7 → y7 ≤ 39 → 1 ≤ a 146 2 → a 146 42 ≤ 0 → 1 ≤ a 146 44 → (a 146 9) + (a 146 44) ≤ 300 → (OC a) → (a0 146 42 = 0 → a 146 44 = 0) → jt (jxX E d 255 160 [some (.inr (.inr (.inl 146))), some (.inl y1), some (.inr (.inl y2)), none, some (.inr (.inl y4)), none, some (.inl y6), some (.inl y7)] [] (jxSH, a, b)) (jQ_X12_give a0 b0)) ∧ (∀ (y1 y2 y4 y6 y7 : Int) (a b : Nat → Nat → Int), (((((8 - y6) * 43) + 0) + ((40 - y7) * 1)) + 0).toNat ≤ n → iv a → jfr jW_X12_give a0 a → 0 ≤ y1 → y1 ≤ 255 → 0 ≤ y6 → y6 ≤ 7 → 0 ≤ y7 → y7 ≤ 39 → 1 ≤ a 146 2 → a 146 42 ≤ 0 → 1 ≤ a 146 44 → (a 146 9) + (a 146 44) ≤ 300 → (OC a) → (a0 146 42 = 0 → a 146 44 = 0) → jt (jxX E d 255 163 [some (.inr (.inr (.inl 146))), some (.inl y1), some (.inr (.inl y2)), none, some (.inr (.inl y4)), none, some (.inl y6), some (.inl y7)] [] (jxSH, a, b)) (jQ_X12_give a0 b0)) ∧ (∀ (y1 y2 y4 y6 y7 : Int) (a b : Nat → Nat → Int), (((((8 - y6) * 43) + 0) + ((40 - y7) * 1)) + 0).toNat ≤ n → iv a → jfr jW_X12_give a0 a → 0 ≤ y1 → y1 ≤ 255 → 0 ≤ y6 → y6 ≤ 7 → 0 ≤ y7 → y7 ≤ 39 → 1 ≤ a 146 2 → a 146 42 ≤ 0 → 1 ≤ a 146 44 → (a 146 9) + (a 146 44) ≤ 300 → (OC a) → (a0 146 42 = 0 → a 146 44 = 0) → jt (jxX E d 255 106 [some (.inr (.inr (.inl 146))), some (.inl y1), some (.inr (.inl y2)), none, some (.inr (.inl y4)), none, some (.inl y6), some (.inl y7)] [] (jxSH, a, b)) (jQ_X12_give a0 b0)) ∧ (∀ (y1 y2 y4 y6 y7 : Int) (a b : Nat → Nat → Int), (((((8 - y6) * 43) + 0) + ((40 - y7) * 1)) + 0).toNat ≤ n → iv a → jfr jW_X12_give a0 a → 0 ≤ y1 → y1 ≤ 255 → 0 ≤ y6 → y6 ≤ 7 → 0 ≤ y7 → y7 ≤ 40 → a 146 42 ≤ 0 → 1 ≤ a 146 44 → (a 146 9) + (a 146 44) ≤ 300 → (OC a) → (a0 146 42 = 0 → a 146 44 = 0) → jt (jxX E d 255 75 [some (.inr (.inr (.inl 146))), some (.inl y1), some (.inr (.inl y2)), none, some (.inr (.inl y4)), none, some (.inl y6), some (.inl y7)] [] (jxSH, a, b)) (jQ_X12_give a0 b0)) ∧ (∀ (y1 y2 y4 y6 : Int) (a b : Nat → Nat → Int), (((8 - y6) * 43) + 42).toNat ≤ n → iv a → jfr jW_X12_give a0 a → 0 ≤ y1 → y1 ≤ 255 → 0 ≤ y6 → y6 ≤ 7 → a 146 42 ≤ 0 → 1 ≤ a 146 44 → (a 146 9) + (a 146 44) ≤ 300 → (OC a) → (a0 146 42 = 0 → a 146 44 = 0) → jt (jxX E d 255 72 [some (.inr (.inr (.inl 146))), some (.inl y1), some (.inr (.inl y2)), none, some (.inr (.inl y4)), none, some (.inl y6), none] [] (jxSH, a, b)) (jQ_X12_give a0 b0)) ∧ (∀ (y1 y2 y4 y6 : Int) (a b : Nat → Nat → Int), (((8 - y6) * 43) + 42).toNat ≤ n → iv a → jfr jW_X12_give a0 a → 0 ≤ y1 → y1 ≤ 255 → 0 ≤ y6 → y6 ≤ 8 → a 146 42 ≤ 0 → (a 146 9) + (a 146 44) ≤ 300 → (OC a) → (a0 146 42 = 0 → a 146 44 = 0) → jt (jxX E d 255 48 [some (.inr (.inr (.inl 146))), some (.inl y1), some (.inr (.inl y2)), none, some (.inr (.inl y4)), none, some (.inl y6), none] [] (jxSH, a, b)) (jQ_X12_give a0 b0)) := by
  refine jx_ind fun n ih => ?_
  have ih197 : ∀ (y1 y2 y4 y6 y7 : Int) (a b : Nat → Nat → Int), (((((8 - y6) * 43) + 0) + ((40 - y7) * 1)) + 0).toNat < n → iv a → jfr jW_X12_give a0 a → 0 ≤ y1 → y1 ≤ 255 → 0 ≤ y6 → y6 ≤ 7 → 0 ≤ y7 → y7 ≤ 39 → 1 ≤ a 146 2 → a 146 42 ≤ 0 → 1 ≤ a 146 44 → (a 146 9) + (a 146 44) ≤ 300 → (OC a) → (a0 146 42 = 0 → a 146 44 = 0) → jt (jxX E d 255 197 [some (.inr (.inr (.inl 146))), some (.inl y1), some (.inr (.inl y2)), none, some (.inr (.inl y4)), none, some (.inl y6), some (.inl y7)] [] (jxSH, a, b)) (jQ_X12_give a0 b0) := fun y1 y2 y4 y6 y7 a b hlt i0 i1 i2 i3 i4 i5 i6 i7 i8 i9 i10 i11 i12 i13 => (ih _ hlt).1 y1 y2 y4 y6 y7 a b (Nat.le_refl _) i0 i1 i2 i3 i4 i5 i6 i7 i8 i9 i10 i11 i12 i13
  have ih160 : ∀ (y1 y2 y4 y6 y7 : Int) (a b : Nat → Nat → Int), (((((8 - y6) * 43) + 0) + ((40 - y7) * 1)) + 0).toNat < n → iv a → jfr jW_X12_give a0 a → 0 ≤ y1 → y1 ≤ 255 → 0 ≤ y6 → y6 ≤ 7 → 0 ≤ y7 → y7 ≤ 39 → 1 ≤ a 146 2 → a 146 42 ≤ 0 → 1 ≤ a 146 44 → (a 146 9) + (a 146 44) ≤ 300 → (OC a) → (a0 146 42 = 0 → a 146 44 = 0) → jt (jxX E d 255 160 [some (.inr (.inr (.inl 146))), some (.inl y1), some (.inr (.inl y2)), none, some (.inr (.inl y4)), none, some (.inl y6), some (.inl y7)] [] (jxSH, a, b)) (jQ_X12_give a0 b0) := fun y1 y2 y4 y6 y7 a b hlt i0 i1 i2 i3 i4 i5 i6 i7 i8 i9 i10 i11 i12 i13 => (ih _ hlt).2.1 y1 y2 y4 y6 y7 a b (Nat.le_refl _) i0 i1 i2 i3 i4 i5 i6 i7 i8 i9 i10 i11 i12 i13
  have ih163 : ∀ (y1 y2 y4 y6 y7 : Int) (a b : Nat → Nat → Int), (((((8 - y6) * 43) + 0) + ((40 - y7) * 1)) + 0).toNat < n → iv a → jfr jW_X12_give a0 a → 0 ≤ y1 → y1 ≤ 255 → 0 ≤ y6 → y6 ≤ 7 → 0 ≤ y7 → y7 ≤ 39 → 1 ≤ a 146 2 → a 146 42 ≤ 0 → 1 ≤ a 146 44 → (a 146 9) + (a 146 44) ≤ 300 → (OC a) → (a0 146 42 = 0 → a 146 44 = 0) → jt (jxX E d 255 163 [some (.inr (.inr (.inl 146))), some (.inl y1), some (.inr (.inl y2)), none, some (.inr (.inl y4)), none, some (.inl y6), some (.inl y7)] [] (jxSH, a, b)) (jQ_X12_give a0 b0) := fun y1 y2 y4 y6 y7 a b hlt i0 i1 i2 i3 i4 i5 i6 i7 i8 i9 i10 i11 i12 i13 => (ih _ hlt).2.2.1 y1 y2 y4 y6 y7 a b (Nat.le_refl _) i0 i1 i2 i3 i4 i5 i6 i7 i8 i9 i10 i11 i12 i13
  have ih106 : ∀ (y1 y2 y4 y6 y7 : Int) (a b : Nat → Nat → Int), (((((8 - y6) * 43) + 0) + ((40 - y7) * 1)) + 0).toNat < n → iv a → jfr jW_X12_give a0 a → 0 ≤ y1 → y1 ≤ 255 → 0 ≤ y6 → y6 ≤ 7 → 0 ≤ y7 → y7 ≤ 39 → 1 ≤ a 146 2 → a 146 42 ≤ 0 → 1 ≤ a 146 44 → (a 146 9) + (a 146 44) ≤ 300 → (OC a) → (a0 146 42 = 0 → a 146 44 = 0) → jt (jxX E d 255 106 [some (.inr (.inr (.inl 146))), some (.inl y1), some (.inr (.inl y2)), none, some (.inr (.inl y4)), none, some (.inl y6), some (.inl y7)] [] (jxSH, a, b)) (jQ_X12_give a0 b0) := fun y1 y2 y4 y6 y7 a b hlt i0 i1 i2 i3 i4 i5 i6 i7 i8 i9 i10 i11 i12 i13 => (ih _ hlt).2.2.2.1 y1 y2 y4 y6 y7 a b (Nat.le_refl _) i0 i1 i2 i3 i4 i5 i6 i7 i8 i9 i10 i11 i12 i13
  have ih75 : ∀ (y1 y2 y4 y6 y7 : Int) (a b : Nat → Nat → Int), (((((8 - y6) * 43) + 0) + ((40 - y7) * 1)) + 0).toNat < n → iv a → jfr jW_X12_give a0 a → 0 ≤ y1 → y1 ≤ 255 → 0 ≤ y6 → y6 ≤ 7 → 0 ≤ y7 → y7 ≤ 40 → a 146 42 ≤ 0 → 1 ≤ a 146 44 → (a 146 9) + (a 146 44) ≤ 300 → (OC a) → (a0 146 42 = 0 → a 146 44 = 0) → jt (jxX E d 255 75 [some (.inr (.inr (.inl 146))), some (.inl y1), some (.inr (.inl y2)), none, some (.inr (.inl y4)), none, some (.inl y6), some (.inl y7)] [] (jxSH, a, b)) (jQ_X12_give a0 b0) := fun y1 y2 y4 y6 y7 a b hlt i0 i1 i2 i3 i4 i5 i6 i7 i8 i9 i10 i11 i12 => (ih _ hlt).2.2.2.2.1 y1 y2 y4 y6 y7 a b (Nat.le_refl _) i0 i1 i2 i3 i4 i5 i6 i7 i8 i9 i10 i11 i12
  have ih72 : ∀ (y1 y2 y4 y6 : Int) (a b : Nat → Nat → Int), (((8 - y6) * 43) + 42).toNat < n → iv a → jfr jW_X12_give a0 a → 0 ≤ y1 → y1 ≤ 255 → 0 ≤ y6 → y6 ≤ 7 → a 146 42 ≤ 0 → 1 ≤ a 146 44 → (a 146 9) + (a 146 44) ≤ 300 → (OC a) → (a0 146 42 = 0 → a 146 44 = 0) → jt (jxX E d 255 72 [some (.inr (.inr (.inl 146))), some (.inl y1), some (.inr (.inl y2)), none, some (.inr (.inl y4)), none, some (.inl y6), none] [] (jxSH, a, b)) (jQ_X12_give a0 b0) := fun y1 y2 y4 y6 a b hlt i0 i1 i2 i3 i4 i5 i6 i7 i8 i9 i10 => (ih _ hlt).2.2.2.2.2.1 y1 y2 y4 y6 a b (Nat.le_refl _) i0 i1 i2 i3 i4 i5 i6 i7 i8 i9 i10
  have ih48 : ∀ (y1 y2 y4 y6 : Int) (a b : Nat → Nat → Int), (((8 - y6) * 43) + 42).toNat < n → iv a → jfr jW_X12_give a0 a → 0 ≤ y1 → y1 ≤ 255 → 0 ≤ y6 → y6 ≤ 8 → a 146 42 ≤ 0 → (a 146 9) + (a 146 44) ≤ 300 → (OC a) → (a0 146 42 = 0 → a 146 44 = 0) → jt (jxX E d 255 48 [some (.inr (.inr (.inl 146))), some (.inl y1), some (.inr (.inl y2)), none, some (.inr (.inl y4)), none, some (.inl y6), none] [] (jxSH, a, b)) (jQ_X12_give a0 b0) := fun y1 y2 y4 y6 a b hlt i0 i1 i2 i3 i4 i5 i6 i7 i8 i9 => (ih _ hlt).2.2.2.2.2.2 y1 y2 y4 y6 a b (Nat.le_refl _) i0 i1 i2 i3 i4 i5 i6 i7 i8 i9
  have hc197 : ∀ (y1 y2 y4 y6 y7 : Int) (a b : Nat → Nat → Int), (((((8 - y6) * 43) + 0) + ((40 - y7) * 1)) + 0).toNat ≤ n → iv a → jfr jW_X12_give a0 a → 0 ≤ y1 → y1 ≤ 255 → 0 ≤ y6 → y6 ≤ 7 → 0 ≤ y7 → y7 ≤ 39 → 1 ≤ a 146 2 → a 146 42 ≤ 0 → 1 ≤ a 146 44 → (a 146 9) + (a 146 44) ≤ 300 → (OC a) → (a0 146 42 = 0 → a 146 44 = 0) → jt (jxX E d 255 197 [some (.inr (.inr (.inl 146))), some (.inl y1), some (.inr (.inl y2)), none, some (.inr (.inl y4)), none, some (.inl y6), some (.inl y7)] [] (jxSH, a, b)) (jQ_X12_give a0 b0) := by
    intro y1 y2 y4 y6 y7 a b hm hv hf hi0 hi1 hi2 hi3 hi4 hi5 hi6 hi7 hi8 hi9 hi10 hi11
    refine jt_eq (bq_X12_give_197 E d y1 y2 y4 y6 y7 a b) ?_
    have h346_ := iv_get hv (k := 146) (j := 2) (l := 0) (u := 40) rfl
    have h347_ : a 146 2 = a0 146 2 := hf 146 2 rfl
    have h348_ := iv_get hv0 (k := 146) (j := 2) (l := 0) (u := 40) rfl
    have h349_ := iv_get hv (k := 146) (j := 42) (l := 0) (u := 8) rfl
    have h350_ := iv_get hv (k := 146) (j := 44) (l := 0) (u := 8) rfl
    have h351_ := iv_get hv (k := 146) (j := 9) (l := 0) (u := 300) rfl
    have h352_ := iv_get hv0 (k := 146) (j := 42) (l := 0) (u := 8) rfl
    have h353_ : jxw (y7 + 1) = y7 + 1 := jxw_id (by omega) (by omega)
    exact ih75 y1 y2 y4 y6 (jxw (y7 + 1)) a b (show (((((8 - y6) * 43) + 0) + ((40 - (jxw (y7 + 1))) * 1)) + 0).toNat < n from by omega) hv hf (show 0 ≤ y1 from by omega) (show y1 ≤ 255 from by omega) (show 0 ≤ y6 from by omega) (show y6 ≤ 7 from by omega) (show 0 ≤ jxw (y7 + 1) from by omega) (show jxw (y7 + 1) ≤ 40 from by omega) (show a 146 42 ≤ 0 from by omega) (show 1 ≤ a 146 44 from by omega) (show (a 146 9) + (a 146 44) ≤ 300 from by omega) hi10 (show (a0 146 42 = 0 → a 146 44 = 0) from by omega)
  have hc160 : ∀ (y1 y2 y4 y6 y7 : Int) (a b : Nat → Nat → Int), (((((8 - y6) * 43) + 0) + ((40 - y7) * 1)) + 0).toNat ≤ n → iv a → jfr jW_X12_give a0 a → 0 ≤ y1 → y1 ≤ 255 → 0 ≤ y6 → y6 ≤ 7 → 0 ≤ y7 → y7 ≤ 39 → 1 ≤ a 146 2 → a 146 42 ≤ 0 → 1 ≤ a 146 44 → (a 146 9) + (a 146 44) ≤ 300 → (OC a) → (a0 146 42 = 0 → a 146 44 = 0) → jt (jxX E d 255 160 [some (.inr (.inr (.inl 146))), some (.inl y1), some (.inr (.inl y2)), none, some (.inr (.inl y4)), none, some (.inl y6), some (.inl y7)] [] (jxSH, a, b)) (jQ_X12_give a0 b0) := by
    intro y1 y2 y4 y6 y7 a b hm hv hf hi0 hi1 hi2 hi3 hi4 hi5 hi6 hi7 hi8 hi9 hi10 hi11
    refine jt_eq (bq_X12_give_160 E d y1 y2 y4 y6 y7 a b) ?_
    have h354_ := iv_get hv (k := 146) (j := 2) (l := 0) (u := 40) rfl
    have h355_ : a 146 2 = a0 146 2 := hf 146 2 rfl
    have h356_ := iv_get hv0 (k := 146) (j := 2) (l := 0) (u := 40) rfl
    have h357_ := iv_get hv (k := 146) (j := 42) (l := 0) (u := 8) rfl
    have h358_ := iv_get hv (k := 146) (j := 44) (l := 0) (u := 8) rfl
    have h359_ := iv_get hv (k := 146) (j := 9) (l := 0) (u := 300) rfl
    have h360_ := iv_get hv0 (k := 146) (j := 42) (l := 0) (u := 8) rfl
    exact hc197 y1 y2 y4 y6 y7 a b (show (((((8 - y6) * 43) + 0) + ((40 - y7) * 1)) + 0).toNat ≤ n from by omega) hv hf (show 0 ≤ y1 from by omega) (show y1 ≤ 255 from by omega) (show 0 ≤ y6 from by omega) (show y6 ≤ 7 from by omega) (show 0 ≤ y7 from by omega) (show y7 ≤ 39 from by omega) (show 1 ≤ a 146 2 from by omega) (show a 146 42 ≤ 0 from by omega) (show 1 ≤ a 146 44 from by omega) (show (a 146 9) + (a 146 44) ≤ 300 from by omega) hi10 (show (a0 146 42 = 0 → a 146 44 = 0) from by omega)
  have hc163 : ∀ (y1 y2 y4 y6 y7 : Int) (a b : Nat → Nat → Int), (((((8 - y6) * 43) + 0) + ((40 - y7) * 1)) + 0).toNat ≤ n → iv a → jfr jW_X12_give a0 a → 0 ≤ y1 → y1 ≤ 255 → 0 ≤ y6 → y6 ≤ 7 → 0 ≤ y7 → y7 ≤ 39 → 1 ≤ a 146 2 → a 146 42 ≤ 0 → 1 ≤ a 146 44 → (a 146 9) + (a 146 44) ≤ 300 → (OC a) → (a0 146 42 = 0 → a 146 44 = 0) → jt (jxX E d 255 163 [some (.inr (.inr (.inl 146))), some (.inl y1), some (.inr (.inl y2)), none, some (.inr (.inl y4)), none, some (.inl y6), some (.inl y7)] [] (jxSH, a, b)) (jQ_X12_give a0 b0) := by
    intro y1 y2 y4 y6 y7 a b hm hv hf hi0 hi1 hi2 hi3 hi4 hi5 hi6 hi7 hi8 hi9 hi10 hi11
    refine jt_eq (bq_X12_give_163 E d y1 y2 y4 y6 y7 a b) ?_
    have h361_ := iv_get hv (k := 146) (j := 2) (l := 0) (u := 40) rfl
    have h362_ : a 146 2 = a0 146 2 := hf 146 2 rfl
    have h363_ := iv_get hv0 (k := 146) (j := 2) (l := 0) (u := 40) rfl
    have h364_ := iv_get hv (k := 146) (j := 42) (l := 0) (u := 8) rfl
    have h365_ := iv_get hv (k := 146) (j := 44) (l := 0) (u := 8) rfl
    have h366_ := iv_get hv (k := 146) (j := 9) (l := 0) (u := 300) rfl
    have h367_ := iv_get hv0 (k := 146) (j := 42) (l := 0) (u := 8) rfl
    refine jt_grd (by omega) ?_
    have h368_ : jxw (40 * y6) = 40 * y6 := jxw_id (by omega) (by omega)
    have h369_ : jxw ((jxw (40 * y6)) + y7) = (jxw (40 * y6)) + y7 := jxw_id (by omega) (by omega)
    refine jt_grd (by omega) ?_
    have hv370_ : iv (jxu a 176 (y6.toNat) y7) := iv_put hv (l := (-1)) (u := 39) rfl (by omega) (by omega)
    have hf371_ : jfr jW_X12_give a0 (jxu a 176 (y6.toNat) y7) := jfr_put hf rfl
    have hg372_ : OC (jxu a 176 (y6.toNat) y7) := (OC_fr hi10 (jfr_1 a 176 (y6.toNat) y7) rfl rfl (fun _ => rfl) (fun _ => rfl) (fun _ => rfl) (fun _ => rfl) (fun _ => rfl))
    exact hc197 y1 (jxorl y2 (jxshll 1 y7)) (jxwl (y4 - (b 175 ((jxw ((jxw (40 * y6)) + y7)).toNat)))) y6 y7 (jxu a 176 (y6.toNat) y7) b (show (((((8 - y6) * 43) + 0) + ((40 - y7) * 1)) + 0).toNat ≤ n from by omega) hv370_ hf371_ (show 0 ≤ y1 from by omega) (show y1 ≤ 255 from by omega) (show 0 ≤ y6 from by omega) (show y6 ≤ 7 from by omega) (show 0 ≤ y7 from by omega) (show y7 ≤ 39 from by omega) (show 1 ≤ a 146 2 from by omega) (show a 146 42 ≤ 0 from by omega) (show 1 ≤ a 146 44 from by omega) (show (a 146 9) + (a 146 44) ≤ 300 from by omega) hg372_ (show (a0 146 42 = 0 → a 146 44 = 0) from by omega)
  have hc106 : ∀ (y1 y2 y4 y6 y7 : Int) (a b : Nat → Nat → Int), (((((8 - y6) * 43) + 0) + ((40 - y7) * 1)) + 0).toNat ≤ n → iv a → jfr jW_X12_give a0 a → 0 ≤ y1 → y1 ≤ 255 → 0 ≤ y6 → y6 ≤ 7 → 0 ≤ y7 → y7 ≤ 39 → 1 ≤ a 146 2 → a 146 42 ≤ 0 → 1 ≤ a 146 44 → (a 146 9) + (a 146 44) ≤ 300 → (OC a) → (a0 146 42 = 0 → a 146 44 = 0) → jt (jxX E d 255 106 [some (.inr (.inr (.inl 146))), some (.inl y1), some (.inr (.inl y2)), none, some (.inr (.inl y4)), none, some (.inl y6), some (.inl y7)] [] (jxSH, a, b)) (jQ_X12_give a0 b0) := by
    intro y1 y2 y4 y6 y7 a b hm hv hf hi0 hi1 hi2 hi3 hi4 hi5 hi6 hi7 hi8 hi9 hi10 hi11
    refine jt_eq (bq_X12_give_106 E d y1 y2 y4 y6 y7 a b) ?_
    have h373_ := iv_get hv (k := 146) (j := 2) (l := 0) (u := 40) rfl
    have h374_ : a 146 2 = a0 146 2 := hf 146 2 rfl
    have h375_ := iv_get hv0 (k := 146) (j := 2) (l := 0) (u := 40) rfl
    have h376_ := iv_get hv (k := 146) (j := 42) (l := 0) (u := 8) rfl
    have h377_ := iv_get hv (k := 146) (j := 44) (l := 0) (u := 8) rfl
    have h378_ := iv_get hv (k := 146) (j := 9) (l := 0) (u := 300) rfl
    have h379_ := iv_get hv0 (k := 146) (j := 42) (l := 0) (u := 8) rfl
    have h380_ : jxw (40 * y6) = 40 * y6 := jxw_id (by omega) (by omega)
    have h381_ : jxw ((jxw (40 * y6)) + y7) = (jxw (40 * y6)) + y7 := jxw_id (by omega) (by omega)
    refine jt_grd (by omega) ?_
    have h382_ := jxlcmp_b (b 175 ((jxw ((jxw (40 * y6)) + y7)).toNat)) (-4000000000000000000)
    refine jt_ite (fun c383_ => ?_) (fun c383_ => ?_)
    ·
      exact hc197 y1 y2 y4 y6 y7 a b (show (((((8 - y6) * 43) + 0) + ((40 - y7) * 1)) + 0).toNat ≤ n from by omega) hv hf (show 0 ≤ y1 from by omega) (show y1 ≤ 255 from by omega) (show 0 ≤ y6 from by omega) (show y6 ≤ 7 from by omega) (show 0 ≤ y7 from by omega) (show y7 ≤ 39 from by omega) (show 1 ≤ a 146 2 from by omega) (show a 146 42 ≤ 0 from by omega) (show 1 ≤ a 146 44 from by omega) (show (a 146 9) + (a 146 44) ≤ 300 from by omega) hi10 (show (a0 146 42 = 0 → a 146 44 = 0) from by omega)
    ·
      refine jt_grd (by omega) ?_
      refine jt_bJ (sp_X12_best E d (jd_le hd rfl) y1 (jxorl y2 (jxshll 1 y7)) a b hv (show (0 ≤ y1 ∧ y1 ≤ 255) from by omega)) (fun r384_ a384_ b384_ h384_ => ?_)
      subst h384_
      have h385_ := jxlcmp_b (jxwl ((b 175 ((jxw ((jxw (40 * y6)) + y7)).toNat)) + r384_)) y4
      refine jt_ite (fun c386_ => ?_) (fun c386_ => ?_)
      ·
        exact hc163 y1 y2 y4 y6 y7 a b384_ (show (((((8 - y6) * 43) + 0) + ((40 - y7) * 1)) + 0).toNat ≤ n from by omega) hv hf (show 0 ≤ y1 from by omega) (show y1 ≤ 255 from by omega) (show 0 ≤ y6 from by omega) (show y6 ≤ 7 from by omega) (show 0 ≤ y7 from by omega) (show y7 ≤ 39 from by omega) (show 1 ≤ a 146 2 from by omega) (show a 146 42 ≤ 0 from by omega) (show 1 ≤ a 146 44 from by omega) (show (a 146 9) + (a 146 44) ≤ 300 from by omega) hi10 (show (a0 146 42 = 0 → a 146 44 = 0) from by omega)
      ·
        exact hc160 y1 y2 y4 y6 y7 a b384_ (show (((((8 - y6) * 43) + 0) + ((40 - y7) * 1)) + 0).toNat ≤ n from by omega) hv hf (show 0 ≤ y1 from by omega) (show y1 ≤ 255 from by omega) (show 0 ≤ y6 from by omega) (show y6 ≤ 7 from by omega) (show 0 ≤ y7 from by omega) (show y7 ≤ 39 from by omega) (show 1 ≤ a 146 2 from by omega) (show a 146 42 ≤ 0 from by omega) (show 1 ≤ a 146 44 from by omega) (show (a 146 9) + (a 146 44) ≤ 300 from by omega) hi10 (show (a0 146 42 = 0 → a 146 44 = 0) from by omega)
  have hc75 : ∀ (y1 y2 y4 y6 y7 : Int) (a b : Nat → Nat → Int), (((((8 - y6) * 43) + 0) + ((40 - y7) * 1)) + 0).toNat ≤ n → iv a → jfr jW_X12_give a0 a → 0 ≤ y1 → y1 ≤ 255 → 0 ≤ y6 → y6 ≤ 7 → 0 ≤ y7 → y7 ≤ 40 → a 146 42 ≤ 0 → 1 ≤ a 146 44 → (a 146 9) + (a 146 44) ≤ 300 → (OC a) → (a0 146 42 = 0 → a 146 44 = 0) → jt (jxX E d 255 75 [some (.inr (.inr (.inl 146))), some (.inl y1), some (.inr (.inl y2)), none, some (.inr (.inl y4)), none, some (.inl y6), some (.inl y7)] [] (jxSH, a, b)) (jQ_X12_give a0 b0) := by
    intro y1 y2 y4 y6 y7 a b hm hv hf hi0 hi1 hi2 hi3 hi4 hi5 hi6 hi7 hi8 hi9 hi10
    refine jt_eq (bq_X12_give_75 E d y1 y2 y4 y6 y7 a b) ?_
    have h387_ := iv_get hv (k := 146) (j := 42) (l := 0) (u := 8) rfl
    have h388_ := iv_get hv (k := 146) (j := 44) (l := 0) (u := 8) rfl
    have h389_ := iv_get hv (k := 146) (j := 9) (l := 0) (u := 300) rfl
    have h390_ := iv_get hv0 (k := 146) (j := 42) (l := 0) (u := 8) rfl
    have h391_ := iv_get hv (k := 146) (j := 2) (l := 0) (u := 40) rfl
    have h392_ : a 146 2 = a0 146 2 := hf 146 2 rfl
    have h393_ := iv_get hv0 (k := 146) (j := 2) (l := 0) (u := 40) rfl
    refine jt_ite (fun c394_ => ?_) (fun c394_ => ?_)
    ·
      refine jt_grd (by omega) ?_
      have h395_ := iv_get hv (k := 176) (j := y6.toNat) (l := (-1)) (u := 39) rfl
      refine jt_ite (fun c396_ => ?_) (fun c396_ => ?_)
      ·
        have h397_ := jxlcmp_b (jxandl (jxshrl y2 y7) 1) 1
        refine jt_ite (fun c398_ => ?_) (fun c398_ => ?_)
        ·
          exact hc197 y1 y2 y4 y6 y7 a b (show (((((8 - y6) * 43) + 0) + ((40 - y7) * 1)) + 0).toNat ≤ n from by omega) hv hf (show 0 ≤ y1 from by omega) (show y1 ≤ 255 from by omega) (show 0 ≤ y6 from by omega) (show y6 ≤ 7 from by omega) (show 0 ≤ y7 from by omega) (show y7 ≤ 39 from by omega) (show 1 ≤ a 146 2 from by omega) (show a 146 42 ≤ 0 from by omega) (show 1 ≤ a 146 44 from by omega) (show (a 146 9) + (a 146 44) ≤ 300 from by omega) hi9 (show (a0 146 42 = 0 → a 146 44 = 0) from by omega)
        ·
          exact hc106 y1 y2 y4 y6 y7 a b (show (((((8 - y6) * 43) + 0) + ((40 - y7) * 1)) + 0).toNat ≤ n from by omega) hv hf (show 0 ≤ y1 from by omega) (show y1 ≤ 255 from by omega) (show 0 ≤ y6 from by omega) (show y6 ≤ 7 from by omega) (show 0 ≤ y7 from by omega) (show y7 ≤ 39 from by omega) (show 1 ≤ a 146 2 from by omega) (show a 146 42 ≤ 0 from by omega) (show 1 ≤ a 146 44 from by omega) (show (a 146 9) + (a 146 44) ≤ 300 from by omega) hi9 (show (a0 146 42 = 0 → a 146 44 = 0) from by omega)
      ·
        have h399_ : jxw (y6 + 1) = y6 + 1 := jxw_id (by omega) (by omega)
        exact ih48 y1 y2 y4 (jxw (y6 + 1)) a b (show (((8 - (jxw (y6 + 1))) * 43) + 42).toNat < n from by omega) hv hf (show 0 ≤ y1 from by omega) (show y1 ≤ 255 from by omega) (show 0 ≤ jxw (y6 + 1) from by omega) (show jxw (y6 + 1) ≤ 8 from by omega) (show a 146 42 ≤ 0 from by omega) (show (a 146 9) + (a 146 44) ≤ 300 from by omega) hi9 (show (a0 146 42 = 0 → a 146 44 = 0) from by omega)
    ·
      have h400_ : jxw (y6 + 1) = y6 + 1 := jxw_id (by omega) (by omega)
      exact ih48 y1 y2 y4 (jxw (y6 + 1)) a b (show (((8 - (jxw (y6 + 1))) * 43) + 42).toNat < n from by omega) hv hf (show 0 ≤ y1 from by omega) (show y1 ≤ 255 from by omega) (show 0 ≤ jxw (y6 + 1) from by omega) (show jxw (y6 + 1) ≤ 8 from by omega) (show a 146 42 ≤ 0 from by omega) (show (a 146 9) + (a 146 44) ≤ 300 from by omega) hi9 (show (a0 146 42 = 0 → a 146 44 = 0) from by omega)
  have hc72 : ∀ (y1 y2 y4 y6 : Int) (a b : Nat → Nat → Int), (((8 - y6) * 43) + 42).toNat ≤ n → iv a → jfr jW_X12_give a0 a → 0 ≤ y1 → y1 ≤ 255 → 0 ≤ y6 → y6 ≤ 7 → a 146 42 ≤ 0 → 1 ≤ a 146 44 → (a 146 9) + (a 146 44) ≤ 300 → (OC a) → (a0 146 42 = 0 → a 146 44 = 0) → jt (jxX E d 255 72 [some (.inr (.inr (.inl 146))), some (.inl y1), some (.inr (.inl y2)), none, some (.inr (.inl y4)), none, some (.inl y6), none] [] (jxSH, a, b)) (jQ_X12_give a0 b0) := by
    intro y1 y2 y4 y6 a b hm hv hf hi0 hi1 hi2 hi3 hi4 hi5 hi6 hi7 hi8
    refine jt_eq (bq_X12_give_72 E d y1 y2 y4 y6 a b) ?_
    have h401_ := iv_get hv (k := 146) (j := 42) (l := 0) (u := 8) rfl
    have h402_ := iv_get hv (k := 146) (j := 44) (l := 0) (u := 8) rfl
    have h403_ := iv_get hv (k := 146) (j := 9) (l := 0) (u := 300) rfl
    have h404_ := iv_get hv0 (k := 146) (j := 42) (l := 0) (u := 8) rfl
    exact hc75 y1 y2 y4 y6 0 a b (show (((((8 - y6) * 43) + 0) + ((40 - 0) * 1)) + 0).toNat ≤ n from by omega) hv hf (show 0 ≤ y1 from by omega) (show y1 ≤ 255 from by omega) (show 0 ≤ y6 from by omega) (show y6 ≤ 7 from by omega) (show 0 ≤ 0 from by omega) (show 0 ≤ 40 from by omega) (show a 146 42 ≤ 0 from by omega) (show 1 ≤ a 146 44 from by omega) (show (a 146 9) + (a 146 44) ≤ 300 from by omega) hi7 (show (a0 146 42 = 0 → a 146 44 = 0) from by omega)
  have hc48 : ∀ (y1 y2 y4 y6 : Int) (a b : Nat → Nat → Int), (((8 - y6) * 43) + 42).toNat ≤ n → iv a → jfr jW_X12_give a0 a → 0 ≤ y1 → y1 ≤ 255 → 0 ≤ y6 → y6 ≤ 8 → a 146 42 ≤ 0 → (a 146 9) + (a 146 44) ≤ 300 → (OC a) → (a0 146 42 = 0 → a 146 44 = 0) → jt (jxX E d 255 48 [some (.inr (.inr (.inl 146))), some (.inl y1), some (.inr (.inl y2)), none, some (.inr (.inl y4)), none, some (.inl y6), none] [] (jxSH, a, b)) (jQ_X12_give a0 b0) := by
    intro y1 y2 y4 y6 a b hm hv hf hi0 hi1 hi2 hi3 hi4 hi5 hi6 hi7
    refine jt_eq (bq_X12_give_48 E d y1 y2 y4 y6 a b) ?_
    have h405_ := iv_get hv (k := 146) (j := 42) (l := 0) (u := 8) rfl
    have h406_ := iv_get hv (k := 146) (j := 9) (l := 0) (u := 300) rfl
    have h407_ := iv_get hv (k := 146) (j := 44) (l := 0) (u := 8) rfl
    have h408_ := iv_get hv0 (k := 146) (j := 42) (l := 0) (u := 8) rfl
    refine jt_ite (fun c409_ => ?_) (fun c409_ => ?_)
    ·
      refine jt_grd (by omega) ?_
      have hv410_ : iv (jxu a 176 (y6.toNat) (-1)) := iv_put hv (l := (-1)) (u := 39) rfl (by omega) (by omega)
      have hf411_ : jfr jW_X12_give a0 (jxu a 176 (y6.toNat) (-1)) := jfr_put hf rfl
      have h412_ := jxshl1_b y6
      have h413_ := jxxor_b y1 (jxshl 1 y6)
      have hg414_ : OC (jxu a 176 (y6.toNat) (-1)) := (OC_fr hi6 (jfr_1 a 176 (y6.toNat) (-1)) rfl rfl (fun _ => rfl) (fun _ => rfl) (fun _ => rfl) (fun _ => rfl) (fun _ => rfl))
      exact hc72 (jxxor y1 (jxshl 1 y6)) y2 y4 y6 (jxu a 176 (y6.toNat) (-1)) b (show (((8 - y6) * 43) + 42).toNat ≤ n from by omega) hv410_ hf411_ (show 0 ≤ jxxor y1 (jxshl 1 y6) from by omega) (show jxxor y1 (jxshl 1 y6) ≤ 255 from by omega) (show 0 ≤ y6 from by omega) (show y6 ≤ 7 from by omega) (show a 146 42 ≤ 0 from by omega) (show 1 ≤ a 146 44 from by omega) (show (a 146 9) + (a 146 44) ≤ 300 from by omega) hg414_ (show (a0 146 42 = 0 → a 146 44 = 0) from by omega)
    ·
      exact (cp_X12_give_215 E d hd a0 b0 hv0 hp0 hp1 _).2 0 0 a b (Nat.le_refl _) hv hf (show 0 ≤ 0 from by omega) (show 0 ≤ 8 from by omega) (show a 146 42 ≤ 0 from by omega) (show ((a 146 9) + (a 146 44)) - 0 ≤ 300 from by omega) (show (a0 146 42 = 0 → 0 = 0) from by omega) hi6 (show (a0 146 42 = 0 → a 146 44 = 0) from by omega)
  exact ⟨hc197, hc160, hc163, hc106, hc75, hc72, hc48⟩
theorem cp_X12_give_35 (E : jxE) (d : Nat) (hd : Nat.ble 9 (d + 1) = true) (a0 b0 : Nat → Nat → Int) (hv0 : iv a0) (hp0 : WFW a0) (hp1 : OC a0) : ∀ (y1 : Int) (a b : Nat → Nat → Int), iv a → jfr jW_X12_give a0 a → 0 ≤ y1 → y1 ≤ 255 → a 146 42 ≤ 0 → (a 146 9) + (a 146 44) ≤ 300 → (OC a) → (a0 146 42 = 0 → a 146 44 = 0) → jt (jxX E d 255 35 [some (.inr (.inr (.inl 146))), some (.inl y1), none, none, none, none, none, none] [] (jxSH, a, b)) (jQ_X12_give a0 b0) := by
  intro y1 a b hv hf hi0 hi1 hi2 hi3 hi4 hi5
  refine jt_eq (bq_X12_give_35 E d y1 a b) ?_
  have h415_ := iv_get hv (k := 146) (j := 42) (l := 0) (u := 8) rfl
  have h416_ := iv_get hv (k := 146) (j := 9) (l := 0) (u := 300) rfl
  have h417_ := iv_get hv (k := 146) (j := 44) (l := 0) (u := 8) rfl
  have h418_ := iv_get hv0 (k := 146) (j := 42) (l := 0) (u := 8) rfl
  refine jt_bJ (sp_X12_best E d (jd_le hd rfl) y1 0 a b hv (show (0 ≤ y1 ∧ y1 ≤ 255) from by omega)) (fun r419_ a419_ b419_ h419_ => ?_)
  subst h419_
  exact (cp_X12_give_48 E d hd a0 b0 hv0 hp0 hp1 _).2.2.2.2.2.2 y1 0 r419_ 0 a b419_ (Nat.le_refl _) hv hf (show 0 ≤ y1 from by omega) (show y1 ≤ 255 from by omega) (show 0 ≤ 0 from by omega) (show 0 ≤ 8 from by omega) (show a 146 42 ≤ 0 from by omega) (show (a 146 9) + (a 146 44) ≤ 300 from by omega) hi4 (show (a0 146 42 = 0 → a 146 44 = 0) from by omega)
theorem sp_X12_give (E : jxE) (d : Nat) (hd : Nat.ble 9 d = true) (a0 b0 : Nat → Nat → Int) (hv0 : iv a0) (hp0 : WFW a0) (hp1 : OC a0) : jt (jxC E d 255 [.inr (.inr (.inl 146))] (jxSH, a0, b0)) (jQ_X12_give a0 b0) := by
  obtain ⟨d, rfl⟩ := jd_succ hd
  refine jt_eq (bq_X12_give E d a0 b0) ?_
  have h420_ := iv_get hv0 (k := 146) (j := 9) (l := 0) (u := 300) rfl
  have h421_ := iv_get hv0 (k := 146) (j := 42) (l := 0) (u := 8) rfl
  have h422_ : jxw ((a0 146 9) + (a0 146 42)) = (a0 146 9) + (a0 146 42) := jxw_id (by omega) (by omega)
  refine jt_ite (fun c423_ => ?_) (fun c423_ => ?_)
  ·
    exact jt_rI ⟨hv0, (jfr_rf _ _), hp1, (show (a0 146 42 = 0 → (-1) = 0) from by omega)⟩
  ·
    refine jt_bV (sp_X12_weighs E d (jd_le hd rfl) a0 b0 hv0 hp0) (fun a424_ b424_ h424_ => ?_)
    obtain ⟨hv424_, hf424_, hq424_0⟩ := h424_
    have h425_ := iv_get hv424_ (k := 146) (j := 44) (l := 0) (u := 8) rfl
    have h426_ := iv_get hv424_ (k := 146) (j := 42) (l := 0) (u := 8) rfl
    have h427_ : a424_ 146 42 = a0 146 42 := hf424_ 146 42 rfl
    have hv428_ : iv (jxu a424_ 146 42 0) := iv_put hv424_ (l := 0) (u := 8) rfl (by omega) (by omega)
    have hf429_ : jfr jW_X12_give a0 a424_ := jfr_tr (jfr_rf _ _) hf424_ rfl
    have hf430_ : jfr jW_X12_give a0 (jxu a424_ 146 42 0) := jfr_put hf429_ rfl
    have h431_ := jxshl1_b (a424_ 146 44)
    have h432_ : jxw ((jxshl 1 (a424_ 146 44)) - 1) = (jxshl 1 (a424_ 146 44)) - 1 := jxw_id (by omega) (by omega)
    have h433_ := iv_get hv424_ (k := 146) (j := 9) (l := 0) (u := 300) rfl
    have h434_ : a424_ 146 9 = a0 146 9 := hf424_ 146 9 rfl
    have hg435_ : OC (jxu a424_ 146 42 0) := (OC_fr (OC_fr hp1 hf424_ rfl rfl (fun _ => rfl) (fun _ => rfl) (fun _ => rfl) (fun _ => rfl) (fun _ => rfl)) (jfr_1s a424_ 146 42 0) rfl rfl (fun _ => rfl) (fun _ => rfl) (fun _ => rfl) (fun _ => rfl) (fun _ => rfl))
    exact cp_X12_give_35 E d hd a0 b0 hv0 hp0 hp1 (jxw ((jxshl 1 (a424_ 146 44)) - 1)) (jxu a424_ 146 42 0) b424_ hv428_ hf430_ (show 0 ≤ jxw ((jxshl 1 (a424_ 146 44)) - 1) from by omega) (show jxw ((jxshl 1 (a424_ 146 44)) - 1) ≤ 255 from by omega) (show 0 ≤ 0 from by omega) (show (a424_ 146 9) + (a424_ 146 44) ≤ 300 from by omega) hg435_ (show (a0 146 42 = 0 → a424_ 146 44 = 0) from by omega)
def jW_X12_leave : List (Nat × Nat) := [(152, 9999), (153, 9999), (159, 9999), (181, 9999)]
abbrev jQ_X12_leave (x1 : Int) (a0 b0 : Nat → Nat → Int) : List jxV → (Nat → Nat → Int) → (Nat → Nat → Int) → Prop := rI (fun r a b => (iv a) ∧ (jfr jW_X12_leave a0 a) ∧ (b0 = b) ∧ (OC a) ∧ ((a0 146 2 = 0 → r = 0 - 1)) ∧ (0 ≤ x1 ∧ x1 < a0 146 2 ∧ ¬ a0 152 x1.toNat = 0 → UP (a0 152) (a 152) x1.toNat 0) ∧ (x1 < 0 ∨ a0 146 2 ≤ x1 ∨ a0 152 x1.toNat = 0 → ∀ j, a 152 j = a0 152 j))
theorem cp_X12_leave_95 (E : jxE) (d : Nat) (hd : Nat.ble 5 (d + 1) = true) (x1 : Int) (a0 b0 : Nat → Nat → Int) (hv0 : iv a0) (hp0 : OC a0) : ∀ n : Nat, (∀ (y1 y2 y3 : Int) (a : Nat → Nat → Int), (((20 - y3) * 1) + 0).toNat ≤ n → iv a → jfr jW_X12_leave a0 a → 0 ≤ y1 → y1 ≤ 39 → 0 ≤ y3 → y3 ≤ 19 → 1 ≤ a 146 49 → y3 < a 146 49 → (UP (a0 152) (a 152) x1.toNat 0) → (OC a) → 1 ≤ a0 146 2 → ((0 ≤ x1 ∧ x1 < a0 146 2) ∧ ¬ a0 152 (x1.toNat) = 0) → jt (jxX E d 279 140 [some (.inr (.inr (.inl 146))), some (.inl y1), some (.inl y2), some (.inl y3)] [] (jxSH, a, b0)) (jQ_X12_leave x1 a0 b0)) ∧ (∀ (y1 y2 y3 : Int) (a : Nat → Nat → Int), (((20 - y3) * 1) + 0).toNat ≤ n → iv a → jfr jW_X12_leave a0 a → 0 ≤ y1 → y1 ≤ 39 → 0 ≤ y3 → y3 ≤ 19 → 1 ≤ a 146 49 → a 181 (y3.toNat) = 1 → y3 < a 146 49 → (UP (a0 152) (a 152) x1.toNat 0) → (OC a) → 1 ≤ a0 146 2 → ((0 ≤ x1 ∧ x1 < a0 146 2) ∧ ¬ a0 152 (x1.toNat) = 0) → jt (jxX E d 279 126 [some (.inr (.inr (.inl 146))), some (.inl y1), some (.inl y2), some (.inl y3)] [] (jxSH, a, b0)) (jQ_X12_leave x1 a0 b0)) ∧ (∀ (y1 y2 y3 : Int) (a : Nat → Nat → Int), (((20 - y3) * 1) + 0).toNat ≤ n → iv a → jfr jW_X12_leave a0 a → 0 ≤ y1 → y1 ≤ 39 → 0 ≤ y3 → y3 ≤ 20 → (UP (a0 152) (a 152) x1.toNat 0) → (OC a) → 1 ≤ a0 146 2 → ((0 ≤ x1 ∧ x1 < a0 146 2) ∧ ¬ a0 152 (x1.toNat) = 0) → jt (jxX E d 279 95 [some (.inr (.inr (.inl 146))), some (.inl y1), some (.inl y2), some (.inl y3)] [] (jxSH, a, b0)) (jQ_X12_leave x1 a0 b0)) := by
  refine jx_ind fun n ih => ?_
  have ih140 : ∀ (y1 y2 y3 : Int) (a : Nat → Nat → Int), (((20 - y3) * 1) + 0).toNat < n → iv a → jfr jW_X12_leave a0 a → 0 ≤ y1 → y1 ≤ 39 → 0 ≤ y3 → y3 ≤ 19 → 1 ≤ a 146 49 → y3 < a 146 49 → (UP (a0 152) (a 152) x1.toNat 0) → (OC a) → 1 ≤ a0 146 2 → ((0 ≤ x1 ∧ x1 < a0 146 2) ∧ ¬ a0 152 (x1.toNat) = 0) → jt (jxX E d 279 140 [some (.inr (.inr (.inl 146))), some (.inl y1), some (.inl y2), some (.inl y3)] [] (jxSH, a, b0)) (jQ_X12_leave x1 a0 b0) := fun y1 y2 y3 a hlt i0 i1 i2 i3 i4 i5 i6 i7 i8 i9 i10 i11 => (ih _ hlt).1 y1 y2 y3 a (Nat.le_refl _) i0 i1 i2 i3 i4 i5 i6 i7 i8 i9 i10 i11
  have ih126 : ∀ (y1 y2 y3 : Int) (a : Nat → Nat → Int), (((20 - y3) * 1) + 0).toNat < n → iv a → jfr jW_X12_leave a0 a → 0 ≤ y1 → y1 ≤ 39 → 0 ≤ y3 → y3 ≤ 19 → 1 ≤ a 146 49 → a 181 (y3.toNat) = 1 → y3 < a 146 49 → (UP (a0 152) (a 152) x1.toNat 0) → (OC a) → 1 ≤ a0 146 2 → ((0 ≤ x1 ∧ x1 < a0 146 2) ∧ ¬ a0 152 (x1.toNat) = 0) → jt (jxX E d 279 126 [some (.inr (.inr (.inl 146))), some (.inl y1), some (.inl y2), some (.inl y3)] [] (jxSH, a, b0)) (jQ_X12_leave x1 a0 b0) := fun y1 y2 y3 a hlt i0 i1 i2 i3 i4 i5 i6 i7 i8 i9 i10 i11 i12 => (ih _ hlt).2.1 y1 y2 y3 a (Nat.le_refl _) i0 i1 i2 i3 i4 i5 i6 i7 i8 i9 i10 i11 i12
  have ih95 : ∀ (y1 y2 y3 : Int) (a : Nat → Nat → Int), (((20 - y3) * 1) + 0).toNat < n → iv a → jfr jW_X12_leave a0 a → 0 ≤ y1 → y1 ≤ 39 → 0 ≤ y3 → y3 ≤ 20 → (UP (a0 152) (a 152) x1.toNat 0) → (OC a) → 1 ≤ a0 146 2 → ((0 ≤ x1 ∧ x1 < a0 146 2) ∧ ¬ a0 152 (x1.toNat) = 0) → jt (jxX E d 279 95 [some (.inr (.inr (.inl 146))), some (.inl y1), some (.inl y2), some (.inl y3)] [] (jxSH, a, b0)) (jQ_X12_leave x1 a0 b0) := fun y1 y2 y3 a hlt i0 i1 i2 i3 i4 i5 i6 i7 i8 i9 => (ih _ hlt).2.2 y1 y2 y3 a (Nat.le_refl _) i0 i1 i2 i3 i4 i5 i6 i7 i8 i9
  have hc140 : ∀ (y1 y2 y3 : Int) (a : Nat → Nat → Int), (((20 - y3) * 1) + 0).toNat ≤ n → iv a → jfr jW_X12_leave a0 a → 0 ≤ y1 → y1 ≤ 39 → 0 ≤ y3 → y3 ≤ 19 → 1 ≤ a 146 49 → y3 < a 146 49 → (UP (a0 152) (a 152) x1.toNat 0) → (OC a) → 1 ≤ a0 146 2 → ((0 ≤ x1 ∧ x1 < a0 146 2) ∧ ¬ a0 152 (x1.toNat) = 0) → jt (jxX E d 279 140 [some (.inr (.inr (.inl 146))), some (.inl y1), some (.inl y2), some (.inl y3)] [] (jxSH, a, b0)) (jQ_X12_leave x1 a0 b0) := by
    intro y1 y2 y3 a hm hv hf hi0 hi1 hi2 hi3 hi4 hi5 hu152 hi7 hi8 hi9
    refine jt_eq (bq_X12_leave_140 E d y1 y2 y3 a b0) ?_
    have h436_ := iv_get hv (k := 146) (j := 49) (l := 0) (u := 20) rfl
    have h437_ : a 146 49 = a0 146 49 := hf 146 49 rfl
    have h438_ := iv_get hv0 (k := 146) (j := 49) (l := 0) (u := 20) rfl
    have h439_ := iv_get hv0 (k := 146) (j := 2) (l := 0) (u := 40) rfl
    have h440_ := iv_get hv0 (k := 152) (j := x1.toNat) (l := 0) (u := 1) rfl
    refine jt_grd (by omega) ?_
    have hv441_ : iv (jxu a 181 (y3.toNat) 2) := iv_put hv (l := 0) (u := 2) rfl (by omega) (by omega)
    have hf442_ : jfr jW_X12_leave a0 (jxu a 181 (y3.toNat) 2) := jfr_put hf rfl
    have h443_ : jxw (y3 + 1) = y3 + 1 := jxw_id (by omega) (by omega)
    have hg444_ : OC (jxu a 181 (y3.toNat) 2) := (OC_put2 hi7 (by decide) (by omega))
    exact ih95 y1 y2 (jxw (y3 + 1)) (jxu a 181 (y3.toNat) 2) (show (((20 - (jxw (y3 + 1))) * 1) + 0).toNat < n from by omega) hv441_ hf442_ (show 0 ≤ y1 from by omega) (show y1 ≤ 39 from by omega) (show 0 ≤ jxw (y3 + 1) from by omega) (show jxw (y3 + 1) ≤ 20 from by omega) (UP_cr hu152 (fun j => rfl)) hg444_ (show 1 ≤ a0 146 2 from by omega) (show ((0 ≤ x1 ∧ x1 < a0 146 2) ∧ ¬ a0 152 (x1.toNat) = 0) from by omega)
  have hc126 : ∀ (y1 y2 y3 : Int) (a : Nat → Nat → Int), (((20 - y3) * 1) + 0).toNat ≤ n → iv a → jfr jW_X12_leave a0 a → 0 ≤ y1 → y1 ≤ 39 → 0 ≤ y3 → y3 ≤ 19 → 1 ≤ a 146 49 → a 181 (y3.toNat) = 1 → y3 < a 146 49 → (UP (a0 152) (a 152) x1.toNat 0) → (OC a) → 1 ≤ a0 146 2 → ((0 ≤ x1 ∧ x1 < a0 146 2) ∧ ¬ a0 152 (x1.toNat) = 0) → jt (jxX E d 279 126 [some (.inr (.inr (.inl 146))), some (.inl y1), some (.inl y2), some (.inl y3)] [] (jxSH, a, b0)) (jQ_X12_leave x1 a0 b0) := by
    intro y1 y2 y3 a hm hv hf hi0 hi1 hi2 hi3 hi4 hi5 hi6 hu152 hi8 hi9 hi10
    refine jt_eq (bq_X12_leave_126 E d y1 y2 y3 a b0) ?_
    have h445_ := iv_get hv (k := 146) (j := 49) (l := 0) (u := 20) rfl
    have h446_ : a 146 49 = a0 146 49 := hf 146 49 rfl
    have h447_ := iv_get hv0 (k := 146) (j := 49) (l := 0) (u := 20) rfl
    have h448_ := iv_get hv (k := 181) (j := y3.toNat) (l := 0) (u := 2) rfl
    have h449_ := iv_get hv0 (k := 146) (j := 2) (l := 0) (u := 40) rfl
    have h450_ := iv_get hv0 (k := 152) (j := x1.toNat) (l := 0) (u := 1) rfl
    refine jt_grd (by omega) ?_
    have h451_ : a 182 (y3.toNat) = a0 182 (y3.toNat) := hf 182 (y3.toNat) rfl
    refine jt_bI (sp_X12_drops E d (jd_le hd rfl) (a 182 (y3.toNat)) y3 a b0 hv (show (0 ≤ y3 ∧ y3 ≤ 19) from by omega) (show y3 < a 146 49 from by omega) (show a 181 (y3.toNat) = 1 from by omega) (show a 182 (y3.toNat) = a 182 (y3.toNat) from by omega) hi8) (fun r452_ a452_ b452_ h452_ => ?_)
    obtain ⟨hv452_, hf452_, rfl, hq452_0, hq452_1⟩ := h452_
    have hf453_ : jfr jW_X12_leave a0 a452_ := jfr_tr hf hf452_ rfl
    have h454_ := iv_get hv452_ (k := 146) (j := 49) (l := 0) (u := 20) rfl
    have h455_ : a452_ 146 49 = a 146 49 := hf452_ 146 49 rfl
    exact hc140 y1 (jxw (y2 + r452_)) y3 a452_ (show (((20 - y3) * 1) + 0).toNat ≤ n from by omega) hv452_ hf453_ (show 0 ≤ y1 from by omega) (show y1 ≤ 39 from by omega) (show 0 ≤ y3 from by omega) (show y3 ≤ 19 from by omega) (show 1 ≤ a452_ 146 49 from by omega) (show y3 < a452_ 146 49 from by omega) (UP_cr hu152 (fun j => (hf452_ 152 j rfl))) hq452_1 (show 1 ≤ a0 146 2 from by omega) (show ((0 ≤ x1 ∧ x1 < a0 146 2) ∧ ¬ a0 152 (x1.toNat) = 0) from by omega)
  have hc95 : ∀ (y1 y2 y3 : Int) (a : Nat → Nat → Int), (((20 - y3) * 1) + 0).toNat ≤ n → iv a → jfr jW_X12_leave a0 a → 0 ≤ y1 → y1 ≤ 39 → 0 ≤ y3 → y3 ≤ 20 → (UP (a0 152) (a 152) x1.toNat 0) → (OC a) → 1 ≤ a0 146 2 → ((0 ≤ x1 ∧ x1 < a0 146 2) ∧ ¬ a0 152 (x1.toNat) = 0) → jt (jxX E d 279 95 [some (.inr (.inr (.inl 146))), some (.inl y1), some (.inl y2), some (.inl y3)] [] (jxSH, a, b0)) (jQ_X12_leave x1 a0 b0) := by
    intro y1 y2 y3 a hm hv hf hi0 hi1 hi2 hi3 hu152 hi5 hi6 hi7
    refine jt_eq (bq_X12_leave_95 E d y1 y2 y3 a b0) ?_
    have h456_ := iv_get hv0 (k := 146) (j := 2) (l := 0) (u := 40) rfl
    have h457_ := iv_get hv0 (k := 152) (j := x1.toNat) (l := 0) (u := 1) rfl
    have h458_ := iv_get hv (k := 146) (j := 49) (l := 0) (u := 20) rfl
    have h459_ : a 146 49 = a0 146 49 := hf 146 49 rfl
    have h460_ := iv_get hv0 (k := 146) (j := 49) (l := 0) (u := 20) rfl
    refine jt_ite (fun c461_ => ?_) (fun c461_ => ?_)
    ·
      refine jt_grd (by omega) ?_
      have h462_ := iv_get hv (k := 178) (j := y3.toNat) (l := 0) (u := 39) rfl
      have h463_ : a 178 (y3.toNat) = a0 178 (y3.toNat) := hf 178 (y3.toNat) rfl
      have h464_ := iv_get hv0 (k := 178) (j := y3.toNat) (l := 0) (u := 39) rfl
      refine jt_ite (fun c465_ => ?_) (fun c465_ => ?_)
      ·
        refine jt_grd (by omega) ?_
        have h466_ := iv_get hv (k := 181) (j := y3.toNat) (l := 0) (u := 2) rfl
        refine jt_ite (fun c467_ => ?_) (fun c467_ => ?_)
        ·
          exact hc126 y1 y2 y3 a (show (((20 - y3) * 1) + 0).toNat ≤ n from by omega) hv hf (show 0 ≤ y1 from by omega) (show y1 ≤ 39 from by omega) (show 0 ≤ y3 from by omega) (show y3 ≤ 19 from by omega) (show 1 ≤ a 146 49 from by omega) (show a 181 (y3.toNat) = 1 from by omega) (show y3 < a 146 49 from by omega) (UP_cr hu152 (fun j => rfl)) hi5 (show 1 ≤ a0 146 2 from by omega) (show ((0 ≤ x1 ∧ x1 < a0 146 2) ∧ ¬ a0 152 (x1.toNat) = 0) from by omega)
        ·
          exact hc140 y1 y2 y3 a (show (((20 - y3) * 1) + 0).toNat ≤ n from by omega) hv hf (show 0 ≤ y1 from by omega) (show y1 ≤ 39 from by omega) (show 0 ≤ y3 from by omega) (show y3 ≤ 19 from by omega) (show 1 ≤ a 146 49 from by omega) (show y3 < a 146 49 from by omega) (UP_cr hu152 (fun j => rfl)) hi5 (show 1 ≤ a0 146 2 from by omega) (show ((0 ≤ x1 ∧ x1 < a0 146 2) ∧ ¬ a0 152 (x1.toNat) = 0) from by omega)
      ·
        have h468_ : jxw (y3 + 1) = y3 + 1 := jxw_id (by omega) (by omega)
        exact ih95 y1 y2 (jxw (y3 + 1)) a (show (((20 - (jxw (y3 + 1))) * 1) + 0).toNat < n from by omega) hv hf (show 0 ≤ y1 from by omega) (show y1 ≤ 39 from by omega) (show 0 ≤ jxw (y3 + 1) from by omega) (show jxw (y3 + 1) ≤ 20 from by omega) (UP_cr hu152 (fun j => rfl)) hi5 (show 1 ≤ a0 146 2 from by omega) (show ((0 ≤ x1 ∧ x1 < a0 146 2) ∧ ¬ a0 152 (x1.toNat) = 0) from by omega)
    ·
      exact jt_rI ⟨hv, hf, rfl, hi5, (show (a0 146 2 = 0 → y2 = 0 - 1) from by omega), (fun _ => (UP_cr hu152 (fun j => rfl))), (fun h => absurd h (by omega))⟩
  exact ⟨hc140, hc126, hc95⟩
theorem cp_X12_leave_30 (E : jxE) (d : Nat) (hd : Nat.ble 5 (d + 1) = true) (x1 : Int) (a0 b0 : Nat → Nat → Int) (hv0 : iv a0) (hp0 : OC a0) : ∀ n : Nat, (∀ (y1 y2 y3 : Int) (a : Nat → Nat → Int), (((300 - y3) * 1) + 0).toNat ≤ n → iv a → jfr jW_X12_leave a0 a → 0 ≤ y1 → y1 ≤ 39 → 0 ≤ y3 → y3 ≤ 299 → 1 ≤ a 146 9 → (UP (a0 152) (a 152) x1.toNat 0) → (OC a) → 1 ≤ a0 146 2 → ((0 ≤ x1 ∧ x1 < a0 146 2) ∧ ¬ a0 152 (x1.toNat) = 0) → jt (jxX E d 279 56 [some (.inr (.inr (.inl 146))), some (.inl y1), some (.inl y2), some (.inl y3)] [] (jxSH, a, b0)) (jQ_X12_leave x1 a0 b0)) ∧ (∀ (y1 y2 y3 : Int) (a : Nat → Nat → Int), (((300 - y3) * 1) + 0).toNat ≤ n → iv a → jfr jW_X12_leave a0 a → 0 ≤ y1 → y1 ≤ 39 → 0 ≤ y3 → y3 ≤ 299 → 1 ≤ a 146 9 → (UP (a0 152) (a 152) x1.toNat 0) → (OC a) → 1 ≤ a0 146 2 → ((0 ≤ x1 ∧ x1 < a0 146 2) ∧ ¬ a0 152 (x1.toNat) = 0) → jt (jxX E d 279 84 [some (.inr (.inr (.inl 146))), some (.inl y1), some (.inl y2), some (.inl y3)] [] (jxSH, a, b0)) (jQ_X12_leave x1 a0 b0)) ∧ (∀ (y1 y2 y3 : Int) (a : Nat → Nat → Int), (((300 - y3) * 1) + 0).toNat ≤ n → iv a → jfr jW_X12_leave a0 a → 0 ≤ y1 → y1 ≤ 39 → 0 ≤ y3 → y3 ≤ 299 → 1 ≤ a 146 9 → (UP (a0 152) (a 152) x1.toNat 0) → (OC a) → 1 ≤ a0 146 2 → ((0 ≤ x1 ∧ x1 < a0 146 2) ∧ ¬ a0 152 (x1.toNat) = 0) → jt (jxX E d 279 59 [some (.inr (.inr (.inl 146))), some (.inl y1), some (.inl y2), some (.inl y3)] [] (jxSH, a, b0)) (jQ_X12_leave x1 a0 b0)) ∧ (∀ (y1 y2 y3 : Int) (a : Nat → Nat → Int), (((300 - y3) * 1) + 0).toNat ≤ n → iv a → jfr jW_X12_leave a0 a → 0 ≤ y1 → y1 ≤ 39 → 0 ≤ y3 → y3 ≤ 300 → (UP (a0 152) (a 152) x1.toNat 0) → (OC a) → 1 ≤ a0 146 2 → ((0 ≤ x1 ∧ x1 < a0 146 2) ∧ ¬ a0 152 (x1.toNat) = 0) → jt (jxX E d 279 30 [some (.inr (.inr (.inl 146))), some (.inl y1), some (.inl y2), some (.inl y3)] [] (jxSH, a, b0)) (jQ_X12_leave x1 a0 b0)) := by
  refine jx_ind fun n ih => ?_
  have ih56 : ∀ (y1 y2 y3 : Int) (a : Nat → Nat → Int), (((300 - y3) * 1) + 0).toNat < n → iv a → jfr jW_X12_leave a0 a → 0 ≤ y1 → y1 ≤ 39 → 0 ≤ y3 → y3 ≤ 299 → 1 ≤ a 146 9 → (UP (a0 152) (a 152) x1.toNat 0) → (OC a) → 1 ≤ a0 146 2 → ((0 ≤ x1 ∧ x1 < a0 146 2) ∧ ¬ a0 152 (x1.toNat) = 0) → jt (jxX E d 279 56 [some (.inr (.inr (.inl 146))), some (.inl y1), some (.inl y2), some (.inl y3)] [] (jxSH, a, b0)) (jQ_X12_leave x1 a0 b0) := fun y1 y2 y3 a hlt i0 i1 i2 i3 i4 i5 i6 i7 i8 i9 i10 => (ih _ hlt).1 y1 y2 y3 a (Nat.le_refl _) i0 i1 i2 i3 i4 i5 i6 i7 i8 i9 i10
  have ih84 : ∀ (y1 y2 y3 : Int) (a : Nat → Nat → Int), (((300 - y3) * 1) + 0).toNat < n → iv a → jfr jW_X12_leave a0 a → 0 ≤ y1 → y1 ≤ 39 → 0 ≤ y3 → y3 ≤ 299 → 1 ≤ a 146 9 → (UP (a0 152) (a 152) x1.toNat 0) → (OC a) → 1 ≤ a0 146 2 → ((0 ≤ x1 ∧ x1 < a0 146 2) ∧ ¬ a0 152 (x1.toNat) = 0) → jt (jxX E d 279 84 [some (.inr (.inr (.inl 146))), some (.inl y1), some (.inl y2), some (.inl y3)] [] (jxSH, a, b0)) (jQ_X12_leave x1 a0 b0) := fun y1 y2 y3 a hlt i0 i1 i2 i3 i4 i5 i6 i7 i8 i9 i10 => (ih _ hlt).2.1 y1 y2 y3 a (Nat.le_refl _) i0 i1 i2 i3 i4 i5 i6 i7 i8 i9 i10
  have ih59 : ∀ (y1 y2 y3 : Int) (a : Nat → Nat → Int), (((300 - y3) * 1) + 0).toNat < n → iv a → jfr jW_X12_leave a0 a → 0 ≤ y1 → y1 ≤ 39 → 0 ≤ y3 → y3 ≤ 299 → 1 ≤ a 146 9 → (UP (a0 152) (a 152) x1.toNat 0) → (OC a) → 1 ≤ a0 146 2 → ((0 ≤ x1 ∧ x1 < a0 146 2) ∧ ¬ a0 152 (x1.toNat) = 0) → jt (jxX E d 279 59 [some (.inr (.inr (.inl 146))), some (.inl y1), some (.inl y2), some (.inl y3)] [] (jxSH, a, b0)) (jQ_X12_leave x1 a0 b0) := fun y1 y2 y3 a hlt i0 i1 i2 i3 i4 i5 i6 i7 i8 i9 i10 => (ih _ hlt).2.2.1 y1 y2 y3 a (Nat.le_refl _) i0 i1 i2 i3 i4 i5 i6 i7 i8 i9 i10
  have ih30 : ∀ (y1 y2 y3 : Int) (a : Nat → Nat → Int), (((300 - y3) * 1) + 0).toNat < n → iv a → jfr jW_X12_leave a0 a → 0 ≤ y1 → y1 ≤ 39 → 0 ≤ y3 → y3 ≤ 300 → (UP (a0 152) (a 152) x1.toNat 0) → (OC a) → 1 ≤ a0 146 2 → ((0 ≤ x1 ∧ x1 < a0 146 2) ∧ ¬ a0 152 (x1.toNat) = 0) → jt (jxX E d 279 30 [some (.inr (.inr (.inl 146))), some (.inl y1), some (.inl y2), some (.inl y3)] [] (jxSH, a, b0)) (jQ_X12_leave x1 a0 b0) := fun y1 y2 y3 a hlt i0 i1 i2 i3 i4 i5 i6 i7 i8 i9 => (ih _ hlt).2.2.2 y1 y2 y3 a (Nat.le_refl _) i0 i1 i2 i3 i4 i5 i6 i7 i8 i9
  have hc56 : ∀ (y1 y2 y3 : Int) (a : Nat → Nat → Int), (((300 - y3) * 1) + 0).toNat ≤ n → iv a → jfr jW_X12_leave a0 a → 0 ≤ y1 → y1 ≤ 39 → 0 ≤ y3 → y3 ≤ 299 → 1 ≤ a 146 9 → (UP (a0 152) (a 152) x1.toNat 0) → (OC a) → 1 ≤ a0 146 2 → ((0 ≤ x1 ∧ x1 < a0 146 2) ∧ ¬ a0 152 (x1.toNat) = 0) → jt (jxX E d 279 56 [some (.inr (.inr (.inl 146))), some (.inl y1), some (.inl y2), some (.inl y3)] [] (jxSH, a, b0)) (jQ_X12_leave x1 a0 b0) := by
    intro y1 y2 y3 a hm hv hf hi0 hi1 hi2 hi3 hi4 hu152 hi6 hi7 hi8
    refine jt_eq (bq_X12_leave_56 E d y1 y2 y3 a b0) ?_
    have h469_ := iv_get hv (k := 146) (j := 9) (l := 0) (u := 300) rfl
    have h470_ : a 146 9 = a0 146 9 := hf 146 9 rfl
    have h471_ := iv_get hv0 (k := 146) (j := 9) (l := 0) (u := 300) rfl
    have h472_ := iv_get hv0 (k := 146) (j := 2) (l := 0) (u := 40) rfl
    have h473_ := iv_get hv0 (k := 152) (j := x1.toNat) (l := 0) (u := 1) rfl
    have h474_ : jxw (y3 + 1) = y3 + 1 := jxw_id (by omega) (by omega)
    exact ih30 y1 y2 (jxw (y3 + 1)) a (show (((300 - (jxw (y3 + 1))) * 1) + 0).toNat < n from by omega) hv hf (show 0 ≤ y1 from by omega) (show y1 ≤ 39 from by omega) (show 0 ≤ jxw (y3 + 1) from by omega) (show jxw (y3 + 1) ≤ 300 from by omega) (UP_cr hu152 (fun j => rfl)) hi6 (show 1 ≤ a0 146 2 from by omega) (show ((0 ≤ x1 ∧ x1 < a0 146 2) ∧ ¬ a0 152 (x1.toNat) = 0) from by omega)
  have hc84 : ∀ (y1 y2 y3 : Int) (a : Nat → Nat → Int), (((300 - y3) * 1) + 0).toNat ≤ n → iv a → jfr jW_X12_leave a0 a → 0 ≤ y1 → y1 ≤ 39 → 0 ≤ y3 → y3 ≤ 299 → 1 ≤ a 146 9 → (UP (a0 152) (a 152) x1.toNat 0) → (OC a) → 1 ≤ a0 146 2 → ((0 ≤ x1 ∧ x1 < a0 146 2) ∧ ¬ a0 152 (x1.toNat) = 0) → jt (jxX E d 279 84 [some (.inr (.inr (.inl 146))), some (.inl y1), some (.inl y2), some (.inl y3)] [] (jxSH, a, b0)) (jQ_X12_leave x1 a0 b0) := by
    intro y1 y2 y3 a hm hv hf hi0 hi1 hi2 hi3 hi4 hu152 hi6 hi7 hi8
    refine jt_eq (bq_X12_leave_84 E d y1 y2 y3 a b0) ?_
    have h475_ := iv_get hv (k := 146) (j := 9) (l := 0) (u := 300) rfl
    have h476_ : a 146 9 = a0 146 9 := hf 146 9 rfl
    have h477_ := iv_get hv0 (k := 146) (j := 9) (l := 0) (u := 300) rfl
    have h478_ := iv_get hv0 (k := 146) (j := 2) (l := 0) (u := 40) rfl
    have h479_ := iv_get hv0 (k := 152) (j := x1.toNat) (l := 0) (u := 1) rfl
    have h480_ : jxw (y3 + 1) = y3 + 1 := jxw_id (by omega) (by omega)
    exact ih30 y1 (jxw (y2 + 1)) (jxw (y3 + 1)) a (show (((300 - (jxw (y3 + 1))) * 1) + 0).toNat < n from by omega) hv hf (show 0 ≤ y1 from by omega) (show y1 ≤ 39 from by omega) (show 0 ≤ jxw (y3 + 1) from by omega) (show jxw (y3 + 1) ≤ 300 from by omega) (UP_cr hu152 (fun j => rfl)) hi6 (show 1 ≤ a0 146 2 from by omega) (show ((0 ≤ x1 ∧ x1 < a0 146 2) ∧ ¬ a0 152 (x1.toNat) = 0) from by omega)
  have hc59 : ∀ (y1 y2 y3 : Int) (a : Nat → Nat → Int), (((300 - y3) * 1) + 0).toNat ≤ n → iv a → jfr jW_X12_leave a0 a → 0 ≤ y1 → y1 ≤ 39 → 0 ≤ y3 → y3 ≤ 299 → 1 ≤ a 146 9 → (UP (a0 152) (a 152) x1.toNat 0) → (OC a) → 1 ≤ a0 146 2 → ((0 ≤ x1 ∧ x1 < a0 146 2) ∧ ¬ a0 152 (x1.toNat) = 0) → jt (jxX E d 279 59 [some (.inr (.inr (.inl 146))), some (.inl y1), some (.inl y2), some (.inl y3)] [] (jxSH, a, b0)) (jQ_X12_leave x1 a0 b0) := by
    intro y1 y2 y3 a hm hv hf hi0 hi1 hi2 hi3 hi4 hu152 hi6 hi7 hi8
    refine jt_eq (bq_X12_leave_59 E d y1 y2 y3 a b0) ?_
    have h481_ := iv_get hv (k := 146) (j := 9) (l := 0) (u := 300) rfl
    have h482_ : a 146 9 = a0 146 9 := hf 146 9 rfl
    have h483_ := iv_get hv0 (k := 146) (j := 9) (l := 0) (u := 300) rfl
    have h484_ := iv_get hv0 (k := 146) (j := 2) (l := 0) (u := 40) rfl
    have h485_ := iv_get hv0 (k := 152) (j := x1.toNat) (l := 0) (u := 1) rfl
    refine jt_grd (by omega) ?_
    refine jt_grd (by omega) ?_
    have h486_ := iv_get hv (k := 154) (j := y3.toNat) (l := 0) (u := 39) rfl
    have h487_ : a 154 (y3.toNat) = a0 154 (y3.toNat) := hf 154 (y3.toNat) rfl
    have h488_ := iv_get hv0 (k := 154) (j := y3.toNat) (l := 0) (u := 39) rfl
    refine jt_grd (by omega) ?_
    refine jt_grd (by omega) ?_
    have hv489_ : iv (jxu a 159 (y3.toNat) (a 146 0)) := iv_putf hv rfl
    have hv490_ : iv (jxu (jxu a 159 (y3.toNat) (a 146 0)) 153 ((a 154 (y3.toNat)).toNat) (jxw ((a 153 ((a 154 (y3.toNat)).toNat)) + 1))) := iv_putf hv489_ rfl
    have hf491_ : jfr jW_X12_leave a0 (jxu a 159 (y3.toNat) (a 146 0)) := jfr_put hf rfl
    have hf492_ : jfr jW_X12_leave a0 (jxu (jxu a 159 (y3.toNat) (a 146 0)) 153 ((a 154 (y3.toNat)).toNat) (jxw ((a 153 ((a 154 (y3.toNat)).toNat)) + 1))) := jfr_put hf491_ rfl
    have hg493_ : OC (jxu a 159 (y3.toNat) (a 146 0)) := (OC_fr hi6 (jfr_1 a 159 (y3.toNat) (a 146 0)) rfl rfl (fun _ => rfl) (fun _ => rfl) (fun _ => rfl) (fun _ => rfl) (fun _ => rfl))
    have hg494_ : OC (jxu (jxu a 159 (y3.toNat) (a 146 0)) 153 ((a 154 (y3.toNat)).toNat) (jxw ((a 153 ((a 154 (y3.toNat)).toNat)) + 1))) := (OC_fr hg493_ (jfr_1 (jxu a 159 (y3.toNat) (a 146 0)) 153 ((a 154 (y3.toNat)).toNat) (jxw ((a 153 ((a 154 (y3.toNat)).toNat)) + 1))) rfl rfl (fun _ => rfl) (fun _ => rfl) (fun _ => rfl) (fun _ => rfl) (fun _ => rfl))
    exact hc84 y1 y2 y3 (jxu (jxu a 159 (y3.toNat) (a 146 0)) 153 ((a 154 (y3.toNat)).toNat) (jxw ((a 153 ((a 154 (y3.toNat)).toNat)) + 1))) (show (((300 - y3) * 1) + 0).toNat ≤ n from by omega) hv490_ hf492_ (show 0 ≤ y1 from by omega) (show y1 ≤ 39 from by omega) (show 0 ≤ y3 from by omega) (show y3 ≤ 299 from by omega) (show 1 ≤ a 146 9 from by omega) (UP_cr hu152 (fun j => rfl)) hg494_ (show 1 ≤ a0 146 2 from by omega) (show ((0 ≤ x1 ∧ x1 < a0 146 2) ∧ ¬ a0 152 (x1.toNat) = 0) from by omega)
  have hc30 : ∀ (y1 y2 y3 : Int) (a : Nat → Nat → Int), (((300 - y3) * 1) + 0).toNat ≤ n → iv a → jfr jW_X12_leave a0 a → 0 ≤ y1 → y1 ≤ 39 → 0 ≤ y3 → y3 ≤ 300 → (UP (a0 152) (a 152) x1.toNat 0) → (OC a) → 1 ≤ a0 146 2 → ((0 ≤ x1 ∧ x1 < a0 146 2) ∧ ¬ a0 152 (x1.toNat) = 0) → jt (jxX E d 279 30 [some (.inr (.inr (.inl 146))), some (.inl y1), some (.inl y2), some (.inl y3)] [] (jxSH, a, b0)) (jQ_X12_leave x1 a0 b0) := by
    intro y1 y2 y3 a hm hv hf hi0 hi1 hi2 hi3 hu152 hi5 hi6 hi7
    refine jt_eq (bq_X12_leave_30 E d y1 y2 y3 a b0) ?_
    have h495_ := iv_get hv0 (k := 146) (j := 2) (l := 0) (u := 40) rfl
    have h496_ := iv_get hv0 (k := 152) (j := x1.toNat) (l := 0) (u := 1) rfl
    have h497_ := iv_get hv (k := 146) (j := 9) (l := 0) (u := 300) rfl
    have h498_ : a 146 9 = a0 146 9 := hf 146 9 rfl
    have h499_ := iv_get hv0 (k := 146) (j := 9) (l := 0) (u := 300) rfl
    refine jt_ite (fun c500_ => ?_) (fun c500_ => ?_)
    ·
      refine jt_grd (by omega) ?_
      have h501_ := iv_get hv (k := 155) (j := y3.toNat) (l := 0) (u := 39) rfl
      have h502_ : a 155 (y3.toNat) = a0 155 (y3.toNat) := hf 155 (y3.toNat) rfl
      have h503_ := iv_get hv0 (k := 155) (j := y3.toNat) (l := 0) (u := 39) rfl
      refine jt_ite (fun c504_ => ?_) (fun c504_ => ?_)
      ·
        refine jt_bI (sp_X12_stateNow E d (jd_le hd rfl) y3 a b0 hv (show (0 ≤ y3 ∧ y3 ≤ 299) from by omega)) (fun r505_ a505_ b505_ h505_ => ?_)
        obtain ⟨rfl, rfl, hq505_0, hq505_1⟩ := h505_
        refine jt_ite (fun c506_ => ?_) (fun c506_ => ?_)
        ·
          exact hc59 y1 y2 y3 a (show (((300 - y3) * 1) + 0).toNat ≤ n from by omega) hv hf (show 0 ≤ y1 from by omega) (show y1 ≤ 39 from by omega) (show 0 ≤ y3 from by omega) (show y3 ≤ 299 from by omega) (show 1 ≤ a 146 9 from by omega) (UP_cr hu152 (fun j => rfl)) hi5 (show 1 ≤ a0 146 2 from by omega) (show ((0 ≤ x1 ∧ x1 < a0 146 2) ∧ ¬ a0 152 (x1.toNat) = 0) from by omega)
        ·
          exact hc56 y1 y2 y3 a (show (((300 - y3) * 1) + 0).toNat ≤ n from by omega) hv hf (show 0 ≤ y1 from by omega) (show y1 ≤ 39 from by omega) (show 0 ≤ y3 from by omega) (show y3 ≤ 299 from by omega) (show 1 ≤ a 146 9 from by omega) (UP_cr hu152 (fun j => rfl)) hi5 (show 1 ≤ a0 146 2 from by omega) (show ((0 ≤ x1 ∧ x1 < a0 146 2) ∧ ¬ a0 152 (x1.toNat) = 0) from by omega)
      ·
        have h507_ : jxw (y3 + 1) = y3 + 1 := jxw_id (by omega) (by omega)
        exact ih30 y1 y2 (jxw (y3 + 1)) a (show (((300 - (jxw (y3 + 1))) * 1) + 0).toNat < n from by omega) hv hf (show 0 ≤ y1 from by omega) (show y1 ≤ 39 from by omega) (show 0 ≤ jxw (y3 + 1) from by omega) (show jxw (y3 + 1) ≤ 300 from by omega) (UP_cr hu152 (fun j => rfl)) hi5 (show 1 ≤ a0 146 2 from by omega) (show ((0 ≤ x1 ∧ x1 < a0 146 2) ∧ ¬ a0 152 (x1.toNat) = 0) from by omega)
    ·
      exact (cp_X12_leave_95 E d hd x1 a0 b0 hv0 hp0 _).2.2 y1 y2 0 a (Nat.le_refl _) hv hf (show 0 ≤ y1 from by omega) (show y1 ≤ 39 from by omega) (show 0 ≤ 0 from by omega) (show 0 ≤ 20 from by omega) (UP_cr hu152 (fun j => rfl)) hi5 (show 1 ≤ a0 146 2 from by omega) (show ((0 ≤ x1 ∧ x1 < a0 146 2) ∧ ¬ a0 152 (x1.toNat) = 0) from by omega)
  exact ⟨hc56, hc84, hc59, hc30⟩
theorem cp_X12_leave_26 (E : jxE) (d : Nat) (hd : Nat.ble 5 (d + 1) = true) (x1 : Int) (a0 b0 : Nat → Nat → Int) (hv0 : iv a0) (hp0 : OC a0) : ∀ (y1 : Int) (a : Nat → Nat → Int), iv a → jfr jW_X12_leave a0 a → 0 ≤ y1 → y1 ≤ 39 → (UP (a0 152) (a 152) x1.toNat 0) → (OC a) → 1 ≤ a0 146 2 → ((0 ≤ x1 ∧ x1 < a0 146 2) ∧ ¬ a0 152 (x1.toNat) = 0) → jt (jxX E d 279 26 [some (.inr (.inr (.inl 146))), some (.inl y1), none, none] [] (jxSH, a, b0)) (jQ_X12_leave x1 a0 b0) := by
  intro y1 a hv hf hi0 hi1 hu152 hi3 hi4 hi5
  refine jt_eq (bq_X12_leave_26 E d y1 a b0) ?_
  have h508_ := iv_get hv0 (k := 146) (j := 2) (l := 0) (u := 40) rfl
  have h509_ := iv_get hv0 (k := 152) (j := x1.toNat) (l := 0) (u := 1) rfl
  exact (cp_X12_leave_30 E d hd x1 a0 b0 hv0 hp0 _).2.2.2 y1 0 0 a (Nat.le_refl _) hv hf (show 0 ≤ y1 from by omega) (show y1 ≤ 39 from by omega) (show 0 ≤ 0 from by omega) (show 0 ≤ 300 from by omega) (UP_cr hu152 (fun j => rfl)) hi3 (show 1 ≤ a0 146 2 from by omega) (show ((0 ≤ x1 ∧ x1 < a0 146 2) ∧ ¬ a0 152 (x1.toNat) = 0) from by omega)
theorem sp_X12_leave (E : jxE) (d : Nat) (hd : Nat.ble 5 d = true) (x1 : Int) (a0 b0 : Nat → Nat → Int) (hv0 : iv a0) (hp0 : OC a0) : jt (jxC E d 279 [.inr (.inr (.inl 146)), .inl x1] (jxSH, a0, b0)) (jQ_X12_leave x1 a0 b0) := by
  obtain ⟨d, rfl⟩ := jd_succ hd
  refine jt_eq (bq_X12_leave E d x1 a0 b0) ?_
  refine jt_eI (eq_X12_isMember E d (jd_le hd rfl) x1 a0 b0) ?_
  have h510_ := f_X12_isMember_eq a0 b0 x1
  have h511_ := iv_get hv0 (k := 146) (j := 2) (l := 0) (u := 40) rfl
  have h512_ : jxw ((a0 146 2) - 1) = (a0 146 2) - 1 := jxw_id (by omega) (by omega)
  have h513_ := f_X12_in_eq a0 b0 x1 0 (jxw ((a0 146 2) - 1))
  refine jt_ite (fun c514_ => ?_) (fun c514_ => ?_)
  ·
    exact jt_rI ⟨hv0, (jfr_rf _ _), rfl, hp0, (show (a0 146 2 = 0 → (-1) = 0 - 1) from by omega), (fun h => absurd h (by omega)), (fun _ j => rfl)⟩
  ·
    refine jt_grd (by omega) ?_
    have h515_ := iv_get hv0 (k := 152) (j := x1.toNat) (l := 0) (u := 1) rfl
    refine jt_ite (fun c516_ => ?_) (fun c516_ => ?_)
    ·
      exact jt_rI ⟨hv0, (jfr_rf _ _), rfl, hp0, (show (a0 146 2 = 0 → (-1) = 0 - 1) from by omega), (fun h => absurd h (by omega)), (fun _ j => rfl)⟩
    ·
      refine jt_grd (by omega) ?_
      have hv517_ : iv (jxu a0 152 (x1.toNat) 0) := iv_put hv0 (l := 0) (u := 1) rfl (by omega) (by omega)
      have hf518_ : jfr jW_X12_leave a0 (jxu a0 152 (x1.toNat) 0) := jfr_put (jfr_rf _ _) rfl
      have hg519_ : OC (jxu a0 152 (x1.toNat) 0) := (OC_fr hp0 (jfr_1 a0 152 (x1.toNat) 0) rfl rfl (fun _ => rfl) (fun _ => rfl) (fun _ => rfl) (fun _ => rfl) (fun _ => rfl))
      exact cp_X12_leave_26 E d hd x1 a0 b0 hv0 hp0 x1 (jxu a0 152 (x1.toNat) 0) hv517_ hf518_ (show 0 ≤ x1 from by omega) (show x1 ≤ 39 from by omega) (UP_cr (UP_put (fun _ => rfl)) (fun j => rfl)) hg519_ (show 1 ≤ a0 146 2 from by omega) (show ((0 ≤ x1 ∧ x1 < a0 146 2) ∧ ¬ a0 152 (x1.toNat) = 0) from by omega)
def jW_X12_makes : List (Nat × Nat) := [(199, 9999)]
abbrev jQ_X12_makes (a0 b0 : Nat → Nat → Int) : List jxV → (Nat → Nat → Int) → (Nat → Nat → Int) → Prop := rV (fun a b => (iv a) ∧ (jfr jW_X12_makes a0 a) ∧ (b0 = b))
theorem cp_X12_makes_39 (E : jxE) (d : Nat) (hd : Nat.ble 1 (d + 1) = true) (a0 b0 : Nat → Nat → Int) (hv0 : iv a0) (hp0 : SV a0) : ∀ n : Nat, (∀ (y1 y2 y3 y4 y5 : Int) (a : Nat → Nat → Int), (((((((y1 + 1) * 75709) + 0) + ((1400 - y2) * 54)) + 0) + ((51 - y4) * 1)) + 0).toNat ≤ n → iv a → jfr jW_X12_makes a0 a → 0 ≤ y1 → y1 ≤ 7 → 0 ≤ y2 → y2 ≤ 1399 → y3 ≤ 1000000 → 0 ≤ y4 → y4 ≤ 50 → jt (jxX E d 286 112 [some (.inr (.inr (.inl 146))), some (.inl y1), some (.inl y2), some (.inl y3), some (.inl y4), some (.inl y5)] [] (jxSH, a, b0)) (jQ_X12_makes a0 b0)) ∧ (∀ (y1 y2 y3 y4 : Int) (a : Nat → Nat → Int), (((((((y1 + 1) * 75709) + 0) + ((1400 - y2) * 54)) + 0) + ((51 - y4) * 1)) + 0).toNat ≤ n → iv a → jfr jW_X12_makes a0 a → 0 ≤ y1 → y1 ≤ 7 → 0 ≤ y2 → y2 ≤ 1399 → y3 ≤ 1000000 → 0 ≤ y4 → y4 ≤ 50 → y4 ≤ a 197 (y1.toNat) → y4 * (a 196 (y1.toNat)) ≤ y2 → 0 ≤ y4 → jt (jxX E d 286 83 [some (.inr (.inr (.inl 146))), some (.inl y1), some (.inl y2), some (.inl y3), some (.inl y4), none] [] (jxSH, a, b0)) (jQ_X12_makes a0 b0)) ∧ (∀ (y1 y2 y3 : Int) (a : Nat → Nat → Int), (((((y1 + 1) * 75709) + 0) + ((1400 - y2) * 54)) + 0).toNat ≤ n → iv a → jfr jW_X12_makes a0 a → 0 ≤ y1 → y1 ≤ 7 → 0 ≤ y2 → y2 ≤ 1399 → y3 ≤ 1000000 → jt (jxX E d 286 131 [some (.inr (.inr (.inl 146))), some (.inl y1), some (.inl y2), some (.inl y3), none, none] [] (jxSH, a, b0)) (jQ_X12_makes a0 b0)) ∧ (∀ (y1 y2 y3 y4 : Int) (a : Nat → Nat → Int), (((((((y1 + 1) * 75709) + 0) + ((1400 - y2) * 54)) + 0) + ((51 - y4) * 1)) + 0).toNat ≤ n → iv a → jfr jW_X12_makes a0 a → 0 ≤ y1 → y1 ≤ 7 → 0 ≤ y2 → y2 ≤ 1399 → y3 ≤ 1000000 → 0 ≤ y4 → y4 ≤ 51 → 0 ≤ y4 → jt (jxX E d 286 59 [some (.inr (.inr (.inl 146))), some (.inl y1), some (.inl y2), some (.inl y3), some (.inl y4), none] [] (jxSH, a, b0)) (jQ_X12_makes a0 b0)) ∧ (∀ (y1 y2 : Int) (a : Nat → Nat → Int), (((((y1 + 1) * 75709) + 0) + ((1400 - y2) * 54)) + 53).toNat ≤ n → iv a → jfr jW_X12_makes a0 a → 0 ≤ y1 → y1 ≤ 7 → 0 ≤ y2 → y2 ≤ 1400 → jt (jxX E d 286 45 [some (.inr (.inr (.inl 146))), some (.inl y1), some (.inl y2), none, none, none] [] (jxSH, a, b0)) (jQ_X12_makes a0 b0)) ∧ (∀ (y1 : Int) (a : Nat → Nat → Int), (((y1 + 1) * 75709) + 75708).toNat ≤ n → iv a → jfr jW_X12_makes a0 a → 0 - 1 ≤ y1 → y1 ≤ 7 → jt (jxX E d 286 39 [some (.inr (.inr (.inl 146))), some (.inl y1), none, none, none, none] [] (jxSH, a, b0)) (jQ_X12_makes a0 b0)) := by
  refine jx_ind fun n ih => ?_
  have ih112 : ∀ (y1 y2 y3 y4 y5 : Int) (a : Nat → Nat → Int), (((((((y1 + 1) * 75709) + 0) + ((1400 - y2) * 54)) + 0) + ((51 - y4) * 1)) + 0).toNat < n → iv a → jfr jW_X12_makes a0 a → 0 ≤ y1 → y1 ≤ 7 → 0 ≤ y2 → y2 ≤ 1399 → y3 ≤ 1000000 → 0 ≤ y4 → y4 ≤ 50 → jt (jxX E d 286 112 [some (.inr (.inr (.inl 146))), some (.inl y1), some (.inl y2), some (.inl y3), some (.inl y4), some (.inl y5)] [] (jxSH, a, b0)) (jQ_X12_makes a0 b0) := fun y1 y2 y3 y4 y5 a hlt i0 i1 i2 i3 i4 i5 i6 i7 i8 => (ih _ hlt).1 y1 y2 y3 y4 y5 a (Nat.le_refl _) i0 i1 i2 i3 i4 i5 i6 i7 i8
  have ih83 : ∀ (y1 y2 y3 y4 : Int) (a : Nat → Nat → Int), (((((((y1 + 1) * 75709) + 0) + ((1400 - y2) * 54)) + 0) + ((51 - y4) * 1)) + 0).toNat < n → iv a → jfr jW_X12_makes a0 a → 0 ≤ y1 → y1 ≤ 7 → 0 ≤ y2 → y2 ≤ 1399 → y3 ≤ 1000000 → 0 ≤ y4 → y4 ≤ 50 → y4 ≤ a 197 (y1.toNat) → y4 * (a 196 (y1.toNat)) ≤ y2 → 0 ≤ y4 → jt (jxX E d 286 83 [some (.inr (.inr (.inl 146))), some (.inl y1), some (.inl y2), some (.inl y3), some (.inl y4), none] [] (jxSH, a, b0)) (jQ_X12_makes a0 b0) := fun y1 y2 y3 y4 a hlt i0 i1 i2 i3 i4 i5 i6 i7 i8 i9 i10 i11 => (ih _ hlt).2.1 y1 y2 y3 y4 a (Nat.le_refl _) i0 i1 i2 i3 i4 i5 i6 i7 i8 i9 i10 i11
  have ih131 : ∀ (y1 y2 y3 : Int) (a : Nat → Nat → Int), (((((y1 + 1) * 75709) + 0) + ((1400 - y2) * 54)) + 0).toNat < n → iv a → jfr jW_X12_makes a0 a → 0 ≤ y1 → y1 ≤ 7 → 0 ≤ y2 → y2 ≤ 1399 → y3 ≤ 1000000 → jt (jxX E d 286 131 [some (.inr (.inr (.inl 146))), some (.inl y1), some (.inl y2), some (.inl y3), none, none] [] (jxSH, a, b0)) (jQ_X12_makes a0 b0) := fun y1 y2 y3 a hlt i0 i1 i2 i3 i4 i5 i6 => (ih _ hlt).2.2.1 y1 y2 y3 a (Nat.le_refl _) i0 i1 i2 i3 i4 i5 i6
  have ih59 : ∀ (y1 y2 y3 y4 : Int) (a : Nat → Nat → Int), (((((((y1 + 1) * 75709) + 0) + ((1400 - y2) * 54)) + 0) + ((51 - y4) * 1)) + 0).toNat < n → iv a → jfr jW_X12_makes a0 a → 0 ≤ y1 → y1 ≤ 7 → 0 ≤ y2 → y2 ≤ 1399 → y3 ≤ 1000000 → 0 ≤ y4 → y4 ≤ 51 → 0 ≤ y4 → jt (jxX E d 286 59 [some (.inr (.inr (.inl 146))), some (.inl y1), some (.inl y2), some (.inl y3), some (.inl y4), none] [] (jxSH, a, b0)) (jQ_X12_makes a0 b0) := fun y1 y2 y3 y4 a hlt i0 i1 i2 i3 i4 i5 i6 i7 i8 i9 => (ih _ hlt).2.2.2.1 y1 y2 y3 y4 a (Nat.le_refl _) i0 i1 i2 i3 i4 i5 i6 i7 i8 i9
  have ih45 : ∀ (y1 y2 : Int) (a : Nat → Nat → Int), (((((y1 + 1) * 75709) + 0) + ((1400 - y2) * 54)) + 53).toNat < n → iv a → jfr jW_X12_makes a0 a → 0 ≤ y1 → y1 ≤ 7 → 0 ≤ y2 → y2 ≤ 1400 → jt (jxX E d 286 45 [some (.inr (.inr (.inl 146))), some (.inl y1), some (.inl y2), none, none, none] [] (jxSH, a, b0)) (jQ_X12_makes a0 b0) := fun y1 y2 a hlt i0 i1 i2 i3 i4 i5 => (ih _ hlt).2.2.2.2.1 y1 y2 a (Nat.le_refl _) i0 i1 i2 i3 i4 i5
  have ih39 : ∀ (y1 : Int) (a : Nat → Nat → Int), (((y1 + 1) * 75709) + 75708).toNat < n → iv a → jfr jW_X12_makes a0 a → 0 - 1 ≤ y1 → y1 ≤ 7 → jt (jxX E d 286 39 [some (.inr (.inr (.inl 146))), some (.inl y1), none, none, none, none] [] (jxSH, a, b0)) (jQ_X12_makes a0 b0) := fun y1 a hlt i0 i1 i2 i3 => (ih _ hlt).2.2.2.2.2 y1 a (Nat.le_refl _) i0 i1 i2 i3
  have hc112 : ∀ (y1 y2 y3 y4 y5 : Int) (a : Nat → Nat → Int), (((((((y1 + 1) * 75709) + 0) + ((1400 - y2) * 54)) + 0) + ((51 - y4) * 1)) + 0).toNat ≤ n → iv a → jfr jW_X12_makes a0 a → 0 ≤ y1 → y1 ≤ 7 → 0 ≤ y2 → y2 ≤ 1399 → y3 ≤ 1000000 → 0 ≤ y4 → y4 ≤ 50 → jt (jxX E d 286 112 [some (.inr (.inr (.inl 146))), some (.inl y1), some (.inl y2), some (.inl y3), some (.inl y4), some (.inl y5)] [] (jxSH, a, b0)) (jQ_X12_makes a0 b0) := by
    intro y1 y2 y3 y4 y5 a hm hv hf hi0 hi1 hi2 hi3 hi4 hi5 hi6
    refine jt_eq (bq_X12_makes_112 E d y1 y2 y3 y4 y5 a b0) ?_
    refine jt_ite (fun c520_ => ?_) (fun c520_ => ?_)
    ·
      have h521_ : jxw (y4 + 1) = y4 + 1 := jxw_id (by omega) (by omega)
      exact ih59 y1 y2 y5 (jxw (y4 + 1)) a (show (((((((y1 + 1) * 75709) + 0) + ((1400 - y2) * 54)) + 0) + ((51 - (jxw (y4 + 1))) * 1)) + 0).toNat < n from by omega) hv hf (show 0 ≤ y1 from by omega) (show y1 ≤ 7 from by omega) (show 0 ≤ y2 from by omega) (show y2 ≤ 1399 from by omega) (show y5 ≤ 1000000 from by omega) (show 0 ≤ jxw (y4 + 1) from by omega) (show jxw (y4 + 1) ≤ 51 from by omega) (show 0 ≤ jxw (y4 + 1) from by omega)
    ·
      have h522_ : jxw (y4 + 1) = y4 + 1 := jxw_id (by omega) (by omega)
      exact ih59 y1 y2 y3 (jxw (y4 + 1)) a (show (((((((y1 + 1) * 75709) + 0) + ((1400 - y2) * 54)) + 0) + ((51 - (jxw (y4 + 1))) * 1)) + 0).toNat < n from by omega) hv hf (show 0 ≤ y1 from by omega) (show y1 ≤ 7 from by omega) (show 0 ≤ y2 from by omega) (show y2 ≤ 1399 from by omega) (show y3 ≤ 1000000 from by omega) (show 0 ≤ jxw (y4 + 1) from by omega) (show jxw (y4 + 1) ≤ 51 from by omega) (show 0 ≤ jxw (y4 + 1) from by omega)
  have hc83 : ∀ (y1 y2 y3 y4 : Int) (a : Nat → Nat → Int), (((((((y1 + 1) * 75709) + 0) + ((1400 - y2) * 54)) + 0) + ((51 - y4) * 1)) + 0).toNat ≤ n → iv a → jfr jW_X12_makes a0 a → 0 ≤ y1 → y1 ≤ 7 → 0 ≤ y2 → y2 ≤ 1399 → y3 ≤ 1000000 → 0 ≤ y4 → y4 ≤ 50 → y4 ≤ a 197 (y1.toNat) → y4 * (a 196 (y1.toNat)) ≤ y2 → 0 ≤ y4 → jt (jxX E d 286 83 [some (.inr (.inr (.inl 146))), some (.inl y1), some (.inl y2), some (.inl y3), some (.inl y4), none] [] (jxSH, a, b0)) (jQ_X12_makes a0 b0) := by
    intro y1 y2 y3 y4 a hm hv hf hi0 hi1 hi2 hi3 hi4 hi5 hi6 hi7 hi8 hi9
    refine jt_eq (bq_X12_makes_83 E d y1 y2 y3 y4 a b0) ?_
    have h523_ := iv_get hv (k := 197) (j := y1.toNat) (l := 0) (u := 50) rfl
    have h524_ : a 197 (y1.toNat) = a0 197 (y1.toNat) := hf 197 (y1.toNat) rfl
    have h525_ := iv_get hv0 (k := 197) (j := y1.toNat) (l := 0) (u := 50) rfl
    have h526_ := iv_get hv (k := 196) (j := y1.toNat) (l := (-1)) (u := 500) rfl
    have h527_ : a 196 (y1.toNat) = a0 196 (y1.toNat) := hf 196 (y1.toNat) rfl
    have h528_ := iv_get hv0 (k := 196) (j := y1.toNat) (l := (-1)) (u := 500) rfl
    have hsv := SV_fr hp0 hf (fun _ => rfl) (fun _ => rfl) y1.toNat (by omega)
    have i196 := iv_get hv (k := 196) (j := y1.toNat) (l := (-1)) (u := 500) rfl
    have i197 := iv_get hv (k := 197) (j := y1.toNat) (l := 0) (u := 50) rfl
    have hmul : y4 ≤ a 197 (y1.toNat) → 0 ≤ y4 * (a 196 (y1.toNat)) ∧ y4 * (a 196 (y1.toNat)) ≤ 25500 := fun h => mul_bd (by omega) (by omega) (by omega) (by omega)
    refine jt_grd (by omega) ?_
    have h529_ : jxw (y1 + 1) = y1 + 1 := jxw_id (by omega) (by omega)
    have h530_ : jxw (1400 * (jxw (y1 + 1))) = 1400 * (jxw (y1 + 1)) := jxw_id (by omega) (by omega)
    have h531_ : jxw ((jxw (1400 * (jxw (y1 + 1)))) + y2) = (jxw (1400 * (jxw (y1 + 1)))) + y2 := jxw_id (by omega) (by omega)
    have h532_ : jxw (y4 * (a 196 (y1.toNat))) = y4 * (a 196 (y1.toNat)) := jxw_id (by omega) (by omega)
    have h533_ : jxw ((jxw ((jxw (1400 * (jxw (y1 + 1)))) + y2)) - (jxw (y4 * (a 196 (y1.toNat))))) = (jxw ((jxw (1400 * (jxw (y1 + 1)))) + y2)) - (jxw (y4 * (a 196 (y1.toNat)))) := jxw_id (by omega) (by omega)
    refine jt_grd (by omega) ?_
    exact hc112 y1 y2 y3 y4 (jxw (y4 + (a 199 ((jxw ((jxw ((jxw (1400 * (jxw (y1 + 1)))) + y2)) - (jxw (y4 * (a 196 (y1.toNat)))))).toNat)))) a (show (((((((y1 + 1) * 75709) + 0) + ((1400 - y2) * 54)) + 0) + ((51 - y4) * 1)) + 0).toNat ≤ n from by omega) hv hf (show 0 ≤ y1 from by omega) (show y1 ≤ 7 from by omega) (show 0 ≤ y2 from by omega) (show y2 ≤ 1399 from by omega) (show y3 ≤ 1000000 from by omega) (show 0 ≤ y4 from by omega) (show y4 ≤ 50 from by omega)
  have hc131 : ∀ (y1 y2 y3 : Int) (a : Nat → Nat → Int), (((((y1 + 1) * 75709) + 0) + ((1400 - y2) * 54)) + 0).toNat ≤ n → iv a → jfr jW_X12_makes a0 a → 0 ≤ y1 → y1 ≤ 7 → 0 ≤ y2 → y2 ≤ 1399 → y3 ≤ 1000000 → jt (jxX E d 286 131 [some (.inr (.inr (.inl 146))), some (.inl y1), some (.inl y2), some (.inl y3), none, none] [] (jxSH, a, b0)) (jQ_X12_makes a0 b0) := by
    intro y1 y2 y3 a hm hv hf hi0 hi1 hi2 hi3 hi4
    refine jt_eq (bq_X12_makes_131 E d y1 y2 y3 a b0) ?_
    have h534_ : jxw (1400 * y1) = 1400 * y1 := jxw_id (by omega) (by omega)
    have h535_ : jxw ((jxw (1400 * y1)) + y2) = (jxw (1400 * y1)) + y2 := jxw_id (by omega) (by omega)
    refine jt_grd (by omega) ?_
    have hv536_ : iv (jxu a 199 ((jxw ((jxw (1400 * y1)) + y2)).toNat) y3) := iv_putf hv rfl
    have hf537_ : jfr jW_X12_makes a0 (jxu a 199 ((jxw ((jxw (1400 * y1)) + y2)).toNat) y3) := jfr_put hf rfl
    have h538_ : jxw (y2 + 1) = y2 + 1 := jxw_id (by omega) (by omega)
    exact ih45 y1 (jxw (y2 + 1)) (jxu a 199 ((jxw ((jxw (1400 * y1)) + y2)).toNat) y3) (show (((((y1 + 1) * 75709) + 0) + ((1400 - (jxw (y2 + 1))) * 54)) + 53).toNat < n from by omega) hv536_ hf537_ (show 0 ≤ y1 from by omega) (show y1 ≤ 7 from by omega) (show 0 ≤ jxw (y2 + 1) from by omega) (show jxw (y2 + 1) ≤ 1400 from by omega)
  have hc59 : ∀ (y1 y2 y3 y4 : Int) (a : Nat → Nat → Int), (((((((y1 + 1) * 75709) + 0) + ((1400 - y2) * 54)) + 0) + ((51 - y4) * 1)) + 0).toNat ≤ n → iv a → jfr jW_X12_makes a0 a → 0 ≤ y1 → y1 ≤ 7 → 0 ≤ y2 → y2 ≤ 1399 → y3 ≤ 1000000 → 0 ≤ y4 → y4 ≤ 51 → 0 ≤ y4 → jt (jxX E d 286 59 [some (.inr (.inr (.inl 146))), some (.inl y1), some (.inl y2), some (.inl y3), some (.inl y4), none] [] (jxSH, a, b0)) (jQ_X12_makes a0 b0) := by
    intro y1 y2 y3 y4 a hm hv hf hi0 hi1 hi2 hi3 hi4 hi5 hi6 hi7
    refine jt_eq (bq_X12_makes_59 E d y1 y2 y3 y4 a b0) ?_
    have hsv := SV_fr hp0 hf (fun _ => rfl) (fun _ => rfl) y1.toNat (by omega)
    have i196 := iv_get hv (k := 196) (j := y1.toNat) (l := (-1)) (u := 500) rfl
    have i197 := iv_get hv (k := 197) (j := y1.toNat) (l := 0) (u := 50) rfl
    have hmul : y4 ≤ a 197 (y1.toNat) → 0 ≤ y4 * (a 196 (y1.toNat)) ∧ y4 * (a 196 (y1.toNat)) ≤ 25500 := fun h => mul_bd (by omega) (by omega) (by omega) (by omega)
    refine jt_grd (by omega) ?_
    have h539_ := iv_get hv (k := 197) (j := y1.toNat) (l := 0) (u := 50) rfl
    have h540_ : a 197 (y1.toNat) = a0 197 (y1.toNat) := hf 197 (y1.toNat) rfl
    have h541_ := iv_get hv0 (k := 197) (j := y1.toNat) (l := 0) (u := 50) rfl
    refine jt_ite (fun c542_ => ?_) (fun c542_ => ?_)
    ·
      exact hc131 y1 y2 y3 a (show (((((y1 + 1) * 75709) + 0) + ((1400 - y2) * 54)) + 0).toNat ≤ n from by omega) hv hf (show 0 ≤ y1 from by omega) (show y1 ≤ 7 from by omega) (show 0 ≤ y2 from by omega) (show y2 ≤ 1399 from by omega) (show y3 ≤ 1000000 from by omega)
    ·
      refine jt_grd (by omega) ?_
      have h543_ := iv_get hv (k := 196) (j := y1.toNat) (l := (-1)) (u := 500) rfl
      have h544_ : a 196 (y1.toNat) = a0 196 (y1.toNat) := hf 196 (y1.toNat) rfl
      have h545_ := iv_get hv0 (k := 196) (j := y1.toNat) (l := (-1)) (u := 500) rfl
      have h546_ : jxw (y4 * (a 196 (y1.toNat))) = y4 * (a 196 (y1.toNat)) := jxw_id (by omega) (by omega)
      refine jt_ite (fun c547_ => ?_) (fun c547_ => ?_)
      ·
        exact hc131 y1 y2 y3 a (show (((((y1 + 1) * 75709) + 0) + ((1400 - y2) * 54)) + 0).toNat ≤ n from by omega) hv hf (show 0 ≤ y1 from by omega) (show y1 ≤ 7 from by omega) (show 0 ≤ y2 from by omega) (show y2 ≤ 1399 from by omega) (show y3 ≤ 1000000 from by omega)
      ·
        exact hc83 y1 y2 y3 y4 a (show (((((((y1 + 1) * 75709) + 0) + ((1400 - y2) * 54)) + 0) + ((51 - y4) * 1)) + 0).toNat ≤ n from by omega) hv hf (show 0 ≤ y1 from by omega) (show y1 ≤ 7 from by omega) (show 0 ≤ y2 from by omega) (show y2 ≤ 1399 from by omega) (show y3 ≤ 1000000 from by omega) (show 0 ≤ y4 from by omega) (show y4 ≤ 50 from by omega) (show y4 ≤ a 197 (y1.toNat) from by omega) (show y4 * (a 196 (y1.toNat)) ≤ y2 from by omega) (show 0 ≤ y4 from by omega)
  have hc45 : ∀ (y1 y2 : Int) (a : Nat → Nat → Int), (((((y1 + 1) * 75709) + 0) + ((1400 - y2) * 54)) + 53).toNat ≤ n → iv a → jfr jW_X12_makes a0 a → 0 ≤ y1 → y1 ≤ 7 → 0 ≤ y2 → y2 ≤ 1400 → jt (jxX E d 286 45 [some (.inr (.inr (.inl 146))), some (.inl y1), some (.inl y2), none, none, none] [] (jxSH, a, b0)) (jQ_X12_makes a0 b0) := by
    intro y1 y2 a hm hv hf hi0 hi1 hi2 hi3
    refine jt_eq (bq_X12_makes_45 E d y1 y2 a b0) ?_
    refine jt_ite (fun c548_ => ?_) (fun c548_ => ?_)
    ·
      exact hc59 y1 y2 1000000 0 a (show (((((((y1 + 1) * 75709) + 0) + ((1400 - y2) * 54)) + 0) + ((51 - 0) * 1)) + 0).toNat ≤ n from by omega) hv hf (show 0 ≤ y1 from by omega) (show y1 ≤ 7 from by omega) (show 0 ≤ y2 from by omega) (show y2 ≤ 1399 from by omega) (show 1000000 ≤ 1000000 from by omega) (show 0 ≤ 0 from by omega) (show 0 ≤ 51 from by omega) (show 0 ≤ 0 from by omega)
    ·
      have h549_ : jxw (y1 + (-1)) = y1 + (-1) := jxw_id (by omega) (by omega)
      exact ih39 (jxw (y1 + (-1))) a (show ((((jxw (y1 + (-1))) + 1) * 75709) + 75708).toNat < n from by omega) hv hf (show 0 - 1 ≤ jxw (y1 + (-1)) from by omega) (show jxw (y1 + (-1)) ≤ 7 from by omega)
  have hc39 : ∀ (y1 : Int) (a : Nat → Nat → Int), (((y1 + 1) * 75709) + 75708).toNat ≤ n → iv a → jfr jW_X12_makes a0 a → 0 - 1 ≤ y1 → y1 ≤ 7 → jt (jxX E d 286 39 [some (.inr (.inr (.inl 146))), some (.inl y1), none, none, none, none] [] (jxSH, a, b0)) (jQ_X12_makes a0 b0) := by
    intro y1 a hm hv hf hi0 hi1
    refine jt_eq (bq_X12_makes_39 E d y1 a b0) ?_
    refine jt_ite (fun c550_ => ?_) (fun c550_ => ?_)
    ·
      exact jt_rV ⟨hv, hf, rfl⟩
    ·
      exact hc45 y1 0 a (show (((((y1 + 1) * 75709) + 0) + ((1400 - 0) * 54)) + 53).toNat ≤ n from by omega) hv hf (show 0 ≤ y1 from by omega) (show y1 ≤ 7 from by omega) (show 0 ≤ 0 from by omega) (show 0 ≤ 1400 from by omega)
  exact ⟨hc112, hc83, hc131, hc59, hc45, hc39⟩
theorem cp_X12_makes_2 (E : jxE) (d : Nat) (hd : Nat.ble 1 (d + 1) = true) (a0 b0 : Nat → Nat → Int) (hv0 : iv a0) (hp0 : SV a0) : ∀ n : Nat, (∀ (y1 : Int) (a : Nat → Nat → Int), (((1400 - y1) * 2) + 1).toNat ≤ n → iv a → jfr jW_X12_makes a0 a → 1 ≤ y1 → y1 ≤ 1400 → jt (jxX E d 286 33 [some (.inr (.inr (.inl 146))), some (.inl y1), none, none, none, none] [] (jxSH, a, b0)) (jQ_X12_makes a0 b0)) ∧ (∀ (y1 : Int) (a : Nat → Nat → Int), (((1400 - y1) * 2) + 0).toNat ≤ n → iv a → jfr jW_X12_makes a0 a → 0 ≤ y1 → y1 ≤ 1400 → jt (jxX E d 286 2 [some (.inr (.inr (.inl 146))), some (.inl y1), none, none, none, none] [] (jxSH, a, b0)) (jQ_X12_makes a0 b0)) := by
  refine jx_ind fun n ih => ?_
  have ih33 : ∀ (y1 : Int) (a : Nat → Nat → Int), (((1400 - y1) * 2) + 1).toNat < n → iv a → jfr jW_X12_makes a0 a → 1 ≤ y1 → y1 ≤ 1400 → jt (jxX E d 286 33 [some (.inr (.inr (.inl 146))), some (.inl y1), none, none, none, none] [] (jxSH, a, b0)) (jQ_X12_makes a0 b0) := fun y1 a hlt i0 i1 i2 i3 => (ih _ hlt).1 y1 a (Nat.le_refl _) i0 i1 i2 i3
  have ih2 : ∀ (y1 : Int) (a : Nat → Nat → Int), (((1400 - y1) * 2) + 0).toNat < n → iv a → jfr jW_X12_makes a0 a → 0 ≤ y1 → y1 ≤ 1400 → jt (jxX E d 286 2 [some (.inr (.inr (.inl 146))), some (.inl y1), none, none, none, none] [] (jxSH, a, b0)) (jQ_X12_makes a0 b0) := fun y1 a hlt i0 i1 i2 i3 => (ih _ hlt).2 y1 a (Nat.le_refl _) i0 i1 i2 i3
  have hc33 : ∀ (y1 : Int) (a : Nat → Nat → Int), (((1400 - y1) * 2) + 1).toNat ≤ n → iv a → jfr jW_X12_makes a0 a → 1 ≤ y1 → y1 ≤ 1400 → jt (jxX E d 286 33 [some (.inr (.inr (.inl 146))), some (.inl y1), none, none, none, none] [] (jxSH, a, b0)) (jQ_X12_makes a0 b0) := by
    intro y1 a hm hv hf hi0 hi1
    refine jt_eq (bq_X12_makes_33 E d y1 a b0) ?_
    exact ih2 y1 a (show (((1400 - y1) * 2) + 0).toNat < n from by omega) hv hf (show 0 ≤ y1 from by omega) (show y1 ≤ 1400 from by omega)
  have hc2 : ∀ (y1 : Int) (a : Nat → Nat → Int), (((1400 - y1) * 2) + 0).toNat ≤ n → iv a → jfr jW_X12_makes a0 a → 0 ≤ y1 → y1 ≤ 1400 → jt (jxX E d 286 2 [some (.inr (.inr (.inl 146))), some (.inl y1), none, none, none, none] [] (jxSH, a, b0)) (jQ_X12_makes a0 b0) := by
    intro y1 a hm hv hf hi0 hi1
    refine jt_eq (bq_X12_makes_2 E d y1 a b0) ?_
    refine jt_ite (fun c551_ => ?_) (fun c551_ => ?_)
    ·
      refine jt_ite (fun c552_ => ?_) (fun c552_ => ?_)
      ·
        have h553_ : jxw (11200 + y1) = 11200 + y1 := jxw_id (by omega) (by omega)
        refine jt_grd (by omega) ?_
        have hv554_ : iv (jxu a 199 ((jxw (11200 + y1)).toNat) 0) := iv_putf hv rfl
        have hf555_ : jfr jW_X12_makes a0 (jxu a 199 ((jxw (11200 + y1)).toNat) 0) := jfr_put hf rfl
        have h556_ : jxw (y1 + 1) = y1 + 1 := jxw_id (by omega) (by omega)
        exact hc33 (jxw (y1 + 1)) (jxu a 199 ((jxw (11200 + y1)).toNat) 0) (show (((1400 - (jxw (y1 + 1))) * 2) + 1).toNat ≤ n from by omega) hv554_ hf555_ (show 1 ≤ jxw (y1 + 1) from by omega) (show jxw (y1 + 1) ≤ 1400 from by omega)
      ·
        have h557_ : jxw (11200 + y1) = 11200 + y1 := jxw_id (by omega) (by omega)
        refine jt_grd (by omega) ?_
        have hv558_ : iv (jxu a 199 ((jxw (11200 + y1)).toNat) 1000000) := iv_putf hv rfl
        have hf559_ : jfr jW_X12_makes a0 (jxu a 199 ((jxw (11200 + y1)).toNat) 1000000) := jfr_put hf rfl
        have h560_ : jxw (y1 + 1) = y1 + 1 := jxw_id (by omega) (by omega)
        exact hc33 (jxw (y1 + 1)) (jxu a 199 ((jxw (11200 + y1)).toNat) 1000000) (show (((1400 - (jxw (y1 + 1))) * 2) + 1).toNat ≤ n from by omega) hv558_ hf559_ (show 1 ≤ jxw (y1 + 1) from by omega) (show jxw (y1 + 1) ≤ 1400 from by omega)
    ·
      exact (cp_X12_makes_39 E d hd a0 b0 hv0 hp0 _).2.2.2.2.2 7 a (Nat.le_refl _) hv hf (show 0 - 1 ≤ 7 from by omega) (show 7 ≤ 7 from by omega)
  exact ⟨hc33, hc2⟩
theorem sp_X12_makes (E : jxE) (d : Nat) (hd : Nat.ble 1 d = true) (a0 b0 : Nat → Nat → Int) (hv0 : iv a0) (hp0 : SV a0) : jt (jxC E d 286 [.inr (.inr (.inl 146))] (jxSH, a0, b0)) (jQ_X12_makes a0 b0) := by
  obtain ⟨d, rfl⟩ := jd_succ hd
  refine jt_eq (bq_X12_makes E d a0 b0) ?_
  exact (cp_X12_makes_2 E d hd a0 b0 hv0 hp0 _).2 0 a0 (Nat.le_refl _) hv0 (jfr_rf _ _) (show 0 ≤ 0 from by omega) (show 0 ≤ 1400 from by omega)
def jW_X12_may : List (Nat × Nat) := [(170, 9999)]
abbrev jQ_X12_may (x1 x2 : Int) (a0 b0 : Nat → Nat → Int) : List jxV → (Nat → Nat → Int) → (Nat → Nat → Int) → Prop := rI (fun r a b => (iv a) ∧ (jfr jW_X12_may a0 a) ∧ (b0 = b) ∧ ((a0 146 2 = 0 → r = 0 - 1)))
theorem sp_X12_may (E : jxE) (d : Nat) (hd : Nat.ble 8 d = true) (x1 x2 : Int) (a0 b0 : Nat → Nat → Int) (hv0 : iv a0) (hp0 : WFW a0) : jt (jxC E d 249 [.inr (.inr (.inl 146)), .inl x1, .inl x2] (jxSH, a0, b0)) (jQ_X12_may x1 x2 a0 b0) := by
  obtain ⟨d, rfl⟩ := jd_succ hd
  refine jt_eq (bq_X12_may E d x1 x2 a0 b0) ?_
  refine jt_eI (eq_X12_isMember E d (jd_le hd rfl) x1 a0 b0) ?_
  have h561_ := f_X12_isMember_eq a0 b0 x1
  have h562_ := iv_get hv0 (k := 146) (j := 2) (l := 0) (u := 40) rfl
  have h563_ : jxw ((a0 146 2) - 1) = (a0 146 2) - 1 := jxw_id (by omega) (by omega)
  have h564_ := f_X12_in_eq a0 b0 x1 0 (jxw ((a0 146 2) - 1))
  refine jt_ite (fun c565_ => ?_) (fun c565_ => ?_)
  ·
    exact jt_rI ⟨hv0, (jfr_rf _ _), rfl, (show (a0 146 2 = 0 → (-1) = 0 - 1) from by omega)⟩
  ·
    refine jt_eI (eq_X12_isMember E d (jd_le hd rfl) x2 a0 b0) ?_
    have h566_ := f_X12_isMember_eq a0 b0 x2
    have h567_ := f_X12_in_eq a0 b0 x2 0 (jxw ((a0 146 2) - 1))
    refine jt_ite (fun c568_ => ?_) (fun c568_ => ?_)
    ·
      exact jt_rI ⟨hv0, (jfr_rf _ _), rfl, (show (a0 146 2 = 0 → (-1) = 0 - 1) from by omega)⟩
    ·
      refine jt_bI (sp_X12_mayGet E d (jd_le hd rfl) x1 x2 a0 b0 hv0 (show (0 ≤ x1 ∧ x1 ≤ 39) from by omega) (show (0 ≤ x2 ∧ x2 ≤ 39) from by omega) hp0) (fun r569_ a569_ b569_ h569_ => ?_)
      obtain ⟨hv569_, hf569_, rfl, hq569_0⟩ := h569_
      refine jt_ite (fun c570_ => ?_) (fun c570_ => ?_)
      ·
        have hf571_ : jfr jW_X12_may a0 a569_ := jfr_tr (jfr_rf _ _) hf569_ rfl
        exact jt_rI ⟨hv569_, hf571_, rfl, (show (a0 146 2 = 0 → 0 = 0 - 1) from by omega)⟩
      ·
        have hf572_ : jfr jW_X12_may a0 a569_ := jfr_tr (jfr_rf _ _) hf569_ rfl
        exact jt_rI ⟨hv569_, hf572_, rfl, (show (a0 146 2 = 0 → 1 = 0 - 1) from by omega)⟩
def jW_X12_meets : List (Nat × Nat) := [(170, 9999)]
abbrev jQ_X12_meets (x1 x2 : Int) (a0 b0 : Nat → Nat → Int) : List jxV → (Nat → Nat → Int) → (Nat → Nat → Int) → Prop := rI (fun r a b => (iv a) ∧ (jfr jW_X12_meets a0 a) ∧ (b0 = b) ∧ ((a0 146 2 = 0 → r = 0 - 1)))
theorem cp_X12_meets_34 (E : jxE) (d : Nat) (hd : Nat.ble 3 (d + 1) = true) (x1 x2 : Int) (a0 b0 : Nat → Nat → Int) (hv0 : iv a0) (hp0 : WFW a0) : ∀ (a : Nat → Nat → Int), iv a → jfr jW_X12_meets a0 a → 1 ≤ a0 146 2 → jt (jxX E d 228 34 [none, none, none] [] (jxSH, a, b0)) (jQ_X12_meets x1 x2 a0 b0) := by
  intro a hv hf hi0
  refine jt_eq (bq_X12_meets_34 E d a b0) ?_
  have h573_ := iv_get hv0 (k := 146) (j := 2) (l := 0) (u := 40) rfl
  exact jt_rI ⟨hv, hf, rfl, (show (a0 146 2 = 0 → 1 = 0 - 1) from by omega)⟩
theorem cp_X12_meets_38 (E : jxE) (d : Nat) (hd : Nat.ble 3 (d + 1) = true) (x1 x2 : Int) (a0 b0 : Nat → Nat → Int) (hv0 : iv a0) (hp0 : WFW a0) : ∀ (a : Nat → Nat → Int), iv a → jfr jW_X12_meets a0 a → 1 ≤ a0 146 2 → jt (jxX E d 228 38 [none, none, none] [] (jxSH, a, b0)) (jQ_X12_meets x1 x2 a0 b0) := by
  intro a hv hf hi0
  refine jt_eq (bq_X12_meets_38 E d a b0) ?_
  have h574_ := iv_get hv0 (k := 146) (j := 2) (l := 0) (u := 40) rfl
  exact jt_rI ⟨hv, hf, rfl, (show (a0 146 2 = 0 → 0 = 0 - 1) from by omega)⟩
theorem sp_X12_meets (E : jxE) (d : Nat) (hd : Nat.ble 3 d = true) (x1 x2 : Int) (a0 b0 : Nat → Nat → Int) (hv0 : iv a0) (hp0 : WFW a0) : jt (jxC E d 228 [.inr (.inr (.inl 146)), .inl x1, .inl x2] (jxSH, a0, b0)) (jQ_X12_meets x1 x2 a0 b0) := by
  obtain ⟨d, rfl⟩ := jd_succ hd
  refine jt_eq (bq_X12_meets E d x1 x2 a0 b0) ?_
  refine jt_eI (eq_X12_isMember E d (jd_le hd rfl) x1 a0 b0) ?_
  have h575_ := f_X12_isMember_eq a0 b0 x1
  have h576_ := iv_get hv0 (k := 146) (j := 2) (l := 0) (u := 40) rfl
  have h577_ : jxw ((a0 146 2) - 1) = (a0 146 2) - 1 := jxw_id (by omega) (by omega)
  have h578_ := f_X12_in_eq a0 b0 x1 0 (jxw ((a0 146 2) - 1))
  refine jt_ite (fun c579_ => ?_) (fun c579_ => ?_)
  ·
    exact jt_rI ⟨hv0, (jfr_rf _ _), rfl, (show (a0 146 2 = 0 → (-1) = 0 - 1) from by omega)⟩
  ·
    refine jt_eI (eq_X12_isMember E d (jd_le hd rfl) x2 a0 b0) ?_
    have h580_ := f_X12_isMember_eq a0 b0 x2
    have h581_ := f_X12_in_eq a0 b0 x2 0 (jxw ((a0 146 2) - 1))
    refine jt_ite (fun c582_ => ?_) (fun c582_ => ?_)
    ·
      exact jt_rI ⟨hv0, (jfr_rf _ _), rfl, (show (a0 146 2 = 0 → (-1) = 0 - 1) from by omega)⟩
    ·
      refine jt_ite (fun c583_ => ?_) (fun c583_ => ?_)
      ·
        exact jt_rI ⟨hv0, (jfr_rf _ _), rfl, (show (a0 146 2 = 0 → (-1) = 0 - 1) from by omega)⟩
      ·
        refine jt_bI (sp_X12_isMet E d (jd_le hd rfl) x1 x2 a0 b0 hv0 (show (0 ≤ x1 ∧ x1 ≤ 39) from by omega) (show (0 ≤ x2 ∧ x2 ≤ 39) from by omega) hp0) (fun r584_ a584_ b584_ h584_ => ?_)
        obtain ⟨hv584_, hf584_, rfl, hq584_0⟩ := h584_
        refine jt_ite (fun c585_ => ?_) (fun c585_ => ?_)
        ·
          have hf586_ : jfr jW_X12_meets a0 a584_ := jfr_tr (jfr_rf _ _) hf584_ rfl
          exact cp_X12_meets_38 E d hd x1 x2 a0 b0 hv0 hp0 a584_ hv584_ hf586_ (show 1 ≤ a0 146 2 from by omega)
        ·
          have hf587_ : jfr jW_X12_meets a0 a584_ := jfr_tr (jfr_rf _ _) hf584_ rfl
          exact cp_X12_meets_34 E d hd x1 x2 a0 b0 hv0 hp0 a584_ hv584_ hf587_ (show 1 ≤ a0 146 2 from by omega)
def jW_X12_offer : List (Nat × Nat) := [(146, 49), (178, 9999), (179, 9999), (180, 9999), (182, 9999)]
abbrev jQ_X12_offer (x1 x2 x3 : Int) (a0 b0 : Nat → Nat → Int) : List jxV → (Nat → Nat → Int) → (Nat → Nat → Int) → Prop := rI (fun r a b => (iv a) ∧ (jfr jW_X12_offer a0 a) ∧ (b0 = b) ∧ (OC a) ∧ (FO a) ∧ (FW a) ∧ ((a0 146 2 = 0 → r = 0 - 1)) ∧ (((((((((0 ≤ x1 ∧ x1 < a0 146 2) ∧ ¬ a0 152 (x1.toNat) = 0) ∧ 0 ≤ x2) ∧ x2 ≤ 31) ∧ a0 146 49 < 20) ∧ r = a0 146 49) ∧ a 146 49 = (a0 146 49) + 1) ∨ (((((((x1 < 0 ∨ a0 146 2 ≤ x1) ∨ a0 152 (x1.toNat) = 0) ∨ x2 < 0) ∨ 31 < x2) ∨ 20 ≤ a0 146 49) ∧ r = 0 - 1) ∧ a 146 49 = a0 146 49))))
theorem cp_X12_offer_36 (E : jxE) (d : Nat) (hd : Nat.ble 3 (d + 1) = true) (x1 x2 x3 : Int) (a0 b0 : Nat → Nat → Int) (hv0 : iv a0) (hp0 : OC a0) (hp1 : FO a0) (hp2 : FW a0) : ∀ (a : Nat → Nat → Int), iv a → jfr jW_X12_offer a0 a → (((((x1 < 0 ∨ a0 146 2 ≤ x1) ∨ a0 152 (x1.toNat) = 0) ∨ x2 < 0) ∨ 31 < x2) ∨ 20 ≤ a0 146 49) → a 146 49 = a0 146 49 → (OC a) → (FO a) → (FW a) → jt (jxX E d 262 36 [none, none, none, none] [] (jxSH, a, b0)) (jQ_X12_offer x1 x2 x3 a0 b0) := by
  intro a hv hf hi0 hi1 hi2 hi3 hi4
  refine jt_eq (bq_X12_offer_36 E d a b0) ?_
  have h588_ := iv_get hv0 (k := 146) (j := 2) (l := 0) (u := 40) rfl
  have h589_ := iv_get hv0 (k := 152) (j := x1.toNat) (l := 0) (u := 1) rfl
  have h590_ := iv_get hv0 (k := 146) (j := 49) (l := 0) (u := 20) rfl
  have h591_ := iv_get hv (k := 146) (j := 49) (l := 0) (u := 20) rfl
  exact jt_rI ⟨hv, hf, rfl, hi2, hi3, hi4, (show (a0 146 2 = 0 → (-1) = 0 - 1) from by omega), (show ((((((((0 ≤ x1 ∧ x1 < a0 146 2) ∧ ¬ a0 152 (x1.toNat) = 0) ∧ 0 ≤ x2) ∧ x2 ≤ 31) ∧ a0 146 49 < 20) ∧ (-1) = a0 146 49) ∧ a 146 49 = (a0 146 49) + 1) ∨ (((((((x1 < 0 ∨ a0 146 2 ≤ x1) ∨ a0 152 (x1.toNat) = 0) ∨ x2 < 0) ∨ 31 < x2) ∨ 20 ≤ a0 146 49) ∧ (-1) = 0 - 1) ∧ a 146 49 = a0 146 49)) from by omega)⟩
theorem cp_X12_offer_68 (E : jxE) (d : Nat) (hd : Nat.ble 3 (d + 1) = true) (x1 x2 x3 : Int) (a0 b0 : Nat → Nat → Int) (hv0 : iv a0) (hp0 : OC a0) (hp1 : FO a0) (hp2 : FW a0) : ∀ (a : Nat → Nat → Int), iv a → jfr jW_X12_offer a0 a → a 146 49 ≤ 19 → 1 ≤ a0 146 2 → (((((0 ≤ x1 ∧ x1 < a0 146 2) ∧ ¬ a0 152 (x1.toNat) = 0) ∧ 0 ≤ x2) ∧ x2 ≤ 31) ∧ a0 146 49 < 20) → a 146 49 = a0 146 49 → (OC a) → (FO a) → (FW a) → jt (jxX E d 262 68 [some (.inr (.inr (.inl 146))), none, none, none] [] (jxSH, a, b0)) (jQ_X12_offer x1 x2 x3 a0 b0) := by
  intro a hv hf hi0 hi1 hi2 hi3 hi4 hi5 hi6
  refine jt_eq (bq_X12_offer_68 E d a b0) ?_
  have h592_ := iv_get hv (k := 146) (j := 49) (l := 0) (u := 20) rfl
  have h593_ := iv_get hv0 (k := 146) (j := 2) (l := 0) (u := 40) rfl
  have h594_ := iv_get hv0 (k := 152) (j := x1.toNat) (l := 0) (u := 1) rfl
  have h595_ := iv_get hv0 (k := 146) (j := 49) (l := 0) (u := 20) rfl
  refine jt_grd (by omega) ?_
  have hv596_ : iv (jxu a 182 ((a 146 49).toNat) (-1)) := iv_putf hv rfl
  have h598_ : jxw ((a 146 49) + 1) = (a 146 49) + 1 := jxw_id (by omega) (by omega)
  have hv597_ : iv (jxu (jxu a 182 ((a 146 49).toNat) (-1)) 146 49 (jxw ((a 146 49) + 1))) := iv_put hv596_ (l := 0) (u := 20) rfl (by omega) (by omega)
  have hf599_ : jfr jW_X12_offer a0 (jxu a 182 ((a 146 49).toNat) (-1)) := jfr_put hf rfl
  have hf600_ : jfr jW_X12_offer a0 (jxu (jxu a 182 ((a 146 49).toNat) (-1)) 146 49 (jxw ((a 146 49) + 1))) := jfr_put hf599_ rfl
  have hg601_ : OC (jxu a 182 ((a 146 49).toNat) (-1)) := (OC_putx hi4 (by decide) (show a 146 49 ≤ ((((a 146 49).toNat) : Nat) : Int) from by omega))
  have hg602_ : OC (jxu (jxu a 182 ((a 146 49).toNat) (-1)) 146 49 (jxw ((a 146 49) + 1))) := (OC_put49 hg601_ (show 0 ≤ a 146 49 from by omega) (show jxw ((a 146 49) + 1) = a 146 49 + 1 from by omega))
  have hg603_ : FO (jxu a 182 ((a 146 49).toNat) (-1)) := (FO_fr hi5 (jfr_1 a 182 ((a 146 49).toNat) (-1)) rfl rfl (fun _ => rfl))
  have hg604_ : FO (jxu (jxu a 182 ((a 146 49).toNat) (-1)) 146 49 (jxw ((a 146 49) + 1))) := (FO_put49 hg603_ (show a 146 49 ≤ jxw ((a 146 49) + 1) from by omega))
  have hg605_ : FW (jxu a 182 ((a 146 49).toNat) (-1)) := (FW_fr hi6 (jfr_1 a 182 ((a 146 49).toNat) (-1)) rfl (fun _ => rfl))
  have hg606_ : FW (jxu (jxu a 182 ((a 146 49).toNat) (-1)) 146 49 (jxw ((a 146 49) + 1))) := (FW_put49 hg605_ (show a 146 49 ≤ jxw ((a 146 49) + 1) from by omega))
  have h607_ : jxw ((jxw ((a 146 49) + 1)) - 1) = (jxw ((a 146 49) + 1)) - 1 := jxw_id (by omega) (by omega)
  exact jt_rI ⟨hv597_, hf600_, rfl, hg602_, hg604_, hg606_, (show (a0 146 2 = 0 → jxw ((jxw ((a 146 49) + 1)) - 1) = 0 - 1) from by omega), (show ((((((((0 ≤ x1 ∧ x1 < a0 146 2) ∧ ¬ a0 152 (x1.toNat) = 0) ∧ 0 ≤ x2) ∧ x2 ≤ 31) ∧ a0 146 49 < 20) ∧ jxw ((jxw ((a 146 49) + 1)) - 1) = a0 146 49) ∧ jxw ((a 146 49) + 1) = (a0 146 49) + 1) ∨ (((((((x1 < 0 ∨ a0 146 2 ≤ x1) ∨ a0 152 (x1.toNat) = 0) ∨ x2 < 0) ∨ 31 < x2) ∨ 20 ≤ a0 146 49) ∧ jxw ((jxw ((a 146 49) + 1)) - 1) = 0 - 1) ∧ jxw ((a 146 49) + 1) = a0 146 49)) from by omega)⟩
theorem cp_X12_offer_38 (E : jxE) (d : Nat) (hd : Nat.ble 3 (d + 1) = true) (x1 x2 x3 : Int) (a0 b0 : Nat → Nat → Int) (hv0 : iv a0) (hp0 : OC a0) (hp1 : FO a0) (hp2 : FW a0) : ∀ (y1 y2 y3 : Int) (a : Nat → Nat → Int), iv a → jfr jW_X12_offer a0 a → 0 ≤ y1 → y1 ≤ 39 → 0 ≤ y2 → y2 ≤ 31 → a 146 49 ≤ 19 → 1 ≤ a0 146 2 → (((((0 ≤ x1 ∧ x1 < a0 146 2) ∧ ¬ a0 152 (x1.toNat) = 0) ∧ 0 ≤ x2) ∧ x2 ≤ 31) ∧ a0 146 49 < 20) → a 146 49 = a0 146 49 → (OC a) → (FO a) → (FW a) → jt (jxX E d 262 38 [some (.inr (.inr (.inl 146))), some (.inl y1), some (.inl y2), some (.inl y3)] [] (jxSH, a, b0)) (jQ_X12_offer x1 x2 x3 a0 b0) := by
  intro y1 y2 y3 a hv hf hi0 hi1 hi2 hi3 hi4 hi5 hi6 hi7 hi8 hi9 hi10
  refine jt_eq (bq_X12_offer_38 E d y1 y2 y3 a b0) ?_
  have h608_ := iv_get hv (k := 146) (j := 49) (l := 0) (u := 20) rfl
  have h609_ := iv_get hv0 (k := 146) (j := 2) (l := 0) (u := 40) rfl
  have h610_ := iv_get hv0 (k := 152) (j := x1.toNat) (l := 0) (u := 1) rfl
  have h611_ := iv_get hv0 (k := 146) (j := 49) (l := 0) (u := 20) rfl
  refine jt_grd (by omega) ?_
  refine jt_grd (by omega) ?_
  refine jt_grd (by omega) ?_
  have hv612_ : iv (jxu a 178 ((a 146 49).toNat) y1) := iv_put hv (l := 0) (u := 39) rfl (by omega) (by omega)
  have hv613_ : iv (jxu (jxu a 178 ((a 146 49).toNat) y1) 179 ((a 146 49).toNat) y2) := iv_put hv612_ (l := 0) (u := 31) rfl (by omega) (by omega)
  have hv614_ : iv (jxu (jxu (jxu a 178 ((a 146 49).toNat) y1) 179 ((a 146 49).toNat) y2) 180 ((a 146 49).toNat) y3) := iv_putf hv613_ rfl
  have hf615_ : jfr jW_X12_offer a0 (jxu a 178 ((a 146 49).toNat) y1) := jfr_put hf rfl
  have hf616_ : jfr jW_X12_offer a0 (jxu (jxu a 178 ((a 146 49).toNat) y1) 179 ((a 146 49).toNat) y2) := jfr_put hf615_ rfl
  have hf617_ : jfr jW_X12_offer a0 (jxu (jxu (jxu a 178 ((a 146 49).toNat) y1) 179 ((a 146 49).toNat) y2) 180 ((a 146 49).toNat) y3) := jfr_put hf616_ rfl
  have hg618_ : OC (jxu a 178 ((a 146 49).toNat) y1) := (OC_putx hi8 (by decide) (show a 146 49 ≤ ((((a 146 49).toNat) : Nat) : Int) from by omega))
  have hg619_ : OC (jxu (jxu a 178 ((a 146 49).toNat) y1) 179 ((a 146 49).toNat) y2) := (OC_fr hg618_ (jfr_1 (jxu a 178 ((a 146 49).toNat) y1) 179 ((a 146 49).toNat) y2) rfl rfl (fun _ => rfl) (fun _ => rfl) (fun _ => rfl) (fun _ => rfl) (fun _ => rfl))
  have hg620_ : OC (jxu (jxu (jxu a 178 ((a 146 49).toNat) y1) 179 ((a 146 49).toNat) y2) 180 ((a 146 49).toNat) y3) := (OC_fr hg619_ (jfr_1 (jxu (jxu a 178 ((a 146 49).toNat) y1) 179 ((a 146 49).toNat) y2) 180 ((a 146 49).toNat) y3) rfl rfl (fun _ => rfl) (fun _ => rfl) (fun _ => rfl) (fun _ => rfl) (fun _ => rfl))
  have hg621_ : FO (jxu a 178 ((a 146 49).toNat) y1) := (FO_fr hi9 (jfr_1 a 178 ((a 146 49).toNat) y1) rfl rfl (fun _ => rfl))
  have hg622_ : FO (jxu (jxu a 178 ((a 146 49).toNat) y1) 179 ((a 146 49).toNat) y2) := (FO_fr hg621_ (jfr_1 (jxu a 178 ((a 146 49).toNat) y1) 179 ((a 146 49).toNat) y2) rfl rfl (fun _ => rfl))
  have hg623_ : FO (jxu (jxu (jxu a 178 ((a 146 49).toNat) y1) 179 ((a 146 49).toNat) y2) 180 ((a 146 49).toNat) y3) := (FO_fr hg622_ (jfr_1 (jxu (jxu a 178 ((a 146 49).toNat) y1) 179 ((a 146 49).toNat) y2) 180 ((a 146 49).toNat) y3) rfl rfl (fun _ => rfl))
  have hg624_ : FW (jxu a 178 ((a 146 49).toNat) y1) := (FW_fr hi10 (jfr_1 a 178 ((a 146 49).toNat) y1) rfl (fun _ => rfl))
  have hg625_ : FW (jxu (jxu a 178 ((a 146 49).toNat) y1) 179 ((a 146 49).toNat) y2) := (FW_fr hg624_ (jfr_1 (jxu a 178 ((a 146 49).toNat) y1) 179 ((a 146 49).toNat) y2) rfl (fun _ => rfl))
  have hg626_ : FW (jxu (jxu (jxu a 178 ((a 146 49).toNat) y1) 179 ((a 146 49).toNat) y2) 180 ((a 146 49).toNat) y3) := (FW_fr hg625_ (jfr_1 (jxu (jxu a 178 ((a 146 49).toNat) y1) 179 ((a 146 49).toNat) y2) 180 ((a 146 49).toNat) y3) rfl (fun _ => rfl))
  exact cp_X12_offer_68 E d hd x1 x2 x3 a0 b0 hv0 hp0 hp1 hp2 (jxu (jxu (jxu a 178 ((a 146 49).toNat) y1) 179 ((a 146 49).toNat) y2) 180 ((a 146 49).toNat) y3) hv614_ hf617_ (show a 146 49 ≤ 19 from by omega) (show 1 ≤ a0 146 2 from by omega) (show (((((0 ≤ x1 ∧ x1 < a0 146 2) ∧ ¬ a0 152 (x1.toNat) = 0) ∧ 0 ≤ x2) ∧ x2 ≤ 31) ∧ a0 146 49 < 20) from by omega) (show a 146 49 = a0 146 49 from by omega) hg620_ hg623_ hg626_
theorem sp_X12_offer (E : jxE) (d : Nat) (hd : Nat.ble 3 d = true) (x1 x2 x3 : Int) (a0 b0 : Nat → Nat → Int) (hv0 : iv a0) (hp0 : OC a0) (hp1 : FO a0) (hp2 : FW a0) : jt (jxC E d 262 [.inr (.inr (.inl 146)), .inl x1, .inl x2, .inl x3] (jxSH, a0, b0)) (jQ_X12_offer x1 x2 x3 a0 b0) := by
  obtain ⟨d, rfl⟩ := jd_succ hd
  refine jt_eq (bq_X12_offer E d x1 x2 x3 a0 b0) ?_
  have h627_ := iv_get hv0 (k := 146) (j := 49) (l := 0) (u := 20) rfl
  refine jt_ite (fun c628_ => ?_) (fun c628_ => ?_)
  ·
    have h629_ := iv_get hv0 (k := 146) (j := 2) (l := 0) (u := 40) rfl
    have h630_ := iv_get hv0 (k := 152) (j := x1.toNat) (l := 0) (u := 1) rfl
    exact cp_X12_offer_36 E d hd x1 x2 x3 a0 b0 hv0 hp0 hp1 hp2 a0 hv0 (jfr_rf _ _) (show (((((x1 < 0 ∨ a0 146 2 ≤ x1) ∨ a0 152 (x1.toNat) = 0) ∨ x2 < 0) ∨ 31 < x2) ∨ 20 ≤ a0 146 49) from by omega) (show a0 146 49 = a0 146 49 from by omega) hp0 hp1 hp2
  ·
    refine jt_eI (eq_X12_isMember E d (jd_le hd rfl) x1 a0 b0) ?_
    have h631_ := f_X12_isMember_eq a0 b0 x1
    have h632_ := iv_get hv0 (k := 146) (j := 2) (l := 0) (u := 40) rfl
    have h633_ : jxw ((a0 146 2) - 1) = (a0 146 2) - 1 := jxw_id (by omega) (by omega)
    have h634_ := f_X12_in_eq a0 b0 x1 0 (jxw ((a0 146 2) - 1))
    refine jt_ite (fun c635_ => ?_) (fun c635_ => ?_)
    ·
      have h636_ := iv_get hv0 (k := 152) (j := x1.toNat) (l := 0) (u := 1) rfl
      exact cp_X12_offer_36 E d hd x1 x2 x3 a0 b0 hv0 hp0 hp1 hp2 a0 hv0 (jfr_rf _ _) (show (((((x1 < 0 ∨ a0 146 2 ≤ x1) ∨ a0 152 (x1.toNat) = 0) ∨ x2 < 0) ∨ 31 < x2) ∨ 20 ≤ a0 146 49) from by omega) (show a0 146 49 = a0 146 49 from by omega) hp0 hp1 hp2
    ·
      refine jt_grd (by omega) ?_
      have h637_ := iv_get hv0 (k := 152) (j := x1.toNat) (l := 0) (u := 1) rfl
      refine jt_ite (fun c638_ => ?_) (fun c638_ => ?_)
      ·
        exact cp_X12_offer_36 E d hd x1 x2 x3 a0 b0 hv0 hp0 hp1 hp2 a0 hv0 (jfr_rf _ _) (show (((((x1 < 0 ∨ a0 146 2 ≤ x1) ∨ a0 152 (x1.toNat) = 0) ∨ x2 < 0) ∨ 31 < x2) ∨ 20 ≤ a0 146 49) from by omega) (show a0 146 49 = a0 146 49 from by omega) hp0 hp1 hp2
      ·
        refine jt_eI (eq_X12_in E d (jd_le hd rfl) x2 0 31 a0 b0) ?_
        have h639_ := f_X12_in_eq a0 b0 x2 0 31
        refine jt_ite (fun c640_ => ?_) (fun c640_ => ?_)
        ·
          exact cp_X12_offer_36 E d hd x1 x2 x3 a0 b0 hv0 hp0 hp1 hp2 a0 hv0 (jfr_rf _ _) (show (((((x1 < 0 ∨ a0 146 2 ≤ x1) ∨ a0 152 (x1.toNat) = 0) ∨ x2 < 0) ∨ 31 < x2) ∨ 20 ≤ a0 146 49) from by omega) (show a0 146 49 = a0 146 49 from by omega) hp0 hp1 hp2
        ·
          exact cp_X12_offer_38 E d hd x1 x2 x3 a0 b0 hv0 hp0 hp1 hp2 x1 x2 x3 a0 hv0 (jfr_rf _ _) (show 0 ≤ x1 from by omega) (show x1 ≤ 39 from by omega) (show 0 ≤ x2 from by omega) (show x2 ≤ 31 from by omega) (show a0 146 49 ≤ 19 from by omega) (show 1 ≤ a0 146 2 from by omega) (show (((((0 ≤ x1 ∧ x1 < a0 146 2) ∧ ¬ a0 152 (x1.toNat) = 0) ∧ 0 ≤ x2) ∧ x2 ≤ 31) ∧ a0 146 49 < 20) from by omega) (show a0 146 49 = a0 146 49 from by omega) hp0 hp1 hp2
def jW_X12_pay : List (Nat × Nat) := [(146, 75), (197, 9999), (198, 9999), (199, 9999)]
abbrev jQ_X12_pay (x1 x2 : Int) (a0 b0 : Nat → Nat → Int) : List jxV → (Nat → Nat → Int) → (Nat → Nat → Int) → Prop := rI (fun r a b => (iv a) ∧ (jfr jW_X12_pay a0 a) ∧ (b0 = b) ∧ (SV a) ∧ ((a0 146 9 = 0 → r = 0 - 1)))
theorem cp_X12_pay_118 (E : jxE) (d : Nat) (hd : Nat.ble 2 (d + 1) = true) (x1 x2 : Int) (a0 b0 : Nat → Nat → Int) (hv0 : iv a0) (hp0 : SV a0) : ∀ n : Nat, (∀ (y4 y5 y6 y7 : Int) (a : Nat → Nat → Int), (((((8 - y6) * 53) + 0) + ((y7 + 0) * 1)) + 0).toNat ≤ n → iv a → jfr jW_X12_pay a0 a → 0 ≤ y4 → y4 ≤ 1399 → 0 ≤ y5 → y5 ≤ 1399 → 0 ≤ y6 → y6 ≤ 7 → 1 ≤ y7 → y7 ≤ 50 → 0 ≤ y5 → y5 ≤ 1399 → 0 ≤ y7 → y7 ≤ a 197 (y6.toNat) → 1 ≤ y7 → (SV a) → 1 ≤ a0 146 9 → jt (jxX E d 287 201 [some (.inr (.inr (.inl 146))), none, none, none, some (.inl y4), some (.inl y5), some (.inl y6), some (.inl y7)] [] (jxSH, a, b0)) (jQ_X12_pay x1 x2 a0 b0)) ∧ (∀ (y4 y5 y6 : Int) (a : Nat → Nat → Int), (((8 - y6) * 53) + 0).toNat ≤ n → iv a → jfr jW_X12_pay a0 a → 0 ≤ y4 → y4 ≤ 1399 → 0 ≤ y5 → y5 ≤ 1399 → 0 ≤ y6 → y6 ≤ 7 → 0 ≤ y5 → y5 ≤ 1399 → (SV a) → 1 ≤ a0 146 9 → jt (jxX E d 287 243 [some (.inr (.inr (.inl 146))), none, none, none, some (.inl y4), some (.inl y5), some (.inl y6), none] [] (jxSH, a, b0)) (jQ_X12_pay x1 x2 a0 b0)) ∧ (∀ (y4 y5 y6 y7 : Int) (a : Nat → Nat → Int), (((8 - y6) * 53) + 0).toNat ≤ n → iv a → jfr jW_X12_pay a0 a → 0 ≤ y4 → y4 ≤ 1399 → 0 ≤ y5 → y5 ≤ 1399 → 0 ≤ y6 → y6 ≤ 7 → 0 ≤ y7 → y7 ≤ 50 → 0 ≤ y5 → y5 ≤ 1399 → 0 ≤ y7 → y7 ≤ a 197 (y6.toNat) → y7 * (a 196 (y6.toNat)) ≤ y5 → (SV a) → 1 ≤ a0 146 9 → jt (jxX E d 287 207 [some (.inr (.inr (.inl 146))), none, none, none, some (.inl y4), some (.inl y5), some (.inl y6), some (.inl y7)] [] (jxSH, a, b0)) (jQ_X12_pay x1 x2 a0 b0)) ∧ (∀ (y4 y5 y6 y7 : Int) (a : Nat → Nat → Int), (((((8 - y6) * 53) + 0) + ((y7 + 0) * 1)) + 0).toNat ≤ n → iv a → jfr jW_X12_pay a0 a → 0 ≤ y4 → y4 ≤ 1399 → 0 ≤ y5 → y5 ≤ 1399 → 0 ≤ y6 → y6 ≤ 7 → 0 ≤ y7 → y7 ≤ 50 → 0 ≤ y5 → y5 ≤ 1399 → 0 ≤ y7 → y7 ≤ a 197 (y6.toNat) → (SV a) → 1 ≤ a0 146 9 → jt (jxX E d 287 134 [some (.inr (.inr (.inl 146))), none, none, none, some (.inl y4), some (.inl y5), some (.inl y6), some (.inl y7)] [] (jxSH, a, b0)) (jQ_X12_pay x1 x2 a0 b0)) ∧ (∀ (y4 y5 y6 : Int) (a : Nat → Nat → Int), (((8 - y6) * 53) + 52).toNat ≤ n → iv a → jfr jW_X12_pay a0 a → 0 ≤ y4 → y4 ≤ 1399 → 0 ≤ y5 → y5 ≤ 1399 → 0 ≤ y6 → y6 ≤ 8 → 0 ≤ y5 → y5 ≤ 1399 → (SV a) → 1 ≤ a0 146 9 → jt (jxX E d 287 118 [some (.inr (.inr (.inl 146))), none, none, none, some (.inl y4), some (.inl y5), some (.inl y6), none] [] (jxSH, a, b0)) (jQ_X12_pay x1 x2 a0 b0)) := by
  refine jx_ind fun n ih => ?_
  have ih201 : ∀ (y4 y5 y6 y7 : Int) (a : Nat → Nat → Int), (((((8 - y6) * 53) + 0) + ((y7 + 0) * 1)) + 0).toNat < n → iv a → jfr jW_X12_pay a0 a → 0 ≤ y4 → y4 ≤ 1399 → 0 ≤ y5 → y5 ≤ 1399 → 0 ≤ y6 → y6 ≤ 7 → 1 ≤ y7 → y7 ≤ 50 → 0 ≤ y5 → y5 ≤ 1399 → 0 ≤ y7 → y7 ≤ a 197 (y6.toNat) → 1 ≤ y7 → (SV a) → 1 ≤ a0 146 9 → jt (jxX E d 287 201 [some (.inr (.inr (.inl 146))), none, none, none, some (.inl y4), some (.inl y5), some (.inl y6), some (.inl y7)] [] (jxSH, a, b0)) (jQ_X12_pay x1 x2 a0 b0) := fun y4 y5 y6 y7 a hlt i0 i1 i2 i3 i4 i5 i6 i7 i8 i9 i10 i11 i12 i13 i14 i15 i16 => (ih _ hlt).1 y4 y5 y6 y7 a (Nat.le_refl _) i0 i1 i2 i3 i4 i5 i6 i7 i8 i9 i10 i11 i12 i13 i14 i15 i16
  have ih243 : ∀ (y4 y5 y6 : Int) (a : Nat → Nat → Int), (((8 - y6) * 53) + 0).toNat < n → iv a → jfr jW_X12_pay a0 a → 0 ≤ y4 → y4 ≤ 1399 → 0 ≤ y5 → y5 ≤ 1399 → 0 ≤ y6 → y6 ≤ 7 → 0 ≤ y5 → y5 ≤ 1399 → (SV a) → 1 ≤ a0 146 9 → jt (jxX E d 287 243 [some (.inr (.inr (.inl 146))), none, none, none, some (.inl y4), some (.inl y5), some (.inl y6), none] [] (jxSH, a, b0)) (jQ_X12_pay x1 x2 a0 b0) := fun y4 y5 y6 a hlt i0 i1 i2 i3 i4 i5 i6 i7 i8 i9 i10 i11 => (ih _ hlt).2.1 y4 y5 y6 a (Nat.le_refl _) i0 i1 i2 i3 i4 i5 i6 i7 i8 i9 i10 i11
  have ih207 : ∀ (y4 y5 y6 y7 : Int) (a : Nat → Nat → Int), (((8 - y6) * 53) + 0).toNat < n → iv a → jfr jW_X12_pay a0 a → 0 ≤ y4 → y4 ≤ 1399 → 0 ≤ y5 → y5 ≤ 1399 → 0 ≤ y6 → y6 ≤ 7 → 0 ≤ y7 → y7 ≤ 50 → 0 ≤ y5 → y5 ≤ 1399 → 0 ≤ y7 → y7 ≤ a 197 (y6.toNat) → y7 * (a 196 (y6.toNat)) ≤ y5 → (SV a) → 1 ≤ a0 146 9 → jt (jxX E d 287 207 [some (.inr (.inr (.inl 146))), none, none, none, some (.inl y4), some (.inl y5), some (.inl y6), some (.inl y7)] [] (jxSH, a, b0)) (jQ_X12_pay x1 x2 a0 b0) := fun y4 y5 y6 y7 a hlt i0 i1 i2 i3 i4 i5 i6 i7 i8 i9 i10 i11 i12 i13 i14 i15 i16 => (ih _ hlt).2.2.1 y4 y5 y6 y7 a (Nat.le_refl _) i0 i1 i2 i3 i4 i5 i6 i7 i8 i9 i10 i11 i12 i13 i14 i15 i16
  have ih134 : ∀ (y4 y5 y6 y7 : Int) (a : Nat → Nat → Int), (((((8 - y6) * 53) + 0) + ((y7 + 0) * 1)) + 0).toNat < n → iv a → jfr jW_X12_pay a0 a → 0 ≤ y4 → y4 ≤ 1399 → 0 ≤ y5 → y5 ≤ 1399 → 0 ≤ y6 → y6 ≤ 7 → 0 ≤ y7 → y7 ≤ 50 → 0 ≤ y5 → y5 ≤ 1399 → 0 ≤ y7 → y7 ≤ a 197 (y6.toNat) → (SV a) → 1 ≤ a0 146 9 → jt (jxX E d 287 134 [some (.inr (.inr (.inl 146))), none, none, none, some (.inl y4), some (.inl y5), some (.inl y6), some (.inl y7)] [] (jxSH, a, b0)) (jQ_X12_pay x1 x2 a0 b0) := fun y4 y5 y6 y7 a hlt i0 i1 i2 i3 i4 i5 i6 i7 i8 i9 i10 i11 i12 i13 i14 i15 => (ih _ hlt).2.2.2.1 y4 y5 y6 y7 a (Nat.le_refl _) i0 i1 i2 i3 i4 i5 i6 i7 i8 i9 i10 i11 i12 i13 i14 i15
  have ih118 : ∀ (y4 y5 y6 : Int) (a : Nat → Nat → Int), (((8 - y6) * 53) + 52).toNat < n → iv a → jfr jW_X12_pay a0 a → 0 ≤ y4 → y4 ≤ 1399 → 0 ≤ y5 → y5 ≤ 1399 → 0 ≤ y6 → y6 ≤ 8 → 0 ≤ y5 → y5 ≤ 1399 → (SV a) → 1 ≤ a0 146 9 → jt (jxX E d 287 118 [some (.inr (.inr (.inl 146))), none, none, none, some (.inl y4), some (.inl y5), some (.inl y6), none] [] (jxSH, a, b0)) (jQ_X12_pay x1 x2 a0 b0) := fun y4 y5 y6 a hlt i0 i1 i2 i3 i4 i5 i6 i7 i8 i9 i10 i11 => (ih _ hlt).2.2.2.2 y4 y5 y6 a (Nat.le_refl _) i0 i1 i2 i3 i4 i5 i6 i7 i8 i9 i10 i11
  have hc201 : ∀ (y4 y5 y6 y7 : Int) (a : Nat → Nat → Int), (((((8 - y6) * 53) + 0) + ((y7 + 0) * 1)) + 0).toNat ≤ n → iv a → jfr jW_X12_pay a0 a → 0 ≤ y4 → y4 ≤ 1399 → 0 ≤ y5 → y5 ≤ 1399 → 0 ≤ y6 → y6 ≤ 7 → 1 ≤ y7 → y7 ≤ 50 → 0 ≤ y5 → y5 ≤ 1399 → 0 ≤ y7 → y7 ≤ a 197 (y6.toNat) → 1 ≤ y7 → (SV a) → 1 ≤ a0 146 9 → jt (jxX E d 287 201 [some (.inr (.inr (.inl 146))), none, none, none, some (.inl y4), some (.inl y5), some (.inl y6), some (.inl y7)] [] (jxSH, a, b0)) (jQ_X12_pay x1 x2 a0 b0) := by
    intro y4 y5 y6 y7 a hm hv hf hi0 hi1 hi2 hi3 hi4 hi5 hi6 hi7 hi8 hi9 hi10 hi11 hi12 hi13 hi14
    refine jt_eq (bq_X12_pay_201 E d y4 y5 y6 y7 a b0) ?_
    have h641_ := iv_get hv (k := 197) (j := y6.toNat) (l := 0) (u := 50) rfl
    have h642_ := iv_get hv0 (k := 146) (j := 9) (l := 0) (u := 300) rfl
    have i196 := iv_get hv (k := 196) (j := y6.toNat) (l := (-1)) (u := 500) rfl
    have i197 := iv_get hv (k := 197) (j := y6.toNat) (l := 0) (u := 50) rfl
    have hmul : y7 ≤ a 197 (y6.toNat) → 0 ≤ y7 * (a 196 (y6.toNat)) ∧ y7 * (a 196 (y6.toNat)) ≤ 25500 := fun h => mul_bd (by omega) (by omega) (by omega) (by have := (by assumption : SV a) y6.toNat (by omega); omega)
    have hz : y7 = 0 → y7 * (a 196 (y6.toNat)) = 0 := fun h => by rw [h]; exact Int.zero_mul _
    have h643_ : jxw (y7 + (-1)) = y7 + (-1) := jxw_id (by omega) (by omega)
    exact ih134 y4 y5 y6 (jxw (y7 + (-1))) a (show (((((8 - y6) * 53) + 0) + (((jxw (y7 + (-1))) + 0) * 1)) + 0).toNat < n from by omega) hv hf (show 0 ≤ y4 from by omega) (show y4 ≤ 1399 from by omega) (show 0 ≤ y5 from by omega) (show y5 ≤ 1399 from by omega) (show 0 ≤ y6 from by omega) (show y6 ≤ 7 from by omega) (show 0 ≤ jxw (y7 + (-1)) from by omega) (show jxw (y7 + (-1)) ≤ 50 from by omega) (show 0 ≤ y5 from by omega) (show y5 ≤ 1399 from by omega) (show 0 ≤ jxw (y7 + (-1)) from by omega) (show jxw (y7 + (-1)) ≤ a 197 (y6.toNat) from by omega) hi13 (show 1 ≤ a0 146 9 from by omega)
  have hc243 : ∀ (y4 y5 y6 : Int) (a : Nat → Nat → Int), (((8 - y6) * 53) + 0).toNat ≤ n → iv a → jfr jW_X12_pay a0 a → 0 ≤ y4 → y4 ≤ 1399 → 0 ≤ y5 → y5 ≤ 1399 → 0 ≤ y6 → y6 ≤ 7 → 0 ≤ y5 → y5 ≤ 1399 → (SV a) → 1 ≤ a0 146 9 → jt (jxX E d 287 243 [some (.inr (.inr (.inl 146))), none, none, none, some (.inl y4), some (.inl y5), some (.inl y6), none] [] (jxSH, a, b0)) (jQ_X12_pay x1 x2 a0 b0) := by
    intro y4 y5 y6 a hm hv hf hi0 hi1 hi2 hi3 hi4 hi5 hi6 hi7 hi8 hi9
    refine jt_eq (bq_X12_pay_243 E d y4 y5 y6 a b0) ?_
    have h644_ := iv_get hv0 (k := 146) (j := 9) (l := 0) (u := 300) rfl
    have h645_ : jxw (y6 + 1) = y6 + 1 := jxw_id (by omega) (by omega)
    exact ih118 y4 y5 (jxw (y6 + 1)) a (show (((8 - (jxw (y6 + 1))) * 53) + 52).toNat < n from by omega) hv hf (show 0 ≤ y4 from by omega) (show y4 ≤ 1399 from by omega) (show 0 ≤ y5 from by omega) (show y5 ≤ 1399 from by omega) (show 0 ≤ jxw (y6 + 1) from by omega) (show jxw (y6 + 1) ≤ 8 from by omega) (show 0 ≤ y5 from by omega) (show y5 ≤ 1399 from by omega) hi8 (show 1 ≤ a0 146 9 from by omega)
  have hc207 : ∀ (y4 y5 y6 y7 : Int) (a : Nat → Nat → Int), (((8 - y6) * 53) + 0).toNat ≤ n → iv a → jfr jW_X12_pay a0 a → 0 ≤ y4 → y4 ≤ 1399 → 0 ≤ y5 → y5 ≤ 1399 → 0 ≤ y6 → y6 ≤ 7 → 0 ≤ y7 → y7 ≤ 50 → 0 ≤ y5 → y5 ≤ 1399 → 0 ≤ y7 → y7 ≤ a 197 (y6.toNat) → y7 * (a 196 (y6.toNat)) ≤ y5 → (SV a) → 1 ≤ a0 146 9 → jt (jxX E d 287 207 [some (.inr (.inr (.inl 146))), none, none, none, some (.inl y4), some (.inl y5), some (.inl y6), some (.inl y7)] [] (jxSH, a, b0)) (jQ_X12_pay x1 x2 a0 b0) := by
    intro y4 y5 y6 y7 a hm hv hf hi0 hi1 hi2 hi3 hi4 hi5 hi6 hi7 hi8 hi9 hi10 hi11 hi12 hi13 hi14
    refine jt_eq (bq_X12_pay_207 E d y4 y5 y6 y7 a b0) ?_
    have h646_ := iv_get hv (k := 197) (j := y6.toNat) (l := 0) (u := 50) rfl
    have h647_ := iv_get hv (k := 196) (j := y6.toNat) (l := (-1)) (u := 500) rfl
    have h648_ : a 196 (y6.toNat) = a0 196 (y6.toNat) := hf 196 (y6.toNat) rfl
    have h649_ := iv_get hv0 (k := 196) (j := y6.toNat) (l := (-1)) (u := 500) rfl
    have h650_ := iv_get hv0 (k := 146) (j := 9) (l := 0) (u := 300) rfl
    have i196 := iv_get hv (k := 196) (j := y6.toNat) (l := (-1)) (u := 500) rfl
    have i197 := iv_get hv (k := 197) (j := y6.toNat) (l := 0) (u := 50) rfl
    have hmul : y7 ≤ a 197 (y6.toNat) → 0 ≤ y7 * (a 196 (y6.toNat)) ∧ y7 * (a 196 (y6.toNat)) ≤ 25500 := fun h => mul_bd (by omega) (by omega) (by omega) (by have := (by assumption : SV a) y6.toNat (by omega); omega)
    have hz : y7 = 0 → y7 * (a 196 (y6.toNat)) = 0 := fun h => by rw [h]; exact Int.zero_mul _
    refine jt_grd (by omega) ?_
    refine jt_grd (by omega) ?_
    refine jt_grd (by omega) ?_
    refine jt_grd (by omega) ?_
    have hv651_ : iv (jxu a 198 (y6.toNat) y7) := iv_putf hv rfl
    have h653_ : jxw ((a 197 (y6.toNat)) - y7) = (a 197 (y6.toNat)) - y7 := jxw_id (by omega) (by omega)
    have hv652_ : iv (jxu (jxu a 198 (y6.toNat) y7) 197 (y6.toNat) (jxw ((a 197 (y6.toNat)) - y7))) := iv_put hv651_ (l := 0) (u := 50) rfl (by omega) (by omega)
    have hf654_ : jfr jW_X12_pay a0 (jxu a 198 (y6.toNat) y7) := jfr_put hf rfl
    have hf655_ : jfr jW_X12_pay a0 (jxu (jxu a 198 (y6.toNat) y7) 197 (y6.toNat) (jxw ((a 197 (y6.toNat)) - y7))) := jfr_put hf654_ rfl
    have h656_ : jxw (y7 * (a 196 (y6.toNat))) = y7 * (a 196 (y6.toNat)) := jxw_id (by omega) (by omega)
    have h657_ : jxw (y5 - (jxw (y7 * (a 196 (y6.toNat))))) = y5 - (jxw (y7 * (a 196 (y6.toNat)))) := jxw_id (by omega) (by omega)
    have hg658_ : SV (jxu a 198 (y6.toNat) y7) := (SV_fr hi13 (jfr_1 a 198 (y6.toNat) y7) (fun _ => rfl) (fun _ => rfl))
    have hg659_ : SV (jxu (jxu a 198 (y6.toNat) y7) 197 (y6.toNat) (jxw ((a 197 (y6.toNat)) - y7))) := (SV_put197 hg658_ (by first | (left; show jxw ((a 197 (y6.toNat)) - y7) ≤ a 197 (y6.toNat); omega) | (right; show 1 ≤ a 196 (y6.toNat); omega)))
    exact hc243 y4 (jxw (y5 - (jxw (y7 * (a 196 (y6.toNat)))))) y6 (jxu (jxu a 198 (y6.toNat) y7) 197 (y6.toNat) (jxw ((a 197 (y6.toNat)) - y7))) (show (((8 - y6) * 53) + 0).toNat ≤ n from by omega) hv652_ hf655_ (show 0 ≤ y4 from by omega) (show y4 ≤ 1399 from by omega) (show 0 ≤ jxw (y5 - (jxw (y7 * (a 196 (y6.toNat))))) from by omega) (show jxw (y5 - (jxw (y7 * (a 196 (y6.toNat))))) ≤ 1399 from by omega) (show 0 ≤ y6 from by omega) (show y6 ≤ 7 from by omega) (show 0 ≤ jxw (y5 - (jxw (y7 * (a 196 (y6.toNat))))) from by omega) (show jxw (y5 - (jxw (y7 * (a 196 (y6.toNat))))) ≤ 1399 from by omega) hg659_ (show 1 ≤ a0 146 9 from by omega)
  have hc134 : ∀ (y4 y5 y6 y7 : Int) (a : Nat → Nat → Int), (((((8 - y6) * 53) + 0) + ((y7 + 0) * 1)) + 0).toNat ≤ n → iv a → jfr jW_X12_pay a0 a → 0 ≤ y4 → y4 ≤ 1399 → 0 ≤ y5 → y5 ≤ 1399 → 0 ≤ y6 → y6 ≤ 7 → 0 ≤ y7 → y7 ≤ 50 → 0 ≤ y5 → y5 ≤ 1399 → 0 ≤ y7 → y7 ≤ a 197 (y6.toNat) → (SV a) → 1 ≤ a0 146 9 → jt (jxX E d 287 134 [some (.inr (.inr (.inl 146))), none, none, none, some (.inl y4), some (.inl y5), some (.inl y6), some (.inl y7)] [] (jxSH, a, b0)) (jQ_X12_pay x1 x2 a0 b0) := by
    intro y4 y5 y6 y7 a hm hv hf hi0 hi1 hi2 hi3 hi4 hi5 hi6 hi7 hi8 hi9 hi10 hi11 hi12 hi13
    refine jt_eq (bq_X12_pay_134 E d y4 y5 y6 y7 a b0) ?_
    have h660_ := iv_get hv (k := 197) (j := y6.toNat) (l := 0) (u := 50) rfl
    have h661_ := iv_get hv0 (k := 146) (j := 9) (l := 0) (u := 300) rfl
    have i196 := iv_get hv (k := 196) (j := y6.toNat) (l := (-1)) (u := 500) rfl
    have i197 := iv_get hv (k := 197) (j := y6.toNat) (l := 0) (u := 50) rfl
    have hmul : y7 ≤ a 197 (y6.toNat) → 0 ≤ y7 * (a 196 (y6.toNat)) ∧ y7 * (a 196 (y6.toNat)) ≤ 25500 := fun h => mul_bd (by omega) (by omega) (by omega) (by have := (by assumption : SV a) y6.toNat (by omega); omega)
    have hz : y7 = 0 → y7 * (a 196 (y6.toNat)) = 0 := fun h => by rw [h]; exact Int.zero_mul _
    refine jt_ite (fun c662_ => ?_) (fun c662_ => ?_)
    ·
      refine jt_grd (by omega) ?_
      have h663_ := iv_get hv (k := 196) (j := y6.toNat) (l := (-1)) (u := 500) rfl
      have h664_ : a 196 (y6.toNat) = a0 196 (y6.toNat) := hf 196 (y6.toNat) rfl
      have h665_ := iv_get hv0 (k := 196) (j := y6.toNat) (l := (-1)) (u := 500) rfl
      have h666_ : jxw (y7 * (a 196 (y6.toNat))) = y7 * (a 196 (y6.toNat)) := jxw_id (by omega) (by omega)
      refine jt_ite (fun c667_ => ?_) (fun c667_ => ?_)
      ·
        exact hc201 y4 y5 y6 y7 a (show (((((8 - y6) * 53) + 0) + ((y7 + 0) * 1)) + 0).toNat ≤ n from by omega) hv hf (show 0 ≤ y4 from by omega) (show y4 ≤ 1399 from by omega) (show 0 ≤ y5 from by omega) (show y5 ≤ 1399 from by omega) (show 0 ≤ y6 from by omega) (show y6 ≤ 7 from by omega) (show 1 ≤ y7 from by omega) (show y7 ≤ 50 from by omega) (show 0 ≤ y5 from by omega) (show y5 ≤ 1399 from by omega) (show 0 ≤ y7 from by omega) (show y7 ≤ a 197 (y6.toNat) from by omega) (show 1 ≤ y7 from by omega) hi12 (show 1 ≤ a0 146 9 from by omega)
      ·
        refine jt_grd (by omega) ?_
        have h668_ : jxw (y6 + 1) = y6 + 1 := jxw_id (by omega) (by omega)
        have h669_ : jxw (1400 * (jxw (y6 + 1))) = 1400 * (jxw (y6 + 1)) := jxw_id (by omega) (by omega)
        have h670_ : jxw ((jxw (1400 * (jxw (y6 + 1)))) + y5) = (jxw (1400 * (jxw (y6 + 1)))) + y5 := jxw_id (by omega) (by omega)
        have h671_ : jxw ((jxw ((jxw (1400 * (jxw (y6 + 1)))) + y5)) - (jxw (y7 * (a 196 (y6.toNat))))) = (jxw ((jxw (1400 * (jxw (y6 + 1)))) + y5)) - (jxw (y7 * (a 196 (y6.toNat)))) := jxw_id (by omega) (by omega)
        refine jt_grd (by omega) ?_
        have h672_ : jxw (1400 * y6) = 1400 * y6 := jxw_id (by omega) (by omega)
        have h673_ : jxw ((jxw (1400 * y6)) + y5) = (jxw (1400 * y6)) + y5 := jxw_id (by omega) (by omega)
        refine jt_grd (by omega) ?_
        have h674_ := jxw_im (y7 + (a 199 ((jxw ((jxw ((jxw (1400 * (jxw (y6 + 1)))) + y5)) - (jxw (y7 * (a 196 (y6.toNat)))))).toNat)))
        have h675_ := jxw_rg (y7 + (a 199 ((jxw ((jxw ((jxw (1400 * (jxw (y6 + 1)))) + y5)) - (jxw (y7 * (a 196 (y6.toNat)))))).toNat)))
        refine jt_ite (fun c676_ => ?_) (fun c676_ => ?_)
        ·
          exact hc207 y4 y5 y6 y7 a (show (((8 - y6) * 53) + 0).toNat ≤ n from by omega) hv hf (show 0 ≤ y4 from by omega) (show y4 ≤ 1399 from by omega) (show 0 ≤ y5 from by omega) (show y5 ≤ 1399 from by omega) (show 0 ≤ y6 from by omega) (show y6 ≤ 7 from by omega) (show 0 ≤ y7 from by omega) (show y7 ≤ 50 from by omega) (show 0 ≤ y5 from by omega) (show y5 ≤ 1399 from by omega) (show 0 ≤ y7 from by omega) (show y7 ≤ a 197 (y6.toNat) from by omega) (show y7 * (a 196 (y6.toNat)) ≤ y5 from by omega) hi12 (show 1 ≤ a0 146 9 from by omega)
        ·
          exact hc201 y4 y5 y6 y7 a (show (((((8 - y6) * 53) + 0) + ((y7 + 0) * 1)) + 0).toNat ≤ n from by omega) hv hf (show 0 ≤ y4 from by omega) (show y4 ≤ 1399 from by omega) (show 0 ≤ y5 from by omega) (show y5 ≤ 1399 from by omega) (show 0 ≤ y6 from by omega) (show y6 ≤ 7 from by omega) (show 1 ≤ y7 from by omega) (show y7 ≤ 50 from by omega) (show 0 ≤ y5 from by omega) (show y5 ≤ 1399 from by omega) (show 0 ≤ y7 from by omega) (show y7 ≤ a 197 (y6.toNat) from by omega) (show 1 ≤ y7 from by omega) hi12 (show 1 ≤ a0 146 9 from by omega)
    ·
      have h677_ := iv_get hv (k := 196) (j := y6.toNat) (l := (-1)) (u := 500) rfl
      have h678_ : a 196 (y6.toNat) = a0 196 (y6.toNat) := hf 196 (y6.toNat) rfl
      have h679_ := iv_get hv0 (k := 196) (j := y6.toNat) (l := (-1)) (u := 500) rfl
      exact hc207 y4 y5 y6 y7 a (show (((8 - y6) * 53) + 0).toNat ≤ n from by omega) hv hf (show 0 ≤ y4 from by omega) (show y4 ≤ 1399 from by omega) (show 0 ≤ y5 from by omega) (show y5 ≤ 1399 from by omega) (show 0 ≤ y6 from by omega) (show y6 ≤ 7 from by omega) (show 0 ≤ y7 from by omega) (show y7 ≤ 50 from by omega) (show 0 ≤ y5 from by omega) (show y5 ≤ 1399 from by omega) (show 0 ≤ y7 from by omega) (show y7 ≤ a 197 (y6.toNat) from by omega) (show y7 * (a 196 (y6.toNat)) ≤ y5 from by omega) hi12 (show 1 ≤ a0 146 9 from by omega)
  have hc118 : ∀ (y4 y5 y6 : Int) (a : Nat → Nat → Int), (((8 - y6) * 53) + 52).toNat ≤ n → iv a → jfr jW_X12_pay a0 a → 0 ≤ y4 → y4 ≤ 1399 → 0 ≤ y5 → y5 ≤ 1399 → 0 ≤ y6 → y6 ≤ 8 → 0 ≤ y5 → y5 ≤ 1399 → (SV a) → 1 ≤ a0 146 9 → jt (jxX E d 287 118 [some (.inr (.inr (.inl 146))), none, none, none, some (.inl y4), some (.inl y5), some (.inl y6), none] [] (jxSH, a, b0)) (jQ_X12_pay x1 x2 a0 b0) := by
    intro y4 y5 y6 a hm hv hf hi0 hi1 hi2 hi3 hi4 hi5 hi6 hi7 hi8 hi9
    refine jt_eq (bq_X12_pay_118 E d y4 y5 y6 a b0) ?_
    have h680_ := iv_get hv0 (k := 146) (j := 9) (l := 0) (u := 300) rfl
    refine jt_ite (fun c681_ => ?_) (fun c681_ => ?_)
    ·
      refine jt_grd (by omega) ?_
      have h682_ := iv_get hv (k := 197) (j := y6.toNat) (l := 0) (u := 50) rfl
      exact hc134 y4 y5 y6 (a 197 (y6.toNat)) a (show (((((8 - y6) * 53) + 0) + (((a 197 (y6.toNat)) + 0) * 1)) + 0).toNat ≤ n from by omega) hv hf (show 0 ≤ y4 from by omega) (show y4 ≤ 1399 from by omega) (show 0 ≤ y5 from by omega) (show y5 ≤ 1399 from by omega) (show 0 ≤ y6 from by omega) (show y6 ≤ 7 from by omega) (show 0 ≤ a 197 (y6.toNat) from by omega) (show a 197 (y6.toNat) ≤ 50 from by omega) (show 0 ≤ y5 from by omega) (show y5 ≤ 1399 from by omega) (show 0 ≤ a 197 (y6.toNat) from by omega) (show a 197 (y6.toNat) ≤ a 197 (y6.toNat) from by omega) hi8 (show 1 ≤ a0 146 9 from by omega)
    ·
      have hv683_ : iv (jxu a 146 75 1) := iv_putf hv rfl
      have hf684_ : jfr jW_X12_pay a0 (jxu a 146 75 1) := jfr_put hf rfl
      have hg685_ : SV (jxu a 146 75 1) := (SV_fr hi8 (jfr_1s a 146 75 1) (fun _ => rfl) (fun _ => rfl))
      exact jt_rI ⟨hv683_, hf684_, rfl, hg685_, (show (a0 146 9 = 0 → y4 = 0 - 1) from by omega)⟩
  exact ⟨hc201, hc243, hc207, hc134, hc118⟩
theorem cp_X12_pay_100 (E : jxE) (d : Nat) (hd : Nat.ble 2 (d + 1) = true) (x1 x2 : Int) (a0 b0 : Nat → Nat → Int) (hv0 : iv a0) (hp0 : SV a0) : ∀ (y4 : Int) (a : Nat → Nat → Int), iv a → jfr jW_X12_pay a0 a → 0 ≤ y4 → y4 ≤ 1400 → (SV a) → 1 ≤ a0 146 9 → jt (jxX E d 287 100 [some (.inr (.inr (.inl 146))), none, none, none, some (.inl y4), none, none, none] [] (jxSH, a, b0)) (jQ_X12_pay x1 x2 a0 b0) := by
  intro y4 a hv hf hi0 hi1 hi2 hi3
  refine jt_eq (bq_X12_pay_100 E d y4 a b0) ?_
  have h686_ := iv_get hv0 (k := 146) (j := 9) (l := 0) (u := 300) rfl
  refine jt_ite (fun c687_ => ?_) (fun c687_ => ?_)
  ·
    exact jt_rI ⟨hv, hf, rfl, hi2, (show (a0 146 9 = 0 → (-3) = 0 - 1) from by omega)⟩
  ·
    exact (cp_X12_pay_118 E d hd x1 x2 a0 b0 hv0 hp0 _).2.2.2.2 y4 y4 0 a (Nat.le_refl _) hv hf (show 0 ≤ y4 from by omega) (show y4 ≤ 1399 from by omega) (show 0 ≤ y4 from by omega) (show y4 ≤ 1399 from by omega) (show 0 ≤ 0 from by omega) (show 0 ≤ 8 from by omega) (show 0 ≤ y4 from by omega) (show y4 ≤ 1399 from by omega) hi2 (show 1 ≤ a0 146 9 from by omega)
theorem cp_X12_pay_73 (E : jxE) (d : Nat) (hd : Nat.ble 2 (d + 1) = true) (x1 x2 : Int) (a0 b0 : Nat → Nat → Int) (hv0 : iv a0) (hp0 : SV a0) : ∀ n : Nat, (∀ (y4 : Int) (a : Nat → Nat → Int), (((1400 - y4) * 1) + 0).toNat ≤ n → iv a → jfr jW_X12_pay a0 a → 0 ≤ y4 → y4 ≤ 1400 → (SV a) → 1 ≤ a0 146 9 → jt (jxX E d 287 73 [some (.inr (.inr (.inl 146))), none, none, none, some (.inl y4), none, none, none] [] (jxSH, a, b0)) (jQ_X12_pay x1 x2 a0 b0)) := by
  refine jx_ind fun n ih => ?_
  have ih73 : ∀ (y4 : Int) (a : Nat → Nat → Int), (((1400 - y4) * 1) + 0).toNat < n → iv a → jfr jW_X12_pay a0 a → 0 ≤ y4 → y4 ≤ 1400 → (SV a) → 1 ≤ a0 146 9 → jt (jxX E d 287 73 [some (.inr (.inr (.inl 146))), none, none, none, some (.inl y4), none, none, none] [] (jxSH, a, b0)) (jQ_X12_pay x1 x2 a0 b0) := fun y4 a hlt i0 i1 i2 i3 i4 i5 => (ih _ hlt) y4 a (Nat.le_refl _) i0 i1 i2 i3 i4 i5
  have hc73 : ∀ (y4 : Int) (a : Nat → Nat → Int), (((1400 - y4) * 1) + 0).toNat ≤ n → iv a → jfr jW_X12_pay a0 a → 0 ≤ y4 → y4 ≤ 1400 → (SV a) → 1 ≤ a0 146 9 → jt (jxX E d 287 73 [some (.inr (.inr (.inl 146))), none, none, none, some (.inl y4), none, none, none] [] (jxSH, a, b0)) (jQ_X12_pay x1 x2 a0 b0) := by
    intro y4 a hm hv hf hi0 hi1 hi2 hi3
    refine jt_eq (bq_X12_pay_73 E d y4 a b0) ?_
    have h688_ := iv_get hv0 (k := 146) (j := 9) (l := 0) (u := 300) rfl
    refine jt_ite (fun c689_ => ?_) (fun c689_ => ?_)
    ·
      refine jt_grd (by omega) ?_
      refine jt_ite (fun c690_ => ?_) (fun c690_ => ?_)
      ·
        exact cp_X12_pay_100 E d hd x1 x2 a0 b0 hv0 hp0 y4 a hv hf (show 0 ≤ y4 from by omega) (show y4 ≤ 1400 from by omega) hi2 (show 1 ≤ a0 146 9 from by omega)
      ·
        have h691_ : jxw (y4 + 1) = y4 + 1 := jxw_id (by omega) (by omega)
        exact ih73 (jxw (y4 + 1)) a (show (((1400 - (jxw (y4 + 1))) * 1) + 0).toNat < n from by omega) hv hf (show 0 ≤ jxw (y4 + 1) from by omega) (show jxw (y4 + 1) ≤ 1400 from by omega) hi2 (show 1 ≤ a0 146 9 from by omega)
    ·
      exact cp_X12_pay_100 E d hd x1 x2 a0 b0 hv0 hp0 y4 a hv hf (show 0 ≤ y4 from by omega) (show y4 ≤ 1400 from by omega) hi2 (show 1 ≤ a0 146 9 from by omega)
  exact hc73
theorem cp_X12_pay_59 (E : jxE) (d : Nat) (hd : Nat.ble 2 (d + 1) = true) (x1 x2 : Int) (a0 b0 : Nat → Nat → Int) (hv0 : iv a0) (hp0 : SV a0) : ∀ (y3 : Int) (a : Nat → Nat → Int), iv a → jfr jW_X12_pay a0 a → 0 - 2 ≤ y3 → y3 ≤ 900 → (SV a) → 1 ≤ a0 146 9 → jt (jxX E d 287 59 [some (.inr (.inr (.inl 146))), none, none, some (.inl y3), none, none, none, none] [] (jxSH, a, b0)) (jQ_X12_pay x1 x2 a0 b0) := by
  intro y3 a hv hf hi0 hi1 hi2 hi3
  refine jt_eq (bq_X12_pay_59 E d y3 a b0) ?_
  have h692_ := iv_get hv0 (k := 146) (j := 9) (l := 0) (u := 300) rfl
  refine jt_ite (fun c693_ => ?_) (fun c693_ => ?_)
  ·
    exact jt_rI ⟨hv, hf, rfl, hi2, (show (a0 146 9 = 0 → (-2) = 0 - 1) from by omega)⟩
  ·
    refine jt_bV (sp_X12_makes E d (jd_le hd rfl) a b0 hv hi2) (fun a694_ b694_ h694_ => ?_)
    obtain ⟨hv694_, hf694_, rfl⟩ := h694_
    have hf695_ : jfr jW_X12_pay a0 a694_ := jfr_tr hf hf694_ rfl
    exact (cp_X12_pay_73 E d hd x1 x2 a0 b0 hv0 hp0 _) y3 a694_ (Nat.le_refl _) hv694_ hf695_ (show 0 ≤ y3 from by omega) (show y3 ≤ 1400 from by omega) (SV_fr hi2 hf694_ (fun _ => rfl) (fun _ => rfl)) (show 1 ≤ a0 146 9 from by omega)
theorem sp_X12_pay (E : jxE) (d : Nat) (hd : Nat.ble 2 d = true) (x1 x2 : Int) (a0 b0 : Nat → Nat → Int) (hv0 : iv a0) (hp0 : SV a0) : jt (jxC E d 287 [.inr (.inr (.inl 146)), .inl x1, .inl x2] (jxSH, a0, b0)) (jQ_X12_pay x1 x2 a0 b0) := by
  obtain ⟨d, rfl⟩ := jd_succ hd
  refine jt_eq (bq_X12_pay E d x1 x2 a0 b0) ?_
  refine jt_eI (eq_X12_in E d (jd_le hd rfl) x1 0 (jxw ((a0 146 9) - 1)) a0 b0) ?_
  have h696_ := iv_get hv0 (k := 146) (j := 9) (l := 0) (u := 300) rfl
  have h697_ : jxw ((a0 146 9) - 1) = (a0 146 9) - 1 := jxw_id (by omega) (by omega)
  have h698_ := f_X12_in_eq a0 b0 x1 0 (jxw ((a0 146 9) - 1))
  refine jt_ite (fun c699_ => ?_) (fun c699_ => ?_)
  ·
    exact jt_rI ⟨hv0, (jfr_rf _ _), rfl, hp0, (show (a0 146 9 = 0 → (-1) = 0 - 1) from by omega)⟩
  ·
    refine jt_eI (eq_X12_in E d (jd_le hd rfl) x2 1 500 a0 b0) ?_
    have h700_ := f_X12_in_eq a0 b0 x2 1 500
    refine jt_ite (fun c701_ => ?_) (fun c701_ => ?_)
    ·
      exact jt_rI ⟨hv0, (jfr_rf _ _), rfl, hp0, (show (a0 146 9 = 0 → (-1) = 0 - 1) from by omega)⟩
    ·
      refine jt_grd (by omega) ?_
      have h702_ := iv_get hv0 (k := 154) (j := x1.toNat) (l := 0) (u := 39) rfl
      refine jt_grd (by omega) ?_
      refine jt_grd (by omega) ?_
      have h703_ := iv_get hv0 (k := 155) (j := x1.toNat) (l := 0) (u := 39) rfl
      refine jt_grd (by omega) ?_
      have h704_ := iv_get hv0 (k := 148) (j := (a0 154 (x1.toNat)).toNat) (l := 0) (u := 15) rfl
      have h705_ := iv_get hv0 (k := 148) (j := (a0 155 (x1.toNat)).toNat) (l := 0) (u := 15) rfl
      refine jt_bI (sp_X12_priceOf E d (jd_le hd rfl) (a0 148 ((a0 154 (x1.toNat)).toNat)) (a0 148 ((a0 155 (x1.toNat)).toNat)) x2 (a0 146 0) a0 b0 hv0 (show (0 ≤ a0 148 ((a0 154 (x1.toNat)).toNat) ∧ a0 148 ((a0 154 (x1.toNat)).toNat) ≤ 15) from by omega) (show (0 ≤ a0 148 ((a0 155 (x1.toNat)).toNat) ∧ a0 148 ((a0 155 (x1.toNat)).toNat) ≤ 15) from by omega)) (fun r706_ a706_ b706_ h706_ => ?_)
      obtain ⟨rfl, rfl, hq706_0, hq706_1, hq706_2, hq706_3⟩ := h706_
      have h707_ := iv_get hv0 (k := 146) (j := 68) (l := 0) (u := 10) rfl
      exact cp_X12_pay_59 E d hd x1 x2 a0 b0 hv0 hp0 r706_ a0 hv0 (jfr_rf _ _) (show 0 - 2 ≤ r706_ from by omega) (show r706_ ≤ 900 from by omega) hp0 (show 1 ≤ a0 146 9 from by omega)
def jW_X12_stamps : List (Nat × Nat) := [(196, 9999), (197, 9999)]
abbrev jQ_X12_stamps (x1 x2 x3 : Int) (a0 b0 : Nat → Nat → Int) : List jxV → (Nat → Nat → Int) → (Nat → Nat → Int) → Prop := rI (fun r a b => (iv a) ∧ (jfr jW_X12_stamps a0 a) ∧ (b0 = b) ∧ ((0 ≤ r ∧ r ≤ 1)) ∧ (SV a) ∧ ((((((((r = 1 ∧ 0 ≤ x1) ∧ x1 ≤ 7) ∧ 1 ≤ x2) ∧ x2 ≤ 500) ∧ 0 ≤ x3) ∧ x3 ≤ 50) ∨ (r = 0 ∧ (((((x1 < 0 ∨ 7 < x1) ∨ x2 < 1) ∨ 500 < x2) ∨ x3 < 0) ∨ 50 < x3)))))
theorem cp_X12_stamps_31 (E : jxE) (d : Nat) (hd : Nat.ble 2 (d + 1) = true) (x1 x2 x3 : Int) (a0 b0 : Nat → Nat → Int) (hv0 : iv a0) (hp0 : SV a0) : ∀ (a : Nat → Nat → Int), iv a → jfr jW_X12_stamps a0 a → (((((x1 < 0 ∨ 7 < x1) ∨ x2 < 1) ∨ 500 < x2) ∨ x3 < 0) ∨ 50 < x3) → (SV a) → jt (jxX E d 285 31 [none, none, none, none] [] (jxSH, a, b0)) (jQ_X12_stamps x1 x2 x3 a0 b0) := by
  intro a hv hf hi0 hi1
  refine jt_eq (bq_X12_stamps_31 E d a b0) ?_
  exact jt_rI ⟨hv, hf, rfl, (show (0 ≤ 0 ∧ 0 ≤ 1) from by omega), hi1, (show (((((((0 = 1 ∧ 0 ≤ x1) ∧ x1 ≤ 7) ∧ 1 ≤ x2) ∧ x2 ≤ 500) ∧ 0 ≤ x3) ∧ x3 ≤ 50) ∨ (0 = 0 ∧ (((((x1 < 0 ∨ 7 < x1) ∨ x2 < 1) ∨ 500 < x2) ∨ x3 < 0) ∨ 50 < x3))) from by omega)⟩
theorem cp_X12_stamps_33 (E : jxE) (d : Nat) (hd : Nat.ble 2 (d + 1) = true) (x1 x2 x3 : Int) (a0 b0 : Nat → Nat → Int) (hv0 : iv a0) (hp0 : SV a0) : ∀ (y1 y2 y3 : Int) (a : Nat → Nat → Int), iv a → jfr jW_X12_stamps a0 a → 0 ≤ y1 → y1 ≤ 7 → 1 ≤ y2 → y2 ≤ 500 → 0 ≤ y3 → y3 ≤ 50 → y1 = x1 → y2 = x2 → y3 = x3 → (((((0 ≤ x1 ∧ x1 ≤ 7) ∧ 1 ≤ x2) ∧ x2 ≤ 500) ∧ 0 ≤ x3) ∧ x3 ≤ 50) → (SV a) → jt (jxX E d 285 33 [some (.inr (.inr (.inl 146))), some (.inl y1), some (.inl y2), some (.inl y3)] [] (jxSH, a, b0)) (jQ_X12_stamps x1 x2 x3 a0 b0) := by
  intro y1 y2 y3 a hv hf hi0 hi1 hi2 hi3 hi4 hi5 hi6 hi7 hi8 hi9 hi10
  refine jt_eq (bq_X12_stamps_33 E d y1 y2 y3 a b0) ?_
  refine jt_grd (by omega) ?_
  refine jt_grd (by omega) ?_
  have hv708_ : iv (jxu a 196 (y1.toNat) y2) := iv_put hv (l := (-1)) (u := 500) rfl (by omega) (by omega)
  have hv709_ : iv (jxu (jxu a 196 (y1.toNat) y2) 197 (y1.toNat) y3) := iv_put hv708_ (l := 0) (u := 50) rfl (by omega) (by omega)
  have hf710_ : jfr jW_X12_stamps a0 (jxu a 196 (y1.toNat) y2) := jfr_put hf rfl
  have hf711_ : jfr jW_X12_stamps a0 (jxu (jxu a 196 (y1.toNat) y2) 197 (y1.toNat) y3) := jfr_put hf710_ rfl
  have hg712_ : SV (jxu a 196 (y1.toNat) y2) := (SV_put196 hi10 (by omega))
  have h713_ := iv_get hv (k := 197) (j := y1.toNat) (l := 0) (u := 50) rfl
  have h714_ := iv_get hv708_ (k := 196) (j := y1.toNat) (l := (-1)) (u := 500) rfl
  have h715_ := jxu_sp a 196 (y1.toNat) y2 (y1.toNat)
  have h716_ := iv_get hv (k := 196) (j := y1.toNat) (l := (-1)) (u := 500) rfl
  have hg717_ : SV (jxu (jxu a 196 (y1.toNat) y2) 197 (y1.toNat) y3) := (SV_put197 hg712_ (by first | (left; show y3 ≤ a 197 (y1.toNat); omega) | (right; show 1 ≤ (jxu a 196 (y1.toNat) y2) 196 (y1.toNat); omega)))
  exact jt_rI ⟨hv709_, hf711_, rfl, (show (0 ≤ 1 ∧ 1 ≤ 1) from by omega), hg717_, (show (((((((1 = 1 ∧ 0 ≤ x1) ∧ x1 ≤ 7) ∧ 1 ≤ x2) ∧ x2 ≤ 500) ∧ 0 ≤ x3) ∧ x3 ≤ 50) ∨ (1 = 0 ∧ (((((x1 < 0 ∨ 7 < x1) ∨ x2 < 1) ∨ 500 < x2) ∨ x3 < 0) ∨ 50 < x3))) from by omega)⟩
theorem sp_X12_stamps (E : jxE) (d : Nat) (hd : Nat.ble 2 d = true) (x1 x2 x3 : Int) (a0 b0 : Nat → Nat → Int) (hv0 : iv a0) (hp0 : SV a0) : jt (jxC E d 285 [.inr (.inr (.inl 146)), .inl x1, .inl x2, .inl x3] (jxSH, a0, b0)) (jQ_X12_stamps x1 x2 x3 a0 b0) := by
  obtain ⟨d, rfl⟩ := jd_succ hd
  refine jt_eq (bq_X12_stamps E d x1 x2 x3 a0 b0) ?_
  refine jt_eI (eq_X12_in E d (jd_le hd rfl) x1 0 7 a0 b0) ?_
  have h718_ := f_X12_in_eq a0 b0 x1 0 7
  refine jt_ite (fun c719_ => ?_) (fun c719_ => ?_)
  ·
    exact cp_X12_stamps_31 E d hd x1 x2 x3 a0 b0 hv0 hp0 a0 hv0 (jfr_rf _ _) (show (((((x1 < 0 ∨ 7 < x1) ∨ x2 < 1) ∨ 500 < x2) ∨ x3 < 0) ∨ 50 < x3) from by omega) hp0
  ·
    refine jt_eI (eq_X12_in E d (jd_le hd rfl) x2 1 500 a0 b0) ?_
    have h720_ := f_X12_in_eq a0 b0 x2 1 500
    refine jt_ite (fun c721_ => ?_) (fun c721_ => ?_)
    ·
      exact cp_X12_stamps_31 E d hd x1 x2 x3 a0 b0 hv0 hp0 a0 hv0 (jfr_rf _ _) (show (((((x1 < 0 ∨ 7 < x1) ∨ x2 < 1) ∨ 500 < x2) ∨ x3 < 0) ∨ 50 < x3) from by omega) hp0
    ·
      refine jt_eI (eq_X12_in E d (jd_le hd rfl) x3 0 50 a0 b0) ?_
      have h722_ := f_X12_in_eq a0 b0 x3 0 50
      refine jt_ite (fun c723_ => ?_) (fun c723_ => ?_)
      ·
        exact cp_X12_stamps_31 E d hd x1 x2 x3 a0 b0 hv0 hp0 a0 hv0 (jfr_rf _ _) (show (((((x1 < 0 ∨ 7 < x1) ∨ x2 < 1) ∨ 500 < x2) ∨ x3 < 0) ∨ 50 < x3) from by omega) hp0
      ·
        exact cp_X12_stamps_33 E d hd x1 x2 x3 a0 b0 hv0 hp0 x1 x2 x3 a0 hv0 (jfr_rf _ _) (show 0 ≤ x1 from by omega) (show x1 ≤ 7 from by omega) (show 1 ≤ x2 from by omega) (show x2 ≤ 500 from by omega) (show 0 ≤ x3 from by omega) (show x3 ≤ 50 from by omega) (show x1 = x1 from by omega) (show x2 = x2 from by omega) (show x3 = x3 from by omega) (show (((((0 ≤ x1 ∧ x1 ≤ 7) ∧ 1 ≤ x2) ∧ x2 ≤ 500) ∧ 0 ≤ x3) ∧ x3 ≤ 50) from by omega) hp0
