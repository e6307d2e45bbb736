def jW_X12_isMet : List (Nat × Nat) := [(170, 9999)]
abbrev jQ_X12_isMet (x1 x2 : Int) (a0 b0 : Nat → Nat → Int) : List jxV → (Nat → Nat → Int) → (Nat → Nat → Int) → Prop := rI (fun r a b => (iv a) ∧ (jfr jW_X12_isMet a0 a) ∧ (b0 = b) ∧ ((0 ≤ r ∧ r ≤ 1)) ∧ (r = METR a0 b0 x1 x2))
theorem cp_X12_isMet_16 (E : jxE) (d : Nat) (hd : Nat.ble 2 (d + 1) = true) (x1 x2 : Int) (a0 b0 : Nat → Nat → Int) (hv0 : iv a0) (hp0 : (0 ≤ x1 ∧ x1 ≤ 39)) (hp1 : (0 ≤ x2 ∧ x2 ≤ 39)) (hp2 : WFW a0) (hp3 : WISHR a0) : ∀ n : Nat, (∀ (y1 y2 y3 y4 : Int) (a : Nat → Nat → Int), (((64 - y4) * 1) + 0).toNat ≤ n → iv a → jfr jW_X12_isMet a0 a → 0 ≤ y1 → y1 ≤ 39 → 0 ≤ y2 → y2 ≤ 39 → 0 ≤ y4 → y4 ≤ 63 → y1 = x1 → y2 = x2 → 0 ≤ y4 → 0 ≤ y3 → y4 < a 167 (y1.toNat) → (y3 = jhg (fun k => a0 166 (64 * x1.toNat + k)) (y4.toNat + 1)) → ¬ a0 167 (x1.toNat) = 0 → (OUL (a 170) y3.toNat = ESTR (TRR a0 b0 x1 x2) (fun k => a0 166 (x1.toNat * 64 + k)) (y4.toNat + 1)) → jt (jxX E d 227 172 [some (.inr (.inr (.inl 146))), some (.inl y1), some (.inl y2), some (.inl y3), some (.inl y4), none] [] (jxSH, a, b0)) (jQ_X12_isMet x1 x2 a0 b0)) ∧ (∀ (y1 y2 y3 y4 : Int) (a : Nat → Nat → Int), (((64 - y4) * 1) + 0).toNat ≤ n → iv a → jfr jW_X12_isMet a0 a → 0 ≤ y1 → y1 ≤ 39 → 0 ≤ y2 → y2 ≤ 39 → 0 ≤ y4 → y4 ≤ 63 → y1 = x1 → y2 = x2 → 0 ≤ y4 → 0 ≤ y3 → y4 < a 167 (y1.toNat) → (y3 = jhg (fun k => a0 166 (64 * x1.toNat + k)) (y4.toNat + 1)) → ¬ a0 167 (x1.toNat) = 0 → (OUL (a 170) y3.toNat = ESTR (TRR a0 b0 x1 x2) (fun k => a0 166 (x1.toNat * 64 + k)) (y4.toNat + 1)) → jt (jxX E d 227 99 [some (.inr (.inr (.inl 146))), some (.inl y1), some (.inl y2), some (.inl y3), some (.inl y4), none] [] (jxSH, a, b0)) (jQ_X12_isMet x1 x2 a0 b0)) ∧ (∀ (y1 y2 y3 y4 y5 : Int) (a : Nat → Nat → Int), (((64 - y4) * 1) + 0).toNat ≤ n → iv a → jfr jW_X12_isMet a0 a → 0 ≤ y1 → y1 ≤ 39 → 0 ≤ y2 → y2 ≤ 39 → 0 ≤ y4 → y4 ≤ 63 → y1 = x1 → y2 = x2 → 0 ≤ y4 → 0 ≤ y3 → y4 < a 167 (y1.toNat) → (y3 = jhg (fun k => a0 166 (64 * x1.toNat + k)) y4.toNat) → (y5 = a0 166 (64 * x1.toNat + y4.toNat)) → ¬ a0 167 (x1.toNat) = 0 → (OUL (a 170) y3.toNat = ESTR (TRR a0 b0 x1 x2) (fun k => a0 166 (x1.toNat * 64 + k)) y4.toNat) → jt (jxX E d 227 41 [some (.inr (.inr (.inl 146))), some (.inl y1), some (.inl y2), some (.inl y3), some (.inl y4), some (.inl y5)] [] (jxSH, a, b0)) (jQ_X12_isMet x1 x2 a0 b0)) ∧ (∀ (y1 y2 y3 y4 : Int) (a : Nat → Nat → Int), (((64 - y4) * 1) + 0).toNat ≤ n → iv a → jfr jW_X12_isMet a0 a → 0 ≤ y1 → y1 ≤ 39 → 0 ≤ y2 → y2 ≤ 39 → 0 ≤ y4 → y4 ≤ 64 → y1 = x1 → y2 = x2 → 0 ≤ y4 → 0 ≤ y3 → y4 ≤ a 167 (y1.toNat) → (y3 = jhg (fun k => a0 166 (64 * x1.toNat + k)) y4.toNat) → ¬ a0 167 (x1.toNat) = 0 → (OUL (a 170) y3.toNat = ESTR (TRR a0 b0 x1 x2) (fun k => a0 166 (x1.toNat * 64 + k)) y4.toNat) → jt (jxX E d 227 16 [some (.inr (.inr (.inl 146))), some (.inl y1), some (.inl y2), some (.inl y3), some (.inl y4), none] [] (jxSH, a, b0)) (jQ_X12_isMet x1 x2 a0 b0)) := by
  refine jx_ind fun n ih => ?_
  have ih172 : ∀ (y1 y2 y3 y4 : Int) (a : Nat → Nat → Int), (((64 - y4) * 1) + 0).toNat < n → iv a → jfr jW_X12_isMet a0 a → 0 ≤ y1 → y1 ≤ 39 → 0 ≤ y2 → y2 ≤ 39 → 0 ≤ y4 → y4 ≤ 63 → y1 = x1 → y2 = x2 → 0 ≤ y4 → 0 ≤ y3 → y4 < a 167 (y1.toNat) → (y3 = jhg (fun k => a0 166 (64 * x1.toNat + k)) (y4.toNat + 1)) → ¬ a0 167 (x1.toNat) = 0 → (OUL (a 170) y3.toNat = ESTR (TRR a0 b0 x1 x2) (fun k => a0 166 (x1.toNat * 64 + k)) (y4.toNat + 1)) → jt (jxX E d 227 172 [some (.inr (.inr (.inl 146))), some (.inl y1), some (.inl y2), some (.inl y3), some (.inl y4), none] [] (jxSH, a, b0)) (jQ_X12_isMet x1 x2 a0 b0) := fun y1 y2 y3 y4 a hlt i0 i1 i2 i3 i4 i5 i6 i7 i8 i9 i10 i11 i12 i13 i14 i15 => (ih _ hlt).1 y1 y2 y3 y4 a (Nat.le_refl _) i0 i1 i2 i3 i4 i5 i6 i7 i8 i9 i10 i11 i12 i13 i14 i15
  have ih99 : ∀ (y1 y2 y3 y4 : Int) (a : Nat → Nat → Int), (((64 - y4) * 1) + 0).toNat < n → iv a → jfr jW_X12_isMet a0 a → 0 ≤ y1 → y1 ≤ 39 → 0 ≤ y2 → y2 ≤ 39 → 0 ≤ y4 → y4 ≤ 63 → y1 = x1 → y2 = x2 → 0 ≤ y4 → 0 ≤ y3 → y4 < a 167 (y1.toNat) → (y3 = jhg (fun k => a0 166 (64 * x1.toNat + k)) (y4.toNat + 1)) → ¬ a0 167 (x1.toNat) = 0 → (OUL (a 170) y3.toNat = ESTR (TRR a0 b0 x1 x2) (fun k => a0 166 (x1.toNat * 64 + k)) (y4.toNat + 1)) → jt (jxX E d 227 99 [some (.inr (.inr (.inl 146))), some (.inl y1), some (.inl y2), some (.inl y3), some (.inl y4), none] [] (jxSH, a, b0)) (jQ_X12_isMet x1 x2 a0 b0) := fun y1 y2 y3 y4 a hlt i0 i1 i2 i3 i4 i5 i6 i7 i8 i9 i10 i11 i12 i13 i14 i15 => (ih _ hlt).2.1 y1 y2 y3 y4 a (Nat.le_refl _) i0 i1 i2 i3 i4 i5 i6 i7 i8 i9 i10 i11 i12 i13 i14 i15
  have ih41 : ∀ (y1 y2 y3 y4 y5 : Int) (a : Nat → Nat → Int), (((64 - y4) * 1) + 0).toNat < n → iv a → jfr jW_X12_isMet a0 a → 0 ≤ y1 → y1 ≤ 39 → 0 ≤ y2 → y2 ≤ 39 → 0 ≤ y4 → y4 ≤ 63 → y1 = x1 → y2 = x2 → 0 ≤ y4 → 0 ≤ y3 → y4 < a 167 (y1.toNat) → (y3 = jhg (fun k => a0 166 (64 * x1.toNat + k)) y4.toNat) → (y5 = a0 166 (64 * x1.toNat + y4.toNat)) → ¬ a0 167 (x1.toNat) = 0 → (OUL (a 170) y3.toNat = ESTR (TRR a0 b0 x1 x2) (fun k => a0 166 (x1.toNat * 64 + k)) y4.toNat) → jt (jxX E d 227 41 [some (.inr (.inr (.inl 146))), some (.inl y1), some (.inl y2), some (.inl y3), some (.inl y4), some (.inl y5)] [] (jxSH, a, b0)) (jQ_X12_isMet x1 x2 a0 b0) := fun y1 y2 y3 y4 y5 a hlt i0 i1 i2 i3 i4 i5 i6 i7 i8 i9 i10 i11 i12 i13 i14 i15 i16 => (ih _ hlt).2.2.1 y1 y2 y3 y4 y5 a (Nat.le_refl _) i0 i1 i2 i3 i4 i5 i6 i7 i8 i9 i10 i11 i12 i13 i14 i15 i16
  have ih16 : ∀ (y1 y2 y3 y4 : Int) (a : Nat → Nat → Int), (((64 - y4) * 1) + 0).toNat < n → iv a → jfr jW_X12_isMet a0 a → 0 ≤ y1 → y1 ≤ 39 → 0 ≤ y2 → y2 ≤ 39 → 0 ≤ y4 → y4 ≤ 64 → y1 = x1 → y2 = x2 → 0 ≤ y4 → 0 ≤ y3 → y4 ≤ a 167 (y1.toNat) → (y3 = jhg (fun k => a0 166 (64 * x1.toNat + k)) y4.toNat) → ¬ a0 167 (x1.toNat) = 0 → (OUL (a 170) y3.toNat = ESTR (TRR a0 b0 x1 x2) (fun k => a0 166 (x1.toNat * 64 + k)) y4.toNat) → jt (jxX E d 227 16 [some (.inr (.inr (.inl 146))), some (.inl y1), some (.inl y2), some (.inl y3), some (.inl y4), none] [] (jxSH, a, b0)) (jQ_X12_isMet x1 x2 a0 b0) := fun y1 y2 y3 y4 a hlt i0 i1 i2 i3 i4 i5 i6 i7 i8 i9 i10 i11 i12 i13 i14 i15 => (ih _ hlt).2.2.2 y1 y2 y3 y4 a (Nat.le_refl _) i0 i1 i2 i3 i4 i5 i6 i7 i8 i9 i10 i11 i12 i13 i14 i15
  have hc172 : ∀ (y1 y2 y3 y4 : Int) (a : Nat → Nat → Int), (((64 - y4) * 1) + 0).toNat ≤ n → iv a → jfr jW_X12_isMet a0 a → 0 ≤ y1 → y1 ≤ 39 → 0 ≤ y2 → y2 ≤ 39 → 0 ≤ y4 → y4 ≤ 63 → y1 = x1 → y2 = x2 → 0 ≤ y4 → 0 ≤ y3 → y4 < a 167 (y1.toNat) → (y3 = jhg (fun k => a0 166 (64 * x1.toNat + k)) (y4.toNat + 1)) → ¬ a0 167 (x1.toNat) = 0 → (OUL (a 170) y3.toNat = ESTR (TRR a0 b0 x1 x2) (fun k => a0 166 (x1.toNat * 64 + k)) (y4.toNat + 1)) → jt (jxX E d 227 172 [some (.inr (.inr (.inl 146))), some (.inl y1), some (.inl y2), some (.inl y3), some (.inl y4), none] [] (jxSH, a, b0)) (jQ_X12_isMet x1 x2 a0 b0) := by
    intro y1 y2 y3 y4 a hm hv hf hi0 hi1 hi2 hi3 hi4 hi5 hi6 hi7 hi8 hi9 hi10 hi11 hi12 hst
    refine jt_eq (bq_X12_isMet_172 E d y1 y2 y3 y4 a b0) ?_
    have h1_ := iv_get hv (k := 167) (j := y1.toNat) (l := 0) (u := 64) rfl
    have h2_ : a 167 (y1.toNat) = a0 167 (y1.toNat) := hf 167 (y1.toNat) rfl
    have h3_ := iv_get hv0 (k := 167) (j := y1.toNat) (l := 0) (u := 64) rfl
    have h4_ := iv_get hv0 (k := 167) (j := x1.toNat) (l := 0) (u := 64) rfl
    have h5_ : jxw (y4 + 1) = y4 + 1 := jxw_id (by omega) (by omega)
    exact ih16 y1 y2 y3 (jxw (y4 + 1)) a (show (((64 - (jxw (y4 + 1))) * 1) + 0).toNat < n from by omega) hv hf (show 0 ≤ y1 from by omega) (show y1 ≤ 39 from by omega) (show 0 ≤ y2 from by omega) (show y2 ≤ 39 from by omega) (show 0 ≤ jxw (y4 + 1) from by omega) (show jxw (y4 + 1) ≤ 64 from by omega) (show y1 = x1 from by omega) (show y2 = x2 from by omega) (show 0 ≤ jxw (y4 + 1) from by omega) (show 0 ≤ y3 from by omega) (show jxw (y4 + 1) ≤ a 167 (y1.toNat) from by omega) (by first | rfl | (rw [show (jxw (y4 + 1)).toNat = y4.toNat + 1 from by omega]; assumption)) (show ¬ a0 167 (x1.toNat) = 0 from by omega) (by first | rfl | (rw [show (jxw (y4 + 1)).toNat = y4.toNat + 1 from by omega]; exact hst))
  have hc99 : ∀ (y1 y2 y3 y4 : Int) (a : Nat → Nat → Int), (((64 - y4) * 1) + 0).toNat ≤ n → iv a → jfr jW_X12_isMet a0 a → 0 ≤ y1 → y1 ≤ 39 → 0 ≤ y2 → y2 ≤ 39 → 0 ≤ y4 → y4 ≤ 63 → y1 = x1 → y2 = x2 → 0 ≤ y4 → 0 ≤ y3 → y4 < a 167 (y1.toNat) → (y3 = jhg (fun k => a0 166 (64 * x1.toNat + k)) (y4.toNat + 1)) → ¬ a0 167 (x1.toNat) = 0 → (OUL (a 170) y3.toNat = ESTR (TRR a0 b0 x1 x2) (fun k => a0 166 (x1.toNat * 64 + k)) (y4.toNat + 1)) → jt (jxX E d 227 99 [some (.inr (.inr (.inl 146))), some (.inl y1), some (.inl y2), some (.inl y3), some (.inl y4), none] [] (jxSH, a, b0)) (jQ_X12_isMet x1 x2 a0 b0) := by
    intro y1 y2 y3 y4 a hm hv hf hi0 hi1 hi2 hi3 hi4 hi5 hi6 hi7 hi8 hi9 hi10 hi11 hi12 hst
    refine jt_eq (bq_X12_isMet_99 E d y1 y2 y3 y4 a b0) ?_
    have h6_ := iv_get hv (k := 167) (j := y1.toNat) (l := 0) (u := 64) rfl
    have h7_ : a 167 (y1.toNat) = a0 167 (y1.toNat) := hf 167 (y1.toNat) rfl
    have h8_ := iv_get hv0 (k := 167) (j := y1.toNat) (l := 0) (u := 64) rfl
    have h9_ := iv_get hv0 (k := 167) (j := x1.toNat) (l := 0) (u := 64) rfl
    exact hc172 y1 y2 y3 y4 a (show (((64 - y4) * 1) + 0).toNat ≤ n from by omega) hv hf (show 0 ≤ y1 from by omega) (show y1 ≤ 39 from by omega) (show 0 ≤ y2 from by omega) (show y2 ≤ 39 from by omega) (show 0 ≤ y4 from by omega) (show y4 ≤ 63 from by omega) (show y1 = x1 from by omega) (show y2 = x2 from by omega) (show 0 ≤ y4 from by omega) (show 0 ≤ y3 from by omega) (show y4 < a 167 (y1.toNat) from by omega) (by first | assumption | omega) (show ¬ a0 167 (x1.toNat) = 0 from by omega) hst
  have hc41 : ∀ (y1 y2 y3 y4 y5 : Int) (a : Nat → Nat → Int), (((64 - y4) * 1) + 0).toNat ≤ n → iv a → jfr jW_X12_isMet a0 a → 0 ≤ y1 → y1 ≤ 39 → 0 ≤ y2 → y2 ≤ 39 → 0 ≤ y4 → y4 ≤ 63 → y1 = x1 → y2 = x2 → 0 ≤ y4 → 0 ≤ y3 → y4 < a 167 (y1.toNat) → (y3 = jhg (fun k => a0 166 (64 * x1.toNat + k)) y4.toNat) → (y5 = a0 166 (64 * x1.toNat + y4.toNat)) → ¬ a0 167 (x1.toNat) = 0 → (OUL (a 170) y3.toNat = ESTR (TRR a0 b0 x1 x2) (fun k => a0 166 (x1.toNat * 64 + k)) y4.toNat) → jt (jxX E d 227 41 [some (.inr (.inr (.inl 146))), some (.inl y1), some (.inl y2), some (.inl y3), some (.inl y4), some (.inl y5)] [] (jxSH, a, b0)) (jQ_X12_isMet x1 x2 a0 b0) := by
    intro y1 y2 y3 y4 y5 a hm hv hf hi0 hi1 hi2 hi3 hi4 hi5 hi6 hi7 hi8 hi9 hi10 hi11 hi12 hi13 hst
    refine jt_eq (bq_X12_isMet_41 E d y1 y2 y3 y4 y5 a b0) ?_
    have h10_ := iv_get hv (k := 167) (j := y1.toNat) (l := 0) (u := 64) rfl
    have h11_ : a 167 (y1.toNat) = a0 167 (y1.toNat) := hf 167 (y1.toNat) rfl
    have h12_ := iv_get hv0 (k := 167) (j := y1.toNat) (l := 0) (u := 64) rfl
    have h13_ := iv_get hv0 (k := 167) (j := x1.toNat) (l := 0) (u := 64) rfl
    have h167a := hf 167 y1.toNat rfl
    have h167c : a0 167 x1.toNat = a0 167 y1.toNat := by rw [show y1 = x1 from by omega]
    have hst := wf_step hp2 hp0 (y := y4) (by omega) (by omega)
    have h167 := iv_get hv0 (k := 167) (j := x1.toNat) (l := 0) (u := 64) rfl
    have h167b := hf 167 x1.toNat rfl
    obtain ⟨hst1, hst2, hst3⟩ := hst
    have hy5 : y5 = a0 166 (64 * x1.toNat + y4.toNat) := by assumption
    have hy3 : y3 = jhg (fun k => a0 166 (64 * x1.toNat + k)) y4.toNat := by assumption
    rw [← hy5, ← hy3] at hst1 hst2
    rw [← hy3] at hst3
    have hg5 : a0 166 (x1.toNat * 64 + y4.toNat) = y5 := by rw [hy5]; congr 1; omega
    refine jt_ite (fun c14_ => ?_) (fun c14_ => ?_)
    ·
      refine jt_ite (fun c15_ => ?_) (fun c15_ => ?_)
      ·
        have h16_ := jxw_im (y3 - 1)
        have h17_ := jxw_rg (y3 - 1)
        refine jt_grd (by omega) ?_
        have h18_ := iv_get hv (k := 170) (j := (jxw (y3 - 1)).toNat) (l := 0) (u := 1) rfl
        refine jt_ite (fun c19_ => ?_) (fun c19_ => ?_)
        ·
          refine jt_grd (by omega) ?_
          have hv20_ : iv (jxu a 170 ((jxw (y3 - 1)).toNat) 1) := iv_put hv (l := 0) (u := 1) rfl (by omega) (by omega)
          have hf21_ : jfr jW_X12_isMet a0 (jxu a 170 ((jxw (y3 - 1)).toNat) 1) := jfr_put hf rfl
          exact hc99 y1 y2 y3 y4 (jxu a 170 ((jxw (y3 - 1)).toNat) 1) (show (((64 - y4) * 1) + 0).toNat ≤ n from by omega) hv20_ hf21_ (show 0 ≤ y1 from by omega) (show y1 ≤ 39 from by omega) (show 0 ≤ y2 from by omega) (show y2 ≤ 39 from by omega) (show 0 ≤ y4 from by omega) (show y4 ≤ 63 from by omega) (show y1 = x1 from by omega) (show y2 = x2 from by omega) (show 0 ≤ y4 from by omega) (show 0 ≤ y3 from by omega) (show y4 < a 167 (y1.toNat) from by omega) (by omega) (show ¬ a0 167 (x1.toNat) = 0 from by omega) (by first | exact IRS (s := a 170) (y := y3) (z := y3) hst (by omega) (by omega) (fun i hi => by show (if i = ((jxw (y3 - 1)).toNat) then _ else a 170 i) = _; rw [if_neg (by omega)]) (Or.inr (Or.inl ⟨by show a0 166 (x1.toNat * 64 + y4.toNat) = 2; omega, by omega, by omega, by show (if _ = ((jxw (y3 - 1)).toNat) then _ else _) = _; rw [if_pos (by omega)]; rw [show (y3 - 1).toNat = (jxw (y3 - 1)).toNat from by omega]; first | rw [if_pos (by assumption)] | rw [if_neg (by assumption)]⟩)))
        ·
          refine jt_grd (by omega) ?_
          have hv22_ : iv (jxu a 170 ((jxw (y3 - 1)).toNat) 0) := iv_put hv (l := 0) (u := 1) rfl (by omega) (by omega)
          have hf23_ : jfr jW_X12_isMet a0 (jxu a 170 ((jxw (y3 - 1)).toNat) 0) := jfr_put hf rfl
          exact hc99 y1 y2 y3 y4 (jxu a 170 ((jxw (y3 - 1)).toNat) 0) (show (((64 - y4) * 1) + 0).toNat ≤ n from by omega) hv22_ hf23_ (show 0 ≤ y1 from by omega) (show y1 ≤ 39 from by omega) (show 0 ≤ y2 from by omega) (show y2 ≤ 39 from by omega) (show 0 ≤ y4 from by omega) (show y4 ≤ 63 from by omega) (show y1 = x1 from by omega) (show y2 = x2 from by omega) (show 0 ≤ y4 from by omega) (show 0 ≤ y3 from by omega) (show y4 < a 167 (y1.toNat) from by omega) (by omega) (show ¬ a0 167 (x1.toNat) = 0 from by omega) (by first | exact IRS (s := a 170) (y := y3) (z := y3) hst (by omega) (by omega) (fun i hi => by show (if i = ((jxw (y3 - 1)).toNat) then _ else a 170 i) = _; rw [if_neg (by omega)]) (Or.inr (Or.inl ⟨by show a0 166 (x1.toNat * 64 + y4.toNat) = 2; omega, by omega, by omega, by show (if _ = ((jxw (y3 - 1)).toNat) then _ else _) = _; rw [if_pos (by omega)]; rw [show (y3 - 1).toNat = (jxw (y3 - 1)).toNat from by omega]; first | rw [if_pos (by assumption)] | rw [if_neg (by assumption)]⟩)))
      ·
        refine jt_ite (fun c24_ => ?_) (fun c24_ => ?_)
        ·
          have h25_ := jxw_im (y3 + (-1))
          have h26_ := jxw_rg (y3 + (-1))
          have h27_ := jxw_im ((jxw (y3 + (-1))) - 1)
          have h28_ := jxw_rg ((jxw (y3 + (-1))) - 1)
          refine jt_grd (by omega) ?_
          have h29_ := iv_get hv (k := 170) (j := (jxw ((jxw (y3 + (-1))) - 1)).toNat) (l := 0) (u := 1) rfl
          refine jt_ite (fun c30_ => ?_) (fun c30_ => ?_)
          ·
            refine jt_grd (by omega) ?_
            have hv31_ : iv (jxu a 170 ((jxw ((jxw (y3 + (-1))) - 1)).toNat) 0) := iv_put hv (l := 0) (u := 1) rfl (by omega) (by omega)
            have hf32_ : jfr jW_X12_isMet a0 (jxu a 170 ((jxw ((jxw (y3 + (-1))) - 1)).toNat) 0) := jfr_put hf rfl
            exact hc172 y1 y2 (jxw (y3 + (-1))) y4 (jxu a 170 ((jxw ((jxw (y3 + (-1))) - 1)).toNat) 0) (show (((64 - y4) * 1) + 0).toNat ≤ n from by omega) hv31_ hf32_ (show 0 ≤ y1 from by omega) (show y1 ≤ 39 from by omega) (show 0 ≤ y2 from by omega) (show y2 ≤ 39 from by omega) (show 0 ≤ y4 from by omega) (show y4 ≤ 63 from by omega) (show y1 = x1 from by omega) (show y2 = x2 from by omega) (show 0 ≤ y4 from by omega) (show 0 ≤ jxw (y3 + (-1)) from by omega) (show y4 < a 167 (y1.toNat) from by omega) (by first | assumption | omega) (show ¬ a0 167 (x1.toNat) = 0 from by omega) (by first | exact IRS (s := a 170) (y := y3) (z := jxw (y3 + (-1))) hst (by omega) (by omega) (fun i hi => by show (if i = ((jxw ((jxw (y3 + (-1))) - 1)).toNat) then _ else a 170 i) = _; rw [if_neg (by omega)]) (Or.inr (Or.inr (Or.inl ⟨by show a0 166 (x1.toNat * 64 + y4.toNat) = 1; omega, by omega, by omega, by show (if _ = ((jxw ((jxw (y3 + (-1))) - 1)).toNat) then _ else _) = _; rw [if_pos (by omega)]; rw [show (y3 - 2).toNat = (jxw ((jxw (y3 + (-1))) - 1)).toNat from by omega, show (y3 - 1).toNat = (jxw (y3 + (-1))).toNat from by omega]; repeat (first | rw [if_pos (by assumption)] | rw [if_neg (by assumption)])⟩))) | exact IRS (s := a 170) (y := y3) (z := jxw (y3 + (-1))) hst (by omega) (by omega) (fun i hi => by show (if i = ((jxw ((jxw (y3 + (-1))) - 1)).toNat) then _ else a 170 i) = _; rw [if_neg (by omega)]) (Or.inr (Or.inr (Or.inr ⟨by show ¬ 1024 ≤ a0 166 (x1.toNat * 64 + y4.toNat); omega, by show ¬ a0 166 (x1.toNat * 64 + y4.toNat) = 2; omega, by show ¬ a0 166 (x1.toNat * 64 + y4.toNat) = 1; omega, by omega, by omega, by show (if _ = ((jxw ((jxw (y3 + (-1))) - 1)).toNat) then _ else _) = _; rw [if_pos (by omega)]; rw [show (y3 - 2).toNat = (jxw ((jxw (y3 + (-1))) - 1)).toNat from by omega, show (y3 - 1).toNat = (jxw (y3 + (-1))).toNat from by omega]; repeat (first | rw [if_pos (by assumption)] | rw [if_neg (by assumption)])⟩))))
          ·
            refine jt_grd (by omega) ?_
            have h33_ := iv_get hv (k := 170) (j := (jxw (y3 + (-1))).toNat) (l := 0) (u := 1) rfl
            refine jt_ite (fun c34_ => ?_) (fun c34_ => ?_)
            ·
              refine jt_grd (by omega) ?_
              have hv35_ : iv (jxu a 170 ((jxw ((jxw (y3 + (-1))) - 1)).toNat) 0) := iv_put hv (l := 0) (u := 1) rfl (by omega) (by omega)
              have hf36_ : jfr jW_X12_isMet a0 (jxu a 170 ((jxw ((jxw (y3 + (-1))) - 1)).toNat) 0) := jfr_put hf rfl
              exact hc172 y1 y2 (jxw (y3 + (-1))) y4 (jxu a 170 ((jxw ((jxw (y3 + (-1))) - 1)).toNat) 0) (show (((64 - y4) * 1) + 0).toNat ≤ n from by omega) hv35_ hf36_ (show 0 ≤ y1 from by omega) (show y1 ≤ 39 from by omega) (show 0 ≤ y2 from by omega) (show y2 ≤ 39 from by omega) (show 0 ≤ y4 from by omega) (show y4 ≤ 63 from by omega) (show y1 = x1 from by omega) (show y2 = x2 from by omega) (show 0 ≤ y4 from by omega) (show 0 ≤ jxw (y3 + (-1)) from by omega) (show y4 < a 167 (y1.toNat) from by omega) (by first | assumption | omega) (show ¬ a0 167 (x1.toNat) = 0 from by omega) (by first | exact IRS (s := a 170) (y := y3) (z := jxw (y3 + (-1))) hst (by omega) (by omega) (fun i hi => by show (if i = ((jxw ((jxw (y3 + (-1))) - 1)).toNat) then _ else a 170 i) = _; rw [if_neg (by omega)]) (Or.inr (Or.inr (Or.inl ⟨by show a0 166 (x1.toNat * 64 + y4.toNat) = 1; omega, by omega, by omega, by show (if _ = ((jxw ((jxw (y3 + (-1))) - 1)).toNat) then _ else _) = _; rw [if_pos (by omega)]; rw [show (y3 - 2).toNat = (jxw ((jxw (y3 + (-1))) - 1)).toNat from by omega, show (y3 - 1).toNat = (jxw (y3 + (-1))).toNat from by omega]; repeat (first | rw [if_pos (by assumption)] | rw [if_neg (by assumption)])⟩))) | exact IRS (s := a 170) (y := y3) (z := jxw (y3 + (-1))) hst (by omega) (by omega) (fun i hi => by show (if i = ((jxw ((jxw (y3 + (-1))) - 1)).toNat) then _ else a 170 i) = _; rw [if_neg (by omega)]) (Or.inr (Or.inr (Or.inr ⟨by show ¬ 1024 ≤ a0 166 (x1.toNat * 64 + y4.toNat); omega, by show ¬ a0 166 (x1.toNat * 64 + y4.toNat) = 2; omega, by show ¬ a0 166 (x1.toNat * 64 + y4.toNat) = 1; omega, by omega, by omega, by show (if _ = ((jxw ((jxw (y3 + (-1))) - 1)).toNat) then _ else _) = _; rw [if_pos (by omega)]; rw [show (y3 - 2).toNat = (jxw ((jxw (y3 + (-1))) - 1)).toNat from by omega, show (y3 - 1).toNat = (jxw (y3 + (-1))).toNat from by omega]; repeat (first | rw [if_pos (by assumption)] | rw [if_neg (by assumption)])⟩))))
            ·
              refine jt_grd (by omega) ?_
              have hv37_ : iv (jxu a 170 ((jxw ((jxw (y3 + (-1))) - 1)).toNat) 1) := iv_put hv (l := 0) (u := 1) rfl (by omega) (by omega)
              have hf38_ : jfr jW_X12_isMet a0 (jxu a 170 ((jxw ((jxw (y3 + (-1))) - 1)).toNat) 1) := jfr_put hf rfl
              exact hc172 y1 y2 (jxw (y3 + (-1))) y4 (jxu a 170 ((jxw ((jxw (y3 + (-1))) - 1)).toNat) 1) (show (((64 - y4) * 1) + 0).toNat ≤ n from by omega) hv37_ hf38_ (show 0 ≤ y1 from by omega) (show y1 ≤ 39 from by omega) (show 0 ≤ y2 from by omega) (show y2 ≤ 39 from by omega) (show 0 ≤ y4 from by omega) (show y4 ≤ 63 from by omega) (show y1 = x1 from by omega) (show y2 = x2 from by omega) (show 0 ≤ y4 from by omega) (show 0 ≤ jxw (y3 + (-1)) from by omega) (show y4 < a 167 (y1.toNat) from by omega) (by first | assumption | omega) (show ¬ a0 167 (x1.toNat) = 0 from by omega) (by first | exact IRS (s := a 170) (y := y3) (z := jxw (y3 + (-1))) hst (by omega) (by omega) (fun i hi => by show (if i = ((jxw ((jxw (y3 + (-1))) - 1)).toNat) then _ else a 170 i) = _; rw [if_neg (by omega)]) (Or.inr (Or.inr (Or.inl ⟨by show a0 166 (x1.toNat * 64 + y4.toNat) = 1; omega, by omega, by omega, by show (if _ = ((jxw ((jxw (y3 + (-1))) - 1)).toNat) then _ else _) = _; rw [if_pos (by omega)]; rw [show (y3 - 2).toNat = (jxw ((jxw (y3 + (-1))) - 1)).toNat from by omega, show (y3 - 1).toNat = (jxw (y3 + (-1))).toNat from by omega]; repeat (first | rw [if_pos (by assumption)] | rw [if_neg (by assumption)])⟩))) | exact IRS (s := a 170) (y := y3) (z := jxw (y3 + (-1))) hst (by omega) (by omega) (fun i hi => by show (if i = ((jxw ((jxw (y3 + (-1))) - 1)).toNat) then _ else a 170 i) = _; rw [if_neg (by omega)]) (Or.inr (Or.inr (Or.inr ⟨by show ¬ 1024 ≤ a0 166 (x1.toNat * 64 + y4.toNat); omega, by show ¬ a0 166 (x1.toNat * 64 + y4.toNat) = 2; omega, by show ¬ a0 166 (x1.toNat * 64 + y4.toNat) = 1; omega, by omega, by omega, by show (if _ = ((jxw ((jxw (y3 + (-1))) - 1)).toNat) then _ else _) = _; rw [if_pos (by omega)]; rw [show (y3 - 2).toNat = (jxw ((jxw (y3 + (-1))) - 1)).toNat from by omega, show (y3 - 1).toNat = (jxw (y3 + (-1))).toNat from by omega]; repeat (first | rw [if_pos (by assumption)] | rw [if_neg (by assumption)])⟩))))
        ·
          have h39_ := jxw_im (y3 + (-1))
          have h40_ := jxw_rg (y3 + (-1))
          have h41_ := jxw_im ((jxw (y3 + (-1))) - 1)
          have h42_ := jxw_rg ((jxw (y3 + (-1))) - 1)
          refine jt_grd (by omega) ?_
          have h43_ := iv_get hv (k := 170) (j := (jxw ((jxw (y3 + (-1))) - 1)).toNat) (l := 0) (u := 1) rfl
          refine jt_ite (fun c44_ => ?_) (fun c44_ => ?_)
          ·
            refine jt_grd (by omega) ?_
            have h45_ := iv_get hv (k := 170) (j := (jxw (y3 + (-1))).toNat) (l := 0) (u := 1) rfl
            refine jt_ite (fun c46_ => ?_) (fun c46_ => ?_)
            ·
              refine jt_grd (by omega) ?_
              have hv47_ : iv (jxu a 170 ((jxw ((jxw (y3 + (-1))) - 1)).toNat) 0) := iv_put hv (l := 0) (u := 1) rfl (by omega) (by omega)
              have hf48_ : jfr jW_X12_isMet a0 (jxu a 170 ((jxw ((jxw (y3 + (-1))) - 1)).toNat) 0) := jfr_put hf rfl
              exact hc172 y1 y2 (jxw (y3 + (-1))) y4 (jxu a 170 ((jxw ((jxw (y3 + (-1))) - 1)).toNat) 0) (show (((64 - y4) * 1) + 0).toNat ≤ n from by omega) hv47_ hf48_ (show 0 ≤ y1 from by omega) (show y1 ≤ 39 from by omega) (show 0 ≤ y2 from by omega) (show y2 ≤ 39 from by omega) (show 0 ≤ y4 from by omega) (show y4 ≤ 63 from by omega) (show y1 = x1 from by omega) (show y2 = x2 from by omega) (show 0 ≤ y4 from by omega) (show 0 ≤ jxw (y3 + (-1)) from by omega) (show y4 < a 167 (y1.toNat) from by omega) (by first | assumption | omega) (show ¬ a0 167 (x1.toNat) = 0 from by omega) (by first | exact IRS (s := a 170) (y := y3) (z := jxw (y3 + (-1))) hst (by omega) (by omega) (fun i hi => by show (if i = ((jxw ((jxw (y3 + (-1))) - 1)).toNat) then _ else a 170 i) = _; rw [if_neg (by omega)]) (Or.inr (Or.inr (Or.inl ⟨by show a0 166 (x1.toNat * 64 + y4.toNat) = 1; omega, by omega, by omega, by show (if _ = ((jxw ((jxw (y3 + (-1))) - 1)).toNat) then _ else _) = _; rw [if_pos (by omega)]; rw [show (y3 - 2).toNat = (jxw ((jxw (y3 + (-1))) - 1)).toNat from by omega, show (y3 - 1).toNat = (jxw (y3 + (-1))).toNat from by omega]; repeat (first | rw [if_pos (by assumption)] | rw [if_neg (by assumption)])⟩))) | exact IRS (s := a 170) (y := y3) (z := jxw (y3 + (-1))) hst (by omega) (by omega) (fun i hi => by show (if i = ((jxw ((jxw (y3 + (-1))) - 1)).toNat) then _ else a 170 i) = _; rw [if_neg (by omega)]) (Or.inr (Or.inr (Or.inr ⟨by show ¬ 1024 ≤ a0 166 (x1.toNat * 64 + y4.toNat); omega, by show ¬ a0 166 (x1.toNat * 64 + y4.toNat) = 2; omega, by show ¬ a0 166 (x1.toNat * 64 + y4.toNat) = 1; omega, by omega, by omega, by show (if _ = ((jxw ((jxw (y3 + (-1))) - 1)).toNat) then _ else _) = _; rw [if_pos (by omega)]; rw [show (y3 - 2).toNat = (jxw ((jxw (y3 + (-1))) - 1)).toNat from by omega, show (y3 - 1).toNat = (jxw (y3 + (-1))).toNat from by omega]; repeat (first | rw [if_pos (by assumption)] | rw [if_neg (by assumption)])⟩))))
            ·
              refine jt_grd (by omega) ?_
              have hv49_ : iv (jxu a 170 ((jxw ((jxw (y3 + (-1))) - 1)).toNat) 1) := iv_put hv (l := 0) (u := 1) rfl (by omega) (by omega)
              have hf50_ : jfr jW_X12_isMet a0 (jxu a 170 ((jxw ((jxw (y3 + (-1))) - 1)).toNat) 1) := jfr_put hf rfl
              exact hc172 y1 y2 (jxw (y3 + (-1))) y4 (jxu a 170 ((jxw ((jxw (y3 + (-1))) - 1)).toNat) 1) (show (((64 - y4) * 1) + 0).toNat ≤ n from by omega) hv49_ hf50_ (show 0 ≤ y1 from by omega) (show y1 ≤ 39 from by omega) (show 0 ≤ y2 from by omega) (show y2 ≤ 39 from by omega) (show 0 ≤ y4 from by omega) (show y4 ≤ 63 from by omega) (show y1 = x1 from by omega) (show y2 = x2 from by omega) (show 0 ≤ y4 from by omega) (show 0 ≤ jxw (y3 + (-1)) from by omega) (show y4 < a 167 (y1.toNat) from by omega) (by first | assumption | omega) (show ¬ a0 167 (x1.toNat) = 0 from by omega) (by first | exact IRS (s := a 170) (y := y3) (z := jxw (y3 + (-1))) hst (by omega) (by omega) (fun i hi => by show (if i = ((jxw ((jxw (y3 + (-1))) - 1)).toNat) then _ else a 170 i) = _; rw [if_neg (by omega)]) (Or.inr (Or.inr (Or.inl ⟨by show a0 166 (x1.toNat * 64 + y4.toNat) = 1; omega, by omega, by omega, by show (if _ = ((jxw ((jxw (y3 + (-1))) - 1)).toNat) then _ else _) = _; rw [if_pos (by omega)]; rw [show (y3 - 2).toNat = (jxw ((jxw (y3 + (-1))) - 1)).toNat from by omega, show (y3 - 1).toNat = (jxw (y3 + (-1))).toNat from by omega]; repeat (first | rw [if_pos (by assumption)] | rw [if_neg (by assumption)])⟩))) | exact IRS (s := a 170) (y := y3) (z := jxw (y3 + (-1))) hst (by omega) (by omega) (fun i hi => by show (if i = ((jxw ((jxw (y3 + (-1))) - 1)).toNat) then _ else a 170 i) = _; rw [if_neg (by omega)]) (Or.inr (Or.inr (Or.inr ⟨by show ¬ 1024 ≤ a0 166 (x1.toNat * 64 + y4.toNat); omega, by show ¬ a0 166 (x1.toNat * 64 + y4.toNat) = 2; omega, by show ¬ a0 166 (x1.toNat * 64 + y4.toNat) = 1; omega, by omega, by omega, by show (if _ = ((jxw ((jxw (y3 + (-1))) - 1)).toNat) then _ else _) = _; rw [if_pos (by omega)]; rw [show (y3 - 2).toNat = (jxw ((jxw (y3 + (-1))) - 1)).toNat from by omega, show (y3 - 1).toNat = (jxw (y3 + (-1))).toNat from by omega]; repeat (first | rw [if_pos (by assumption)] | rw [if_neg (by assumption)])⟩))))
          ·
            refine jt_grd (by omega) ?_
            have hv51_ : iv (jxu a 170 ((jxw ((jxw (y3 + (-1))) - 1)).toNat) 1) := iv_put hv (l := 0) (u := 1) rfl (by omega) (by omega)
            have hf52_ : jfr jW_X12_isMet a0 (jxu a 170 ((jxw ((jxw (y3 + (-1))) - 1)).toNat) 1) := jfr_put hf rfl
            exact hc172 y1 y2 (jxw (y3 + (-1))) y4 (jxu a 170 ((jxw ((jxw (y3 + (-1))) - 1)).toNat) 1) (show (((64 - y4) * 1) + 0).toNat ≤ n from by omega) hv51_ hf52_ (show 0 ≤ y1 from by omega) (show y1 ≤ 39 from by omega) (show 0 ≤ y2 from by omega) (show y2 ≤ 39 from by omega) (show 0 ≤ y4 from by omega) (show y4 ≤ 63 from by omega) (show y1 = x1 from by omega) (show y2 = x2 from by omega) (show 0 ≤ y4 from by omega) (show 0 ≤ jxw (y3 + (-1)) from by omega) (show y4 < a 167 (y1.toNat) from by omega) (by first | assumption | omega) (show ¬ a0 167 (x1.toNat) = 0 from by omega) (by first | exact IRS (s := a 170) (y := y3) (z := jxw (y3 + (-1))) hst (by omega) (by omega) (fun i hi => by show (if i = ((jxw ((jxw (y3 + (-1))) - 1)).toNat) then _ else a 170 i) = _; rw [if_neg (by omega)]) (Or.inr (Or.inr (Or.inl ⟨by show a0 166 (x1.toNat * 64 + y4.toNat) = 1; omega, by omega, by omega, by show (if _ = ((jxw ((jxw (y3 + (-1))) - 1)).toNat) then _ else _) = _; rw [if_pos (by omega)]; rw [show (y3 - 2).toNat = (jxw ((jxw (y3 + (-1))) - 1)).toNat from by omega, show (y3 - 1).toNat = (jxw (y3 + (-1))).toNat from by omega]; repeat (first | rw [if_pos (by assumption)] | rw [if_neg (by assumption)])⟩))) | exact IRS (s := a 170) (y := y3) (z := jxw (y3 + (-1))) hst (by omega) (by omega) (fun i hi => by show (if i = ((jxw ((jxw (y3 + (-1))) - 1)).toNat) then _ else a 170 i) = _; rw [if_neg (by omega)]) (Or.inr (Or.inr (Or.inr ⟨by show ¬ 1024 ≤ a0 166 (x1.toNat * 64 + y4.toNat); omega, by show ¬ a0 166 (x1.toNat * 64 + y4.toNat) = 2; omega, by show ¬ a0 166 (x1.toNat * 64 + y4.toNat) = 1; omega, by omega, by omega, by show (if _ = ((jxw ((jxw (y3 + (-1))) - 1)).toNat) then _ else _) = _; rw [if_pos (by omega)]; rw [show (y3 - 2).toNat = (jxw ((jxw (y3 + (-1))) - 1)).toNat from by omega, show (y3 - 1).toNat = (jxw (y3 + (-1))).toNat from by omega]; repeat (first | rw [if_pos (by assumption)] | rw [if_neg (by assumption)])⟩))))
    ·
      refine jt_eI (eq_X12_isAtom E d (jd_le hd rfl) y5 y1 y2 a b0 hv (show (0 ≤ y1 ∧ y1 < 40) from by omega) (show (0 ≤ y2 ∧ y2 < 40) from by omega)) ?_
      refine jt_grd (by omega) ?_
      have h53_ := f_X12_isAtom_bool a b0 y5 y1 y2
      refine jt_grd (by omega) ?_
      have hv54_ : iv (jxu a 170 (y3.toNat) (f_X12_isAtom a b0 y5 y1 y2)) := iv_put hv (l := 0) (u := 1) rfl (by omega) (by omega)
      have hf55_ : jfr jW_X12_isMet a0 (jxu a 170 (y3.toNat) (f_X12_isAtom a b0 y5 y1 y2)) := jfr_put hf rfl
      have h56_ : jxw (y3 + 1) = y3 + 1 := jxw_id (by omega) (by omega)
      exact hc172 y1 y2 (jxw (y3 + 1)) y4 (jxu a 170 (y3.toNat) (f_X12_isAtom a b0 y5 y1 y2)) (show (((64 - y4) * 1) + 0).toNat ≤ n from by omega) hv54_ hf55_ (show 0 ≤ y1 from by omega) (show y1 ≤ 39 from by omega) (show 0 ≤ y2 from by omega) (show y2 ≤ 39 from by omega) (show 0 ≤ y4 from by omega) (show y4 ≤ 63 from by omega) (show y1 = x1 from by omega) (show y2 = x2 from by omega) (show 0 ≤ y4 from by omega) (show 0 ≤ jxw (y3 + 1) from by omega) (show y4 < a 167 (y1.toNat) from by omega) (by first | assumption | omega) (show ¬ a0 167 (x1.toNat) = 0 from by omega) (by first | exact IRS (s := a 170) (y := y3) (z := jxw (y3 + 1)) hst (by omega) (by omega) (fun i hi => by show (if i = (y3.toNat) then _ else a 170 i) = _; rw [if_neg (by omega)]) (Or.inl ⟨by show 1024 ≤ a0 166 (x1.toNat * 64 + y4.toNat); omega, by omega, by show (if _ = (y3.toNat) then _ else _) = _; rw [if_pos (by omega)]; show _ = TRR a0 b0 x1 x2 (a0 166 (x1.toNat * 64 + y4.toNat)); rw [hg5, show y1 = x1 from by omega, show y2 = x2 from by omega]; exact isAtom_fr (funext fun j => hf 147 j rfl) (funext fun j => hf 148 j rfl) (funext fun j => hf 149 j rfl) (funext fun j => hf 151 j rfl) (hf 146 0 rfl) _ _ _⟩))
  have hc16 : ∀ (y1 y2 y3 y4 : Int) (a : Nat → Nat → Int), (((64 - y4) * 1) + 0).toNat ≤ n → iv a → jfr jW_X12_isMet a0 a → 0 ≤ y1 → y1 ≤ 39 → 0 ≤ y2 → y2 ≤ 39 → 0 ≤ y4 → y4 ≤ 64 → y1 = x1 → y2 = x2 → 0 ≤ y4 → 0 ≤ y3 → y4 ≤ a 167 (y1.toNat) → (y3 = jhg (fun k => a0 166 (64 * x1.toNat + k)) y4.toNat) → ¬ a0 167 (x1.toNat) = 0 → (OUL (a 170) y3.toNat = ESTR (TRR a0 b0 x1 x2) (fun k => a0 166 (x1.toNat * 64 + k)) y4.toNat) → jt (jxX E d 227 16 [some (.inr (.inr (.inl 146))), some (.inl y1), some (.inl y2), some (.inl y3), some (.inl y4), none] [] (jxSH, a, b0)) (jQ_X12_isMet x1 x2 a0 b0) := by
    intro y1 y2 y3 y4 a hm hv hf hi0 hi1 hi2 hi3 hi4 hi5 hi6 hi7 hi8 hi9 hi10 hi11 hi12 hst
    refine jt_eq (bq_X12_isMet_16 E d y1 y2 y3 y4 a b0) ?_
    have h57_ := iv_get hv (k := 167) (j := y1.toNat) (l := 0) (u := 64) rfl
    have h58_ : a 167 (y1.toNat) = a0 167 (y1.toNat) := hf 167 (y1.toNat) rfl
    have h59_ := iv_get hv0 (k := 167) (j := y1.toNat) (l := 0) (u := 64) rfl
    have h60_ := iv_get hv0 (k := 167) (j := x1.toNat) (l := 0) (u := 64) rfl
    have hix : (jxw ((jxw (64 * y1)) + y4)).toNat = 64 * x1.toNat + y4.toNat ∨ a 167 y1.toNat ≤ y4 := by
      have := iv_get hv (k := 167) (j := y1.toNat) (l := 0) (u := 64) rfl
      by_cases hc : a 167 y1.toNat ≤ y4
      · exact Or.inr hc
      · left
        rw [jxw_id (x := 64 * y1) (by omega) (by omega), jxw_id (by omega) (by omega)]
        omega
    have hs : y4 < a 167 y1.toNat → a 166 ((jxw ((jxw (64 * y1)) + y4)).toNat) = a0 166 (64 * x1.toNat + y4.toNat) := by
      intro hlt
      rcases hix with h | h
      · rw [h]; exact hf 166 _ rfl
      · omega
    refine jt_grd (by omega) ?_
    refine jt_ite (fun c61_ => ?_) (fun c61_ => ?_)
    ·
      have h62_ : jxw (64 * y1) = 64 * y1 := jxw_id (by omega) (by omega)
      have h63_ : jxw ((jxw (64 * y1)) + y4) = (jxw (64 * y1)) + y4 := jxw_id (by omega) (by omega)
      refine jt_grd (by omega) ?_
      have h64_ : a 166 ((jxw ((jxw (64 * y1)) + y4)).toNat) = a0 166 ((jxw ((jxw (64 * y1)) + y4)).toNat) := hf 166 ((jxw ((jxw (64 * y1)) + y4)).toNat) rfl
      exact hc41 y1 y2 y3 y4 (a 166 ((jxw ((jxw (64 * y1)) + y4)).toNat)) a (show (((64 - y4) * 1) + 0).toNat ≤ n from by omega) hv hf (show 0 ≤ y1 from by omega) (show y1 ≤ 39 from by omega) (show 0 ≤ y2 from by omega) (show y2 ≤ 39 from by omega) (show 0 ≤ y4 from by omega) (show y4 ≤ 63 from by omega) (show y1 = x1 from by omega) (show y2 = x2 from by omega) (show 0 ≤ y4 from by omega) (show 0 ≤ y3 from by omega) (show y4 < a 167 (y1.toNat) from by omega) (by assumption) (by first | assumption | exact hs (by omega)) (show ¬ a0 167 (x1.toNat) = 0 from by omega) hst
    ·
      have h65_ := iv_get hv (k := 170) (j := 0) (l := 0) (u := 1) rfl
      refine jt_grd (by omega) ?_
      exact jt_rI ⟨hv, hf, rfl, (show (0 ≤ a 170 0 ∧ a 170 0 ≤ 1) from by omega), (by have h167a := hf 167 y1.toNat rfl; have h167c : a0 167 x1.toNat = a0 167 y1.toNat := (by rw [show y1 = x1 from by omega]); have i167 := iv_get hv0 (k := 167) (j := x1.toNat) (l := 0) (u := 64) rfl; have ek : y4.toNat = (a0 167 x1.toNat).toNat := (by omega); have q := hst; rw [ek] at q; unfold METR; rw [if_neg (by omega)]; exact IRS_end q (WISHR_one hp3 (by omega) (by omega)) (by omega))⟩
  exact ⟨hc172, hc99, hc41, hc16⟩
theorem sp_X12_isMet (E : jxE) (d : Nat) (hd : Nat.ble 2 d = true) (x1 x2 : Int) (a0 b0 : Nat → Nat → Int) (hv0 : iv a0) (hp0 : (0 ≤ x1 ∧ x1 ≤ 39)) (hp1 : (0 ≤ x2 ∧ x2 ≤ 39)) (hp2 : WFW a0) (hp3 : WISHR a0) : jt (jxC E d 227 [.inr (.inr (.inl 146)), .inl x1, .inl x2] (jxSH, a0, b0)) (jQ_X12_isMet x1 x2 a0 b0) := by
  obtain ⟨d, rfl⟩ := jd_succ hd
  refine jt_eq (bq_X12_isMet E d x1 x2 a0 b0) ?_
  refine jt_grd (by omega) ?_
  have h66_ := iv_get hv0 (k := 167) (j := x1.toNat) (l := 0) (u := 64) rfl
  refine jt_ite (fun c67_ => ?_) (fun c67_ => ?_)
  ·
    exact jt_rI ⟨hv0, (jfr_rf _ _), rfl, (show (0 ≤ 1 ∧ 1 ≤ 1) from by omega), (by unfold METR; rw [if_pos (by assumption)])⟩
  ·
    exact (cp_X12_isMet_16 E d hd x1 x2 a0 b0 hv0 hp0 hp1 hp2 hp3 _).2.2.2 x1 x2 0 0 a0 (Nat.le_refl _) hv0 (jfr_rf _ _) (show 0 ≤ x1 from by omega) (show x1 ≤ 39 from by omega) (show 0 ≤ x2 from by omega) (show x2 ≤ 39 from by omega) (show 0 ≤ 0 from by omega) (show 0 ≤ 64 from by omega) (show x1 = x1 from by omega) (show x2 = x2 from by omega) (show 0 ≤ 0 from by omega) (show 0 ≤ 0 from by omega) (show 0 ≤ a0 167 (x1.toNat) from by omega) (by first | rfl | (rw [show (jxw (y4 + 1)).toNat = y4.toNat + 1 from by omega]; assumption)) (show ¬ a0 167 (x1.toNat) = 0 from by omega) (by first | rfl | (rw [show (jxw (y4 + 1)).toNat = y4.toNat + 1 from by omega]; exact hst))
def jW_X12_unhappy : List (Nat × Nat) := [(170, 9999)]
abbrev jQ_X12_unhappy (x1 x2 : Int) (a0 b0 : Nat → Nat → Int) : List jxV → (Nat → Nat → Int) → (Nat → Nat → Int) → Prop := rI (fun r a b => (iv a) ∧ (jfr jW_X12_unhappy a0 a) ∧ (b0 = b) ∧ (0 ≤ r) ∧ (r ≤ 2))
theorem cp_X12_unhappy_14 (E : jxE) (d : Nat) (hd : Nat.ble 3 (d + 1) = true) (x1 x2 : Int) (a0 b0 : Nat → Nat → Int) (hv0 : iv a0) (hp0 : (0 ≤ x1 ∧ x1 ≤ 39)) (hp1 : (0 ≤ x2 ∧ x2 ≤ 39)) (hp2 : WFW a0) (hp3 : WISHR a0) : ∀ (y1 y2 s0 : Int) (a : Nat → Nat → Int), iv a → jfr jW_X12_unhappy a0 a → 0 ≤ y1 → y1 ≤ 39 → 0 ≤ y2 → y2 ≤ 39 → 0 ≤ s0 → s0 ≤ 1 → jt (jxX E d 229 14 [some (.inr (.inr (.inl 146))), some (.inl y1), some (.inl y2)] [.inl s0] (jxSH, a, b0)) (jQ_X12_unhappy x1 x2 a0 b0) := by
  intro y1 y2 s0 a hv hf hi0 hi1 hi2 hi3 hi4 hi5
  refine jt_eq (bq_X12_unhappy_14 E d y1 y2 s0 a b0) ?_
  refine jt_bI (sp_X12_isMet E d (jd_le hd rfl) y2 y1 a b0 hv (show (0 ≤ y2 ∧ y2 ≤ 39) from by omega) (show (0 ≤ y1 ∧ y1 ≤ 39) from by omega) (WFW_fr hp2 hf (fun _ => rfl) (fun _ => rfl)) (WISHR_fr hp3 hf (fun _ => rfl) (fun _ => rfl) (fun _ => rfl) (fun _ => rfl))) (fun r68_ a68_ b68_ h68_ => ?_)
  obtain ⟨hv68_, hf68_, rfl, hq68_0, hq68_1⟩ := h68_
  refine jt_ite (fun c69_ => ?_) (fun c69_ => ?_)
  ·
    have hf70_ : jfr jW_X12_unhappy a0 a68_ := jfr_tr hf hf68_ rfl
    have h71_ : jxw (s0 + 1) = s0 + 1 := jxw_id (by omega) (by omega)
    exact jt_rI ⟨hv68_, hf70_, rfl, (show 0 ≤ jxw (s0 + 1) from by omega), (show jxw (s0 + 1) ≤ 2 from by omega)⟩
  ·
    have hf72_ : jfr jW_X12_unhappy a0 a68_ := jfr_tr hf hf68_ rfl
    have h73_ : jxw (s0 + 0) = s0 + 0 := jxw_id (by omega) (by omega)
    exact jt_rI ⟨hv68_, hf72_, rfl, (show 0 ≤ jxw (s0 + 0) from by omega), (show jxw (s0 + 0) ≤ 2 from by omega)⟩
theorem sp_X12_unhappy (E : jxE) (d : Nat) (hd : Nat.ble 3 d = true) (x1 x2 : Int) (a0 b0 : Nat → Nat → Int) (hv0 : iv a0) (hp0 : (0 ≤ x1 ∧ x1 ≤ 39)) (hp1 : (0 ≤ x2 ∧ x2 ≤ 39)) (hp2 : WFW a0) (hp3 : WISHR a0) : jt (jxC E d 229 [.inr (.inr (.inl 146)), .inl x1, .inl x2] (jxSH, a0, b0)) (jQ_X12_unhappy x1 x2 a0 b0) := by
  obtain ⟨d, rfl⟩ := jd_succ hd
  refine jt_eq (bq_X12_unhappy E d x1 x2 a0 b0) ?_
  refine jt_bI (sp_X12_isMet E d (jd_le hd rfl) x1 x2 a0 b0 hv0 (show (0 ≤ x1 ∧ x1 ≤ 39) from by omega) (show (0 ≤ x2 ∧ x2 ≤ 39) from by omega) hp2 hp3) (fun r74_ a74_ b74_ h74_ => ?_)
  obtain ⟨hv74_, hf74_, rfl, hq74_0, hq74_1⟩ := h74_
  refine jt_ite (fun c75_ => ?_) (fun c75_ => ?_)
  ·
    have hf76_ : jfr jW_X12_unhappy a0 a74_ := jfr_tr (jfr_rf _ _) hf74_ rfl
    exact cp_X12_unhappy_14 E d hd x1 x2 a0 b0 hv0 hp0 hp1 hp2 hp3 x1 x2 1 a74_ hv74_ hf76_ (show 0 ≤ x1 from by omega) (show x1 ≤ 39 from by omega) (show 0 ≤ x2 from by omega) (show x2 ≤ 39 from by omega) (show 0 ≤ 1 from by omega) (show 1 ≤ 1 from by omega)
  ·
    have hf77_ : jfr jW_X12_unhappy a0 a74_ := jfr_tr (jfr_rf _ _) hf74_ rfl
    exact cp_X12_unhappy_14 E d hd x1 x2 a0 b0 hv0 hp0 hp1 hp2 hp3 x1 x2 0 a74_ hv74_ hf77_ (show 0 ≤ x1 from by omega) (show x1 ≤ 39 from by omega) (show 0 ≤ x2 from by omega) (show x2 ≤ 39 from by omega) (show 0 ≤ 0 from by omega) (show 0 ≤ 1 from by omega)
def jW_X12_mayGet : List (Nat × Nat) := [(170, 9999)]
abbrev jQ_X12_mayGet (x1 x2 : Int) (a0 b0 : Nat → Nat → Int) : List jxV → (Nat → Nat → Int) → (Nat → Nat → Int) → Prop := rI (fun r a b => (iv a) ∧ (jfr jW_X12_mayGet a0 a) ∧ (b0 = b) ∧ ((0 ≤ r ∧ r ≤ 1)))
theorem cp_X12_mayGet_96 (E : jxE) (d : Nat) (hd : Nat.ble 7 (d + 1) = true) (x1 x2 : Int) (a0 b0 : Nat → Nat → Int) (hv0 : iv a0) (hp0 : (0 ≤ x1 ∧ x1 ≤ 39)) (hp1 : (0 ≤ x2 ∧ x2 ≤ 39)) (hp2 : WFW a0) (hp3 : WISHR a0) : ∀ (a : Nat → Nat → Int), iv a → jfr jW_X12_mayGet a0 a → jt (jxX E d 248 96 [none, none, none, none] [] (jxSH, a, b0)) (jQ_X12_mayGet x1 x2 a0 b0) := by
  intro a hv hf
  refine jt_eq (bq_X12_mayGet_96 E d a b0) ?_
  exact jt_rI ⟨hv, hf, rfl, (show (0 ≤ 0 ∧ 0 ≤ 1) from by omega)⟩
theorem cp_X12_mayGet_54 (E : jxE) (d : Nat) (hd : Nat.ble 7 (d + 1) = true) (x1 x2 : Int) (a0 b0 : Nat → Nat → Int) (hv0 : iv a0) (hp0 : (0 ≤ x1 ∧ x1 ≤ 39)) (hp1 : (0 ≤ x2 ∧ x2 ≤ 39)) (hp2 : WFW a0) (hp3 : WISHR a0) : ∀ (a : Nat → Nat → Int), iv a → jfr jW_X12_mayGet a0 a → 1 ≤ a 146 9 → jt (jxX E d 248 54 [none, none, none, none] [] (jxSH, a, b0)) (jQ_X12_mayGet x1 x2 a0 b0) := by
  intro a hv hf hi0
  refine jt_eq (bq_X12_mayGet_54 E d a b0) ?_
  have h78_ := iv_get hv (k := 146) (j := 9) (l := 0) (u := 300) rfl
  have h79_ : a 146 9 = a0 146 9 := hf 146 9 rfl
  have h80_ := iv_get hv0 (k := 146) (j := 9) (l := 0) (u := 300) rfl
  exact jt_rI ⟨hv, hf, rfl, (show (0 ≤ 0 ∧ 0 ≤ 1) from by omega)⟩
theorem cp_X12_mayGet_92 (E : jxE) (d : Nat) (hd : Nat.ble 7 (d + 1) = true) (x1 x2 : Int) (a0 b0 : Nat → Nat → Int) (hv0 : iv a0) (hp0 : (0 ≤ x1 ∧ x1 ≤ 39)) (hp1 : (0 ≤ x2 ∧ x2 ≤ 39)) (hp2 : WFW a0) (hp3 : WISHR a0) : ∀ (a : Nat → Nat → Int), iv a → jfr jW_X12_mayGet a0 a → jt (jxX E d 248 92 [none, none, none, none] [] (jxSH, a, b0)) (jQ_X12_mayGet x1 x2 a0 b0) := by
  intro a hv hf
  refine jt_eq (bq_X12_mayGet_92 E d a b0) ?_
  exact jt_rI ⟨hv, hf, rfl, (show (0 ≤ 1 ∧ 1 ≤ 1) from by omega)⟩
theorem cp_X12_mayGet_22 (E : jxE) (d : Nat) (hd : Nat.ble 7 (d + 1) = true) (x1 x2 : Int) (a0 b0 : Nat → Nat → Int) (hv0 : iv a0) (hp0 : (0 ≤ x1 ∧ x1 ≤ 39)) (hp1 : (0 ≤ x2 ∧ x2 ≤ 39)) (hp2 : WFW a0) (hp3 : WISHR a0) : ∀ n : Nat, (∀ (y1 y2 y3 : Int) (a : Nat → Nat → Int), (((300 - y3) * 1) + 0).toNat ≤ n → iv a → jfr jW_X12_mayGet a0 a → 0 ≤ y1 → y1 ≤ 39 → 0 ≤ y2 → y2 ≤ 39 → 0 ≤ y3 → y3 ≤ 299 → 1 ≤ a 146 9 → jt (jxX E d 248 56 [some (.inr (.inr (.inl 146))), some (.inl y1), some (.inl y2), some (.inl y3)] [] (jxSH, a, b0)) (jQ_X12_mayGet x1 x2 a0 b0)) ∧ (∀ (y1 y2 y3 : Int) (a : Nat → Nat → Int), (((300 - y3) * 1) + 0).toNat ≤ n → iv a → jfr jW_X12_mayGet a0 a → 0 ≤ y1 → y1 ≤ 39 → 0 ≤ y2 → y2 ≤ 39 → 0 ≤ y3 → y3 ≤ 300 → jt (jxX E d 248 22 [some (.inr (.inr (.inl 146))), some (.inl y1), some (.inl y2), some (.inl y3)] [] (jxSH, a, b0)) (jQ_X12_mayGet x1 x2 a0 b0)) := by
  refine jx_ind fun n ih => ?_
  have ih56 : ∀ (y1 y2 y3 : Int) (a : Nat → Nat → Int), (((300 - y3) * 1) + 0).toNat < n → iv a → jfr jW_X12_mayGet a0 a → 0 ≤ y1 → y1 ≤ 39 → 0 ≤ y2 → y2 ≤ 39 → 0 ≤ y3 → y3 ≤ 299 → 1 ≤ a 146 9 → jt (jxX E d 248 56 [some (.inr (.inr (.inl 146))), some (.inl y1), some (.inl y2), some (.inl y3)] [] (jxSH, a, b0)) (jQ_X12_mayGet x1 x2 a0 b0) := fun y1 y2 y3 a hlt i0 i1 i2 i3 i4 i5 i6 i7 i8 => (ih _ hlt).1 y1 y2 y3 a (Nat.le_refl _) i0 i1 i2 i3 i4 i5 i6 i7 i8
  have ih22 : ∀ (y1 y2 y3 : Int) (a : Nat → Nat → Int), (((300 - y3) * 1) + 0).toNat < n → iv a → jfr jW_X12_mayGet a0 a → 0 ≤ y1 → y1 ≤ 39 → 0 ≤ y2 → y2 ≤ 39 → 0 ≤ y3 → y3 ≤ 300 → jt (jxX E d 248 22 [some (.inr (.inr (.inl 146))), some (.inl y1), some (.inl y2), some (.inl y3)] [] (jxSH, a, b0)) (jQ_X12_mayGet x1 x2 a0 b0) := fun y1 y2 y3 a hlt i0 i1 i2 i3 i4 i5 i6 i7 => (ih _ hlt).2 y1 y2 y3 a (Nat.le_refl _) i0 i1 i2 i3 i4 i5 i6 i7
  have hc56 : ∀ (y1 y2 y3 : Int) (a : Nat → Nat → Int), (((300 - y3) * 1) + 0).toNat ≤ n → iv a → jfr jW_X12_mayGet a0 a → 0 ≤ y1 → y1 ≤ 39 → 0 ≤ y2 → y2 ≤ 39 → 0 ≤ y3 → y3 ≤ 299 → 1 ≤ a 146 9 → jt (jxX E d 248 56 [some (.inr (.inr (.inl 146))), some (.inl y1), some (.inl y2), some (.inl y3)] [] (jxSH, a, b0)) (jQ_X12_mayGet x1 x2 a0 b0) := by
    intro y1 y2 y3 a hm hv hf hi0 hi1 hi2 hi3 hi4 hi5 hi6
    refine jt_eq (bq_X12_mayGet_56 E d y1 y2 y3 a b0) ?_
    have h81_ := iv_get hv (k := 146) (j := 9) (l := 0) (u := 300) rfl
    have h82_ : a 146 9 = a0 146 9 := hf 146 9 rfl
    have h83_ := iv_get hv0 (k := 146) (j := 9) (l := 0) (u := 300) rfl
    have h84_ : jxw (y3 + 1) = y3 + 1 := jxw_id (by omega) (by omega)
    exact ih22 y1 y2 (jxw (y3 + 1)) a (show (((300 - (jxw (y3 + 1))) * 1) + 0).toNat < n from by omega) hv hf (show 0 ≤ y1 from by omega) (show y1 ≤ 39 from by omega) (show 0 ≤ y2 from by omega) (show y2 ≤ 39 from by omega) (show 0 ≤ jxw (y3 + 1) from by omega) (show jxw (y3 + 1) ≤ 300 from by omega)
  have hc22 : ∀ (y1 y2 y3 : Int) (a : Nat → Nat → Int), (((300 - y3) * 1) + 0).toNat ≤ n → iv a → jfr jW_X12_mayGet a0 a → 0 ≤ y1 → y1 ≤ 39 → 0 ≤ y2 → y2 ≤ 39 → 0 ≤ y3 → y3 ≤ 300 → jt (jxX E d 248 22 [some (.inr (.inr (.inl 146))), some (.inl y1), some (.inl y2), some (.inl y3)] [] (jxSH, a, b0)) (jQ_X12_mayGet x1 x2 a0 b0) := by
    intro y1 y2 y3 a hm hv hf hi0 hi1 hi2 hi3 hi4 hi5
    refine jt_eq (bq_X12_mayGet_22 E d y1 y2 y3 a b0) ?_
    have h85_ := iv_get hv (k := 146) (j := 9) (l := 0) (u := 300) rfl
    have h86_ : a 146 9 = a0 146 9 := hf 146 9 rfl
    have h87_ := iv_get hv0 (k := 146) (j := 9) (l := 0) (u := 300) rfl
    refine jt_ite (fun c88_ => ?_) (fun c88_ => ?_)
    ·
      refine jt_grd (by omega) ?_
      have h89_ := iv_get hv (k := 155) (j := y3.toNat) (l := 0) (u := 39) rfl
      have h90_ : a 155 (y3.toNat) = a0 155 (y3.toNat) := hf 155 (y3.toNat) rfl
      have h91_ := iv_get hv0 (k := 155) (j := y3.toNat) (l := 0) (u := 39) rfl
      refine jt_ite (fun c92_ => ?_) (fun c92_ => ?_)
      ·
        refine jt_grd (by omega) ?_
        have h93_ := iv_get hv (k := 154) (j := y3.toNat) (l := 0) (u := 39) rfl
        have h94_ : a 154 (y3.toNat) = a0 154 (y3.toNat) := hf 154 (y3.toNat) rfl
        have h95_ := iv_get hv0 (k := 154) (j := y3.toNat) (l := 0) (u := 39) rfl
        refine jt_eI (eq_X12_isKin E d (jd_le hd rfl) (a 154 (y3.toNat)) y1 a b0 (show (0 ≤ a 154 (y3.toNat) ∧ a 154 (y3.toNat) < 40) from by omega) (show (0 ≤ y1 ∧ y1 < 40) from by omega)) ?_
        have h96_ := f_X12_isKin_bool a b0 (a 154 (y3.toNat)) y1
        refine jt_ite (fun c97_ => ?_) (fun c97_ => ?_)
        ·
          exact hc56 y1 y2 y3 a (show (((300 - y3) * 1) + 0).toNat ≤ n from by omega) hv hf (show 0 ≤ y1 from by omega) (show y1 ≤ 39 from by omega) (show 0 ≤ y2 from by omega) (show y2 ≤ 39 from by omega) (show 0 ≤ y3 from by omega) (show y3 ≤ 299 from by omega) (show 1 ≤ a 146 9 from by omega)
        ·
          exact cp_X12_mayGet_54 E d hd x1 x2 a0 b0 hv0 hp0 hp1 hp2 hp3 a hv hf (show 1 ≤ a 146 9 from by omega)
      ·
        exact hc56 y1 y2 y3 a (show (((300 - y3) * 1) + 0).toNat ≤ n from by omega) hv hf (show 0 ≤ y1 from by omega) (show y1 ≤ 39 from by omega) (show 0 ≤ y2 from by omega) (show y2 ≤ 39 from by omega) (show 0 ≤ y3 from by omega) (show y3 ≤ 299 from by omega) (show 1 ≤ a 146 9 from by omega)
    ·
      refine jt_bI (sp_X12_owed E d (jd_le hd rfl) y2 a b0 hv (show (0 ≤ y2 ∧ y2 ≤ 39) from by omega)) (fun r98_ a98_ b98_ h98_ => ?_)
      obtain ⟨rfl, rfl⟩ := h98_
      have h99_ : a 171 2 = a0 171 2 := hf 171 2 rfl
      have h100_ := jxw_im (r98_ + (a 171 2))
      have h101_ := jxw_rg (r98_ + (a 171 2))
      refine jt_ite (fun c102_ => ?_) (fun c102_ => ?_)
      ·
        refine jt_bI (sp_X12_unhappy E d (jd_le hd rfl) y1 y2 a b0 hv (show (0 ≤ y1 ∧ y1 ≤ 39) from by omega) (show (0 ≤ y2 ∧ y2 ≤ 39) from by omega) (WFW_fr hp2 hf (fun _ => rfl) (fun _ => rfl)) (WISHR_fr hp3 hf (fun _ => rfl) (fun _ => rfl) (fun _ => rfl) (fun _ => rfl))) (fun r103_ a103_ b103_ h103_ => ?_)
        obtain ⟨hv103_, hf103_, rfl, hq103_0, hq103_1⟩ := h103_
        have h104_ : a103_ 171 4 = a 171 4 := hf103_ 171 4 rfl
        have h105_ : a 171 4 = a0 171 4 := hf 171 4 rfl
        refine jt_ite (fun c106_ => ?_) (fun c106_ => ?_)
        ·
          have hf107_ : jfr jW_X12_mayGet a0 a103_ := jfr_tr hf hf103_ rfl
          exact cp_X12_mayGet_96 E d hd x1 x2 a0 b0 hv0 hp0 hp1 hp2 hp3 a103_ hv103_ hf107_
        ·
          have hf108_ : jfr jW_X12_mayGet a0 a103_ := jfr_tr hf hf103_ rfl
          exact cp_X12_mayGet_92 E d hd x1 x2 a0 b0 hv0 hp0 hp1 hp2 hp3 a103_ hv103_ hf108_
      ·
        exact cp_X12_mayGet_96 E d hd x1 x2 a0 b0 hv0 hp0 hp1 hp2 hp3 a hv hf
  exact ⟨hc56, hc22⟩
theorem sp_X12_mayGet (E : jxE) (d : Nat) (hd : Nat.ble 7 d = true) (x1 x2 : Int) (a0 b0 : Nat → Nat → Int) (hv0 : iv a0) (hp0 : (0 ≤ x1 ∧ x1 ≤ 39)) (hp1 : (0 ≤ x2 ∧ x2 ≤ 39)) (hp2 : WFW a0) (hp3 : WISHR a0) : jt (jxC E d 248 [.inr (.inr (.inl 146)), .inl x1, .inl x2] (jxSH, a0, b0)) (jQ_X12_mayGet x1 x2 a0 b0) := by
  obtain ⟨d, rfl⟩ := jd_succ hd
  refine jt_eq (bq_X12_mayGet E d x1 x2 a0 b0) ?_
  refine jt_grd (by omega) ?_
  have h109_ := iv_get hv0 (k := 152) (j := x2.toNat) (l := 0) (u := 1) rfl
  refine jt_ite (fun c110_ => ?_) (fun c110_ => ?_)
  ·
    exact jt_rI ⟨hv0, (jfr_rf _ _), rfl, (show (0 ≤ 0 ∧ 0 ≤ 1) from by omega)⟩
  ·
    refine jt_eI (eq_X12_isKin E d (jd_le hd rfl) x1 x2 a0 b0 (show (0 ≤ x1 ∧ x1 < 40) from by omega) (show (0 ≤ x2 ∧ x2 < 40) from by omega)) ?_
    have h111_ := f_X12_isKin_bool a0 b0 x1 x2
    refine jt_ite (fun c112_ => ?_) (fun c112_ => ?_)
    ·
      exact (cp_X12_mayGet_22 E d hd x1 x2 a0 b0 hv0 hp0 hp1 hp2 hp3 _).2 x1 x2 0 a0 (Nat.le_refl _) hv0 (jfr_rf _ _) (show 0 ≤ x1 from by omega) (show x1 ≤ 39 from by omega) (show 0 ≤ x2 from by omega) (show x2 ≤ 39 from by omega) (show 0 ≤ 0 from by omega) (show 0 ≤ 300 from by omega)
    ·
      exact jt_rI ⟨hv0, (jfr_rf _ _), rfl, (show (0 ≤ 0 ∧ 0 ≤ 1) from by omega)⟩
def jW_X12_ask : List (Nat × Nat) := [(146, 9), (146, 39), (146, 40), (146, 41), (154, 9999), (155, 9999), (156, 9999), (157, 9999), (158, 9999), (159, 9999), (160, 9999), (170, 9999)]
abbrev jQ_X12_ask (x1 : Int) (a0 b0 : Nat → Nat → Int) : List jxV → (Nat → Nat → Int) → (Nat → Nat → Int) → Prop := rI (fun r a b => (iv a) ∧ (jfr jW_X12_ask a0 a) ∧ (b0 = b) ∧ (OC a) ∧ ((a0 146 2 = 0 → r = 0 - 1)))
theorem cp_X12_ask_44 (E : jxE) (d : Nat) (hd : Nat.ble 8 (d + 1) = true) (x1 : Int) (a0 b0 : Nat → Nat → Int) (hv0 : iv a0) (hp0 : WFW a0) (hp1 : OC a0) (hp2 : WISHR a0) : ∀ n : Nat, (∀ (y1 y2 y3 y4 y5 y6 y7 y8 y9 s0 : Int) (a : Nat → Nat → Int), (((40 - y6) * 1) + 0).toNat ≤ n → iv a → jfr jW_X12_ask a0 a → 0 ≤ y1 → y1 ≤ 39 → 0 - 1 ≤ y2 → y2 ≤ 39 → 0 ≤ y4 → y4 ≤ 2 → 0 ≤ y6 → y6 ≤ 39 → 0 ≤ y8 → y8 ≤ 2 → 0 ≤ s0 → s0 ≤ 1 → 1 ≤ a 146 2 → a 146 9 ≤ 299 → (OC a) → 1 ≤ a0 146 2 → jt (jxX E d 251 139 [some (.inr (.inr (.inl 146))), some (.inl y1), some (.inl y2), some (.inl y3), some (.inl y4), some (.inl y5), some (.inl y6), some (.inl y7), some (.inl y8), some (.inl y9), none] [.inl s0] (jxSH, a, b0)) (jQ_X12_ask x1 a0 b0)) ∧ (∀ (y1 y2 y3 y4 y5 y6 y7 y8 y9 : Int) (a : Nat → Nat → Int), (((40 - y6) * 1) + 0).toNat ≤ n → iv a → jfr jW_X12_ask a0 a → 0 ≤ y1 → y1 ≤ 39 → 0 - 1 ≤ y2 → y2 ≤ 39 → 0 ≤ y4 → y4 ≤ 2 → 0 ≤ y6 → y6 ≤ 39 → 0 ≤ y8 → y8 ≤ 2 → 1 ≤ a 146 2 → a 146 9 ≤ 299 → (OC a) → 1 ≤ a0 146 2 → jt (jxX E d 251 134 [some (.inr (.inr (.inl 146))), some (.inl y1), some (.inl y2), some (.inl y3), some (.inl y4), some (.inl y5), some (.inl y6), some (.inl y7), some (.inl y8), some (.inl y9), none] [] (jxSH, a, b0)) (jQ_X12_ask x1 a0 b0)) ∧ (∀ (y1 y2 y3 y4 y5 y6 y7 y8 y9 : Int) (a : Nat → Nat → Int), (((40 - y6) * 1) + 0).toNat ≤ n → iv a → jfr jW_X12_ask a0 a → 0 ≤ y1 → y1 ≤ 39 → 0 ≤ y2 → y2 ≤ 39 → 1 ≤ y4 → y4 ≤ 2 → 0 ≤ y6 → y6 ≤ 39 → 0 ≤ y8 → y8 ≤ 1 → 1 ≤ a 146 2 → a 146 9 ≤ 299 → (OC a) → 1 ≤ a0 146 2 → jt (jxX E d 251 124 [some (.inr (.inr (.inl 146))), some (.inl y1), some (.inl y2), some (.inl y3), some (.inl y4), some (.inl y5), some (.inl y6), some (.inl y7), some (.inl y8), some (.inl y9), none] [] (jxSH, a, b0)) (jQ_X12_ask x1 a0 b0)) ∧ (∀ (y1 y2 y3 y4 y5 y6 y7 y8 y9 : Int) (a : Nat → Nat → Int), (((40 - y6) * 1) + 0).toNat ≤ n → iv a → jfr jW_X12_ask a0 a → 0 ≤ y1 → y1 ≤ 39 → 0 ≤ y2 → y2 ≤ 39 → 0 ≤ y4 → y4 ≤ 2 → 0 ≤ y6 → y6 ≤ 39 → 0 ≤ y8 → y8 ≤ 2 → 1 ≤ a 146 2 → a 146 9 ≤ 299 → (OC a) → 1 ≤ a0 146 2 → jt (jxX E d 251 138 [some (.inr (.inr (.inl 146))), some (.inl y1), some (.inl y2), some (.inl y3), some (.inl y4), some (.inl y5), some (.inl y6), some (.inl y7), some (.inl y8), some (.inl y9), none] [] (jxSH, a, b0)) (jQ_X12_ask x1 a0 b0)) ∧ (∀ (y1 y2 y3 y4 y5 y6 y7 y8 : Int) (a : Nat → Nat → Int), (((40 - y6) * 1) + 0).toNat ≤ n → iv a → jfr jW_X12_ask a0 a → 0 ≤ y1 → y1 ≤ 39 → 0 - 1 ≤ y2 → y2 ≤ 39 → 0 ≤ y4 → y4 ≤ 2 → 0 ≤ y6 → y6 ≤ 39 → 0 ≤ y8 → y8 ≤ 2 → 1 ≤ a 146 2 → a 146 9 ≤ 299 → (OC a) → 1 ≤ a0 146 2 → jt (jxX E d 251 83 [some (.inr (.inr (.inl 146))), some (.inl y1), some (.inl y2), some (.inl y3), some (.inl y4), some (.inl y5), some (.inl y6), some (.inl y7), some (.inl y8), none, none] [] (jxSH, a, b0)) (jQ_X12_ask x1 a0 b0)) ∧ (∀ (y1 y2 y3 y4 y5 y6 : Int) (a : Nat → Nat → Int), (((40 - y6) * 1) + 0).toNat ≤ n → iv a → jfr jW_X12_ask a0 a → 0 ≤ y1 → y1 ≤ 39 → 0 - 1 ≤ y2 → y2 ≤ 39 → 0 ≤ y4 → y4 ≤ 2 → 0 ≤ y6 → y6 ≤ 40 → a 146 9 ≤ 299 → (OC a) → 1 ≤ a0 146 2 → jt (jxX E d 251 44 [some (.inr (.inr (.inl 146))), some (.inl y1), some (.inl y2), some (.inl y3), some (.inl y4), some (.inl y5), some (.inl y6), none, none, none, none] [] (jxSH, a, b0)) (jQ_X12_ask x1 a0 b0)) := by
  refine jx_ind fun n ih => ?_
  have ih139 : ∀ (y1 y2 y3 y4 y5 y6 y7 y8 y9 s0 : Int) (a : Nat → Nat → Int), (((40 - y6) * 1) + 0).toNat < n → iv a → jfr jW_X12_ask a0 a → 0 ≤ y1 → y1 ≤ 39 → 0 - 1 ≤ y2 → y2 ≤ 39 → 0 ≤ y4 → y4 ≤ 2 → 0 ≤ y6 → y6 ≤ 39 → 0 ≤ y8 → y8 ≤ 2 → 0 ≤ s0 → s0 ≤ 1 → 1 ≤ a 146 2 → a 146 9 ≤ 299 → (OC a) → 1 ≤ a0 146 2 → jt (jxX E d 251 139 [some (.inr (.inr (.inl 146))), some (.inl y1), some (.inl y2), some (.inl y3), some (.inl y4), some (.inl y5), some (.inl y6), some (.inl y7), some (.inl y8), some (.inl y9), none] [.inl s0] (jxSH, a, b0)) (jQ_X12_ask x1 a0 b0) := fun y1 y2 y3 y4 y5 y6 y7 y8 y9 s0 a hlt i0 i1 i2 i3 i4 i5 i6 i7 i8 i9 i10 i11 i12 i13 i14 i15 i16 i17 => (ih _ hlt).1 y1 y2 y3 y4 y5 y6 y7 y8 y9 s0 a (Nat.le_refl _) i0 i1 i2 i3 i4 i5 i6 i7 i8 i9 i10 i11 i12 i13 i14 i15 i16 i17
  have ih134 : ∀ (y1 y2 y3 y4 y5 y6 y7 y8 y9 : Int) (a : Nat → Nat → Int), (((40 - y6) * 1) + 0).toNat < n → iv a → jfr jW_X12_ask a0 a → 0 ≤ y1 → y1 ≤ 39 → 0 - 1 ≤ y2 → y2 ≤ 39 → 0 ≤ y4 → y4 ≤ 2 → 0 ≤ y6 → y6 ≤ 39 → 0 ≤ y8 → y8 ≤ 2 → 1 ≤ a 146 2 → a 146 9 ≤ 299 → (OC a) → 1 ≤ a0 146 2 → jt (jxX E d 251 134 [some (.inr (.inr (.inl 146))), some (.inl y1), some (.inl y2), some (.inl y3), some (.inl y4), some (.inl y5), some (.inl y6), some (.inl y7), some (.inl y8), some (.inl y9), none] [] (jxSH, a, b0)) (jQ_X12_ask x1 a0 b0) := fun y1 y2 y3 y4 y5 y6 y7 y8 y9 a hlt i0 i1 i2 i3 i4 i5 i6 i7 i8 i9 i10 i11 i12 i13 i14 i15 => (ih _ hlt).2.1 y1 y2 y3 y4 y5 y6 y7 y8 y9 a (Nat.le_refl _) i0 i1 i2 i3 i4 i5 i6 i7 i8 i9 i10 i11 i12 i13 i14 i15
  have ih124 : ∀ (y1 y2 y3 y4 y5 y6 y7 y8 y9 : Int) (a : Nat → Nat → Int), (((40 - y6) * 1) + 0).toNat < n → iv a → jfr jW_X12_ask a0 a → 0 ≤ y1 → y1 ≤ 39 → 0 ≤ y2 → y2 ≤ 39 → 1 ≤ y4 → y4 ≤ 2 → 0 ≤ y6 → y6 ≤ 39 → 0 ≤ y8 → y8 ≤ 1 → 1 ≤ a 146 2 → a 146 9 ≤ 299 → (OC a) → 1 ≤ a0 146 2 → jt (jxX E d 251 124 [some (.inr (.inr (.inl 146))), some (.inl y1), some (.inl y2), some (.inl y3), some (.inl y4), some (.inl y5), some (.inl y6), some (.inl y7), some (.inl y8), some (.inl y9), none] [] (jxSH, a, b0)) (jQ_X12_ask x1 a0 b0) := fun y1 y2 y3 y4 y5 y6 y7 y8 y9 a hlt i0 i1 i2 i3 i4 i5 i6 i7 i8 i9 i10 i11 i12 i13 i14 i15 => (ih _ hlt).2.2.1 y1 y2 y3 y4 y5 y6 y7 y8 y9 a (Nat.le_refl _) i0 i1 i2 i3 i4 i5 i6 i7 i8 i9 i10 i11 i12 i13 i14 i15
  have ih138 : ∀ (y1 y2 y3 y4 y5 y6 y7 y8 y9 : Int) (a : Nat → Nat → Int), (((40 - y6) * 1) + 0).toNat < n → iv a → jfr jW_X12_ask a0 a → 0 ≤ y1 → y1 ≤ 39 → 0 ≤ y2 → y2 ≤ 39 → 0 ≤ y4 → y4 ≤ 2 → 0 ≤ y6 → y6 ≤ 39 → 0 ≤ y8 → y8 ≤ 2 → 1 ≤ a 146 2 → a 146 9 ≤ 299 → (OC a) → 1 ≤ a0 146 2 → jt (jxX E d 251 138 [some (.inr (.inr (.inl 146))), some (.inl y1), some (.inl y2), some (.inl y3), some (.inl y4), some (.inl y5), some (.inl y6), some (.inl y7), some (.inl y8), some (.inl y9), none] [] (jxSH, a, b0)) (jQ_X12_ask x1 a0 b0) := fun y1 y2 y3 y4 y5 y6 y7 y8 y9 a hlt i0 i1 i2 i3 i4 i5 i6 i7 i8 i9 i10 i11 i12 i13 i14 i15 => (ih _ hlt).2.2.2.1 y1 y2 y3 y4 y5 y6 y7 y8 y9 a (Nat.le_refl _) i0 i1 i2 i3 i4 i5 i6 i7 i8 i9 i10 i11 i12 i13 i14 i15
  have ih83 : ∀ (y1 y2 y3 y4 y5 y6 y7 y8 : Int) (a : Nat → Nat → Int), (((40 - y6) * 1) + 0).toNat < n → iv a → jfr jW_X12_ask a0 a → 0 ≤ y1 → y1 ≤ 39 → 0 - 1 ≤ y2 → y2 ≤ 39 → 0 ≤ y4 → y4 ≤ 2 → 0 ≤ y6 → y6 ≤ 39 → 0 ≤ y8 → y8 ≤ 2 → 1 ≤ a 146 2 → a 146 9 ≤ 299 → (OC a) → 1 ≤ a0 146 2 → jt (jxX E d 251 83 [some (.inr (.inr (.inl 146))), some (.inl y1), some (.inl y2), some (.inl y3), some (.inl y4), some (.inl y5), some (.inl y6), some (.inl y7), some (.inl y8), none, none] [] (jxSH, a, b0)) (jQ_X12_ask x1 a0 b0) := fun y1 y2 y3 y4 y5 y6 y7 y8 a hlt i0 i1 i2 i3 i4 i5 i6 i7 i8 i9 i10 i11 i12 i13 i14 i15 => (ih _ hlt).2.2.2.2.1 y1 y2 y3 y4 y5 y6 y7 y8 a (Nat.le_refl _) i0 i1 i2 i3 i4 i5 i6 i7 i8 i9 i10 i11 i12 i13 i14 i15
  have ih44 : ∀ (y1 y2 y3 y4 y5 y6 : Int) (a : Nat → Nat → Int), (((40 - y6) * 1) + 0).toNat < n → iv a → jfr jW_X12_ask a0 a → 0 ≤ y1 → y1 ≤ 39 → 0 - 1 ≤ y2 → y2 ≤ 39 → 0 ≤ y4 → y4 ≤ 2 → 0 ≤ y6 → y6 ≤ 40 → a 146 9 ≤ 299 → (OC a) → 1 ≤ a0 146 2 → jt (jxX E d 251 44 [some (.inr (.inr (.inl 146))), some (.inl y1), some (.inl y2), some (.inl y3), some (.inl y4), some (.inl y5), some (.inl y6), none, none, none, none] [] (jxSH, a, b0)) (jQ_X12_ask x1 a0 b0) := fun y1 y2 y3 y4 y5 y6 a hlt i0 i1 i2 i3 i4 i5 i6 i7 i8 i9 i10 i11 i12 => (ih _ hlt).2.2.2.2.2 y1 y2 y3 y4 y5 y6 a (Nat.le_refl _) i0 i1 i2 i3 i4 i5 i6 i7 i8 i9 i10 i11 i12
  have hc139 : ∀ (y1 y2 y3 y4 y5 y6 y7 y8 y9 s0 : Int) (a : Nat → Nat → Int), (((40 - y6) * 1) + 0).toNat ≤ n → iv a → jfr jW_X12_ask a0 a → 0 ≤ y1 → y1 ≤ 39 → 0 - 1 ≤ y2 → y2 ≤ 39 → 0 ≤ y4 → y4 ≤ 2 → 0 ≤ y6 → y6 ≤ 39 → 0 ≤ y8 → y8 ≤ 2 → 0 ≤ s0 → s0 ≤ 1 → 1 ≤ a 146 2 → a 146 9 ≤ 299 → (OC a) → 1 ≤ a0 146 2 → jt (jxX E d 251 139 [some (.inr (.inr (.inl 146))), some (.inl y1), some (.inl y2), some (.inl y3), some (.inl y4), some (.inl y5), some (.inl y6), some (.inl y7), some (.inl y8), some (.inl y9), none] [.inl s0] (jxSH, a, b0)) (jQ_X12_ask x1 a0 b0) := by
    intro y1 y2 y3 y4 y5 y6 y7 y8 y9 s0 a hm hv hf hi0 hi1 hi2 hi3 hi4 hi5 hi6 hi7 hi8 hi9 hi10 hi11 hi12 hi13 hi14 hi15
    refine jt_eq (bq_X12_ask_139 E d y1 y2 y3 y4 y5 y6 y7 y8 y9 s0 a b0) ?_
    have h113_ := iv_get hv (k := 146) (j := 2) (l := 0) (u := 40) rfl
    have h114_ : a 146 2 = a0 146 2 := hf 146 2 rfl
    have h115_ := iv_get hv0 (k := 146) (j := 2) (l := 0) (u := 40) rfl
    have h116_ := iv_get hv (k := 146) (j := 9) (l := 0) (u := 300) rfl
    refine jt_ite (fun c117_ => ?_) (fun c117_ => ?_)
    ·
      have h118_ : jxw (y6 + 1) = y6 + 1 := jxw_id (by omega) (by omega)
      exact ih44 y1 y2 y3 y4 y5 (jxw (y6 + 1)) a (show (((40 - (jxw (y6 + 1))) * 1) + 0).toNat < n from by omega) hv hf (show 0 ≤ y1 from by omega) (show y1 ≤ 39 from by omega) (show 0 - 1 ≤ y2 from by omega) (show y2 ≤ 39 from by omega) (show 0 ≤ y4 from by omega) (show y4 ≤ 2 from by omega) (show 0 ≤ jxw (y6 + 1) from by omega) (show jxw (y6 + 1) ≤ 40 from by omega) (show a 146 9 ≤ 299 from by omega) hi14 (show 1 ≤ a0 146 2 from by omega)
    ·
      have h119_ : jxw (y6 + 1) = y6 + 1 := jxw_id (by omega) (by omega)
      exact ih44 y1 y6 y7 y8 y9 (jxw (y6 + 1)) a (show (((40 - (jxw (y6 + 1))) * 1) + 0).toNat < n from by omega) hv hf (show 0 ≤ y1 from by omega) (show y1 ≤ 39 from by omega) (show 0 - 1 ≤ y6 from by omega) (show y6 ≤ 39 from by omega) (show 0 ≤ y8 from by omega) (show y8 ≤ 2 from by omega) (show 0 ≤ jxw (y6 + 1) from by omega) (show jxw (y6 + 1) ≤ 40 from by omega) (show a 146 9 ≤ 299 from by omega) hi14 (show 1 ≤ a0 146 2 from by omega)
  have hc134 : ∀ (y1 y2 y3 y4 y5 y6 y7 y8 y9 : Int) (a : Nat → Nat → Int), (((40 - y6) * 1) + 0).toNat ≤ n → iv a → jfr jW_X12_ask a0 a → 0 ≤ y1 → y1 ≤ 39 → 0 - 1 ≤ y2 → y2 ≤ 39 → 0 ≤ y4 → y4 ≤ 2 → 0 ≤ y6 → y6 ≤ 39 → 0 ≤ y8 → y8 ≤ 2 → 1 ≤ a 146 2 → a 146 9 ≤ 299 → (OC a) → 1 ≤ a0 146 2 → jt (jxX E d 251 134 [some (.inr (.inr (.inl 146))), some (.inl y1), some (.inl y2), some (.inl y3), some (.inl y4), some (.inl y5), some (.inl y6), some (.inl y7), some (.inl y8), some (.inl y9), none] [] (jxSH, a, b0)) (jQ_X12_ask x1 a0 b0) := by
    intro y1 y2 y3 y4 y5 y6 y7 y8 y9 a hm hv hf hi0 hi1 hi2 hi3 hi4 hi5 hi6 hi7 hi8 hi9 hi10 hi11 hi12 hi13
    refine jt_eq (bq_X12_ask_134 E d y1 y2 y3 y4 y5 y6 y7 y8 y9 a b0) ?_
    have h120_ := iv_get hv (k := 146) (j := 2) (l := 0) (u := 40) rfl
    have h121_ : a 146 2 = a0 146 2 := hf 146 2 rfl
    have h122_ := iv_get hv0 (k := 146) (j := 2) (l := 0) (u := 40) rfl
    have h123_ := iv_get hv (k := 146) (j := 9) (l := 0) (u := 300) rfl
    exact hc139 y1 y2 y3 y4 y5 y6 y7 y8 y9 1 a (show (((40 - y6) * 1) + 0).toNat ≤ n from by omega) hv hf (show 0 ≤ y1 from by omega) (show y1 ≤ 39 from by omega) (show 0 - 1 ≤ y2 from by omega) (show y2 ≤ 39 from by omega) (show 0 ≤ y4 from by omega) (show y4 ≤ 2 from by omega) (show 0 ≤ y6 from by omega) (show y6 ≤ 39 from by omega) (show 0 ≤ y8 from by omega) (show y8 ≤ 2 from by omega) (show 0 ≤ 1 from by omega) (show 1 ≤ 1 from by omega) (show 1 ≤ a 146 2 from by omega) (show a 146 9 ≤ 299 from by omega) hi12 (show 1 ≤ a0 146 2 from by omega)
  have hc124 : ∀ (y1 y2 y3 y4 y5 y6 y7 y8 y9 : Int) (a : Nat → Nat → Int), (((40 - y6) * 1) + 0).toNat ≤ n → iv a → jfr jW_X12_ask a0 a → 0 ≤ y1 → y1 ≤ 39 → 0 ≤ y2 → y2 ≤ 39 → 1 ≤ y4 → y4 ≤ 2 → 0 ≤ y6 → y6 ≤ 39 → 0 ≤ y8 → y8 ≤ 1 → 1 ≤ a 146 2 → a 146 9 ≤ 299 → (OC a) → 1 ≤ a0 146 2 → jt (jxX E d 251 124 [some (.inr (.inr (.inl 146))), some (.inl y1), some (.inl y2), some (.inl y3), some (.inl y4), some (.inl y5), some (.inl y6), some (.inl y7), some (.inl y8), some (.inl y9), none] [] (jxSH, a, b0)) (jQ_X12_ask x1 a0 b0) := by
    intro y1 y2 y3 y4 y5 y6 y7 y8 y9 a hm hv hf hi0 hi1 hi2 hi3 hi4 hi5 hi6 hi7 hi8 hi9 hi10 hi11 hi12 hi13
    refine jt_eq (bq_X12_ask_124 E d y1 y2 y3 y4 y5 y6 y7 y8 y9 a b0) ?_
    have h124_ := iv_get hv (k := 146) (j := 2) (l := 0) (u := 40) rfl
    have h125_ : a 146 2 = a0 146 2 := hf 146 2 rfl
    have h126_ := iv_get hv0 (k := 146) (j := 2) (l := 0) (u := 40) rfl
    have h127_ := iv_get hv (k := 146) (j := 9) (l := 0) (u := 300) rfl
    exact hc134 y1 y2 y3 y4 y5 y6 y7 y8 y9 a (show (((40 - y6) * 1) + 0).toNat ≤ n from by omega) hv hf (show 0 ≤ y1 from by omega) (show y1 ≤ 39 from by omega) (show 0 - 1 ≤ y2 from by omega) (show y2 ≤ 39 from by omega) (show 0 ≤ y4 from by omega) (show y4 ≤ 2 from by omega) (show 0 ≤ y6 from by omega) (show y6 ≤ 39 from by omega) (show 0 ≤ y8 from by omega) (show y8 ≤ 2 from by omega) (show 1 ≤ a 146 2 from by omega) (show a 146 9 ≤ 299 from by omega) hi12 (show 1 ≤ a0 146 2 from by omega)
  have hc138 : ∀ (y1 y2 y3 y4 y5 y6 y7 y8 y9 : Int) (a : Nat → Nat → Int), (((40 - y6) * 1) + 0).toNat ≤ n → iv a → jfr jW_X12_ask a0 a → 0 ≤ y1 → y1 ≤ 39 → 0 ≤ y2 → y2 ≤ 39 → 0 ≤ y4 → y4 ≤ 2 → 0 ≤ y6 → y6 ≤ 39 → 0 ≤ y8 → y8 ≤ 2 → 1 ≤ a 146 2 → a 146 9 ≤ 299 → (OC a) → 1 ≤ a0 146 2 → jt (jxX E d 251 138 [some (.inr (.inr (.inl 146))), some (.inl y1), some (.inl y2), some (.inl y3), some (.inl y4), some (.inl y5), some (.inl y6), some (.inl y7), some (.inl y8), some (.inl y9), none] [] (jxSH, a, b0)) (jQ_X12_ask x1 a0 b0) := by
    intro y1 y2 y3 y4 y5 y6 y7 y8 y9 a hm hv hf hi0 hi1 hi2 hi3 hi4 hi5 hi6 hi7 hi8 hi9 hi10 hi11 hi12 hi13
    refine jt_eq (bq_X12_ask_138 E d y1 y2 y3 y4 y5 y6 y7 y8 y9 a b0) ?_
    have h128_ := iv_get hv (k := 146) (j := 2) (l := 0) (u := 40) rfl
    have h129_ : a 146 2 = a0 146 2 := hf 146 2 rfl
    have h130_ := iv_get hv0 (k := 146) (j := 2) (l := 0) (u := 40) rfl
    have h131_ := iv_get hv (k := 146) (j := 9) (l := 0) (u := 300) rfl
    exact hc139 y1 y2 y3 y4 y5 y6 y7 y8 y9 0 a (show (((40 - y6) * 1) + 0).toNat ≤ n from by omega) hv hf (show 0 ≤ y1 from by omega) (show y1 ≤ 39 from by omega) (show 0 - 1 ≤ y2 from by omega) (show y2 ≤ 39 from by omega) (show 0 ≤ y4 from by omega) (show y4 ≤ 2 from by omega) (show 0 ≤ y6 from by omega) (show y6 ≤ 39 from by omega) (show 0 ≤ y8 from by omega) (show y8 ≤ 2 from by omega) (show 0 ≤ 0 from by omega) (show 0 ≤ 1 from by omega) (show 1 ≤ a 146 2 from by omega) (show a 146 9 ≤ 299 from by omega) hi12 (show 1 ≤ a0 146 2 from by omega)
  have hc83 : ∀ (y1 y2 y3 y4 y5 y6 y7 y8 : Int) (a : Nat → Nat → Int), (((40 - y6) * 1) + 0).toNat ≤ n → iv a → jfr jW_X12_ask a0 a → 0 ≤ y1 → y1 ≤ 39 → 0 - 1 ≤ y2 → y2 ≤ 39 → 0 ≤ y4 → y4 ≤ 2 → 0 ≤ y6 → y6 ≤ 39 → 0 ≤ y8 → y8 ≤ 2 → 1 ≤ a 146 2 → a 146 9 ≤ 299 → (OC a) → 1 ≤ a0 146 2 → jt (jxX E d 251 83 [some (.inr (.inr (.inl 146))), some (.inl y1), some (.inl y2), some (.inl y3), some (.inl y4), some (.inl y5), some (.inl y6), some (.inl y7), some (.inl y8), none, none] [] (jxSH, a, b0)) (jQ_X12_ask x1 a0 b0) := by
    intro y1 y2 y3 y4 y5 y6 y7 y8 a hm hv hf hi0 hi1 hi2 hi3 hi4 hi5 hi6 hi7 hi8 hi9 hi10 hi11 hi12 hi13
    refine jt_eq (bq_X12_ask_83 E d y1 y2 y3 y4 y5 y6 y7 y8 a b0) ?_
    have h132_ := iv_get hv (k := 146) (j := 2) (l := 0) (u := 40) rfl
    have h133_ : a 146 2 = a0 146 2 := hf 146 2 rfl
    have h134_ := iv_get hv0 (k := 146) (j := 2) (l := 0) (u := 40) rfl
    have h135_ := iv_get hv (k := 146) (j := 9) (l := 0) (u := 300) rfl
    refine jt_bI (sp_X12_lastSentTo E d (jd_le hd rfl) y6 a b0 hv) (fun r136_ a136_ b136_ h136_ => ?_)
    obtain ⟨rfl, rfl⟩ := h136_
    refine jt_ite (fun c137_ => ?_) (fun c137_ => ?_)
    ·
      exact hc134 y1 y2 y3 y4 y5 y6 y7 y8 r136_ a (show (((40 - y6) * 1) + 0).toNat ≤ n from by omega) hv hf (show 0 ≤ y1 from by omega) (show y1 ≤ 39 from by omega) (show 0 - 1 ≤ y2 from by omega) (show y2 ≤ 39 from by omega) (show 0 ≤ y4 from by omega) (show y4 ≤ 2 from by omega) (show 0 ≤ y6 from by omega) (show y6 ≤ 39 from by omega) (show 0 ≤ y8 from by omega) (show y8 ≤ 2 from by omega) (show 1 ≤ a 146 2 from by omega) (show a 146 9 ≤ 299 from by omega) hi12 (show 1 ≤ a0 146 2 from by omega)
    ·
      refine jt_ite (fun c138_ => ?_) (fun c138_ => ?_)
      ·
        refine jt_ite (fun c139_ => ?_) (fun c139_ => ?_)
        ·
          refine jt_ite (fun c140_ => ?_) (fun c140_ => ?_)
          ·
            exact hc134 y1 y2 y3 y4 y5 y6 y7 y8 r136_ a (show (((40 - y6) * 1) + 0).toNat ≤ n from by omega) hv hf (show 0 ≤ y1 from by omega) (show y1 ≤ 39 from by omega) (show 0 - 1 ≤ y2 from by omega) (show y2 ≤ 39 from by omega) (show 0 ≤ y4 from by omega) (show y4 ≤ 2 from by omega) (show 0 ≤ y6 from by omega) (show y6 ≤ 39 from by omega) (show 0 ≤ y8 from by omega) (show y8 ≤ 2 from by omega) (show 1 ≤ a 146 2 from by omega) (show a 146 9 ≤ 299 from by omega) hi12 (show 1 ≤ a0 146 2 from by omega)
          ·
            exact hc138 y1 y2 y3 y4 y5 y6 y7 y8 r136_ a (show (((40 - y6) * 1) + 0).toNat ≤ n from by omega) hv hf (show 0 ≤ y1 from by omega) (show y1 ≤ 39 from by omega) (show 0 ≤ y2 from by omega) (show y2 ≤ 39 from by omega) (show 0 ≤ y4 from by omega) (show y4 ≤ 2 from by omega) (show 0 ≤ y6 from by omega) (show y6 ≤ 39 from by omega) (show 0 ≤ y8 from by omega) (show y8 ≤ 2 from by omega) (show 1 ≤ a 146 2 from by omega) (show a 146 9 ≤ 299 from by omega) hi12 (show 1 ≤ a0 146 2 from by omega)
        ·
          refine jt_ite (fun c141_ => ?_) (fun c141_ => ?_)
          ·
            exact hc124 y1 y2 y3 y4 y5 y6 y7 y8 r136_ a (show (((40 - y6) * 1) + 0).toNat ≤ n from by omega) hv hf (show 0 ≤ y1 from by omega) (show y1 ≤ 39 from by omega) (show 0 ≤ y2 from by omega) (show y2 ≤ 39 from by omega) (show 1 ≤ y4 from by omega) (show y4 ≤ 2 from by omega) (show 0 ≤ y6 from by omega) (show y6 ≤ 39 from by omega) (show 0 ≤ y8 from by omega) (show y8 ≤ 1 from by omega) (show 1 ≤ a 146 2 from by omega) (show a 146 9 ≤ 299 from by omega) hi12 (show 1 ≤ a0 146 2 from by omega)
          ·
            exact hc138 y1 y2 y3 y4 y5 y6 y7 y8 r136_ a (show (((40 - y6) * 1) + 0).toNat ≤ n from by omega) hv hf (show 0 ≤ y1 from by omega) (show y1 ≤ 39 from by omega) (show 0 ≤ y2 from by omega) (show y2 ≤ 39 from by omega) (show 0 ≤ y4 from by omega) (show y4 ≤ 2 from by omega) (show 0 ≤ y6 from by omega) (show y6 ≤ 39 from by omega) (show 0 ≤ y8 from by omega) (show y8 ≤ 2 from by omega) (show 1 ≤ a 146 2 from by omega) (show a 146 9 ≤ 299 from by omega) hi12 (show 1 ≤ a0 146 2 from by omega)
      ·
        refine jt_ite (fun c142_ => ?_) (fun c142_ => ?_)
        ·
          exact hc134 y1 y2 y3 y4 y5 y6 y7 y8 r136_ a (show (((40 - y6) * 1) + 0).toNat ≤ n from by omega) hv hf (show 0 ≤ y1 from by omega) (show y1 ≤ 39 from by omega) (show 0 - 1 ≤ y2 from by omega) (show y2 ≤ 39 from by omega) (show 0 ≤ y4 from by omega) (show y4 ≤ 2 from by omega) (show 0 ≤ y6 from by omega) (show y6 ≤ 39 from by omega) (show 0 ≤ y8 from by omega) (show y8 ≤ 2 from by omega) (show 1 ≤ a 146 2 from by omega) (show a 146 9 ≤ 299 from by omega) hi12 (show 1 ≤ a0 146 2 from by omega)
        ·
          exact hc138 y1 y2 y3 y4 y5 y6 y7 y8 r136_ a (show (((40 - y6) * 1) + 0).toNat ≤ n from by omega) hv hf (show 0 ≤ y1 from by omega) (show y1 ≤ 39 from by omega) (show 0 ≤ y2 from by omega) (show y2 ≤ 39 from by omega) (show 0 ≤ y4 from by omega) (show y4 ≤ 2 from by omega) (show 0 ≤ y6 from by omega) (show y6 ≤ 39 from by omega) (show 0 ≤ y8 from by omega) (show y8 ≤ 2 from by omega) (show 1 ≤ a 146 2 from by omega) (show a 146 9 ≤ 299 from by omega) hi12 (show 1 ≤ a0 146 2 from by omega)
  have hc44 : ∀ (y1 y2 y3 y4 y5 y6 : Int) (a : Nat → Nat → Int), (((40 - y6) * 1) + 0).toNat ≤ n → iv a → jfr jW_X12_ask a0 a → 0 ≤ y1 → y1 ≤ 39 → 0 - 1 ≤ y2 → y2 ≤ 39 → 0 ≤ y4 → y4 ≤ 2 → 0 ≤ y6 → y6 ≤ 40 → a 146 9 ≤ 299 → (OC a) → 1 ≤ a0 146 2 → jt (jxX E d 251 44 [some (.inr (.inr (.inl 146))), some (.inl y1), some (.inl y2), some (.inl y3), some (.inl y4), some (.inl y5), some (.inl y6), none, none, none, none] [] (jxSH, a, b0)) (jQ_X12_ask x1 a0 b0) := by
    intro y1 y2 y3 y4 y5 y6 a hm hv hf hi0 hi1 hi2 hi3 hi4 hi5 hi6 hi7 hi8 hi9 hi10
    refine jt_eq (bq_X12_ask_44 E d y1 y2 y3 y4 y5 y6 a b0) ?_
    have h143_ := iv_get hv (k := 146) (j := 9) (l := 0) (u := 300) rfl
    have h144_ := iv_get hv0 (k := 146) (j := 2) (l := 0) (u := 40) rfl
    have h145_ := iv_get hv (k := 146) (j := 2) (l := 0) (u := 40) rfl
    have h146_ : a 146 2 = a0 146 2 := hf 146 2 rfl
    refine jt_ite (fun c147_ => ?_) (fun c147_ => ?_)
    ·
      refine jt_bI (sp_X12_mayGet E d (jd_le hd rfl) y1 y6 a b0 hv (show (0 ≤ y1 ∧ y1 ≤ 39) from by omega) (show (0 ≤ y6 ∧ y6 ≤ 39) from by omega) (WFW_fr hp0 hf (fun _ => rfl) (fun _ => rfl)) (WISHR_fr hp2 hf (fun _ => rfl) (fun _ => rfl) (fun _ => rfl) (fun _ => rfl))) (fun r148_ a148_ b148_ h148_ => ?_)
      obtain ⟨hv148_, hf148_, rfl, hq148_0⟩ := h148_
      refine jt_ite (fun c149_ => ?_) (fun c149_ => ?_)
      ·
        have hf150_ : jfr jW_X12_ask a0 a148_ := jfr_tr hf hf148_ rfl
        have h151_ : jxw (y6 + 1) = y6 + 1 := jxw_id (by omega) (by omega)
        have h152_ := iv_get hv148_ (k := 146) (j := 9) (l := 0) (u := 300) rfl
        have h153_ : a148_ 146 9 = a 146 9 := hf148_ 146 9 rfl
        exact ih44 y1 y2 y3 y4 y5 (jxw (y6 + 1)) a148_ (show (((40 - (jxw (y6 + 1))) * 1) + 0).toNat < n from by omega) hv148_ hf150_ (show 0 ≤ y1 from by omega) (show y1 ≤ 39 from by omega) (show 0 - 1 ≤ y2 from by omega) (show y2 ≤ 39 from by omega) (show 0 ≤ y4 from by omega) (show y4 ≤ 2 from by omega) (show 0 ≤ jxw (y6 + 1) from by omega) (show jxw (y6 + 1) ≤ 40 from by omega) (show a148_ 146 9 ≤ 299 from by omega) (OC_fr hi9 hf148_ rfl rfl (fun _ => rfl) (fun _ => rfl) (fun _ => rfl) (fun _ => rfl) (fun _ => rfl)) (show 1 ≤ a0 146 2 from by omega)
      ·
        refine jt_bI (sp_X12_owed E d (jd_le hd rfl) y6 a148_ b0 hv148_ (show (0 ≤ y6 ∧ y6 ≤ 39) from by omega)) (fun r154_ a154_ b154_ h154_ => ?_)
        obtain ⟨rfl, rfl⟩ := h154_
        refine jt_bI (sp_X12_unhappy E d (jd_le hd rfl) y1 y6 a148_ b0 hv148_ (show (0 ≤ y1 ∧ y1 ≤ 39) from by omega) (show (0 ≤ y6 ∧ y6 ≤ 39) from by omega) (WFW_fr (WFW_fr hp0 hf (fun _ => rfl) (fun _ => rfl)) hf148_ (fun _ => rfl) (fun _ => rfl)) (WISHR_fr (WISHR_fr hp2 hf (fun _ => rfl) (fun _ => rfl) (fun _ => rfl) (fun _ => rfl)) hf148_ (fun _ => rfl) (fun _ => rfl) (fun _ => rfl) (fun _ => rfl))) (fun r155_ a155_ b155_ h155_ => ?_)
        obtain ⟨hv155_, hf155_, rfl, hq155_0, hq155_1⟩ := h155_
        have hf156_ : jfr jW_X12_ask a0 a148_ := jfr_tr hf hf148_ rfl
        have hf157_ : jfr jW_X12_ask a0 a155_ := jfr_tr hf156_ hf155_ rfl
        have h158_ := iv_get hv155_ (k := 146) (j := 2) (l := 0) (u := 40) rfl
        have h159_ : a155_ 146 2 = a148_ 146 2 := hf155_ 146 2 rfl
        have h160_ := iv_get hv148_ (k := 146) (j := 2) (l := 0) (u := 40) rfl
        have h161_ : a148_ 146 2 = a 146 2 := hf148_ 146 2 rfl
        have h162_ := iv_get hv155_ (k := 146) (j := 9) (l := 0) (u := 300) rfl
        have h163_ : a155_ 146 9 = a148_ 146 9 := hf155_ 146 9 rfl
        have h164_ := iv_get hv148_ (k := 146) (j := 9) (l := 0) (u := 300) rfl
        have h165_ : a148_ 146 9 = a 146 9 := hf148_ 146 9 rfl
        exact hc83 y1 y2 y3 y4 y5 y6 r154_ r155_ a155_ (show (((40 - y6) * 1) + 0).toNat ≤ n from by omega) hv155_ hf157_ (show 0 ≤ y1 from by omega) (show y1 ≤ 39 from by omega) (show 0 - 1 ≤ y2 from by omega) (show y2 ≤ 39 from by omega) (show 0 ≤ y4 from by omega) (show y4 ≤ 2 from by omega) (show 0 ≤ y6 from by omega) (show y6 ≤ 39 from by omega) (show 0 ≤ r155_ from by omega) (show r155_ ≤ 2 from by omega) (show 1 ≤ a155_ 146 2 from by omega) (show a155_ 146 9 ≤ 299 from by omega) (OC_fr (OC_fr hi9 hf148_ rfl rfl (fun _ => rfl) (fun _ => rfl) (fun _ => rfl) (fun _ => rfl) (fun _ => rfl)) hf155_ rfl rfl (fun _ => rfl) (fun _ => rfl) (fun _ => rfl) (fun _ => rfl) (fun _ => rfl)) (show 1 ≤ a0 146 2 from by omega)
    ·
      refine jt_ite (fun c166_ => ?_) (fun c166_ => ?_)
      ·
        exact jt_rI ⟨hv, hf, rfl, hi9, (show (a0 146 2 = 0 → (-3) = 0 - 1) from by omega)⟩
      ·
        refine jt_bI (sp_X12_sends E d (jd_le hd rfl) y1 y2 (-1) a b0 hv (show (0 ≤ y1 ∧ y1 ≤ 39) from by omega) (show (0 ≤ y2 ∧ y2 ≤ 39) from by omega) (show a 146 9 ≤ 299 from by omega)) (fun r167_ a167_ b167_ h167_ => ?_)
        obtain ⟨hv167_, hf167_, rfl, hq167_0, hq167_1, hq167_2⟩ := h167_
        have h168_ := iv_get hv167_ (k := 146) (j := 9) (l := 0) (u := 300) rfl
        have hf169_ : jfr jW_X12_ask a0 a167_ := jfr_tr hf hf167_ rfl
        exact jt_rI ⟨hv167_, hf169_, rfl, (OC_card hi9 hq167_0 (hf167_ 146 49 rfl) (fun c hc => hq167_2 c hc) (fun j => hf167_ 178 j rfl) (fun j => hf167_ 181 j rfl) (fun j => hf167_ 182 j rfl)), (show (a0 146 2 = 0 → r167_ = 0 - 1) from by omega)⟩
  exact ⟨hc139, hc134, hc124, hc138, hc83, hc44⟩
theorem cp_X12_ask_33 (E : jxE) (d : Nat) (hd : Nat.ble 8 (d + 1) = true) (x1 : Int) (a0 b0 : Nat → Nat → Int) (hv0 : iv a0) (hp0 : WFW a0) (hp1 : OC a0) (hp2 : WISHR a0) : ∀ (y1 y2 : Int) (a : Nat → Nat → Int), iv a → jfr jW_X12_ask a0 a → 0 ≤ y1 → y1 ≤ 39 → 0 - 1 ≤ y2 → y2 ≤ 0 - 1 → a 146 9 ≤ 299 → (OC a) → 1 ≤ a0 146 2 → jt (jxX E d 251 33 [some (.inr (.inr (.inl 146))), some (.inl y1), some (.inl y2), none, none, none, none, none, none, none, none] [] (jxSH, a, b0)) (jQ_X12_ask x1 a0 b0) := by
  intro y1 y2 a hv hf hi0 hi1 hi2 hi3 hi4 hi5 hi6
  refine jt_eq (bq_X12_ask_33 E d y1 y2 a b0) ?_
  have h170_ := iv_get hv (k := 146) (j := 9) (l := 0) (u := 300) rfl
  have h171_ := iv_get hv0 (k := 146) (j := 2) (l := 0) (u := 40) rfl
  exact (cp_X12_ask_44 E d hd x1 a0 b0 hv0 hp0 hp1 hp2 _).2.2.2.2.2 y1 y2 0 0 0 0 a (Nat.le_refl _) hv hf (show 0 ≤ y1 from by omega) (show y1 ≤ 39 from by omega) (show 0 - 1 ≤ y2 from by omega) (show y2 ≤ 39 from by omega) (show 0 ≤ 0 from by omega) (show 0 ≤ 2 from by omega) (show 0 ≤ 0 from by omega) (show 0 ≤ 40 from by omega) (show a 146 9 ≤ 299 from by omega) hi5 (show 1 ≤ a0 146 2 from by omega)
theorem sp_X12_ask (E : jxE) (d : Nat) (hd : Nat.ble 8 d = true) (x1 : Int) (a0 b0 : Nat → Nat → Int) (hv0 : iv a0) (hp0 : WFW a0) (hp1 : OC a0) (hp2 : WISHR a0) : jt (jxC E d 251 [.inr (.inr (.inl 146)), .inl x1] (jxSH, a0, b0)) (jQ_X12_ask x1 a0 b0) := by
  obtain ⟨d, rfl⟩ := jd_succ hd
  refine jt_eq (bq_X12_ask E d x1 a0 b0) ?_
  refine jt_eI (eq_X12_isMember E d (jd_le hd rfl) x1 a0 b0) ?_
  have h172_ := f_X12_isMember_eq a0 b0 x1
  have h173_ := iv_get hv0 (k := 146) (j := 2) (l := 0) (u := 40) rfl
  have h174_ : jxw ((a0 146 2) - 1) = (a0 146 2) - 1 := jxw_id (by omega) (by omega)
  have h175_ := f_X12_in_eq a0 b0 x1 0 (jxw ((a0 146 2) - 1))
  refine jt_ite (fun c176_ => ?_) (fun c176_ => ?_)
  ·
    exact jt_rI ⟨hv0, (jfr_rf _ _), rfl, hp1, (show (a0 146 2 = 0 → (-1) = 0 - 1) from by omega)⟩
  ·
    have h177_ := iv_get hv0 (k := 146) (j := 9) (l := 0) (u := 300) rfl
    refine jt_ite (fun c178_ => ?_) (fun c178_ => ?_)
    ·
      exact jt_rI ⟨hv0, (jfr_rf _ _), rfl, hp1, (show (a0 146 2 = 0 → (-1) = 0 - 1) from by omega)⟩
    ·
      refine jt_bI (sp_X12_mayAsk E d (jd_le hd rfl) x1 a0 b0 hv0 (show (0 ≤ x1 ∧ x1 ≤ 39) from by omega)) (fun r179_ a179_ b179_ h179_ => ?_)
      obtain ⟨rfl, rfl, hq179_0⟩ := h179_
      refine jt_ite (fun c180_ => ?_) (fun c180_ => ?_)
      ·
        exact jt_rI ⟨hv0, (jfr_rf _ _), rfl, hp1, (show (a0 146 2 = 0 → (-2) = 0 - 1) from by omega)⟩
      ·
        exact cp_X12_ask_33 E d hd x1 a0 b0 hv0 hp0 hp1 hp2 x1 (-1) a0 hv0 (jfr_rf _ _) (show 0 ≤ x1 from by omega) (show x1 ≤ 39 from by omega) (show 0 - 1 ≤ (-1) from by omega) (show (-1) ≤ 0 - 1 from by omega) (show a0 146 9 ≤ 299 from by omega) hp1 (show 1 ≤ a0 146 2 from by omega)
def jW_X12_away : List (Nat × Nat) := [(181, 9999)]
abbrev jQ_X12_away (x1 : Int) (a0 b0 : Nat → Nat → Int) : List jxV → (Nat → Nat → Int) → (Nat → Nat → Int) → Prop := rI (fun r a b => (iv a) ∧ (jfr jW_X12_away a0 a) ∧ (b0 = b) ∧ ((0 ≤ r ∧ r ≤ 1)) ∧ (OC a) ∧ ((a0 146 49 = 0 → r = 0)))
theorem cp_X12_away_32 (E : jxE) (d : Nat) (hd : Nat.ble 2 (d + 1) = true) (x1 : Int) (a0 b0 : Nat → Nat → Int) (hv0 : iv a0) (hp0 : OC a0) : ∀ (a : Nat → Nat → Int), iv a → jfr jW_X12_away a0 a → 1 ≤ a0 146 49 → (OC a) → jt (jxX E d 263 32 [none, none] [] (jxSH, a, b0)) (jQ_X12_away x1 a0 b0) := by
  intro a hv hf hi0 hi1
  refine jt_eq (bq_X12_away_32 E d a b0) ?_
  have h181_ := iv_get hv0 (k := 146) (j := 49) (l := 0) (u := 20) rfl
  exact jt_rI ⟨hv, hf, rfl, (show (0 ≤ 1 ∧ 1 ≤ 1) from by omega), hi1, (show (a0 146 49 = 0 → 1 = 0) from by omega)⟩
theorem sp_X12_away (E : jxE) (d : Nat) (hd : Nat.ble 2 d = true) (x1 : Int) (a0 b0 : Nat → Nat → Int) (hv0 : iv a0) (hp0 : OC a0) : jt (jxC E d 263 [.inr (.inr (.inl 146)), .inl x1] (jxSH, a0, b0)) (jQ_X12_away x1 a0 b0) := by
  obtain ⟨d, rfl⟩ := jd_succ hd
  refine jt_eq (bq_X12_away E d x1 a0 b0) ?_
  refine jt_eI (eq_X12_in E d (jd_le hd rfl) x1 0 (jxw ((a0 146 49) - 1)) a0 b0) ?_
  have h182_ := iv_get hv0 (k := 146) (j := 49) (l := 0) (u := 20) rfl
  have h183_ : jxw ((a0 146 49) - 1) = (a0 146 49) - 1 := jxw_id (by omega) (by omega)
  have h184_ := f_X12_in_eq a0 b0 x1 0 (jxw ((a0 146 49) - 1))
  refine jt_ite (fun c185_ => ?_) (fun c185_ => ?_)
  ·
    exact jt_rI ⟨hv0, (jfr_rf _ _), rfl, (show (0 ≤ 0 ∧ 0 ≤ 1) from by omega), hp0, (show (a0 146 49 = 0 → 0 = 0) from by omega)⟩
  ·
    refine jt_grd (by omega) ?_
    have h186_ := iv_get hv0 (k := 181) (j := x1.toNat) (l := 0) (u := 2) rfl
    refine jt_ite (fun c187_ => ?_) (fun c187_ => ?_)
    ·
      refine jt_grd (by omega) ?_
      have hv188_ : iv (jxu a0 181 (x1.toNat) 2) := iv_put hv0 (l := 0) (u := 2) rfl (by omega) (by omega)
      have hf189_ : jfr jW_X12_away a0 (jxu a0 181 (x1.toNat) 2) := jfr_put (jfr_rf _ _) rfl
      have hg190_ : OC (jxu a0 181 (x1.toNat) 2) := (OC_put2 hp0 (by decide) (by omega))
      exact cp_X12_away_32 E d hd x1 a0 b0 hv0 hp0 (jxu a0 181 (x1.toNat) 2) hv188_ hf189_ (show 1 ≤ a0 146 49 from by omega) hg190_
    ·
      exact jt_rI ⟨hv0, (jfr_rf _ _), rfl, (show (0 ≤ 0 ∧ 0 ≤ 1) from by omega), hp0, (show (a0 146 49 = 0 → 0 = 0) from by omega)⟩
def jW_X12_drops : List (Nat × Nat) := [(153, 9999), (159, 9999), (181, 9999)]
abbrev jQ_X12_drops (x1 x2 : Int) (a0 b0 : Nat → Nat → Int) : List jxV → (Nat → Nat → Int) → (Nat → Nat → Int) → Prop := rI (fun r a b => (iv a) ∧ (jfr jW_X12_drops a0 a) ∧ (b0 = b) ∧ ((0 ≤ r ∧ r ≤ 1)) ∧ (OC a))
theorem cp_X12_drops_27 (E : jxE) (d : Nat) (hd : Nat.ble 4 (d + 1) = true) (x1 x2 : Int) (a0 b0 : Nat → Nat → Int) (hv0 : iv a0) (hp0 : (0 ≤ x2 ∧ x2 ≤ 19)) (hp1 : x2 < a0 146 49) (hp2 : a0 181 (x2.toNat) = 1) (hp3 : x1 = a0 182 (x2.toNat)) (hp4 : OC a0) : ∀ (a : Nat → Nat → Int), iv a → jfr jW_X12_drops a0 a → (OC a) → jt (jxX E d 277 27 [none, none, none, none] [] (jxSH, a, b0)) (jQ_X12_drops x1 x2 a0 b0) := by
  intro a hv hf hi0
  refine jt_eq (bq_X12_drops_27 E d a b0) ?_
  exact jt_rI ⟨hv, hf, rfl, (show (0 ≤ 0 ∧ 0 ≤ 1) from by omega), hi0⟩
theorem cp_X12_drops_68 (E : jxE) (d : Nat) (hd : Nat.ble 4 (d + 1) = true) (x1 x2 : Int) (a0 b0 : Nat → Nat → Int) (hv0 : iv a0) (hp0 : (0 ≤ x2 ∧ x2 ≤ 19)) (hp1 : x2 < a0 146 49) (hp2 : a0 181 (x2.toNat) = 1) (hp3 : x1 = a0 182 (x2.toNat)) (hp4 : OC a0) : ∀ (a : Nat → Nat → Int), iv a → jfr jW_X12_drops a0 a → (OC a) → jt (jxX E d 277 68 [none, none, none, none] [] (jxSH, a, b0)) (jQ_X12_drops x1 x2 a0 b0) := by
  intro a hv hf hi0
  refine jt_eq (bq_X12_drops_68 E d a b0) ?_
  exact jt_rI ⟨hv, hf, rfl, (show (0 ≤ 1 ∧ 1 ≤ 1) from by omega), hi0⟩
theorem cp_X12_drops_53 (E : jxE) (d : Nat) (hd : Nat.ble 4 (d + 1) = true) (x1 x2 : Int) (a0 b0 : Nat → Nat → Int) (hv0 : iv a0) (hp0 : (0 ≤ x2 ∧ x2 ≤ 19)) (hp1 : x2 < a0 146 49) (hp2 : a0 181 (x2.toNat) = 1) (hp3 : x1 = a0 182 (x2.toNat)) (hp4 : OC a0) : ∀ (y3 : Int) (a : Nat → Nat → Int), iv a → jfr jW_X12_drops a0 a → 0 ≤ y3 → y3 ≤ 299 → 0 ≤ y3 → (OC a) → jt (jxX E d 277 53 [some (.inr (.inr (.inl 146))), none, none, some (.inl y3)] [] (jxSH, a, b0)) (jQ_X12_drops x1 x2 a0 b0) := by
  intro y3 a hv hf hi0 hi1 hi2 hi3
  refine jt_eq (bq_X12_drops_53 E d y3 a b0) ?_
  refine jt_grd (by omega) ?_
  have h191_ := iv_get hv (k := 155) (j := y3.toNat) (l := 0) (u := 39) rfl
  have h192_ : a 155 (y3.toNat) = a0 155 (y3.toNat) := hf 155 (y3.toNat) rfl
  have h193_ := iv_get hv0 (k := 155) (j := y3.toNat) (l := 0) (u := 39) rfl
  refine jt_grd (by omega) ?_
  refine jt_grd (by omega) ?_
  have hv194_ : iv (jxu a 153 ((a 155 (y3.toNat)).toNat) (jxw ((a 153 ((a 155 (y3.toNat)).toNat)) + 1))) := iv_putf hv rfl
  have hf195_ : jfr jW_X12_drops a0 (jxu a 153 ((a 155 (y3.toNat)).toNat) (jxw ((a 153 ((a 155 (y3.toNat)).toNat)) + 1))) := jfr_put hf rfl
  have hg196_ : OC (jxu a 153 ((a 155 (y3.toNat)).toNat) (jxw ((a 153 ((a 155 (y3.toNat)).toNat)) + 1))) := (OC_fr hi3 (jfr_1 a 153 ((a 155 (y3.toNat)).toNat) (jxw ((a 153 ((a 155 (y3.toNat)).toNat)) + 1))) rfl rfl (fun _ => rfl) (fun _ => rfl) (fun _ => rfl) (fun _ => rfl) (fun _ => rfl))
  exact cp_X12_drops_68 E d hd x1 x2 a0 b0 hv0 hp0 hp1 hp2 hp3 hp4 (jxu a 153 ((a 155 (y3.toNat)).toNat) (jxw ((a 153 ((a 155 (y3.toNat)).toNat)) + 1))) hv194_ hf195_ hg196_
theorem cp_X12_drops_29 (E : jxE) (d : Nat) (hd : Nat.ble 4 (d + 1) = true) (x1 x2 : Int) (a0 b0 : Nat → Nat → Int) (hv0 : iv a0) (hp0 : (0 ≤ x2 ∧ x2 ≤ 19)) (hp1 : x2 < a0 146 49) (hp2 : a0 181 (x2.toNat) = 1) (hp3 : x1 = a0 182 (x2.toNat)) (hp4 : OC a0) : ∀ (y3 : Int) (a : Nat → Nat → Int), iv a → jfr jW_X12_drops a0 a → 0 - 1 ≤ y3 → y3 ≤ 299 → 0 ≤ y3 → (OC a) → jt (jxX E d 277 29 [some (.inr (.inr (.inl 146))), none, none, some (.inl y3)] [] (jxSH, a, b0)) (jQ_X12_drops x1 x2 a0 b0) := by
  intro y3 a hv hf hi0 hi1 hi2 hi3
  refine jt_eq (bq_X12_drops_29 E d y3 a b0) ?_
  refine jt_grd (by omega) ?_
  refine jt_grd (by omega) ?_
  have h197_ := iv_get hv (k := 155) (j := y3.toNat) (l := 0) (u := 39) rfl
  have h198_ : a 155 (y3.toNat) = a0 155 (y3.toNat) := hf 155 (y3.toNat) rfl
  have h199_ := iv_get hv0 (k := 155) (j := y3.toNat) (l := 0) (u := 39) rfl
  refine jt_grd (by omega) ?_
  have h200_ := iv_get hv (k := 152) (j := (a 155 (y3.toNat)).toNat) (l := 0) (u := 1) rfl
  have h201_ : a 152 ((a 155 (y3.toNat)).toNat) = a0 152 ((a 155 (y3.toNat)).toNat) := hf 152 ((a 155 (y3.toNat)).toNat) rfl
  have h202_ := iv_get hv0 (k := 152) (j := (a 155 (y3.toNat)).toNat) (l := 0) (u := 1) rfl
  refine jt_ite (fun c203_ => ?_) (fun c203_ => ?_)
  ·
    have hv204_ : iv (jxu a 159 (y3.toNat) (a 146 0)) := iv_putf hv rfl
    have hf205_ : jfr jW_X12_drops a0 (jxu a 159 (y3.toNat) (a 146 0)) := jfr_put hf rfl
    have hg206_ : OC (jxu a 159 (y3.toNat) (a 146 0)) := (OC_fr hi3 (jfr_1 a 159 (y3.toNat) (a 146 0)) rfl rfl (fun _ => rfl) (fun _ => rfl) (fun _ => rfl) (fun _ => rfl) (fun _ => rfl))
    exact cp_X12_drops_68 E d hd x1 x2 a0 b0 hv0 hp0 hp1 hp2 hp3 hp4 (jxu a 159 (y3.toNat) (a 146 0)) hv204_ hf205_ hg206_
  ·
    have hv207_ : iv (jxu a 159 (y3.toNat) (a 146 0)) := iv_putf hv rfl
    have hf208_ : jfr jW_X12_drops a0 (jxu a 159 (y3.toNat) (a 146 0)) := jfr_put hf rfl
    have hg209_ : OC (jxu a 159 (y3.toNat) (a 146 0)) := (OC_fr hi3 (jfr_1 a 159 (y3.toNat) (a 146 0)) rfl rfl (fun _ => rfl) (fun _ => rfl) (fun _ => rfl) (fun _ => rfl) (fun _ => rfl))
    exact cp_X12_drops_53 E d hd x1 x2 a0 b0 hv0 hp0 hp1 hp2 hp3 hp4 y3 (jxu a 159 (y3.toNat) (a 146 0)) hv207_ hf208_ (show 0 ≤ y3 from by omega) (show y3 ≤ 299 from by omega) (show 0 ≤ y3 from by omega) hg209_
theorem sp_X12_drops (E : jxE) (d : Nat) (hd : Nat.ble 4 d = true) (x1 x2 : Int) (a0 b0 : Nat → Nat → Int) (hv0 : iv a0) (hp0 : (0 ≤ x2 ∧ x2 ≤ 19)) (hp1 : x2 < a0 146 49) (hp2 : a0 181 (x2.toNat) = 1) (hp3 : x1 = a0 182 (x2.toNat)) (hp4 : OC a0) : jt (jxC E d 277 [.inr (.inr (.inl 146)), .inl x1, .inl x2] (jxSH, a0, b0)) (jQ_X12_drops x1 x2 a0 b0) := by
  obtain ⟨d, rfl⟩ := jd_succ hd
  refine jt_eq (bq_X12_drops E d x1 x2 a0 b0) ?_
  have h210_ := iv_get hv0 (k := 146) (j := 49) (l := 0) (u := 20) rfl
  have h211_ := iv_get hv0 (k := 181) (j := x2.toNat) (l := 0) (u := 2) rfl
  obtain ⟨oc, hoc1, hoc2, hoc3⟩ := hp4.1 x2.toNat (by omega) (by omega)
  refine jt_grd (by omega) ?_
  refine jt_bI (sp_X12_cardOf E d (jd_le hd rfl) x1 (a0 178 (x2.toNat)) a0 b0 hv0) (fun r212_ a212_ b212_ h212_ => ?_)
  obtain ⟨rfl, rfl, hq212_0, hq212_1, hq212_2, hq212_3⟩ := h212_
  have h213_ := iv_get hv0 (k := 146) (j := 9) (l := 0) (u := 300) rfl
  have hr212_ : 0 ≤ r212_ := hq212_3 ⟨oc, hoc1, (by omega), (by omega)⟩
  refine jt_grd (by omega) ?_
  have hv214_ : iv (jxu a0 181 (x2.toNat) 2) := iv_put hv0 (l := 0) (u := 2) rfl (by omega) (by omega)
  refine jt_bI (sp_X12_stateNow E d (jd_le hd rfl) r212_ (jxu a0 181 (x2.toNat) 2) b0 hv214_ (show (0 ≤ r212_ ∧ r212_ ≤ 299) from by omega)) (fun r215_ a215_ b215_ h215_ => ?_)
  obtain ⟨he215_, rfl, hq215_0, hq215_1⟩ := h215_
  have hv215_ : iv a215_ := he215_ ▸ hv214_
  have hf215_ : jfr [] (jxu a0 181 (x2.toNat) 2) a215_ := jfr_eq he215_
  have h216_ : 0 ≤ r215_ := hq215_0
  have h217_ : r215_ ≤ 4 := hq215_1
  refine jt_ite (fun c218_ => ?_) (fun c218_ => ?_)
  ·
    have hf219_ : jfr jW_X12_drops a0 (jxu a0 181 (x2.toNat) 2) := jfr_put (jfr_rf _ _) rfl
    have hf220_ : jfr jW_X12_drops a0 a215_ := jfr_tr hf219_ hf215_ rfl
    have hg221_ : OC (jxu a0 181 (x2.toNat) 2) := (OC_put2 hp4 (by decide) (by omega))
    exact cp_X12_drops_29 E d hd x1 x2 a0 b0 hv0 hp0 hp1 hp2 hp3 hp4 r212_ a215_ hv215_ hf220_ (show 0 - 1 ≤ r212_ from by omega) (show r212_ ≤ 299 from by omega) (show 0 ≤ r212_ from by omega) (OC_fr hg221_ hf215_ rfl rfl (fun _ => rfl) (fun _ => rfl) (fun _ => rfl) (fun _ => rfl) (fun _ => rfl))
  ·
    have hf222_ : jfr jW_X12_drops a0 (jxu a0 181 (x2.toNat) 2) := jfr_put (jfr_rf _ _) rfl
    have hf223_ : jfr jW_X12_drops a0 a215_ := jfr_tr hf222_ hf215_ rfl
    have hg224_ : OC (jxu a0 181 (x2.toNat) 2) := (OC_put2 hp4 (by decide) (by omega))
    exact cp_X12_drops_27 E d hd x1 x2 a0 b0 hv0 hp0 hp1 hp2 hp3 hp4 a215_ hv215_ hf223_ (OC_fr hg224_ hf215_ rfl rfl (fun _ => rfl) (fun _ => rfl) (fun _ => rfl) (fun _ => rfl) (fun _ => rfl))
def jW_X12_drop : List (Nat × Nat) := [(153, 9999), (159, 9999), (181, 9999)]
abbrev jQ_X12_drop (x1 x2 : Int) (a0 b0 : Nat → Nat → Int) : List jxV → (Nat → Nat → Int) → (Nat → Nat → Int) → Prop := rI (fun r a b => (iv a) ∧ (jfr jW_X12_drop a0 a) ∧ (b0 = b) ∧ (OC a) ∧ ((a0 146 55 = 0 → r = 0 - 1)))
theorem cp_X12_drop_31 (E : jxE) (d : Nat) (hd : Nat.ble 5 (d + 1) = true) (x1 x2 : Int) (a0 b0 : Nat → Nat → Int) (hv0 : iv a0) (hp0 : OC a0) : ∀ (y1 y3 : Int) (a : Nat → Nat → Int), iv a → jfr jW_X12_drop a0 a → 0 ≤ y1 → 0 - 1 ≤ y3 → y3 ≤ 19 → (0 ≤ y3 → (a 181 (y3.toNat) = 1 ∧ a 182 (y3.toNat) = y1)) → y3 < a 146 49 → ¬ a0 146 55 = 0 → (OC a) → jt (jxX E d 278 31 [some (.inr (.inr (.inl 146))), some (.inl y1), none, some (.inl y3)] [] (jxSH, a, b0)) (jQ_X12_drop x1 x2 a0 b0) := by
  intro y1 y3 a hv hf hi0 hi1 hi2 hi3 hi4 hi5 hi6
  refine jt_eq (bq_X12_drop_31 E d y1 y3 a b0) ?_
  have h225_ := iv_get hv (k := 181) (j := y3.toNat) (l := 0) (u := 2) rfl
  have h226_ : a 182 (y3.toNat) = a0 182 (y3.toNat) := hf 182 (y3.toNat) rfl
  have h227_ := iv_get hv (k := 146) (j := 49) (l := 0) (u := 20) rfl
  have h228_ : a 146 49 = a0 146 49 := hf 146 49 rfl
  have h229_ := iv_get hv0 (k := 146) (j := 49) (l := 0) (u := 20) rfl
  refine jt_ite (fun c230_ => ?_) (fun c230_ => ?_)
  ·
    exact jt_rI ⟨hv, hf, rfl, hi6, (show (a0 146 55 = 0 → (-1) = 0 - 1) from by omega)⟩
  ·
    refine jt_bI (sp_X12_drops E d (jd_le hd rfl) y1 y3 a b0 hv (show (0 ≤ y3 ∧ y3 ≤ 19) from by omega) (show y3 < a 146 49 from by omega) (show a 181 (y3.toNat) = 1 from by omega) (show y1 = a 182 (y3.toNat) from by omega) hi6) (fun r231_ a231_ b231_ h231_ => ?_)
    obtain ⟨hv231_, hf231_, rfl, hq231_0, hq231_1⟩ := h231_
    have hf232_ : jfr jW_X12_drop a0 a231_ := jfr_tr hf hf231_ rfl
    exact jt_rI ⟨hv231_, hf232_, rfl, hq231_1, (show (a0 146 55 = 0 → r231_ = 0 - 1) from by omega)⟩
theorem sp_X12_drop (E : jxE) (d : Nat) (hd : Nat.ble 5 d = true) (x1 x2 : Int) (a0 b0 : Nat → Nat → Int) (hv0 : iv a0) (hp0 : OC a0) : jt (jxC E d 278 [.inr (.inr (.inl 146)), .inl x1, .inl x2] (jxSH, a0, b0)) (jQ_X12_drop x1 x2 a0 b0) := by
  obtain ⟨d, rfl⟩ := jd_succ hd
  refine jt_eq (bq_X12_drop E d x1 x2 a0 b0) ?_
  refine jt_eI (eq_X12_in E d (jd_le hd rfl) x1 0 (jxw ((a0 146 55) - 1)) a0 b0) ?_
  have h233_ := jxw_im ((a0 146 55) - 1)
  have h234_ := jxw_rg ((a0 146 55) - 1)
  have h235_ := f_X12_in_eq a0 b0 x1 0 (jxw ((a0 146 55) - 1))
  refine jt_ite (fun c236_ => ?_) (fun c236_ => ?_)
  ·
    exact jt_rI ⟨hv0, (jfr_rf _ _), rfl, hp0, (show (a0 146 55 = 0 → (-1) = 0 - 1) from by omega)⟩
  ·
    refine jt_eI (eq_X12_isMember E d (jd_le hd rfl) x2 a0 b0) ?_
    have h237_ := f_X12_isMember_eq a0 b0 x2
    have h238_ := iv_get hv0 (k := 146) (j := 2) (l := 0) (u := 40) rfl
    have h239_ : jxw ((a0 146 2) - 1) = (a0 146 2) - 1 := jxw_id (by omega) (by omega)
    have h240_ := f_X12_in_eq a0 b0 x2 0 (jxw ((a0 146 2) - 1))
    refine jt_ite (fun c241_ => ?_) (fun c241_ => ?_)
    ·
      exact jt_rI ⟨hv0, (jfr_rf _ _), rfl, hp0, (show (a0 146 55 = 0 → (-1) = 0 - 1) from by omega)⟩
    ·
      refine jt_bI (sp_X12_offerIn E d (jd_le hd rfl) x1 x2 a0 b0 hv0) (fun r242_ a242_ b242_ h242_ => ?_)
      obtain ⟨rfl, rfl, hq242_0, hq242_1, hq242_2, hq242_3⟩ := h242_
      have h243_ := iv_get hv0 (k := 146) (j := 49) (l := 0) (u := 20) rfl
      have h244_ := iv_get hv0 (k := 181) (j := r242_.toNat) (l := 0) (u := 2) rfl
      exact cp_X12_drop_31 E d hd x1 x2 a0 b0 hv0 hp0 x1 r242_ a0 hv0 (jfr_rf _ _) (show 0 ≤ x1 from by omega) (show 0 - 1 ≤ r242_ from by omega) (show r242_ ≤ 19 from by omega) (show (0 ≤ r242_ → (a0 181 (r242_.toNat) = 1 ∧ a0 182 (r242_.toNat) = x1)) from by omega) (show r242_ < a0 146 49 from by omega) (show ¬ a0 146 55 = 0 from by omega) hp0
abbrev jQ_X12_leastOf (x0 : Int) (a0 b0 : Nat → Nat → Int) : List jxV → (Nat → Nat → Int) → (Nat → Nat → Int) → Prop := rI (fun r a b => (a0 = a) ∧ (b0 = b) ∧ (0 ≤ r) ∧ (r ≤ 11) ∧ (¬ jxand (jxshr x0 r) 1 = 0))
theorem cp_X12_leastOf_2 (E : jxE) (d : Nat) (hd : Nat.ble 1 (d + 1) = true) (x0 : Int) (a0 b0 : Nat → Nat → Int) (hv0 : iv a0) (hp0 : 1 ≤ x0) (hp1 : x0 ≤ 4095) : ∀ n : Nat, (∀ (y0 y1 : Int), (((11 - y1) * 1) + 0).toNat ≤ n → 1 ≤ y0 → y0 ≤ 4095 → (y0 = x0) → 0 ≤ y1 → y1 ≤ 11 → (¬ jxshr x0 y1 = 0) → jt (jxX E d 269 2 [some (.inl y0), some (.inl y1)] [] (jxSH, a0, b0)) (jQ_X12_leastOf x0 a0 b0)) := by
  refine jx_ind fun n ih => ?_
  have ih2 : ∀ (y0 y1 : Int), (((11 - y1) * 1) + 0).toNat < n → 1 ≤ y0 → y0 ≤ 4095 → (y0 = x0) → 0 ≤ y1 → y1 ≤ 11 → (¬ jxshr x0 y1 = 0) → jt (jxX E d 269 2 [some (.inl y0), some (.inl y1)] [] (jxSH, a0, b0)) (jQ_X12_leastOf x0 a0 b0) := fun y0 y1 hlt i0 i1 i2 i3 i4 i5 => (ih _ hlt) y0 y1 (Nat.le_refl _) i0 i1 i2 i3 i4 i5
  have hc2 : ∀ (y0 y1 : Int), (((11 - y1) * 1) + 0).toNat ≤ n → 1 ≤ y0 → y0 ≤ 4095 → (y0 = x0) → 0 ≤ y1 → y1 ≤ 11 → (¬ jxshr x0 y1 = 0) → jt (jxX E d 269 2 [some (.inl y0), some (.inl y1)] [] (jxSH, a0, b0)) (jQ_X12_leastOf x0 a0 b0) := by
    intro y0 y1 hm hi0 hi1 hy0 hi3 hi4 hi5
    refine jt_eq (bq_X12_leastOf_2 E d y0 y1 a0 b0) ?_
    have hls : jxand (jxshr y0 y1) 1 = 0 → y1 + 1 ≤ 11 ∧ ¬ jxshr x0 (y1 + 1) = 0 := fun h => by rw [hy0] at h; exact least_step (by omega) (by omega) (by omega) (by omega) (by assumption) h
    have h245_ := jxshr_b y0 y1
    have h246_ := jxand_r (jxshr y0 y1) 1 (by decide) (by decide)
    refine jt_ite (fun c247_ => ?_) (fun c247_ => ?_)
    ·
      have h248_ : jxw (y1 + 1) = y1 + 1 := jxw_id (by omega) (by omega)
      exact ih2 y0 (jxw (y1 + 1)) (show (((11 - (jxw (y1 + 1))) * 1) + 0).toNat < n from by omega) (show 1 ≤ y0 from by omega) (show y0 ≤ 4095 from by omega) (by first | rfl | assumption) (show 0 ≤ jxw (y1 + 1) from by omega) (show jxw (y1 + 1) ≤ 11 from by omega) (by first | exact least0 hp0 hp1 | (rw [jxw_id (by omega) (by omega)]; exact (hls (by assumption)).2))
    ·
      exact jt_rI ⟨rfl, rfl, (show 0 ≤ y1 from by omega), (show y1 ≤ 11 from by omega), (by rw [← hy0]; assumption)⟩
  exact hc2
theorem sp_X12_leastOf (E : jxE) (d : Nat) (hd : Nat.ble 1 d = true) (x0 : Int) (a0 b0 : Nat → Nat → Int) (hv0 : iv a0) (hp0 : 1 ≤ x0) (hp1 : x0 ≤ 4095) : jt (jxC E d 269 [.inl x0] (jxSH, a0, b0)) (jQ_X12_leastOf x0 a0 b0) := by
  obtain ⟨d, rfl⟩ := jd_succ hd
  refine jt_eq (bq_X12_leastOf E d x0 a0 b0) ?_
  exact (cp_X12_leastOf_2 E d hd x0 a0 b0 hv0 hp0 hp1 _) x0 0 (Nat.le_refl _) (show 1 ≤ x0 from by omega) (show x0 ≤ 4095 from by omega) (by first | rfl | assumption) (show 0 ≤ 0 from by omega) (show 0 ≤ 11 from by omega) (by first | exact least0 hp0 hp1 | (rw [jxw_id (by omega) (by omega)]; exact (hls (by assumption)).2))
def jW_X12_weighs : List (Nat × Nat) := [(146, 44), (170, 9999), (174, 9999)]
abbrev jQ_X12_weighs (a0 b0 : Nat → Nat → Int) : List jxV → (Nat → Nat → Int) → (Nat → Nat → Int) → Prop := rV (fun a b => (iv a) ∧ (jfr jW_X12_weighs a0 a) ∧ (a 146 44 ≤ a 146 42))
theorem cp_X12_weighs_64 (E : jxE) (d : Nat) (hd : Nat.ble 8 (d + 1) = true) (a0 b0 : Nat → Nat → Int) (hv0 : iv a0) (hp0 : WFW a0) (hp1 : WISHR a0) : ∀ n : Nat, (∀ (y1 y2 : Int) (a b : Nat → Nat → Int), (((((8 - y1) * 43) + 0) + ((40 - y2) * 1)) + 0).toNat ≤ n → iv a → jfr jW_X12_weighs a0 a → 0 ≤ y1 → y1 ≤ 7 → 0 ≤ y2 → y2 ≤ 39 → 1 ≤ a 146 2 → 1 ≤ a 146 44 → a 146 44 ≤ a 146 42 → jt (jxX E d 254 142 [some (.inr (.inr (.inl 146))), some (.inl y1), some (.inl y2), none] [] (jxSH, a, b)) (jQ_X12_weighs a0 b0)) ∧ (∀ (y1 y2 : Int) (a b : Nat → Nat → Int), (((((8 - y1) * 43) + 0) + ((40 - y2) * 1)) + 0).toNat ≤ n → iv a → jfr jW_X12_weighs a0 a → 0 ≤ y1 → y1 ≤ 7 → 0 ≤ y2 → y2 ≤ 40 → 1 ≤ a 146 44 → a 146 44 ≤ a 146 42 → jt (jxX E d 254 74 [some (.inr (.inr (.inl 146))), some (.inl y1), some (.inl y2), none] [] (jxSH, a, b)) (jQ_X12_weighs a0 b0)) ∧ (∀ (y1 : Int) (a b : Nat → Nat → Int), (((8 - y1) * 43) + 42).toNat ≤ n → iv a → jfr jW_X12_weighs a0 a → 0 ≤ y1 → y1 ≤ 8 → a 146 44 ≤ a 146 42 → jt (jxX E d 254 64 [some (.inr (.inr (.inl 146))), some (.inl y1), none, none] [] (jxSH, a, b)) (jQ_X12_weighs a0 b0)) := by
  refine jx_ind fun n ih => ?_
  have ih142 : ∀ (y1 y2 : Int) (a b : Nat → Nat → Int), (((((8 - y1) * 43) + 0) + ((40 - y2) * 1)) + 0).toNat < n → iv a → jfr jW_X12_weighs a0 a → 0 ≤ y1 → y1 ≤ 7 → 0 ≤ y2 → y2 ≤ 39 → 1 ≤ a 146 2 → 1 ≤ a 146 44 → a 146 44 ≤ a 146 42 → jt (jxX E d 254 142 [some (.inr (.inr (.inl 146))), some (.inl y1), some (.inl y2), none] [] (jxSH, a, b)) (jQ_X12_weighs a0 b0) := fun y1 y2 a b hlt i0 i1 i2 i3 i4 i5 i6 i7 i8 => (ih _ hlt).1 y1 y2 a b (Nat.le_refl _) i0 i1 i2 i3 i4 i5 i6 i7 i8
  have ih74 : ∀ (y1 y2 : Int) (a b : Nat → Nat → Int), (((((8 - y1) * 43) + 0) + ((40 - y2) * 1)) + 0).toNat < n → iv a → jfr jW_X12_weighs a0 a → 0 ≤ y1 → y1 ≤ 7 → 0 ≤ y2 → y2 ≤ 40 → 1 ≤ a 146 44 → a 146 44 ≤ a 146 42 → jt (jxX E d 254 74 [some (.inr (.inr (.inl 146))), some (.inl y1), some (.inl y2), none] [] (jxSH, a, b)) (jQ_X12_weighs a0 b0) := fun y1 y2 a b hlt i0 i1 i2 i3 i4 i5 i6 i7 => (ih _ hlt).2.1 y1 y2 a b (Nat.le_refl _) i0 i1 i2 i3 i4 i5 i6 i7
  have ih64 : ∀ (y1 : Int) (a b : Nat → Nat → Int), (((8 - y1) * 43) + 42).toNat < n → iv a → jfr jW_X12_weighs a0 a → 0 ≤ y1 → y1 ≤ 8 → a 146 44 ≤ a 146 42 → jt (jxX E d 254 64 [some (.inr (.inr (.inl 146))), some (.inl y1), none, none] [] (jxSH, a, b)) (jQ_X12_weighs a0 b0) := fun y1 a b hlt i0 i1 i2 i3 i4 => (ih _ hlt).2.2 y1 a b (Nat.le_refl _) i0 i1 i2 i3 i4
  have hc142 : ∀ (y1 y2 : Int) (a b : Nat → Nat → Int), (((((8 - y1) * 43) + 0) + ((40 - y2) * 1)) + 0).toNat ≤ n → iv a → jfr jW_X12_weighs a0 a → 0 ≤ y1 → y1 ≤ 7 → 0 ≤ y2 → y2 ≤ 39 → 1 ≤ a 146 2 → 1 ≤ a 146 44 → a 146 44 ≤ a 146 42 → jt (jxX E d 254 142 [some (.inr (.inr (.inl 146))), some (.inl y1), some (.inl y2), none] [] (jxSH, a, b)) (jQ_X12_weighs a0 b0) := by
    intro y1 y2 a b hm hv hf hi0 hi1 hi2 hi3 hi4 hi5 hi6
    refine jt_eq (bq_X12_weighs_142 E d y1 y2 a b) ?_
    have h249_ := iv_get hv (k := 146) (j := 2) (l := 0) (u := 40) rfl
    have h250_ : a 146 2 = a0 146 2 := hf 146 2 rfl
    have h251_ := iv_get hv0 (k := 146) (j := 2) (l := 0) (u := 40) rfl
    have h252_ := iv_get hv (k := 146) (j := 44) (l := 0) (u := 8) rfl
    have h253_ := iv_get hv (k := 146) (j := 42) (l := 0) (u := 8) rfl
    have h254_ : a 146 42 = a0 146 42 := hf 146 42 rfl
    have h255_ := iv_get hv0 (k := 146) (j := 42) (l := 0) (u := 8) rfl
    have h256_ : jxw (y2 + 1) = y2 + 1 := jxw_id (by omega) (by omega)
    exact ih74 y1 (jxw (y2 + 1)) a b (show (((((8 - y1) * 43) + 0) + ((40 - (jxw (y2 + 1))) * 1)) + 0).toNat < n from by omega) hv hf (show 0 ≤ y1 from by omega) (show y1 ≤ 7 from by omega) (show 0 ≤ jxw (y2 + 1) from by omega) (show jxw (y2 + 1) ≤ 40 from by omega) (show 1 ≤ a 146 44 from by omega) (show a 146 44 ≤ a 146 42 from by omega)
  have hc74 : ∀ (y1 y2 : Int) (a b : Nat → Nat → Int), (((((8 - y1) * 43) + 0) + ((40 - y2) * 1)) + 0).toNat ≤ n → iv a → jfr jW_X12_weighs a0 a → 0 ≤ y1 → y1 ≤ 7 → 0 ≤ y2 → y2 ≤ 40 → 1 ≤ a 146 44 → a 146 44 ≤ a 146 42 → jt (jxX E d 254 74 [some (.inr (.inr (.inl 146))), some (.inl y1), some (.inl y2), none] [] (jxSH, a, b)) (jQ_X12_weighs a0 b0) := by
    intro y1 y2 a b hm hv hf hi0 hi1 hi2 hi3 hi4 hi5
    refine jt_eq (bq_X12_weighs_74 E d y1 y2 a b) ?_
    have h257_ := iv_get hv (k := 146) (j := 44) (l := 0) (u := 8) rfl
    have h258_ := iv_get hv (k := 146) (j := 42) (l := 0) (u := 8) rfl
    have h259_ : a 146 42 = a0 146 42 := hf 146 42 rfl
    have h260_ := iv_get hv0 (k := 146) (j := 42) (l := 0) (u := 8) rfl
    have h261_ := iv_get hv (k := 146) (j := 2) (l := 0) (u := 40) rfl
    have h262_ : a 146 2 = a0 146 2 := hf 146 2 rfl
    have h263_ := iv_get hv0 (k := 146) (j := 2) (l := 0) (u := 40) rfl
    refine jt_ite (fun c264_ => ?_) (fun c264_ => ?_)
    ·
      refine jt_grd (by omega) ?_
      have h265_ := iv_get hv (k := 174) (j := y1.toNat) (l := 0) (u := 39) rfl
      refine jt_bI (sp_X12_mayGet E d (jd_le hd rfl) (a 174 (y1.toNat)) y2 a b hv (show (0 ≤ a 174 (y1.toNat) ∧ a 174 (y1.toNat) ≤ 39) from by omega) (show (0 ≤ y2 ∧ y2 ≤ 39) from by omega) (WFW_fr hp0 hf (fun _ => rfl) (fun _ => rfl)) (WISHR_fr hp1 hf (fun _ => rfl) (fun _ => rfl) (fun _ => rfl) (fun _ => rfl))) (fun r266_ a266_ b266_ h266_ => ?_)
      obtain ⟨hv266_, hf266_, rfl, hq266_0⟩ := h266_
      refine jt_ite (fun c267_ => ?_) (fun c267_ => ?_)
      ·
        have h268_ : jxw (40 * y1) = 40 * y1 := jxw_id (by omega) (by omega)
        have h269_ : jxw ((jxw (40 * y1)) + y2) = (jxw (40 * y1)) + y2 := jxw_id (by omega) (by omega)
        refine jt_grd (by omega) ?_
        have hf270_ : jfr jW_X12_weighs a0 a266_ := jfr_tr hf hf266_ rfl
        have h271_ := iv_get hv266_ (k := 146) (j := 2) (l := 0) (u := 40) rfl
        have h272_ : a266_ 146 2 = a 146 2 := hf266_ 146 2 rfl
        have h273_ := iv_get hv266_ (k := 146) (j := 44) (l := 0) (u := 8) rfl
        have h274_ : a266_ 146 44 = a 146 44 := hf266_ 146 44 rfl
        have h275_ := iv_get hv266_ (k := 146) (j := 42) (l := 0) (u := 8) rfl
        have h276_ : a266_ 146 42 = a 146 42 := hf266_ 146 42 rfl
        exact hc142 y1 y2 a266_ (jxu b 175 ((jxw ((jxw (40 * y1)) + y2)).toNat) (-4000000000000000000)) (show (((((8 - y1) * 43) + 0) + ((40 - y2) * 1)) + 0).toNat ≤ n from by omega) hv266_ hf270_ (show 0 ≤ y1 from by omega) (show y1 ≤ 7 from by omega) (show 0 ≤ y2 from by omega) (show y2 ≤ 39 from by omega) (show 1 ≤ a266_ 146 2 from by omega) (show 1 ≤ a266_ 146 44 from by omega) (show a266_ 146 44 ≤ a266_ 146 42 from by omega)
      ·
        refine jt_grd (by omega) ?_
        have h277_ := iv_get hv266_ (k := 174) (j := y1.toNat) (l := 0) (u := 39) rfl
        have h278_ : a266_ 174 (y1.toNat) = a 174 (y1.toNat) := hf266_ 174 (y1.toNat) rfl
        refine jt_bI (sp_X12_unhappy E d (jd_le hd rfl) (a266_ 174 (y1.toNat)) y2 a266_ b hv266_ (show (0 ≤ a266_ 174 (y1.toNat) ∧ a266_ 174 (y1.toNat) ≤ 39) from by omega) (show (0 ≤ y2 ∧ y2 ≤ 39) from by omega) (WFW_fr (WFW_fr hp0 hf (fun _ => rfl) (fun _ => rfl)) hf266_ (fun _ => rfl) (fun _ => rfl)) (WISHR_fr (WISHR_fr hp1 hf (fun _ => rfl) (fun _ => rfl) (fun _ => rfl) (fun _ => rfl)) hf266_ (fun _ => rfl) (fun _ => rfl) (fun _ => rfl) (fun _ => rfl))) (fun r279_ a279_ b279_ h279_ => ?_)
        obtain ⟨hv279_, hf279_, rfl, hq279_0, hq279_1⟩ := h279_
        refine jt_bI (sp_X12_owed E d (jd_le hd rfl) y2 a279_ b hv279_ (show (0 ≤ y2 ∧ y2 ≤ 39) from by omega)) (fun r280_ a280_ b280_ h280_ => ?_)
        obtain ⟨rfl, rfl⟩ := h280_
        have h281_ : jxw (40 * y1) = 40 * y1 := jxw_id (by omega) (by omega)
        have h282_ : jxw ((jxw (40 * y1)) + y2) = (jxw (40 * y1)) + y2 := jxw_id (by omega) (by omega)
        refine jt_grd (by omega) ?_
        have hf283_ : jfr jW_X12_weighs a0 a266_ := jfr_tr hf hf266_ rfl
        have hf284_ : jfr jW_X12_weighs a0 a279_ := jfr_tr hf283_ hf279_ rfl
        have h285_ := iv_get hv279_ (k := 146) (j := 2) (l := 0) (u := 40) rfl
        have h286_ : a279_ 146 2 = a266_ 146 2 := hf279_ 146 2 rfl
        have h287_ := iv_get hv266_ (k := 146) (j := 2) (l := 0) (u := 40) rfl
        have h288_ : a266_ 146 2 = a 146 2 := hf266_ 146 2 rfl
        have h289_ := iv_get hv279_ (k := 146) (j := 44) (l := 0) (u := 8) rfl
        have h290_ : a279_ 146 44 = a266_ 146 44 := hf279_ 146 44 rfl
        have h291_ := iv_get hv266_ (k := 146) (j := 44) (l := 0) (u := 8) rfl
        have h292_ : a266_ 146 44 = a 146 44 := hf266_ 146 44 rfl
        have h293_ := iv_get hv279_ (k := 146) (j := 42) (l := 0) (u := 8) rfl
        have h294_ : a279_ 146 42 = a266_ 146 42 := hf279_ 146 42 rfl
        have h295_ := iv_get hv266_ (k := 146) (j := 42) (l := 0) (u := 8) rfl
        have h296_ : a266_ 146 42 = a 146 42 := hf266_ 146 42 rfl
        exact hc142 y1 y2 a279_ (jxu b 175 ((jxw ((jxw (40 * y1)) + y2)).toNat) (jxwl ((jxwl (1000000000 - (jxwl (1000000 * r279_)))) + r280_))) (show (((((8 - y1) * 43) + 0) + ((40 - y2) * 1)) + 0).toNat ≤ n from by omega) hv279_ hf284_ (show 0 ≤ y1 from by omega) (show y1 ≤ 7 from by omega) (show 0 ≤ y2 from by omega) (show y2 ≤ 39 from by omega) (show 1 ≤ a279_ 146 2 from by omega) (show 1 ≤ a279_ 146 44 from by omega) (show a279_ 146 44 ≤ a279_ 146 42 from by omega)
    ·
      have h297_ : jxw (y1 + 1) = y1 + 1 := jxw_id (by omega) (by omega)
      exact ih64 (jxw (y1 + 1)) a b (show (((8 - (jxw (y1 + 1))) * 43) + 42).toNat < n from by omega) hv hf (show 0 ≤ jxw (y1 + 1) from by omega) (show jxw (y1 + 1) ≤ 8 from by omega) (show a 146 44 ≤ a 146 42 from by omega)
  have hc64 : ∀ (y1 : Int) (a b : Nat → Nat → Int), (((8 - y1) * 43) + 42).toNat ≤ n → iv a → jfr jW_X12_weighs a0 a → 0 ≤ y1 → y1 ≤ 8 → a 146 44 ≤ a 146 42 → jt (jxX E d 254 64 [some (.inr (.inr (.inl 146))), some (.inl y1), none, none] [] (jxSH, a, b)) (jQ_X12_weighs a0 b0) := by
    intro y1 a b hm hv hf hi0 hi1 hi2
    refine jt_eq (bq_X12_weighs_64 E d y1 a b) ?_
    have h298_ := iv_get hv (k := 146) (j := 44) (l := 0) (u := 8) rfl
    have h299_ := iv_get hv (k := 146) (j := 42) (l := 0) (u := 8) rfl
    have h300_ : a 146 42 = a0 146 42 := hf 146 42 rfl
    have h301_ := iv_get hv0 (k := 146) (j := 42) (l := 0) (u := 8) rfl
    refine jt_ite (fun c302_ => ?_) (fun c302_ => ?_)
    ·
      exact hc74 y1 0 a b (show (((((8 - y1) * 43) + 0) + ((40 - 0) * 1)) + 0).toNat ≤ n from by omega) hv hf (show 0 ≤ y1 from by omega) (show y1 ≤ 7 from by omega) (show 0 ≤ 0 from by omega) (show 0 ≤ 40 from by omega) (show 1 ≤ a 146 44 from by omega) (show a 146 44 ≤ a 146 42 from by omega)
    ·
      exact jt_rV ⟨hv, hf, (show a 146 44 ≤ a 146 42 from by omega)⟩
  exact ⟨hc142, hc74, hc64⟩
theorem cp_X12_weighs_7 (E : jxE) (d : Nat) (hd : Nat.ble 8 (d + 1) = true) (a0 b0 : Nat → Nat → Int) (hv0 : iv a0) (hp0 : WFW a0) (hp1 : WISHR a0) : ∀ n : Nat, (∀ (y1 : Int) (a b : Nat → Nat → Int), (((8 - y1) * 1) + 0).toNat ≤ n → iv a → jfr jW_X12_weighs a0 a → 0 ≤ y1 → y1 ≤ 7 → 1 ≤ a 146 42 → a 146 44 ≤ 7 → a 146 44 ≤ y1 → y1 < a 146 42 → a 146 44 ≤ a 146 42 → jt (jxX E d 254 46 [some (.inr (.inr (.inl 146))), some (.inl y1), none, none] [] (jxSH, a, b)) (jQ_X12_weighs a0 b0)) ∧ (∀ (y1 : Int) (a b : Nat → Nat → Int), (((8 - y1) * 1) + 0).toNat ≤ n → iv a → jfr jW_X12_weighs a0 a → 0 ≤ y1 → y1 ≤ 8 → a 146 44 ≤ y1 → a 146 44 ≤ a 146 42 → jt (jxX E d 254 7 [some (.inr (.inr (.inl 146))), some (.inl y1), none, none] [] (jxSH, a, b)) (jQ_X12_weighs a0 b0)) := by
  refine jx_ind fun n ih => ?_
  have ih46 : ∀ (y1 : Int) (a b : Nat → Nat → Int), (((8 - y1) * 1) + 0).toNat < n → iv a → jfr jW_X12_weighs a0 a → 0 ≤ y1 → y1 ≤ 7 → 1 ≤ a 146 42 → a 146 44 ≤ 7 → a 146 44 ≤ y1 → y1 < a 146 42 → a 146 44 ≤ a 146 42 → jt (jxX E d 254 46 [some (.inr (.inr (.inl 146))), some (.inl y1), none, none] [] (jxSH, a, b)) (jQ_X12_weighs a0 b0) := fun y1 a b hlt i0 i1 i2 i3 i4 i5 i6 i7 i8 => (ih _ hlt).1 y1 a b (Nat.le_refl _) i0 i1 i2 i3 i4 i5 i6 i7 i8
  have ih7 : ∀ (y1 : Int) (a b : Nat → Nat → Int), (((8 - y1) * 1) + 0).toNat < n → iv a → jfr jW_X12_weighs a0 a → 0 ≤ y1 → y1 ≤ 8 → a 146 44 ≤ y1 → a 146 44 ≤ a 146 42 → jt (jxX E d 254 7 [some (.inr (.inr (.inl 146))), some (.inl y1), none, none] [] (jxSH, a, b)) (jQ_X12_weighs a0 b0) := fun y1 a b hlt i0 i1 i2 i3 i4 i5 => (ih _ hlt).2 y1 a b (Nat.le_refl _) i0 i1 i2 i3 i4 i5
  have hc46 : ∀ (y1 : Int) (a b : Nat → Nat → Int), (((8 - y1) * 1) + 0).toNat ≤ n → iv a → jfr jW_X12_weighs a0 a → 0 ≤ y1 → y1 ≤ 7 → 1 ≤ a 146 42 → a 146 44 ≤ 7 → a 146 44 ≤ y1 → y1 < a 146 42 → a 146 44 ≤ a 146 42 → jt (jxX E d 254 46 [some (.inr (.inr (.inl 146))), some (.inl y1), none, none] [] (jxSH, a, b)) (jQ_X12_weighs a0 b0) := by
    intro y1 a b hm hv hf hi0 hi1 hi2 hi3 hi4 hi5 hi6
    refine jt_eq (bq_X12_weighs_46 E d y1 a b) ?_
    have h303_ := iv_get hv (k := 146) (j := 42) (l := 0) (u := 8) rfl
    have h304_ : a 146 42 = a0 146 42 := hf 146 42 rfl
    have h305_ := iv_get hv0 (k := 146) (j := 42) (l := 0) (u := 8) rfl
    have h306_ := iv_get hv (k := 146) (j := 44) (l := 0) (u := 8) rfl
    have h308_ : jxw ((a 146 44) + 1) = (a 146 44) + 1 := jxw_id (by omega) (by omega)
    have hv307_ : iv (jxu a 146 44 (jxw ((a 146 44) + 1))) := iv_put hv (l := 0) (u := 8) rfl (by omega) (by omega)
    have hf309_ : jfr jW_X12_weighs a0 (jxu a 146 44 (jxw ((a 146 44) + 1))) := jfr_put hf rfl
    have h310_ : jxw (y1 + 1) = y1 + 1 := jxw_id (by omega) (by omega)
    exact ih7 (jxw (y1 + 1)) (jxu a 146 44 (jxw ((a 146 44) + 1))) b (show (((8 - (jxw (y1 + 1))) * 1) + 0).toNat < n from by omega) hv307_ hf309_ (show 0 ≤ jxw (y1 + 1) from by omega) (show jxw (y1 + 1) ≤ 8 from by omega) (show jxw ((a 146 44) + 1) ≤ jxw (y1 + 1) from by omega) (show jxw ((a 146 44) + 1) ≤ a 146 42 from by omega)
  have hc7 : ∀ (y1 : Int) (a b : Nat → Nat → Int), (((8 - y1) * 1) + 0).toNat ≤ n → iv a → jfr jW_X12_weighs a0 a → 0 ≤ y1 → y1 ≤ 8 → a 146 44 ≤ y1 → a 146 44 ≤ a 146 42 → jt (jxX E d 254 7 [some (.inr (.inr (.inl 146))), some (.inl y1), none, none] [] (jxSH, a, b)) (jQ_X12_weighs a0 b0) := by
    intro y1 a b hm hv hf hi0 hi1 hi2 hi3
    refine jt_eq (bq_X12_weighs_7 E d y1 a b) ?_
    have h311_ := iv_get hv (k := 146) (j := 44) (l := 0) (u := 8) rfl
    have h312_ := iv_get hv (k := 146) (j := 42) (l := 0) (u := 8) rfl
    have h313_ : a 146 42 = a0 146 42 := hf 146 42 rfl
    have h314_ := iv_get hv0 (k := 146) (j := 42) (l := 0) (u := 8) rfl
    refine jt_ite (fun c315_ => ?_) (fun c315_ => ?_)
    ·
      refine jt_grd (by omega) ?_
      have h316_ := iv_get hv (k := 173) (j := y1.toNat) (l := 0) (u := 39) rfl
      have h317_ : a 173 (y1.toNat) = a0 173 (y1.toNat) := hf 173 (y1.toNat) rfl
      have h318_ := iv_get hv0 (k := 173) (j := y1.toNat) (l := 0) (u := 39) rfl
      refine jt_bI (sp_X12_mayAsk E d (jd_le hd rfl) (a 173 (y1.toNat)) a b hv (show (0 ≤ a 173 (y1.toNat) ∧ a 173 (y1.toNat) ≤ 39) from by omega)) (fun r319_ a319_ b319_ h319_ => ?_)
      obtain ⟨rfl, rfl, hq319_0⟩ := h319_
      refine jt_ite (fun c320_ => ?_) (fun c320_ => ?_)
      ·
        have h321_ : jxw (y1 + 1) = y1 + 1 := jxw_id (by omega) (by omega)
        exact ih7 (jxw (y1 + 1)) a b (show (((8 - (jxw (y1 + 1))) * 1) + 0).toNat < n from by omega) hv hf (show 0 ≤ jxw (y1 + 1) from by omega) (show jxw (y1 + 1) ≤ 8 from by omega) (show a 146 44 ≤ jxw (y1 + 1) from by omega) (show a 146 44 ≤ a 146 42 from by omega)
      ·
        refine jt_grd (by omega) ?_
        refine jt_grd (by omega) ?_
        have hv322_ : iv (jxu a 174 ((a 146 44).toNat) (a 173 (y1.toNat))) := iv_put hv (l := 0) (u := 39) rfl (by omega) (by omega)
        have hf323_ : jfr jW_X12_weighs a0 (jxu a 174 ((a 146 44).toNat) (a 173 (y1.toNat))) := jfr_put hf rfl
        exact hc46 y1 (jxu a 174 ((a 146 44).toNat) (a 173 (y1.toNat))) b (show (((8 - y1) * 1) + 0).toNat ≤ n from by omega) hv322_ hf323_ (show 0 ≤ y1 from by omega) (show y1 ≤ 7 from by omega) (show 1 ≤ a 146 42 from by omega) (show a 146 44 ≤ 7 from by omega) (show a 146 44 ≤ y1 from by omega) (show y1 < a 146 42 from by omega) (show a 146 44 ≤ a 146 42 from by omega)
    ·
      exact (cp_X12_weighs_64 E d hd a0 b0 hv0 hp0 hp1 _).2.2 0 a b (Nat.le_refl _) hv hf (show 0 ≤ 0 from by omega) (show 0 ≤ 8 from by omega) (show a 146 44 ≤ a 146 42 from by omega)
  exact ⟨hc46, hc7⟩
theorem sp_X12_weighs (E : jxE) (d : Nat) (hd : Nat.ble 8 d = true) (a0 b0 : Nat → Nat → Int) (hv0 : iv a0) (hp0 : WFW a0) (hp1 : WISHR a0) : jt (jxC E d 254 [.inr (.inr (.inl 146))] (jxSH, a0, b0)) (jQ_X12_weighs a0 b0) := by
  obtain ⟨d, rfl⟩ := jd_succ hd
  refine jt_eq (bq_X12_weighs E d a0 b0) ?_
  have hv324_ : iv (jxu a0 146 44 0) := iv_put hv0 (l := 0) (u := 8) rfl (by omega) (by omega)
  have hf325_ : jfr jW_X12_weighs a0 (jxu a0 146 44 0) := jfr_put (jfr_rf _ _) rfl
  have h326_ := iv_get hv0 (k := 146) (j := 42) (l := 0) (u := 8) rfl
  exact (cp_X12_weighs_7 E d hd a0 b0 hv0 hp0 hp1 _).2 0 (jxu a0 146 44 0) b0 (Nat.le_refl _) hv324_ hf325_ (show 0 ≤ 0 from by omega) (show 0 ≤ 8 from by omega) (show 0 ≤ 0 from by omega) (show 0 ≤ a0 146 42 from by omega)
def jW_X12_give : List (Nat × Nat) := [(146, 9), (146, 39), (146, 40), (146, 41), (146, 42), (146, 44), (154, 9999), (155, 9999), (156, 9999), (157, 9999), (158, 9999), (159, 9999), (160, 9999), (170, 9999), (174, 9999), (176, 9999)]
abbrev jQ_X12_give (a0 b0 : Nat → Nat → Int) : List jxV → (Nat → Nat → Int) → (Nat → Nat → Int) → Prop := rI (fun r a b => (iv a) ∧ (jfr jW_X12_give a0 a) ∧ (OC a) ∧ ((a0 146 42 = 0 → r = 0)))
theorem cp_X12_give_215 (E : jxE) (d : Nat) (hd : Nat.ble 9 (d + 1) = true) (a0 b0 : Nat → Nat → Int) (hv0 : iv a0) (hp0 : WFW a0) (hp1 : OC a0) (hp2 : WISHR a0) : ∀ n : Nat, (∀ (y6 y7 : Int) (a b : Nat → Nat → Int), (((8 - y7) * 1) + 0).toNat ≤ n → iv a → jfr jW_X12_give a0 a → 0 ≤ y7 → y7 ≤ 7 → a 146 42 ≤ 0 → 1 ≤ a 146 44 → ((a 146 9) + (a 146 44)) - y7 ≤ 301 → (a0 146 42 = 0 → y6 = 0) → (OC a) → (a0 146 42 = 0 → a 146 44 = 0) → jt (jxX E d 255 258 [some (.inr (.inr (.inl 146))), none, none, none, none, none, some (.inl y6), some (.inl y7)] [] (jxSH, a, b)) (jQ_X12_give a0 b0)) ∧ (∀ (y6 y7 : Int) (a b : Nat → Nat → Int), (((8 - y7) * 1) + 0).toNat ≤ n → iv a → jfr jW_X12_give a0 a → 0 ≤ y7 → y7 ≤ 8 → a 146 42 ≤ 0 → ((a 146 9) + (a 146 44)) - y7 ≤ 300 → (a0 146 42 = 0 → y6 = 0) → (OC a) → (a0 146 42 = 0 → a 146 44 = 0) → jt (jxX E d 255 215 [some (.inr (.inr (.inl 146))), none, none, none, none, none, some (.inl y6), some (.inl y7)] [] (jxSH, a, b)) (jQ_X12_give a0 b0)) := by
  refine jx_ind fun n ih => ?_
  have ih258 : ∀ (y6 y7 : Int) (a b : Nat → Nat → Int), (((8 - y7) * 1) + 0).toNat < n → iv a → jfr jW_X12_give a0 a → 0 ≤ y7 → y7 ≤ 7 → a 146 42 ≤ 0 → 1 ≤ a 146 44 → ((a 146 9) + (a 146 44)) - y7 ≤ 301 → (a0 146 42 = 0 → y6 = 0) → (OC a) → (a0 146 42 = 0 → a 146 44 = 0) → jt (jxX E d 255 258 [some (.inr (.inr (.inl 146))), none, none, none, none, none, some (.inl y6), some (.inl y7)] [] (jxSH, a, b)) (jQ_X12_give a0 b0) := fun y6 y7 a b hlt i0 i1 i2 i3 i4 i5 i6 i7 i8 i9 => (ih _ hlt).1 y6 y7 a b (Nat.le_refl _) i0 i1 i2 i3 i4 i5 i6 i7 i8 i9
  have ih215 : ∀ (y6 y7 : Int) (a b : Nat → Nat → Int), (((8 - y7) * 1) + 0).toNat < n → iv a → jfr jW_X12_give a0 a → 0 ≤ y7 → y7 ≤ 8 → a 146 42 ≤ 0 → ((a 146 9) + (a 146 44)) - y7 ≤ 300 → (a0 146 42 = 0 → y6 = 0) → (OC a) → (a0 146 42 = 0 → a 146 44 = 0) → jt (jxX E d 255 215 [some (.inr (.inr (.inl 146))), none, none, none, none, none, some (.inl y6), some (.inl y7)] [] (jxSH, a, b)) (jQ_X12_give a0 b0) := fun y6 y7 a b hlt i0 i1 i2 i3 i4 i5 i6 i7 i8 => (ih _ hlt).2 y6 y7 a b (Nat.le_refl _) i0 i1 i2 i3 i4 i5 i6 i7 i8
  have hc258 : ∀ (y6 y7 : Int) (a b : Nat → Nat → Int), (((8 - y7) * 1) + 0).toNat ≤ n → iv a → jfr jW_X12_give a0 a → 0 ≤ y7 → y7 ≤ 7 → a 146 42 ≤ 0 → 1 ≤ a 146 44 → ((a 146 9) + (a 146 44)) - y7 ≤ 301 → (a0 146 42 = 0 → y6 = 0) → (OC a) → (a0 146 42 = 0 → a 146 44 = 0) → jt (jxX E d 255 258 [some (.inr (.inr (.inl 146))), none, none, none, none, none, some (.inl y6), some (.inl y7)] [] (jxSH, a, b)) (jQ_X12_give a0 b0) := by
    intro y6 y7 a b hm hv hf hi0 hi1 hi2 hi3 hi4 hi5 hi6 hi7
    refine jt_eq (bq_X12_give_258 E d y6 y7 a b) ?_
    have h327_ := iv_get hv (k := 146) (j := 42) (l := 0) (u := 8) rfl
    have h328_ := iv_get hv (k := 146) (j := 44) (l := 0) (u := 8) rfl
    have h329_ := iv_get hv (k := 146) (j := 9) (l := 0) (u := 300) rfl
    have h330_ := iv_get hv0 (k := 146) (j := 42) (l := 0) (u := 8) rfl
    have h331_ : jxw (y7 + 1) = y7 + 1 := jxw_id (by omega) (by omega)
    have h332_ := jxw_im (y6 + 1)
    have h333_ := jxw_rg (y6 + 1)
    exact ih215 (jxw (y6 + 1)) (jxw (y7 + 1)) a b (show (((8 - (jxw (y7 + 1))) * 1) + 0).toNat < n from by omega) hv hf (show 0 ≤ jxw (y7 + 1) from by omega) (show jxw (y7 + 1) ≤ 8 from by omega) (show a 146 42 ≤ 0 from by omega) (show ((a 146 9) + (a 146 44)) - (jxw (y7 + 1)) ≤ 300 from by omega) (show (a0 146 42 = 0 → jxw (y6 + 1) = 0) from by omega) hi6 (show (a0 146 42 = 0 → a 146 44 = 0) from by omega)
  have hc215 : ∀ (y6 y7 : Int) (a b : Nat → Nat → Int), (((8 - y7) * 1) + 0).toNat ≤ n → iv a → jfr jW_X12_give a0 a → 0 ≤ y7 → y7 ≤ 8 → a 146 42 ≤ 0 → ((a 146 9) + (a 146 44)) - y7 ≤ 300 → (a0 146 42 = 0 → y6 = 0) → (OC a) → (a0 146 42 = 0 → a 146 44 = 0) → jt (jxX E d 255 215 [some (.inr (.inr (.inl 146))), none, none, none, none, none, some (.inl y6), some (.inl y7)] [] (jxSH, a, b)) (jQ_X12_give a0 b0) := by
    intro y6 y7 a b hm hv hf hi0 hi1 hi2 hi3 hi4 hi5 hi6
    refine jt_eq (bq_X12_give_215 E d y6 y7 a b) ?_
    have h334_ := iv_get hv (k := 146) (j := 42) (l := 0) (u := 8) rfl
    have h335_ := iv_get hv (k := 146) (j := 9) (l := 0) (u := 300) rfl
    have h336_ := iv_get hv (k := 146) (j := 44) (l := 0) (u := 8) rfl
    have h337_ := iv_get hv0 (k := 146) (j := 42) (l := 0) (u := 8) rfl
    refine jt_ite (fun c338_ => ?_) (fun c338_ => ?_)
    ·
      refine jt_grd (by omega) ?_
      have h339_ := iv_get hv (k := 176) (j := y7.toNat) (l := (-1)) (u := 39) rfl
      refine jt_ite (fun c340_ => ?_) (fun c340_ => ?_)
      ·
        have h341_ : jxw (y7 + 1) = y7 + 1 := jxw_id (by omega) (by omega)
        exact ih215 y6 (jxw (y7 + 1)) a b (show (((8 - (jxw (y7 + 1))) * 1) + 0).toNat < n from by omega) hv hf (show 0 ≤ jxw (y7 + 1) from by omega) (show jxw (y7 + 1) ≤ 8 from by omega) (show a 146 42 ≤ 0 from by omega) (show ((a 146 9) + (a 146 44)) - (jxw (y7 + 1)) ≤ 300 from by omega) (show (a0 146 42 = 0 → y6 = 0) from by omega) hi5 (show (a0 146 42 = 0 → a 146 44 = 0) from by omega)
      ·
        refine jt_grd (by omega) ?_
        refine jt_grd (by omega) ?_
        have h342_ := iv_get hv (k := 174) (j := y7.toNat) (l := 0) (u := 39) rfl
        refine jt_bI (sp_X12_sends E d (jd_le hd rfl) (a 174 (y7.toNat)) (a 176 (y7.toNat)) (-1) a b hv (show (0 ≤ a 174 (y7.toNat) ∧ a 174 (y7.toNat) ≤ 39) from by omega) (show (0 ≤ a 176 (y7.toNat) ∧ a 176 (y7.toNat) ≤ 39) from by omega) (show a 146 9 ≤ 299 from by omega)) (fun r343_ a343_ b343_ h343_ => ?_)
        obtain ⟨hv343_, hf343_, rfl, hq343_0, hq343_1, hq343_2⟩ := h343_
        have h344_ := iv_get hv343_ (k := 146) (j := 9) (l := 0) (u := 300) rfl
        have hf345_ : jfr jW_X12_give a0 a343_ := jfr_tr hf hf343_ rfl
        have h346_ := iv_get hv343_ (k := 146) (j := 42) (l := 0) (u := 8) rfl
        have h347_ : a343_ 146 42 = a 146 42 := hf343_ 146 42 rfl
        have h348_ := iv_get hv343_ (k := 146) (j := 44) (l := 0) (u := 8) rfl
        have h349_ : a343_ 146 44 = a 146 44 := hf343_ 146 44 rfl
        exact hc258 y6 y7 a343_ b (show (((8 - y7) * 1) + 0).toNat ≤ n from by omega) hv343_ hf345_ (show 0 ≤ y7 from by omega) (show y7 ≤ 7 from by omega) (show a343_ 146 42 ≤ 0 from by omega) (show 1 ≤ a343_ 146 44 from by omega) (show ((a343_ 146 9) + (a343_ 146 44)) - y7 ≤ 301 from by omega) (show (a0 146 42 = 0 → y6 = 0) from by omega) (OC_card hi5 hq343_0 (hf343_ 146 49 rfl) (fun c hc => hq343_2 c hc) (fun j => hf343_ 178 j rfl) (fun j => hf343_ 181 j rfl) (fun j => hf343_ 182 j rfl)) (show (a0 146 42 = 0 → a343_ 146 44 = 0) from by omega)
    ·
      exact jt_rI ⟨hv, hf, hi5, (show (a0 146 42 = 0 → y6 = 0) from by omega)⟩
  exact ⟨hc258, hc215⟩
theorem cp_X12_give_48 (E : jxE) (d : Nat) (hd : Nat.ble 9 (d + 1) = true) (a0 b0 : Nat → Nat → Int) (hv0 : iv a0) (hp0 : WFW a0) (hp1 : OC a0) (hp2 : WISHR a0) : ∀ n : Nat, (∀ (y1 y2 y4 y6 y7 : Int) (a b : Nat → Nat → Int), (((((8 - y6) * 43) + 0) + ((40 - y7) * 1)) + 0).toNat ≤ n → iv a → jfr jW_X12_give a0 a → 0 ≤ y1 → y1 ≤ 255 → 0 ≤ y6 → y6 ≤ 7 → 0 ≤ y7 → y7 ≤ 39 → 1 ≤ a 146 2 → a 146 42 ≤ 0 → 1 ≤ a 146 44 → (a 146 9) + (a 146 44) ≤ 300 → (OC a) → (a0 146 42 = 0 → a 146 44 = 0) → jt (jxX E d 255 197 [some (.inr (.inr (.inl 146))), some (.inl y1), some (.inr (.inl y2)), none, some (.inr (.inl y4)), none, some (.inl y6), some (.inl y7)] [] (jxSH, a, b)) (jQ_X12_give a0 b0)) ∧ (∀ (y1 y2 y4 y6 y7 : Int) (a b : Nat → Nat → Int), (((((8 - y6) * 43) + 0) + ((40 - y7) * 1)) + 0).toNat ≤ n → iv a → jfr jW_X12_give a0 a → 0 ≤ y1 → y1 ≤ 255 → 0 ≤ y6 → y6 ≤ 7 → 0 ≤ y7 → y7 ≤ 39 → 1 ≤ a 146 2 → a 146 42 ≤ 0 → 1 ≤ a 146 44 → (a 146 9) + (a 146 44) ≤ 300 → (OC a) → (a0 146 42 = 0 → a 146 44 = 0) → jt (jxX E d 255 160 [some (.inr (.inr (.inl 146))), some (.inl y1), some (.inr (.inl y2)), none, some (.inr (.inl y4)), none, some (.inl y6), some (.inl y7)] [] (jxSH, a, b)) (jQ_X12_give a0 b0)) ∧ (∀ (y1 y2 y4 y6 y7 : Int) (a b : Nat → Nat → Int), (((((8 - y6) * 43) + 0) + ((40 - y7) * 1)) + 0).toNat ≤ n → iv a → jfr jW_X12_give a0 a → 0 ≤ y1 → y1 ≤ 255 → 0 ≤ y6 → y6 ≤ 7 → 0 ≤ y7 → y7 ≤ 39 → 1 ≤ a 146 2 → a 146 42 ≤ 0 → 1 ≤ a 146 44 → (a 146 9) + (a 146 44) ≤ 300 → (OC a) → (a0 146 42 = 0 → a 146 44 = 0) → jt (jxX E d 255 163 [some (.inr (.inr (.inl 146))), some (.inl y1), some (.inr (.inl y2)), none, some (.inr (.inl y4)), none, some (.inl y6), some (.inl y7)] [] (jxSH, a, b)) (jQ_X12_give a0 b0)) ∧ (∀ (y1 y2 y4 y6 y7 : Int) (a b : Nat → Nat → Int), (((((8 - y6) * 43) + 0) + ((40 - y7) * 1)) + 0).toNat ≤ n → iv a → jfr jW_X12_give a0 a → 0 ≤ y1 → y1 ≤ 255 → 0 ≤ y6 → y6 ≤ 7 → 0 ≤ y7 → y7 ≤ 39 → 1 ≤ a 146 2 → a 146 42 ≤ 0 → 1 ≤ a 146 44 → (a 146 9) + (a 146 44) ≤ 300 → (OC a) → (a0 146 42 = 0 → a 146 44 = 0) → jt (jxX E d 255 106 [some (.inr (.inr (.inl 146))), some (.inl y1), some (.inr (.inl y2)), none, some (.inr (.inl y4)), none, some (.inl y6), some (.inl y7)] [] (jxSH, a, b)) (jQ_X12_give a0 b0)) ∧ (∀ (y1 y2 y4 y6 y7 : Int) (a b : Nat → Nat → Int), (((((8 - y6) * 43) + 0) + ((40 - y7) * 1)) + 0).toNat ≤ n → iv a → jfr jW_X12_give a0 a → 0 ≤ y1 → y1 ≤ 255 → 0 ≤ y6 → y6 ≤ 7 → 0 ≤ y7 → y7 ≤ 40 → a 146 42 ≤ 0 → 1 ≤ a 146 44 → (a 146 9) + (a 146 44) ≤ 300 → (OC a) → (a0 146 42 = 0 → a 146 44 = 0) → jt (jxX E d 255 75 [some (.inr (.inr (.inl 146))), some (.inl y1), some (.inr (.inl y2)), none, some (.inr (.inl y4)), none, some (.inl y6), some (.inl y7)] [] (jxSH, a, b)) (jQ_X12_give a0 b0)) ∧ (∀ (y1 y2 y4 y6 : Int) (a b : Nat → Nat → Int), (((8 - y6) * 43) + 42).toNat ≤ n → iv a → jfr jW_X12_give a0 a → 0 ≤ y1 → y1 ≤ 255 → 0 ≤ y6 → y6 ≤ 7 → a 146 42 ≤ 0 → 1 ≤ a 146 44 → (a 146 9) + (a 146 44) ≤ 300 → (OC a) → (a0 146 42 = 0 → a 146 44 = 0) → jt (jxX E d 255 72 [some (.inr (.inr (.inl 146))), some (.inl y1), some (.inr (.inl y2)), none, some (.inr (.inl y4)), none, some (.inl y6), none] [] (jxSH, a, b)) (jQ_X12_give a0 b0)) ∧ (∀ (y1 y2 y4 y6 : Int) (a b : Nat → Nat → Int), (((8 - y6) * 43) + 42).toNat ≤ n → iv a → jfr jW_X12_give a0 a → 0 ≤ y1 → y1 ≤ 255 → 0 ≤ y6 → y6 ≤ 8 → a 146 42 ≤ 0 → (a 146 9) + (a 146 44) ≤ 300 → (OC a) → (a0 146 42 = 0 → a 146 44 = 0) → jt (jxX E d 255 48 [some (.inr (.inr (.inl 146))), some (.inl y1), some (.inr (.inl y2)), none, some (.inr (.inl y4)), none, some (.inl y6), none] [] (jxSH, a, b)) (jQ_X12_give a0 b0)) := by
  refine jx_ind fun n ih => ?_
  have ih197 : ∀ (y1 y2 y4 y6 y7 : Int) (a b : Nat → Nat → Int), (((((8 - y6) * 43) + 0) + ((40 - y7) * 1)) + 0).toNat < n → iv a → jfr jW_X12_give a0 a → 0 ≤ y1 → y1 ≤ 255 → 0 ≤ y6 → y6 ≤ 7 → 0 ≤ y7 → y7 ≤ 39 → 1 ≤ a 146 2 → a 146 42 ≤ 0 → 1 ≤ a 146 44 → (a 146 9) + (a 146 44) ≤ 300 → (OC a) → (a0 146 42 = 0 → a 146 44 = 0) → jt (jxX E d 255 197 [some (.inr (.inr (.inl 146))), some (.inl y1), some (.inr (.inl y2)), none, some (.inr (.inl y4)), none, some (.inl y6), some (.inl y7)] [] (jxSH, a, b)) (jQ_X12_give a0 b0) := fun y1 y2 y4 y6 y7 a b hlt i0 i1 i2 i3 i4 i5 i6 i7 i8 i9 i10 i11 i12 i13 => (ih _ hlt).1 y1 y2 y4 y6 y7 a b (Nat.le_refl _) i0 i1 i2 i3 i4 i5 i6 i7 i8 i9 i10 i11 i12 i13
  have ih160 : ∀ (y1 y2 y4 y6 y7 : Int) (a b : Nat → Nat → Int), (((((8 - y6) * 43) + 0) + ((40 - y7) * 1)) + 0).toNat < n → iv a → jfr jW_X12_give a0 a → 0 ≤ y1 → y1 ≤ 255 → 0 ≤ y6 → y6 ≤ 7 → 0 ≤ y7 → y7 ≤ 39 → 1 ≤ a 146 2 → a 146 42 ≤ 0 → 1 ≤ a 146 44 → (a 146 9) + (a 146 44) ≤ 300 → (OC a) → (a0 146 42 = 0 → a 146 44 = 0) → jt (jxX E d 255 160 [some (.inr (.inr (.inl 146))), some (.inl y1), some (.inr (.inl y2)), none, some (.inr (.inl y4)), none, some (.inl y6), some (.inl y7)] [] (jxSH, a, b)) (jQ_X12_give a0 b0) := fun y1 y2 y4 y6 y7 a b hlt i0 i1 i2 i3 i4 i5 i6 i7 i8 i9 i10 i11 i12 i13 => (ih _ hlt).2.1 y1 y2 y4 y6 y7 a b (Nat.le_refl _) i0 i1 i2 i3 i4 i5 i6 i7 i8 i9 i10 i11 i12 i13
  have ih163 : ∀ (y1 y2 y4 y6 y7 : Int) (a b : Nat → Nat → Int), (((((8 - y6) * 43) + 0) + ((40 - y7) * 1)) + 0).toNat < n → iv a → jfr jW_X12_give a0 a → 0 ≤ y1 → y1 ≤ 255 → 0 ≤ y6 → y6 ≤ 7 → 0 ≤ y7 → y7 ≤ 39 → 1 ≤ a 146 2 → a 146 42 ≤ 0 → 1 ≤ a 146 44 → (a 146 9) + (a 146 44) ≤ 300 → (OC a) → (a0 146 42 = 0 → a 146 44 = 0) → jt (jxX E d 255 163 [some (.inr (.inr (.inl 146))), some (.inl y1), some (.inr (.inl y2)), none, some (.inr (.inl y4)), none, some (.inl y6), some (.inl y7)] [] (jxSH, a, b)) (jQ_X12_give a0 b0) := fun y1 y2 y4 y6 y7 a b hlt i0 i1 i2 i3 i4 i5 i6 i7 i8 i9 i10 i11 i12 i13 => (ih _ hlt).2.2.1 y1 y2 y4 y6 y7 a b (Nat.le_refl _) i0 i1 i2 i3 i4 i5 i6 i7 i8 i9 i10 i11 i12 i13
  have ih106 : ∀ (y1 y2 y4 y6 y7 : Int) (a b : Nat → Nat → Int), (((((8 - y6) * 43) + 0) + ((40 - y7) * 1)) + 0).toNat < n → iv a → jfr jW_X12_give a0 a → 0 ≤ y1 → y1 ≤ 255 → 0 ≤ y6 → y6 ≤ 7 → 0 ≤ y7 → y7 ≤ 39 → 1 ≤ a 146 2 → a 146 42 ≤ 0 → 1 ≤ a 146 44 → (a 146 9) + (a 146 44) ≤ 300 → (OC a) → (a0 146 42 = 0 → a 146 44 = 0) → jt (jxX E d 255 106 [some (.inr (.inr (.inl 146))), some (.inl y1), some (.inr (.inl y2)), none, some (.inr (.inl y4)), none, some (.inl y6), some (.inl y7)] [] (jxSH, a, b)) (jQ_X12_give a0 b0) := fun y1 y2 y4 y6 y7 a b hlt i0 i1 i2 i3 i4 i5 i6 i7 i8 i9 i10 i11 i12 i13 => (ih _ hlt).2.2.2.1 y1 y2 y4 y6 y7 a b (Nat.le_refl _) i0 i1 i2 i3 i4 i5 i6 i7 i8 i9 i10 i11 i12 i13
  have ih75 : ∀ (y1 y2 y4 y6 y7 : Int) (a b : Nat → Nat → Int), (((((8 - y6) * 43) + 0) + ((40 - y7) * 1)) + 0).toNat < n → iv a → jfr jW_X12_give a0 a → 0 ≤ y1 → y1 ≤ 255 → 0 ≤ y6 → y6 ≤ 7 → 0 ≤ y7 → y7 ≤ 40 → a 146 42 ≤ 0 → 1 ≤ a 146 44 → (a 146 9) + (a 146 44) ≤ 300 → (OC a) → (a0 146 42 = 0 → a 146 44 = 0) → jt (jxX E d 255 75 [some (.inr (.inr (.inl 146))), some (.inl y1), some (.inr (.inl y2)), none, some (.inr (.inl y4)), none, some (.inl y6), some (.inl y7)] [] (jxSH, a, b)) (jQ_X12_give a0 b0) := fun y1 y2 y4 y6 y7 a b hlt i0 i1 i2 i3 i4 i5 i6 i7 i8 i9 i10 i11 i12 => (ih _ hlt).2.2.2.2.1 y1 y2 y4 y6 y7 a b (Nat.le_refl _) i0 i1 i2 i3 i4 i5 i6 i7 i8 i9 i10 i11 i12
  have ih72 : ∀ (y1 y2 y4 y6 : Int) (a b : Nat → Nat → Int), (((8 - y6) * 43) + 42).toNat < n → iv a → jfr jW_X12_give a0 a → 0 ≤ y1 → y1 ≤ 255 → 0 ≤ y6 → y6 ≤ 7 → a 146 42 ≤ 0 → 1 ≤ a 146 44 → (a 146 9) + (a 146 44) ≤ 300 → (OC a) → (a0 146 42 = 0 → a 146 44 = 0) → jt (jxX E d 255 72 [some (.inr (.inr (.inl 146))), some (.inl y1), some (.inr (.inl y2)), none, some (.inr (.inl y4)), none, some (.inl y6), none] [] (jxSH, a, b)) (jQ_X12_give a0 b0) := fun y1 y2 y4 y6 a b hlt i0 i1 i2 i3 i4 i5 i6 i7 i8 i9 i10 => (ih _ hlt).2.2.2.2.2.1 y1 y2 y4 y6 a b (Nat.le_refl _) i0 i1 i2 i3 i4 i5 i6 i7 i8 i9 i10
  have ih48 : ∀ (y1 y2 y4 y6 : Int) (a b : Nat → Nat → Int), (((8 - y6) * 43) + 42).toNat < n → iv a → jfr jW_X12_give a0 a → 0 ≤ y1 → y1 ≤ 255 → 0 ≤ y6 → y6 ≤ 8 → a 146 42 ≤ 0 → (a 146 9) + (a 146 44) ≤ 300 → (OC a) → (a0 146 42 = 0 → a 146 44 = 0) → jt (jxX E d 255 48 [some (.inr (.inr (.inl 146))), some (.inl y1), some (.inr (.inl y2)), none, some (.inr (.inl y4)), none, some (.inl y6), none] [] (jxSH, a, b)) (jQ_X12_give a0 b0) := fun y1 y2 y4 y6 a b hlt i0 i1 i2 i3 i4 i5 i6 i7 i8 i9 => (ih _ hlt).2.2.2.2.2.2 y1 y2 y4 y6 a b (Nat.le_refl _) i0 i1 i2 i3 i4 i5 i6 i7 i8 i9
  have hc197 : ∀ (y1 y2 y4 y6 y7 : Int) (a b : Nat → Nat → Int), (((((8 - y6) * 43) + 0) + ((40 - y7) * 1)) + 0).toNat ≤ n → iv a → jfr jW_X12_give a0 a → 0 ≤ y1 → y1 ≤ 255 → 0 ≤ y6 → y6 ≤ 7 → 0 ≤ y7 → y7 ≤ 39 → 1 ≤ a 146 2 → a 146 42 ≤ 0 → 1 ≤ a 146 44 → (a 146 9) + (a 146 44) ≤ 300 → (OC a) → (a0 146 42 = 0 → a 146 44 = 0) → jt (jxX E d 255 197 [some (.inr (.inr (.inl 146))), some (.inl y1), some (.inr (.inl y2)), none, some (.inr (.inl y4)), none, some (.inl y6), some (.inl y7)] [] (jxSH, a, b)) (jQ_X12_give a0 b0) := by
    intro y1 y2 y4 y6 y7 a b hm hv hf hi0 hi1 hi2 hi3 hi4 hi5 hi6 hi7 hi8 hi9 hi10 hi11
    refine jt_eq (bq_X12_give_197 E d y1 y2 y4 y6 y7 a b) ?_
    have h350_ := iv_get hv (k := 146) (j := 2) (l := 0) (u := 40) rfl
    have h351_ : a 146 2 = a0 146 2 := hf 146 2 rfl
    have h352_ := iv_get hv0 (k := 146) (j := 2) (l := 0) (u := 40) rfl
    have h353_ := iv_get hv (k := 146) (j := 42) (l := 0) (u := 8) rfl
    have h354_ := iv_get hv (k := 146) (j := 44) (l := 0) (u := 8) rfl
    have h355_ := iv_get hv (k := 146) (j := 9) (l := 0) (u := 300) rfl
    have h356_ := iv_get hv0 (k := 146) (j := 42) (l := 0) (u := 8) rfl
    have h357_ : jxw (y7 + 1) = y7 + 1 := jxw_id (by omega) (by omega)
    exact ih75 y1 y2 y4 y6 (jxw (y7 + 1)) a b (show (((((8 - y6) * 43) + 0) + ((40 - (jxw (y7 + 1))) * 1)) + 0).toNat < n from by omega) hv hf (show 0 ≤ y1 from by omega) (show y1 ≤ 255 from by omega) (show 0 ≤ y6 from by omega) (show y6 ≤ 7 from by omega) (show 0 ≤ jxw (y7 + 1) from by omega) (show jxw (y7 + 1) ≤ 40 from by omega) (show a 146 42 ≤ 0 from by omega) (show 1 ≤ a 146 44 from by omega) (show (a 146 9) + (a 146 44) ≤ 300 from by omega) hi10 (show (a0 146 42 = 0 → a 146 44 = 0) from by omega)
  have hc160 : ∀ (y1 y2 y4 y6 y7 : Int) (a b : Nat → Nat → Int), (((((8 - y6) * 43) + 0) + ((40 - y7) * 1)) + 0).toNat ≤ n → iv a → jfr jW_X12_give a0 a → 0 ≤ y1 → y1 ≤ 255 → 0 ≤ y6 → y6 ≤ 7 → 0 ≤ y7 → y7 ≤ 39 → 1 ≤ a 146 2 → a 146 42 ≤ 0 → 1 ≤ a 146 44 → (a 146 9) + (a 146 44) ≤ 300 → (OC a) → (a0 146 42 = 0 → a 146 44 = 0) → jt (jxX E d 255 160 [some (.inr (.inr (.inl 146))), some (.inl y1), some (.inr (.inl y2)), none, some (.inr (.inl y4)), none, some (.inl y6), some (.inl y7)] [] (jxSH, a, b)) (jQ_X12_give a0 b0) := by
    intro y1 y2 y4 y6 y7 a b hm hv hf hi0 hi1 hi2 hi3 hi4 hi5 hi6 hi7 hi8 hi9 hi10 hi11
    refine jt_eq (bq_X12_give_160 E d y1 y2 y4 y6 y7 a b) ?_
    have h358_ := iv_get hv (k := 146) (j := 2) (l := 0) (u := 40) rfl
    have h359_ : a 146 2 = a0 146 2 := hf 146 2 rfl
    have h360_ := iv_get hv0 (k := 146) (j := 2) (l := 0) (u := 40) rfl
    have h361_ := iv_get hv (k := 146) (j := 42) (l := 0) (u := 8) rfl
    have h362_ := iv_get hv (k := 146) (j := 44) (l := 0) (u := 8) rfl
    have h363_ := iv_get hv (k := 146) (j := 9) (l := 0) (u := 300) rfl
    have h364_ := iv_get hv0 (k := 146) (j := 42) (l := 0) (u := 8) rfl
    exact hc197 y1 y2 y4 y6 y7 a b (show (((((8 - y6) * 43) + 0) + ((40 - y7) * 1)) + 0).toNat ≤ n from by omega) hv hf (show 0 ≤ y1 from by omega) (show y1 ≤ 255 from by omega) (show 0 ≤ y6 from by omega) (show y6 ≤ 7 from by omega) (show 0 ≤ y7 from by omega) (show y7 ≤ 39 from by omega) (show 1 ≤ a 146 2 from by omega) (show a 146 42 ≤ 0 from by omega) (show 1 ≤ a 146 44 from by omega) (show (a 146 9) + (a 146 44) ≤ 300 from by omega) hi10 (show (a0 146 42 = 0 → a 146 44 = 0) from by omega)
  have hc163 : ∀ (y1 y2 y4 y6 y7 : Int) (a b : Nat → Nat → Int), (((((8 - y6) * 43) + 0) + ((40 - y7) * 1)) + 0).toNat ≤ n → iv a → jfr jW_X12_give a0 a → 0 ≤ y1 → y1 ≤ 255 → 0 ≤ y6 → y6 ≤ 7 → 0 ≤ y7 → y7 ≤ 39 → 1 ≤ a 146 2 → a 146 42 ≤ 0 → 1 ≤ a 146 44 → (a 146 9) + (a 146 44) ≤ 300 → (OC a) → (a0 146 42 = 0 → a 146 44 = 0) → jt (jxX E d 255 163 [some (.inr (.inr (.inl 146))), some (.inl y1), some (.inr (.inl y2)), none, some (.inr (.inl y4)), none, some (.inl y6), some (.inl y7)] [] (jxSH, a, b)) (jQ_X12_give a0 b0) := by
    intro y1 y2 y4 y6 y7 a b hm hv hf hi0 hi1 hi2 hi3 hi4 hi5 hi6 hi7 hi8 hi9 hi10 hi11
    refine jt_eq (bq_X12_give_163 E d y1 y2 y4 y6 y7 a b) ?_
    have h365_ := iv_get hv (k := 146) (j := 2) (l := 0) (u := 40) rfl
    have h366_ : a 146 2 = a0 146 2 := hf 146 2 rfl
    have h367_ := iv_get hv0 (k := 146) (j := 2) (l := 0) (u := 40) rfl
    have h368_ := iv_get hv (k := 146) (j := 42) (l := 0) (u := 8) rfl
    have h369_ := iv_get hv (k := 146) (j := 44) (l := 0) (u := 8) rfl
    have h370_ := iv_get hv (k := 146) (j := 9) (l := 0) (u := 300) rfl
    have h371_ := iv_get hv0 (k := 146) (j := 42) (l := 0) (u := 8) rfl
    refine jt_grd (by omega) ?_
    have h372_ : jxw (40 * y6) = 40 * y6 := jxw_id (by omega) (by omega)
    have h373_ : jxw ((jxw (40 * y6)) + y7) = (jxw (40 * y6)) + y7 := jxw_id (by omega) (by omega)
    refine jt_grd (by omega) ?_
    have hv374_ : iv (jxu a 176 (y6.toNat) y7) := iv_put hv (l := (-1)) (u := 39) rfl (by omega) (by omega)
    have hf375_ : jfr jW_X12_give a0 (jxu a 176 (y6.toNat) y7) := jfr_put hf rfl
    have hg376_ : OC (jxu a 176 (y6.toNat) y7) := (OC_fr hi10 (jfr_1 a 176 (y6.toNat) y7) rfl rfl (fun _ => rfl) (fun _ => rfl) (fun _ => rfl) (fun _ => rfl) (fun _ => rfl))
    exact hc197 y1 (jxorl y2 (jxshll 1 y7)) (jxwl (y4 - (b 175 ((jxw ((jxw (40 * y6)) + y7)).toNat)))) y6 y7 (jxu a 176 (y6.toNat) y7) b (show (((((8 - y6) * 43) + 0) + ((40 - y7) * 1)) + 0).toNat ≤ n from by omega) hv374_ hf375_ (show 0 ≤ y1 from by omega) (show y1 ≤ 255 from by omega) (show 0 ≤ y6 from by omega) (show y6 ≤ 7 from by omega) (show 0 ≤ y7 from by omega) (show y7 ≤ 39 from by omega) (show 1 ≤ a 146 2 from by omega) (show a 146 42 ≤ 0 from by omega) (show 1 ≤ a 146 44 from by omega) (show (a 146 9) + (a 146 44) ≤ 300 from by omega) hg376_ (show (a0 146 42 = 0 → a 146 44 = 0) from by omega)
  have hc106 : ∀ (y1 y2 y4 y6 y7 : Int) (a b : Nat → Nat → Int), (((((8 - y6) * 43) + 0) + ((40 - y7) * 1)) + 0).toNat ≤ n → iv a → jfr jW_X12_give a0 a → 0 ≤ y1 → y1 ≤ 255 → 0 ≤ y6 → y6 ≤ 7 → 0 ≤ y7 → y7 ≤ 39 → 1 ≤ a 146 2 → a 146 42 ≤ 0 → 1 ≤ a 146 44 → (a 146 9) + (a 146 44) ≤ 300 → (OC a) → (a0 146 42 = 0 → a 146 44 = 0) → jt (jxX E d 255 106 [some (.inr (.inr (.inl 146))), some (.inl y1), some (.inr (.inl y2)), none, some (.inr (.inl y4)), none, some (.inl y6), some (.inl y7)] [] (jxSH, a, b)) (jQ_X12_give a0 b0) := by
    intro y1 y2 y4 y6 y7 a b hm hv hf hi0 hi1 hi2 hi3 hi4 hi5 hi6 hi7 hi8 hi9 hi10 hi11
    refine jt_eq (bq_X12_give_106 E d y1 y2 y4 y6 y7 a b) ?_
    have h377_ := iv_get hv (k := 146) (j := 2) (l := 0) (u := 40) rfl
    have h378_ : a 146 2 = a0 146 2 := hf 146 2 rfl
    have h379_ := iv_get hv0 (k := 146) (j := 2) (l := 0) (u := 40) rfl
    have h380_ := iv_get hv (k := 146) (j := 42) (l := 0) (u := 8) rfl
    have h381_ := iv_get hv (k := 146) (j := 44) (l := 0) (u := 8) rfl
    have h382_ := iv_get hv (k := 146) (j := 9) (l := 0) (u := 300) rfl
    have h383_ := iv_get hv0 (k := 146) (j := 42) (l := 0) (u := 8) rfl
    have h384_ : jxw (40 * y6) = 40 * y6 := jxw_id (by omega) (by omega)
    have h385_ : jxw ((jxw (40 * y6)) + y7) = (jxw (40 * y6)) + y7 := jxw_id (by omega) (by omega)
    refine jt_grd (by omega) ?_
    have h386_ := jxlcmp_b (b 175 ((jxw ((jxw (40 * y6)) + y7)).toNat)) (-4000000000000000000)
    refine jt_ite (fun c387_ => ?_) (fun c387_ => ?_)
    ·
      exact hc197 y1 y2 y4 y6 y7 a b (show (((((8 - y6) * 43) + 0) + ((40 - y7) * 1)) + 0).toNat ≤ n from by omega) hv hf (show 0 ≤ y1 from by omega) (show y1 ≤ 255 from by omega) (show 0 ≤ y6 from by omega) (show y6 ≤ 7 from by omega) (show 0 ≤ y7 from by omega) (show y7 ≤ 39 from by omega) (show 1 ≤ a 146 2 from by omega) (show a 146 42 ≤ 0 from by omega) (show 1 ≤ a 146 44 from by omega) (show (a 146 9) + (a 146 44) ≤ 300 from by omega) hi10 (show (a0 146 42 = 0 → a 146 44 = 0) from by omega)
    ·
      refine jt_grd (by omega) ?_
      refine jt_bJ (sp_X12_best E d (jd_le hd rfl) y1 (jxorl y2 (jxshll 1 y7)) a b hv (show (0 ≤ y1 ∧ y1 ≤ 255) from by omega)) (fun r388_ a388_ b388_ h388_ => ?_)
      subst h388_
      have h389_ := jxlcmp_b (jxwl ((b 175 ((jxw ((jxw (40 * y6)) + y7)).toNat)) + r388_)) y4
      refine jt_ite (fun c390_ => ?_) (fun c390_ => ?_)
      ·
        exact hc163 y1 y2 y4 y6 y7 a b388_ (show (((((8 - y6) * 43) + 0) + ((40 - y7) * 1)) + 0).toNat ≤ n from by omega) hv hf (show 0 ≤ y1 from by omega) (show y1 ≤ 255 from by omega) (show 0 ≤ y6 from by omega) (show y6 ≤ 7 from by omega) (show 0 ≤ y7 from by omega) (show y7 ≤ 39 from by omega) (show 1 ≤ a 146 2 from by omega) (show a 146 42 ≤ 0 from by omega) (show 1 ≤ a 146 44 from by omega) (show (a 146 9) + (a 146 44) ≤ 300 from by omega) hi10 (show (a0 146 42 = 0 → a 146 44 = 0) from by omega)
      ·
        exact hc160 y1 y2 y4 y6 y7 a b388_ (show (((((8 - y6) * 43) + 0) + ((40 - y7) * 1)) + 0).toNat ≤ n from by omega) hv hf (show 0 ≤ y1 from by omega) (show y1 ≤ 255 from by omega) (show 0 ≤ y6 from by omega) (show y6 ≤ 7 from by omega) (show 0 ≤ y7 from by omega) (show y7 ≤ 39 from by omega) (show 1 ≤ a 146 2 from by omega) (show a 146 42 ≤ 0 from by omega) (show 1 ≤ a 146 44 from by omega) (show (a 146 9) + (a 146 44) ≤ 300 from by omega) hi10 (show (a0 146 42 = 0 → a 146 44 = 0) from by omega)
  have hc75 : ∀ (y1 y2 y4 y6 y7 : Int) (a b : Nat → Nat → Int), (((((8 - y6) * 43) + 0) + ((40 - y7) * 1)) + 0).toNat ≤ n → iv a → jfr jW_X12_give a0 a → 0 ≤ y1 → y1 ≤ 255 → 0 ≤ y6 → y6 ≤ 7 → 0 ≤ y7 → y7 ≤ 40 → a 146 42 ≤ 0 → 1 ≤ a 146 44 → (a 146 9) + (a 146 44) ≤ 300 → (OC a) → (a0 146 42 = 0 → a 146 44 = 0) → jt (jxX E d 255 75 [some (.inr (.inr (.inl 146))), some (.inl y1), some (.inr (.inl y2)), none, some (.inr (.inl y4)), none, some (.inl y6), some (.inl y7)] [] (jxSH, a, b)) (jQ_X12_give a0 b0) := by
    intro y1 y2 y4 y6 y7 a b hm hv hf hi0 hi1 hi2 hi3 hi4 hi5 hi6 hi7 hi8 hi9 hi10
    refine jt_eq (bq_X12_give_75 E d y1 y2 y4 y6 y7 a b) ?_
    have h391_ := iv_get hv (k := 146) (j := 42) (l := 0) (u := 8) rfl
    have h392_ := iv_get hv (k := 146) (j := 44) (l := 0) (u := 8) rfl
    have h393_ := iv_get hv (k := 146) (j := 9) (l := 0) (u := 300) rfl
    have h394_ := iv_get hv0 (k := 146) (j := 42) (l := 0) (u := 8) rfl
    have h395_ := iv_get hv (k := 146) (j := 2) (l := 0) (u := 40) rfl
    have h396_ : a 146 2 = a0 146 2 := hf 146 2 rfl
    have h397_ := iv_get hv0 (k := 146) (j := 2) (l := 0) (u := 40) rfl
    refine jt_ite (fun c398_ => ?_) (fun c398_ => ?_)
    ·
      refine jt_grd (by omega) ?_
      have h399_ := iv_get hv (k := 176) (j := y6.toNat) (l := (-1)) (u := 39) rfl
      refine jt_ite (fun c400_ => ?_) (fun c400_ => ?_)
      ·
        have h401_ := jxlcmp_b (jxandl (jxshrl y2 y7) 1) 1
        refine jt_ite (fun c402_ => ?_) (fun c402_ => ?_)
        ·
          exact hc197 y1 y2 y4 y6 y7 a b (show (((((8 - y6) * 43) + 0) + ((40 - y7) * 1)) + 0).toNat ≤ n from by omega) hv hf (show 0 ≤ y1 from by omega) (show y1 ≤ 255 from by omega) (show 0 ≤ y6 from by omega) (show y6 ≤ 7 from by omega) (show 0 ≤ y7 from by omega) (show y7 ≤ 39 from by omega) (show 1 ≤ a 146 2 from by omega) (show a 146 42 ≤ 0 from by omega) (show 1 ≤ a 146 44 from by omega) (show (a 146 9) + (a 146 44) ≤ 300 from by omega) hi9 (show (a0 146 42 = 0 → a 146 44 = 0) from by omega)
        ·
          exact hc106 y1 y2 y4 y6 y7 a b (show (((((8 - y6) * 43) + 0) + ((40 - y7) * 1)) + 0).toNat ≤ n from by omega) hv hf (show 0 ≤ y1 from by omega) (show y1 ≤ 255 from by omega) (show 0 ≤ y6 from by omega) (show y6 ≤ 7 from by omega) (show 0 ≤ y7 from by omega) (show y7 ≤ 39 from by omega) (show 1 ≤ a 146 2 from by omega) (show a 146 42 ≤ 0 from by omega) (show 1 ≤ a 146 44 from by omega) (show (a 146 9) + (a 146 44) ≤ 300 from by omega) hi9 (show (a0 146 42 = 0 → a 146 44 = 0) from by omega)
      ·
        have h403_ : jxw (y6 + 1) = y6 + 1 := jxw_id (by omega) (by omega)
        exact ih48 y1 y2 y4 (jxw (y6 + 1)) a b (show (((8 - (jxw (y6 + 1))) * 43) + 42).toNat < n from by omega) hv hf (show 0 ≤ y1 from by omega) (show y1 ≤ 255 from by omega) (show 0 ≤ jxw (y6 + 1) from by omega) (show jxw (y6 + 1) ≤ 8 from by omega) (show a 146 42 ≤ 0 from by omega) (show (a 146 9) + (a 146 44) ≤ 300 from by omega) hi9 (show (a0 146 42 = 0 → a 146 44 = 0) from by omega)
    ·
      have h404_ : jxw (y6 + 1) = y6 + 1 := jxw_id (by omega) (by omega)
      exact ih48 y1 y2 y4 (jxw (y6 + 1)) a b (show (((8 - (jxw (y6 + 1))) * 43) + 42).toNat < n from by omega) hv hf (show 0 ≤ y1 from by omega) (show y1 ≤ 255 from by omega) (show 0 ≤ jxw (y6 + 1) from by omega) (show jxw (y6 + 1) ≤ 8 from by omega) (show a 146 42 ≤ 0 from by omega) (show (a 146 9) + (a 146 44) ≤ 300 from by omega) hi9 (show (a0 146 42 = 0 → a 146 44 = 0) from by omega)
  have hc72 : ∀ (y1 y2 y4 y6 : Int) (a b : Nat → Nat → Int), (((8 - y6) * 43) + 42).toNat ≤ n → iv a → jfr jW_X12_give a0 a → 0 ≤ y1 → y1 ≤ 255 → 0 ≤ y6 → y6 ≤ 7 → a 146 42 ≤ 0 → 1 ≤ a 146 44 → (a 146 9) + (a 146 44) ≤ 300 → (OC a) → (a0 146 42 = 0 → a 146 44 = 0) → jt (jxX E d 255 72 [some (.inr (.inr (.inl 146))), some (.inl y1), some (.inr (.inl y2)), none, some (.inr (.inl y4)), none, some (.inl y6), none] [] (jxSH, a, b)) (jQ_X12_give a0 b0) := by
    intro y1 y2 y4 y6 a b hm hv hf hi0 hi1 hi2 hi3 hi4 hi5 hi6 hi7 hi8
    refine jt_eq (bq_X12_give_72 E d y1 y2 y4 y6 a b) ?_
    have h405_ := iv_get hv (k := 146) (j := 42) (l := 0) (u := 8) rfl
    have h406_ := iv_get hv (k := 146) (j := 44) (l := 0) (u := 8) rfl
    have h407_ := iv_get hv (k := 146) (j := 9) (l := 0) (u := 300) rfl
    have h408_ := iv_get hv0 (k := 146) (j := 42) (l := 0) (u := 8) rfl
    exact hc75 y1 y2 y4 y6 0 a b (show (((((8 - y6) * 43) + 0) + ((40 - 0) * 1)) + 0).toNat ≤ n from by omega) hv hf (show 0 ≤ y1 from by omega) (show y1 ≤ 255 from by omega) (show 0 ≤ y6 from by omega) (show y6 ≤ 7 from by omega) (show 0 ≤ 0 from by omega) (show 0 ≤ 40 from by omega) (show a 146 42 ≤ 0 from by omega) (show 1 ≤ a 146 44 from by omega) (show (a 146 9) + (a 146 44) ≤ 300 from by omega) hi7 (show (a0 146 42 = 0 → a 146 44 = 0) from by omega)
  have hc48 : ∀ (y1 y2 y4 y6 : Int) (a b : Nat → Nat → Int), (((8 - y6) * 43) + 42).toNat ≤ n → iv a → jfr jW_X12_give a0 a → 0 ≤ y1 → y1 ≤ 255 → 0 ≤ y6 → y6 ≤ 8 → a 146 42 ≤ 0 → (a 146 9) + (a 146 44) ≤ 300 → (OC a) → (a0 146 42 = 0 → a 146 44 = 0) → jt (jxX E d 255 48 [some (.inr (.inr (.inl 146))), some (.inl y1), some (.inr (.inl y2)), none, some (.inr (.inl y4)), none, some (.inl y6), none] [] (jxSH, a, b)) (jQ_X12_give a0 b0) := by
    intro y1 y2 y4 y6 a b hm hv hf hi0 hi1 hi2 hi3 hi4 hi5 hi6 hi7
    refine jt_eq (bq_X12_give_48 E d y1 y2 y4 y6 a b) ?_
    have h409_ := iv_get hv (k := 146) (j := 42) (l := 0) (u := 8) rfl
    have h410_ := iv_get hv (k := 146) (j := 9) (l := 0) (u := 300) rfl
    have h411_ := iv_get hv (k := 146) (j := 44) (l := 0) (u := 8) rfl
    have h412_ := iv_get hv0 (k := 146) (j := 42) (l := 0) (u := 8) rfl
    refine jt_ite (fun c413_ => ?_) (fun c413_ => ?_)
    ·
      refine jt_grd (by omega) ?_
      have hv414_ : iv (jxu a 176 (y6.toNat) (-1)) := iv_put hv (l := (-1)) (u := 39) rfl (by omega) (by omega)
      have hf415_ : jfr jW_X12_give a0 (jxu a 176 (y6.toNat) (-1)) := jfr_put hf rfl
      have h416_ := jxshl1_b y6
      have h417_ := jxxor_b y1 (jxshl 1 y6)
      have hg418_ : OC (jxu a 176 (y6.toNat) (-1)) := (OC_fr hi6 (jfr_1 a 176 (y6.toNat) (-1)) rfl rfl (fun _ => rfl) (fun _ => rfl) (fun _ => rfl) (fun _ => rfl) (fun _ => rfl))
      exact hc72 (jxxor y1 (jxshl 1 y6)) y2 y4 y6 (jxu a 176 (y6.toNat) (-1)) b (show (((8 - y6) * 43) + 42).toNat ≤ n from by omega) hv414_ hf415_ (show 0 ≤ jxxor y1 (jxshl 1 y6) from by omega) (show jxxor y1 (jxshl 1 y6) ≤ 255 from by omega) (show 0 ≤ y6 from by omega) (show y6 ≤ 7 from by omega) (show a 146 42 ≤ 0 from by omega) (show 1 ≤ a 146 44 from by omega) (show (a 146 9) + (a 146 44) ≤ 300 from by omega) hg418_ (show (a0 146 42 = 0 → a 146 44 = 0) from by omega)
    ·
      exact (cp_X12_give_215 E d hd a0 b0 hv0 hp0 hp1 hp2 _).2 0 0 a b (Nat.le_refl _) hv hf (show 0 ≤ 0 from by omega) (show 0 ≤ 8 from by omega) (show a 146 42 ≤ 0 from by omega) (show ((a 146 9) + (a 146 44)) - 0 ≤ 300 from by omega) (show (a0 146 42 = 0 → 0 = 0) from by omega) hi6 (show (a0 146 42 = 0 → a 146 44 = 0) from by omega)
  exact ⟨hc197, hc160, hc163, hc106, hc75, hc72, hc48⟩
theorem cp_X12_give_35 (E : jxE) (d : Nat) (hd : Nat.ble 9 (d + 1) = true) (a0 b0 : Nat → Nat → Int) (hv0 : iv a0) (hp0 : WFW a0) (hp1 : OC a0) (hp2 : WISHR a0) : ∀ (y1 : Int) (a b : Nat → Nat → Int), iv a → jfr jW_X12_give a0 a → 0 ≤ y1 → y1 ≤ 255 → a 146 42 ≤ 0 → (a 146 9) + (a 146 44) ≤ 300 → (OC a) → (a0 146 42 = 0 → a 146 44 = 0) → jt (jxX E d 255 35 [some (.inr (.inr (.inl 146))), some (.inl y1), none, none, none, none, none, none] [] (jxSH, a, b)) (jQ_X12_give a0 b0) := by
  intro y1 a b hv hf hi0 hi1 hi2 hi3 hi4 hi5
  refine jt_eq (bq_X12_give_35 E d y1 a b) ?_
  have h419_ := iv_get hv (k := 146) (j := 42) (l := 0) (u := 8) rfl
  have h420_ := iv_get hv (k := 146) (j := 9) (l := 0) (u := 300) rfl
  have h421_ := iv_get hv (k := 146) (j := 44) (l := 0) (u := 8) rfl
  have h422_ := iv_get hv0 (k := 146) (j := 42) (l := 0) (u := 8) rfl
  refine jt_bJ (sp_X12_best E d (jd_le hd rfl) y1 0 a b hv (show (0 ≤ y1 ∧ y1 ≤ 255) from by omega)) (fun r423_ a423_ b423_ h423_ => ?_)
  subst h423_
  exact (cp_X12_give_48 E d hd a0 b0 hv0 hp0 hp1 hp2 _).2.2.2.2.2.2 y1 0 r423_ 0 a b423_ (Nat.le_refl _) hv hf (show 0 ≤ y1 from by omega) (show y1 ≤ 255 from by omega) (show 0 ≤ 0 from by omega) (show 0 ≤ 8 from by omega) (show a 146 42 ≤ 0 from by omega) (show (a 146 9) + (a 146 44) ≤ 300 from by omega) hi4 (show (a0 146 42 = 0 → a 146 44 = 0) from by omega)
theorem sp_X12_give (E : jxE) (d : Nat) (hd : Nat.ble 9 d = true) (a0 b0 : Nat → Nat → Int) (hv0 : iv a0) (hp0 : WFW a0) (hp1 : OC a0) (hp2 : WISHR a0) : jt (jxC E d 255 [.inr (.inr (.inl 146))] (jxSH, a0, b0)) (jQ_X12_give a0 b0) := by
  obtain ⟨d, rfl⟩ := jd_succ hd
  refine jt_eq (bq_X12_give E d a0 b0) ?_
  have h424_ := iv_get hv0 (k := 146) (j := 9) (l := 0) (u := 300) rfl
  have h425_ := iv_get hv0 (k := 146) (j := 42) (l := 0) (u := 8) rfl
  have h426_ : jxw ((a0 146 9) + (a0 146 42)) = (a0 146 9) + (a0 146 42) := jxw_id (by omega) (by omega)
  refine jt_ite (fun c427_ => ?_) (fun c427_ => ?_)
  ·
    exact jt_rI ⟨hv0, (jfr_rf _ _), hp1, (show (a0 146 42 = 0 → (-1) = 0) from by omega)⟩
  ·
    refine jt_bV (sp_X12_weighs E d (jd_le hd rfl) a0 b0 hv0 hp0 hp2) (fun a428_ b428_ h428_ => ?_)
    obtain ⟨hv428_, hf428_, hq428_0⟩ := h428_
    have h429_ := iv_get hv428_ (k := 146) (j := 44) (l := 0) (u := 8) rfl
    have h430_ := iv_get hv428_ (k := 146) (j := 42) (l := 0) (u := 8) rfl
    have h431_ : a428_ 146 42 = a0 146 42 := hf428_ 146 42 rfl
    have hv432_ : iv (jxu a428_ 146 42 0) := iv_put hv428_ (l := 0) (u := 8) rfl (by omega) (by omega)
    have hf433_ : jfr jW_X12_give a0 a428_ := jfr_tr (jfr_rf _ _) hf428_ rfl
    have hf434_ : jfr jW_X12_give a0 (jxu a428_ 146 42 0) := jfr_put hf433_ rfl
    have h435_ := jxshl1_b (a428_ 146 44)
    have h436_ : jxw ((jxshl 1 (a428_ 146 44)) - 1) = (jxshl 1 (a428_ 146 44)) - 1 := jxw_id (by omega) (by omega)
    have h437_ := iv_get hv428_ (k := 146) (j := 9) (l := 0) (u := 300) rfl
    have h438_ : a428_ 146 9 = a0 146 9 := hf428_ 146 9 rfl
    have hg439_ : OC (jxu a428_ 146 42 0) := (OC_fr (OC_fr hp1 hf428_ rfl rfl (fun _ => rfl) (fun _ => rfl) (fun _ => rfl) (fun _ => rfl) (fun _ => rfl)) (jfr_1s a428_ 146 42 0) rfl rfl (fun _ => rfl) (fun _ => rfl) (fun _ => rfl) (fun _ => rfl) (fun _ => rfl))
    exact cp_X12_give_35 E d hd a0 b0 hv0 hp0 hp1 hp2 (jxw ((jxshl 1 (a428_ 146 44)) - 1)) (jxu a428_ 146 42 0) b428_ hv432_ hf434_ (show 0 ≤ jxw ((jxshl 1 (a428_ 146 44)) - 1) from by omega) (show jxw ((jxshl 1 (a428_ 146 44)) - 1) ≤ 255 from by omega) (show 0 ≤ 0 from by omega) (show (a428_ 146 9) + (a428_ 146 44) ≤ 300 from by omega) hg439_ (show (a0 146 42 = 0 → a428_ 146 44 = 0) from by omega)
def jW_X12_leave : List (Nat × Nat) := [(152, 9999), (153, 9999), (159, 9999), (181, 9999)]
abbrev jQ_X12_leave (x1 : Int) (a0 b0 : Nat → Nat → Int) : List jxV → (Nat → Nat → Int) → (Nat → Nat → Int) → Prop := rI (fun r a b => (iv a) ∧ (jfr jW_X12_leave a0 a) ∧ (b0 = b) ∧ (OC a) ∧ ((a0 146 2 = 0 → r = 0 - 1)) ∧ (0 ≤ x1 ∧ x1 < a0 146 2 ∧ ¬ a0 152 x1.toNat = 0 → UP (a0 152) (a 152) x1.toNat 0) ∧ (x1 < 0 ∨ a0 146 2 ≤ x1 ∨ a0 152 x1.toNat = 0 → ∀ j, a 152 j = a0 152 j))
theorem cp_X12_leave_95 (E : jxE) (d : Nat) (hd : Nat.ble 5 (d + 1) = true) (x1 : Int) (a0 b0 : Nat → Nat → Int) (hv0 : iv a0) (hp0 : OC a0) : ∀ n : Nat, (∀ (y1 y2 y3 : Int) (a : Nat → Nat → Int), (((20 - y3) * 1) + 0).toNat ≤ n → iv a → jfr jW_X12_leave a0 a → 0 ≤ y1 → y1 ≤ 39 → 0 ≤ y3 → y3 ≤ 19 → 1 ≤ a 146 49 → y3 < a 146 49 → (UP (a0 152) (a 152) x1.toNat 0) → (OC a) → 1 ≤ a0 146 2 → ((0 ≤ x1 ∧ x1 < a0 146 2) ∧ ¬ a0 152 (x1.toNat) = 0) → jt (jxX E d 279 140 [some (.inr (.inr (.inl 146))), some (.inl y1), some (.inl y2), some (.inl y3)] [] (jxSH, a, b0)) (jQ_X12_leave x1 a0 b0)) ∧ (∀ (y1 y2 y3 : Int) (a : Nat → Nat → Int), (((20 - y3) * 1) + 0).toNat ≤ n → iv a → jfr jW_X12_leave a0 a → 0 ≤ y1 → y1 ≤ 39 → 0 ≤ y3 → y3 ≤ 19 → 1 ≤ a 146 49 → a 181 (y3.toNat) = 1 → y3 < a 146 49 → (UP (a0 152) (a 152) x1.toNat 0) → (OC a) → 1 ≤ a0 146 2 → ((0 ≤ x1 ∧ x1 < a0 146 2) ∧ ¬ a0 152 (x1.toNat) = 0) → jt (jxX E d 279 126 [some (.inr (.inr (.inl 146))), some (.inl y1), some (.inl y2), some (.inl y3)] [] (jxSH, a, b0)) (jQ_X12_leave x1 a0 b0)) ∧ (∀ (y1 y2 y3 : Int) (a : Nat → Nat → Int), (((20 - y3) * 1) + 0).toNat ≤ n → iv a → jfr jW_X12_leave a0 a → 0 ≤ y1 → y1 ≤ 39 → 0 ≤ y3 → y3 ≤ 20 → (UP (a0 152) (a 152) x1.toNat 0) → (OC a) → 1 ≤ a0 146 2 → ((0 ≤ x1 ∧ x1 < a0 146 2) ∧ ¬ a0 152 (x1.toNat) = 0) → jt (jxX E d 279 95 [some (.inr (.inr (.inl 146))), some (.inl y1), some (.inl y2), some (.inl y3)] [] (jxSH, a, b0)) (jQ_X12_leave x1 a0 b0)) := by
  refine jx_ind fun n ih => ?_
  have ih140 : ∀ (y1 y2 y3 : Int) (a : Nat → Nat → Int), (((20 - y3) * 1) + 0).toNat < n → iv a → jfr jW_X12_leave a0 a → 0 ≤ y1 → y1 ≤ 39 → 0 ≤ y3 → y3 ≤ 19 → 1 ≤ a 146 49 → y3 < a 146 49 → (UP (a0 152) (a 152) x1.toNat 0) → (OC a) → 1 ≤ a0 146 2 → ((0 ≤ x1 ∧ x1 < a0 146 2) ∧ ¬ a0 152 (x1.toNat) = 0) → jt (jxX E d 279 140 [some (.inr (.inr (.inl 146))), some (.inl y1), some (.inl y2), some (.inl y3)] [] (jxSH, a, b0)) (jQ_X12_leave x1 a0 b0) := fun y1 y2 y3 a hlt i0 i1 i2 i3 i4 i5 i6 i7 i8 i9 i10 i11 => (ih _ hlt).1 y1 y2 y3 a (Nat.le_refl _) i0 i1 i2 i3 i4 i5 i6 i7 i8 i9 i10 i11
  have ih126 : ∀ (y1 y2 y3 : Int) (a : Nat → Nat → Int), (((20 - y3) * 1) + 0).toNat < n → iv a → jfr jW_X12_leave a0 a → 0 ≤ y1 → y1 ≤ 39 → 0 ≤ y3 → y3 ≤ 19 → 1 ≤ a 146 49 → a 181 (y3.toNat) = 1 → y3 < a 146 49 → (UP (a0 152) (a 152) x1.toNat 0) → (OC a) → 1 ≤ a0 146 2 → ((0 ≤ x1 ∧ x1 < a0 146 2) ∧ ¬ a0 152 (x1.toNat) = 0) → jt (jxX E d 279 126 [some (.inr (.inr (.inl 146))), some (.inl y1), some (.inl y2), some (.inl y3)] [] (jxSH, a, b0)) (jQ_X12_leave x1 a0 b0) := fun y1 y2 y3 a hlt i0 i1 i2 i3 i4 i5 i6 i7 i8 i9 i10 i11 i12 => (ih _ hlt).2.1 y1 y2 y3 a (Nat.le_refl _) i0 i1 i2 i3 i4 i5 i6 i7 i8 i9 i10 i11 i12
  have ih95 : ∀ (y1 y2 y3 : Int) (a : Nat → Nat → Int), (((20 - y3) * 1) + 0).toNat < n → iv a → jfr jW_X12_leave a0 a → 0 ≤ y1 → y1 ≤ 39 → 0 ≤ y3 → y3 ≤ 20 → (UP (a0 152) (a 152) x1.toNat 0) → (OC a) → 1 ≤ a0 146 2 → ((0 ≤ x1 ∧ x1 < a0 146 2) ∧ ¬ a0 152 (x1.toNat) = 0) → jt (jxX E d 279 95 [some (.inr (.inr (.inl 146))), some (.inl y1), some (.inl y2), some (.inl y3)] [] (jxSH, a, b0)) (jQ_X12_leave x1 a0 b0) := fun y1 y2 y3 a hlt i0 i1 i2 i3 i4 i5 i6 i7 i8 i9 => (ih _ hlt).2.2 y1 y2 y3 a (Nat.le_refl _) i0 i1 i2 i3 i4 i5 i6 i7 i8 i9
  have hc140 : ∀ (y1 y2 y3 : Int) (a : Nat → Nat → Int), (((20 - y3) * 1) + 0).toNat ≤ n → iv a → jfr jW_X12_leave a0 a → 0 ≤ y1 → y1 ≤ 39 → 0 ≤ y3 → y3 ≤ 19 → 1 ≤ a 146 49 → y3 < a 146 49 → (UP (a0 152) (a 152) x1.toNat 0) → (OC a) → 1 ≤ a0 146 2 → ((0 ≤ x1 ∧ x1 < a0 146 2) ∧ ¬ a0 152 (x1.toNat) = 0) → jt (jxX E d 279 140 [some (.inr (.inr (.inl 146))), some (.inl y1), some (.inl y2), some (.inl y3)] [] (jxSH, a, b0)) (jQ_X12_leave x1 a0 b0) := by
    intro y1 y2 y3 a hm hv hf hi0 hi1 hi2 hi3 hi4 hi5 hu152 hi7 hi8 hi9
    refine jt_eq (bq_X12_leave_140 E d y1 y2 y3 a b0) ?_
    have h440_ := iv_get hv (k := 146) (j := 49) (l := 0) (u := 20) rfl
    have h441_ : a 146 49 = a0 146 49 := hf 146 49 rfl
    have h442_ := iv_get hv0 (k := 146) (j := 49) (l := 0) (u := 20) rfl
    have h443_ := iv_get hv0 (k := 146) (j := 2) (l := 0) (u := 40) rfl
    have h444_ := iv_get hv0 (k := 152) (j := x1.toNat) (l := 0) (u := 1) rfl
    refine jt_grd (by omega) ?_
    have hv445_ : iv (jxu a 181 (y3.toNat) 2) := iv_put hv (l := 0) (u := 2) rfl (by omega) (by omega)
    have hf446_ : jfr jW_X12_leave a0 (jxu a 181 (y3.toNat) 2) := jfr_put hf rfl
    have h447_ : jxw (y3 + 1) = y3 + 1 := jxw_id (by omega) (by omega)
    have hg448_ : OC (jxu a 181 (y3.toNat) 2) := (OC_put2 hi7 (by decide) (by omega))
    exact ih95 y1 y2 (jxw (y3 + 1)) (jxu a 181 (y3.toNat) 2) (show (((20 - (jxw (y3 + 1))) * 1) + 0).toNat < n from by omega) hv445_ hf446_ (show 0 ≤ y1 from by omega) (show y1 ≤ 39 from by omega) (show 0 ≤ jxw (y3 + 1) from by omega) (show jxw (y3 + 1) ≤ 20 from by omega) (UP_cr hu152 (fun j => rfl)) hg448_ (show 1 ≤ a0 146 2 from by omega) (show ((0 ≤ x1 ∧ x1 < a0 146 2) ∧ ¬ a0 152 (x1.toNat) = 0) from by omega)
  have hc126 : ∀ (y1 y2 y3 : Int) (a : Nat → Nat → Int), (((20 - y3) * 1) + 0).toNat ≤ n → iv a → jfr jW_X12_leave a0 a → 0 ≤ y1 → y1 ≤ 39 → 0 ≤ y3 → y3 ≤ 19 → 1 ≤ a 146 49 → a 181 (y3.toNat) = 1 → y3 < a 146 49 → (UP (a0 152) (a 152) x1.toNat 0) → (OC a) → 1 ≤ a0 146 2 → ((0 ≤ x1 ∧ x1 < a0 146 2) ∧ ¬ a0 152 (x1.toNat) = 0) → jt (jxX E d 279 126 [some (.inr (.inr (.inl 146))), some (.inl y1), some (.inl y2), some (.inl y3)] [] (jxSH, a, b0)) (jQ_X12_leave x1 a0 b0) := by
    intro y1 y2 y3 a hm hv hf hi0 hi1 hi2 hi3 hi4 hi5 hi6 hu152 hi8 hi9 hi10
    refine jt_eq (bq_X12_leave_126 E d y1 y2 y3 a b0) ?_
    have h449_ := iv_get hv (k := 146) (j := 49) (l := 0) (u := 20) rfl
    have h450_ : a 146 49 = a0 146 49 := hf 146 49 rfl
    have h451_ := iv_get hv0 (k := 146) (j := 49) (l := 0) (u := 20) rfl
    have h452_ := iv_get hv (k := 181) (j := y3.toNat) (l := 0) (u := 2) rfl
    have h453_ := iv_get hv0 (k := 146) (j := 2) (l := 0) (u := 40) rfl
    have h454_ := iv_get hv0 (k := 152) (j := x1.toNat) (l := 0) (u := 1) rfl
    refine jt_grd (by omega) ?_
    have h455_ : a 182 (y3.toNat) = a0 182 (y3.toNat) := hf 182 (y3.toNat) rfl
    refine jt_bI (sp_X12_drops E d (jd_le hd rfl) (a 182 (y3.toNat)) y3 a b0 hv (show (0 ≤ y3 ∧ y3 ≤ 19) from by omega) (show y3 < a 146 49 from by omega) (show a 181 (y3.toNat) = 1 from by omega) (show a 182 (y3.toNat) = a 182 (y3.toNat) from by omega) hi8) (fun r456_ a456_ b456_ h456_ => ?_)
    obtain ⟨hv456_, hf456_, rfl, hq456_0, hq456_1⟩ := h456_
    have hf457_ : jfr jW_X12_leave a0 a456_ := jfr_tr hf hf456_ rfl
    have h458_ := iv_get hv456_ (k := 146) (j := 49) (l := 0) (u := 20) rfl
    have h459_ : a456_ 146 49 = a 146 49 := hf456_ 146 49 rfl
    exact hc140 y1 (jxw (y2 + r456_)) y3 a456_ (show (((20 - y3) * 1) + 0).toNat ≤ n from by omega) hv456_ hf457_ (show 0 ≤ y1 from by omega) (show y1 ≤ 39 from by omega) (show 0 ≤ y3 from by omega) (show y3 ≤ 19 from by omega) (show 1 ≤ a456_ 146 49 from by omega) (show y3 < a456_ 146 49 from by omega) (UP_cr hu152 (fun j => (hf456_ 152 j rfl))) hq456_1 (show 1 ≤ a0 146 2 from by omega) (show ((0 ≤ x1 ∧ x1 < a0 146 2) ∧ ¬ a0 152 (x1.toNat) = 0) from by omega)
  have hc95 : ∀ (y1 y2 y3 : Int) (a : Nat → Nat → Int), (((20 - y3) * 1) + 0).toNat ≤ n → iv a → jfr jW_X12_leave a0 a → 0 ≤ y1 → y1 ≤ 39 → 0 ≤ y3 → y3 ≤ 20 → (UP (a0 152) (a 152) x1.toNat 0) → (OC a) → 1 ≤ a0 146 2 → ((0 ≤ x1 ∧ x1 < a0 146 2) ∧ ¬ a0 152 (x1.toNat) = 0) → jt (jxX E d 279 95 [some (.inr (.inr (.inl 146))), some (.inl y1), some (.inl y2), some (.inl y3)] [] (jxSH, a, b0)) (jQ_X12_leave x1 a0 b0) := by
    intro y1 y2 y3 a hm hv hf hi0 hi1 hi2 hi3 hu152 hi5 hi6 hi7
    refine jt_eq (bq_X12_leave_95 E d y1 y2 y3 a b0) ?_
    have h460_ := iv_get hv0 (k := 146) (j := 2) (l := 0) (u := 40) rfl
    have h461_ := iv_get hv0 (k := 152) (j := x1.toNat) (l := 0) (u := 1) rfl
    have h462_ := iv_get hv (k := 146) (j := 49) (l := 0) (u := 20) rfl
    have h463_ : a 146 49 = a0 146 49 := hf 146 49 rfl
    have h464_ := iv_get hv0 (k := 146) (j := 49) (l := 0) (u := 20) rfl
    refine jt_ite (fun c465_ => ?_) (fun c465_ => ?_)
    ·
      refine jt_grd (by omega) ?_
      have h466_ := iv_get hv (k := 178) (j := y3.toNat) (l := 0) (u := 39) rfl
      have h467_ : a 178 (y3.toNat) = a0 178 (y3.toNat) := hf 178 (y3.toNat) rfl
      have h468_ := iv_get hv0 (k := 178) (j := y3.toNat) (l := 0) (u := 39) rfl
      refine jt_ite (fun c469_ => ?_) (fun c469_ => ?_)
      ·
        refine jt_grd (by omega) ?_
        have h470_ := iv_get hv (k := 181) (j := y3.toNat) (l := 0) (u := 2) rfl
        refine jt_ite (fun c471_ => ?_) (fun c471_ => ?_)
        ·
          exact hc126 y1 y2 y3 a (show (((20 - y3) * 1) + 0).toNat ≤ n from by omega) hv hf (show 0 ≤ y1 from by omega) (show y1 ≤ 39 from by omega) (show 0 ≤ y3 from by omega) (show y3 ≤ 19 from by omega) (show 1 ≤ a 146 49 from by omega) (show a 181 (y3.toNat) = 1 from by omega) (show y3 < a 146 49 from by omega) (UP_cr hu152 (fun j => rfl)) hi5 (show 1 ≤ a0 146 2 from by omega) (show ((0 ≤ x1 ∧ x1 < a0 146 2) ∧ ¬ a0 152 (x1.toNat) = 0) from by omega)
        ·
          exact hc140 y1 y2 y3 a (show (((20 - y3) * 1) + 0).toNat ≤ n from by omega) hv hf (show 0 ≤ y1 from by omega) (show y1 ≤ 39 from by omega) (show 0 ≤ y3 from by omega) (show y3 ≤ 19 from by omega) (show 1 ≤ a 146 49 from by omega) (show y3 < a 146 49 from by omega) (UP_cr hu152 (fun j => rfl)) hi5 (show 1 ≤ a0 146 2 from by omega) (show ((0 ≤ x1 ∧ x1 < a0 146 2) ∧ ¬ a0 152 (x1.toNat) = 0) from by omega)
      ·
        have h472_ : jxw (y3 + 1) = y3 + 1 := jxw_id (by omega) (by omega)
        exact ih95 y1 y2 (jxw (y3 + 1)) a (show (((20 - (jxw (y3 + 1))) * 1) + 0).toNat < n from by omega) hv hf (show 0 ≤ y1 from by omega) (show y1 ≤ 39 from by omega) (show 0 ≤ jxw (y3 + 1) from by omega) (show jxw (y3 + 1) ≤ 20 from by omega) (UP_cr hu152 (fun j => rfl)) hi5 (show 1 ≤ a0 146 2 from by omega) (show ((0 ≤ x1 ∧ x1 < a0 146 2) ∧ ¬ a0 152 (x1.toNat) = 0) from by omega)
    ·
      exact jt_rI ⟨hv, hf, rfl, hi5, (show (a0 146 2 = 0 → y2 = 0 - 1) from by omega), (fun _ => (UP_cr hu152 (fun j => rfl))), (fun h => absurd h (by omega))⟩
  exact ⟨hc140, hc126, hc95⟩
theorem cp_X12_leave_30 (E : jxE) (d : Nat) (hd : Nat.ble 5 (d + 1) = true) (x1 : Int) (a0 b0 : Nat → Nat → Int) (hv0 : iv a0) (hp0 : OC a0) : ∀ n : Nat, (∀ (y1 y2 y3 : Int) (a : Nat → Nat → Int), (((300 - y3) * 1) + 0).toNat ≤ n → iv a → jfr jW_X12_leave a0 a → 0 ≤ y1 → y1 ≤ 39 → 0 ≤ y3 → y3 ≤ 299 → 1 ≤ a 146 9 → (UP (a0 152) (a 152) x1.toNat 0) → (OC a) → 1 ≤ a0 146 2 → ((0 ≤ x1 ∧ x1 < a0 146 2) ∧ ¬ a0 152 (x1.toNat) = 0) → jt (jxX E d 279 56 [some (.inr (.inr (.inl 146))), some (.inl y1), some (.inl y2), some (.inl y3)] [] (jxSH, a, b0)) (jQ_X12_leave x1 a0 b0)) ∧ (∀ (y1 y2 y3 : Int) (a : Nat → Nat → Int), (((300 - y3) * 1) + 0).toNat ≤ n → iv a → jfr jW_X12_leave a0 a → 0 ≤ y1 → y1 ≤ 39 → 0 ≤ y3 → y3 ≤ 299 → 1 ≤ a 146 9 → (UP (a0 152) (a 152) x1.toNat 0) → (OC a) → 1 ≤ a0 146 2 → ((0 ≤ x1 ∧ x1 < a0 146 2) ∧ ¬ a0 152 (x1.toNat) = 0) → jt (jxX E d 279 84 [some (.inr (.inr (.inl 146))), some (.inl y1), some (.inl y2), some (.inl y3)] [] (jxSH, a, b0)) (jQ_X12_leave x1 a0 b0)) ∧ (∀ (y1 y2 y3 : Int) (a : Nat → Nat → Int), (((300 - y3) * 1) + 0).toNat ≤ n → iv a → jfr jW_X12_leave a0 a → 0 ≤ y1 → y1 ≤ 39 → 0 ≤ y3 → y3 ≤ 299 → 1 ≤ a 146 9 → (UP (a0 152) (a 152) x1.toNat 0) → (OC a) → 1 ≤ a0 146 2 → ((0 ≤ x1 ∧ x1 < a0 146 2) ∧ ¬ a0 152 (x1.toNat) = 0) → jt (jxX E d 279 59 [some (.inr (.inr (.inl 146))), some (.inl y1), some (.inl y2), some (.inl y3)] [] (jxSH, a, b0)) (jQ_X12_leave x1 a0 b0)) ∧ (∀ (y1 y2 y3 : Int) (a : Nat → Nat → Int), (((300 - y3) * 1) + 0).toNat ≤ n → iv a → jfr jW_X12_leave a0 a → 0 ≤ y1 → y1 ≤ 39 → 0 ≤ y3 → y3 ≤ 300 → (UP (a0 152) (a 152) x1.toNat 0) → (OC a) → 1 ≤ a0 146 2 → ((0 ≤ x1 ∧ x1 < a0 146 2) ∧ ¬ a0 152 (x1.toNat) = 0) → jt (jxX E d 279 30 [some (.inr (.inr (.inl 146))), some (.inl y1), some (.inl y2), some (.inl y3)] [] (jxSH, a, b0)) (jQ_X12_leave x1 a0 b0)) := by
  refine jx_ind fun n ih => ?_
  have ih56 : ∀ (y1 y2 y3 : Int) (a : Nat → Nat → Int), (((300 - y3) * 1) + 0).toNat < n → iv a → jfr jW_X12_leave a0 a → 0 ≤ y1 → y1 ≤ 39 → 0 ≤ y3 → y3 ≤ 299 → 1 ≤ a 146 9 → (UP (a0 152) (a 152) x1.toNat 0) → (OC a) → 1 ≤ a0 146 2 → ((0 ≤ x1 ∧ x1 < a0 146 2) ∧ ¬ a0 152 (x1.toNat) = 0) → jt (jxX E d 279 56 [some (.inr (.inr (.inl 146))), some (.inl y1), some (.inl y2), some (.inl y3)] [] (jxSH, a, b0)) (jQ_X12_leave x1 a0 b0) := fun y1 y2 y3 a hlt i0 i1 i2 i3 i4 i5 i6 i7 i8 i9 i10 => (ih _ hlt).1 y1 y2 y3 a (Nat.le_refl _) i0 i1 i2 i3 i4 i5 i6 i7 i8 i9 i10
  have ih84 : ∀ (y1 y2 y3 : Int) (a : Nat → Nat → Int), (((300 - y3) * 1) + 0).toNat < n → iv a → jfr jW_X12_leave a0 a → 0 ≤ y1 → y1 ≤ 39 → 0 ≤ y3 → y3 ≤ 299 → 1 ≤ a 146 9 → (UP (a0 152) (a 152) x1.toNat 0) → (OC a) → 1 ≤ a0 146 2 → ((0 ≤ x1 ∧ x1 < a0 146 2) ∧ ¬ a0 152 (x1.toNat) = 0) → jt (jxX E d 279 84 [some (.inr (.inr (.inl 146))), some (.inl y1), some (.inl y2), some (.inl y3)] [] (jxSH, a, b0)) (jQ_X12_leave x1 a0 b0) := fun y1 y2 y3 a hlt i0 i1 i2 i3 i4 i5 i6 i7 i8 i9 i10 => (ih _ hlt).2.1 y1 y2 y3 a (Nat.le_refl _) i0 i1 i2 i3 i4 i5 i6 i7 i8 i9 i10
  have ih59 : ∀ (y1 y2 y3 : Int) (a : Nat → Nat → Int), (((300 - y3) * 1) + 0).toNat < n → iv a → jfr jW_X12_leave a0 a → 0 ≤ y1 → y1 ≤ 39 → 0 ≤ y3 → y3 ≤ 299 → 1 ≤ a 146 9 → (UP (a0 152) (a 152) x1.toNat 0) → (OC a) → 1 ≤ a0 146 2 → ((0 ≤ x1 ∧ x1 < a0 146 2) ∧ ¬ a0 152 (x1.toNat) = 0) → jt (jxX E d 279 59 [some (.inr (.inr (.inl 146))), some (.inl y1), some (.inl y2), some (.inl y3)] [] (jxSH, a, b0)) (jQ_X12_leave x1 a0 b0) := fun y1 y2 y3 a hlt i0 i1 i2 i3 i4 i5 i6 i7 i8 i9 i10 => (ih _ hlt).2.2.1 y1 y2 y3 a (Nat.le_refl _) i0 i1 i2 i3 i4 i5 i6 i7 i8 i9 i10
  have ih30 : ∀ (y1 y2 y3 : Int) (a : Nat → Nat → Int), (((300 - y3) * 1) + 0).toNat < n → iv a → jfr jW_X12_leave a0 a → 0 ≤ y1 → y1 ≤ 39 → 0 ≤ y3 → y3 ≤ 300 → (UP (a0 152) (a 152) x1.toNat 0) → (OC a) → 1 ≤ a0 146 2 → ((0 ≤ x1 ∧ x1 < a0 146 2) ∧ ¬ a0 152 (x1.toNat) = 0) → jt (jxX E d 279 30 [some (.inr (.inr (.inl 146))), some (.inl y1), some (.inl y2), some (.inl y3)] [] (jxSH, a, b0)) (jQ_X12_leave x1 a0 b0) := fun y1 y2 y3 a hlt i0 i1 i2 i3 i4 i5 i6 i7 i8 i9 => (ih _ hlt).2.2.2 y1 y2 y3 a (Nat.le_refl _) i0 i1 i2 i3 i4 i5 i6 i7 i8 i9
  have hc56 : ∀ (y1 y2 y3 : Int) (a : Nat → Nat → Int), (((300 - y3) * 1) + 0).toNat ≤ n → iv a → jfr jW_X12_leave a0 a → 0 ≤ y1 → y1 ≤ 39 → 0 ≤ y3 → y3 ≤ 299 → 1 ≤ a 146 9 → (UP (a0 152) (a 152) x1.toNat 0) → (OC a) → 1 ≤ a0 146 2 → ((0 ≤ x1 ∧ x1 < a0 146 2) ∧ ¬ a0 152 (x1.toNat) = 0) → jt (jxX E d 279 56 [some (.inr (.inr (.inl 146))), some (.inl y1), some (.inl y2), some (.inl y3)] [] (jxSH, a, b0)) (jQ_X12_leave x1 a0 b0) := by
    intro y1 y2 y3 a hm hv hf hi0 hi1 hi2 hi3 hi4 hu152 hi6 hi7 hi8
    refine jt_eq (bq_X12_leave_56 E d y1 y2 y3 a b0) ?_
    have h473_ := iv_get hv (k := 146) (j := 9) (l := 0) (u := 300) rfl
    have h474_ : a 146 9 = a0 146 9 := hf 146 9 rfl
    have h475_ := iv_get hv0 (k := 146) (j := 9) (l := 0) (u := 300) rfl
    have h476_ := iv_get hv0 (k := 146) (j := 2) (l := 0) (u := 40) rfl
    have h477_ := iv_get hv0 (k := 152) (j := x1.toNat) (l := 0) (u := 1) rfl
    have h478_ : jxw (y3 + 1) = y3 + 1 := jxw_id (by omega) (by omega)
    exact ih30 y1 y2 (jxw (y3 + 1)) a (show (((300 - (jxw (y3 + 1))) * 1) + 0).toNat < n from by omega) hv hf (show 0 ≤ y1 from by omega) (show y1 ≤ 39 from by omega) (show 0 ≤ jxw (y3 + 1) from by omega) (show jxw (y3 + 1) ≤ 300 from by omega) (UP_cr hu152 (fun j => rfl)) hi6 (show 1 ≤ a0 146 2 from by omega) (show ((0 ≤ x1 ∧ x1 < a0 146 2) ∧ ¬ a0 152 (x1.toNat) = 0) from by omega)
  have hc84 : ∀ (y1 y2 y3 : Int) (a : Nat → Nat → Int), (((300 - y3) * 1) + 0).toNat ≤ n → iv a → jfr jW_X12_leave a0 a → 0 ≤ y1 → y1 ≤ 39 → 0 ≤ y3 → y3 ≤ 299 → 1 ≤ a 146 9 → (UP (a0 152) (a 152) x1.toNat 0) → (OC a) → 1 ≤ a0 146 2 → ((0 ≤ x1 ∧ x1 < a0 146 2) ∧ ¬ a0 152 (x1.toNat) = 0) → jt (jxX E d 279 84 [some (.inr (.inr (.inl 146))), some (.inl y1), some (.inl y2), some (.inl y3)] [] (jxSH, a, b0)) (jQ_X12_leave x1 a0 b0) := by
    intro y1 y2 y3 a hm hv hf hi0 hi1 hi2 hi3 hi4 hu152 hi6 hi7 hi8
    refine jt_eq (bq_X12_leave_84 E d y1 y2 y3 a b0) ?_
    have h479_ := iv_get hv (k := 146) (j := 9) (l := 0) (u := 300) rfl
    have h480_ : a 146 9 = a0 146 9 := hf 146 9 rfl
    have h481_ := iv_get hv0 (k := 146) (j := 9) (l := 0) (u := 300) rfl
    have h482_ := iv_get hv0 (k := 146) (j := 2) (l := 0) (u := 40) rfl
    have h483_ := iv_get hv0 (k := 152) (j := x1.toNat) (l := 0) (u := 1) rfl
    have h484_ : jxw (y3 + 1) = y3 + 1 := jxw_id (by omega) (by omega)
    exact ih30 y1 (jxw (y2 + 1)) (jxw (y3 + 1)) a (show (((300 - (jxw (y3 + 1))) * 1) + 0).toNat < n from by omega) hv hf (show 0 ≤ y1 from by omega) (show y1 ≤ 39 from by omega) (show 0 ≤ jxw (y3 + 1) from by omega) (show jxw (y3 + 1) ≤ 300 from by omega) (UP_cr hu152 (fun j => rfl)) hi6 (show 1 ≤ a0 146 2 from by omega) (show ((0 ≤ x1 ∧ x1 < a0 146 2) ∧ ¬ a0 152 (x1.toNat) = 0) from by omega)
  have hc59 : ∀ (y1 y2 y3 : Int) (a : Nat → Nat → Int), (((300 - y3) * 1) + 0).toNat ≤ n → iv a → jfr jW_X12_leave a0 a → 0 ≤ y1 → y1 ≤ 39 → 0 ≤ y3 → y3 ≤ 299 → 1 ≤ a 146 9 → (UP (a0 152) (a 152) x1.toNat 0) → (OC a) → 1 ≤ a0 146 2 → ((0 ≤ x1 ∧ x1 < a0 146 2) ∧ ¬ a0 152 (x1.toNat) = 0) → jt (jxX E d 279 59 [some (.inr (.inr (.inl 146))), some (.inl y1), some (.inl y2), some (.inl y3)] [] (jxSH, a, b0)) (jQ_X12_leave x1 a0 b0) := by
    intro y1 y2 y3 a hm hv hf hi0 hi1 hi2 hi3 hi4 hu152 hi6 hi7 hi8
    refine jt_eq (bq_X12_leave_59 E d y1 y2 y3 a b0) ?_
    have h485_ := iv_get hv (k := 146) (j := 9) (l := 0) (u := 300) rfl
    have h486_ : a 146 9 = a0 146 9 := hf 146 9 rfl
    have h487_ := iv_get hv0 (k := 146) (j := 9) (l := 0) (u := 300) rfl
    have h488_ := iv_get hv0 (k := 146) (j := 2) (l := 0) (u := 40) rfl
    have h489_ := iv_get hv0 (k := 152) (j := x1.toNat) (l := 0) (u := 1) rfl
    refine jt_grd (by omega) ?_
    refine jt_grd (by omega) ?_
    have h490_ := iv_get hv (k := 154) (j := y3.toNat) (l := 0) (u := 39) rfl
    have h491_ : a 154 (y3.toNat) = a0 154 (y3.toNat) := hf 154 (y3.toNat) rfl
    have h492_ := iv_get hv0 (k := 154) (j := y3.toNat) (l := 0) (u := 39) rfl
    refine jt_grd (by omega) ?_
    refine jt_grd (by omega) ?_
    have hv493_ : iv (jxu a 159 (y3.toNat) (a 146 0)) := iv_putf hv rfl
    have hv494_ : iv (jxu (jxu a 159 (y3.toNat) (a 146 0)) 153 ((a 154 (y3.toNat)).toNat) (jxw ((a 153 ((a 154 (y3.toNat)).toNat)) + 1))) := iv_putf hv493_ rfl
    have hf495_ : jfr jW_X12_leave a0 (jxu a 159 (y3.toNat) (a 146 0)) := jfr_put hf rfl
    have hf496_ : jfr jW_X12_leave a0 (jxu (jxu a 159 (y3.toNat) (a 146 0)) 153 ((a 154 (y3.toNat)).toNat) (jxw ((a 153 ((a 154 (y3.toNat)).toNat)) + 1))) := jfr_put hf495_ rfl
    have hg497_ : OC (jxu a 159 (y3.toNat) (a 146 0)) := (OC_fr hi6 (jfr_1 a 159 (y3.toNat) (a 146 0)) rfl rfl (fun _ => rfl) (fun _ => rfl) (fun _ => rfl) (fun _ => rfl) (fun _ => rfl))
    have hg498_ : OC (jxu (jxu a 159 (y3.toNat) (a 146 0)) 153 ((a 154 (y3.toNat)).toNat) (jxw ((a 153 ((a 154 (y3.toNat)).toNat)) + 1))) := (OC_fr hg497_ (jfr_1 (jxu a 159 (y3.toNat) (a 146 0)) 153 ((a 154 (y3.toNat)).toNat) (jxw ((a 153 ((a 154 (y3.toNat)).toNat)) + 1))) rfl rfl (fun _ => rfl) (fun _ => rfl) (fun _ => rfl) (fun _ => rfl) (fun _ => rfl))
    exact hc84 y1 y2 y3 (jxu (jxu a 159 (y3.toNat) (a 146 0)) 153 ((a 154 (y3.toNat)).toNat) (jxw ((a 153 ((a 154 (y3.toNat)).toNat)) + 1))) (show (((300 - y3) * 1) + 0).toNat ≤ n from by omega) hv494_ hf496_ (show 0 ≤ y1 from by omega) (show y1 ≤ 39 from by omega) (show 0 ≤ y3 from by omega) (show y3 ≤ 299 from by omega) (show 1 ≤ a 146 9 from by omega) (UP_cr hu152 (fun j => rfl)) hg498_ (show 1 ≤ a0 146 2 from by omega) (show ((0 ≤ x1 ∧ x1 < a0 146 2) ∧ ¬ a0 152 (x1.toNat) = 0) from by omega)
  have hc30 : ∀ (y1 y2 y3 : Int) (a : Nat → Nat → Int), (((300 - y3) * 1) + 0).toNat ≤ n → iv a → jfr jW_X12_leave a0 a → 0 ≤ y1 → y1 ≤ 39 → 0 ≤ y3 → y3 ≤ 300 → (UP (a0 152) (a 152) x1.toNat 0) → (OC a) → 1 ≤ a0 146 2 → ((0 ≤ x1 ∧ x1 < a0 146 2) ∧ ¬ a0 152 (x1.toNat) = 0) → jt (jxX E d 279 30 [some (.inr (.inr (.inl 146))), some (.inl y1), some (.inl y2), some (.inl y3)] [] (jxSH, a, b0)) (jQ_X12_leave x1 a0 b0) := by
    intro y1 y2 y3 a hm hv hf hi0 hi1 hi2 hi3 hu152 hi5 hi6 hi7
    refine jt_eq (bq_X12_leave_30 E d y1 y2 y3 a b0) ?_
    have h499_ := iv_get hv0 (k := 146) (j := 2) (l := 0) (u := 40) rfl
    have h500_ := iv_get hv0 (k := 152) (j := x1.toNat) (l := 0) (u := 1) rfl
    have h501_ := iv_get hv (k := 146) (j := 9) (l := 0) (u := 300) rfl
    have h502_ : a 146 9 = a0 146 9 := hf 146 9 rfl
    have h503_ := iv_get hv0 (k := 146) (j := 9) (l := 0) (u := 300) rfl
    refine jt_ite (fun c504_ => ?_) (fun c504_ => ?_)
    ·
      refine jt_grd (by omega) ?_
      have h505_ := iv_get hv (k := 155) (j := y3.toNat) (l := 0) (u := 39) rfl
      have h506_ : a 155 (y3.toNat) = a0 155 (y3.toNat) := hf 155 (y3.toNat) rfl
      have h507_ := iv_get hv0 (k := 155) (j := y3.toNat) (l := 0) (u := 39) rfl
      refine jt_ite (fun c508_ => ?_) (fun c508_ => ?_)
      ·
        refine jt_bI (sp_X12_stateNow E d (jd_le hd rfl) y3 a b0 hv (show (0 ≤ y3 ∧ y3 ≤ 299) from by omega)) (fun r509_ a509_ b509_ h509_ => ?_)
        obtain ⟨rfl, rfl, hq509_0, hq509_1⟩ := h509_
        refine jt_ite (fun c510_ => ?_) (fun c510_ => ?_)
        ·
          exact hc59 y1 y2 y3 a (show (((300 - y3) * 1) + 0).toNat ≤ n from by omega) hv hf (show 0 ≤ y1 from by omega) (show y1 ≤ 39 from by omega) (show 0 ≤ y3 from by omega) (show y3 ≤ 299 from by omega) (show 1 ≤ a 146 9 from by omega) (UP_cr hu152 (fun j => rfl)) hi5 (show 1 ≤ a0 146 2 from by omega) (show ((0 ≤ x1 ∧ x1 < a0 146 2) ∧ ¬ a0 152 (x1.toNat) = 0) from by omega)
        ·
          exact hc56 y1 y2 y3 a (show (((300 - y3) * 1) + 0).toNat ≤ n from by omega) hv hf (show 0 ≤ y1 from by omega) (show y1 ≤ 39 from by omega) (show 0 ≤ y3 from by omega) (show y3 ≤ 299 from by omega) (show 1 ≤ a 146 9 from by omega) (UP_cr hu152 (fun j => rfl)) hi5 (show 1 ≤ a0 146 2 from by omega) (show ((0 ≤ x1 ∧ x1 < a0 146 2) ∧ ¬ a0 152 (x1.toNat) = 0) from by omega)
      ·
        have h511_ : jxw (y3 + 1) = y3 + 1 := jxw_id (by omega) (by omega)
        exact ih30 y1 y2 (jxw (y3 + 1)) a (show (((300 - (jxw (y3 + 1))) * 1) + 0).toNat < n from by omega) hv hf (show 0 ≤ y1 from by omega) (show y1 ≤ 39 from by omega) (show 0 ≤ jxw (y3 + 1) from by omega) (show jxw (y3 + 1) ≤ 300 from by omega) (UP_cr hu152 (fun j => rfl)) hi5 (show 1 ≤ a0 146 2 from by omega) (show ((0 ≤ x1 ∧ x1 < a0 146 2) ∧ ¬ a0 152 (x1.toNat) = 0) from by omega)
    ·
      exact (cp_X12_leave_95 E d hd x1 a0 b0 hv0 hp0 _).2.2 y1 y2 0 a (Nat.le_refl _) hv hf (show 0 ≤ y1 from by omega) (show y1 ≤ 39 from by omega) (show 0 ≤ 0 from by omega) (show 0 ≤ 20 from by omega) (UP_cr hu152 (fun j => rfl)) hi5 (show 1 ≤ a0 146 2 from by omega) (show ((0 ≤ x1 ∧ x1 < a0 146 2) ∧ ¬ a0 152 (x1.toNat) = 0) from by omega)
  exact ⟨hc56, hc84, hc59, hc30⟩
theorem cp_X12_leave_26 (E : jxE) (d : Nat) (hd : Nat.ble 5 (d + 1) = true) (x1 : Int) (a0 b0 : Nat → Nat → Int) (hv0 : iv a0) (hp0 : OC a0) : ∀ (y1 : Int) (a : Nat → Nat → Int), iv a → jfr jW_X12_leave a0 a → 0 ≤ y1 → y1 ≤ 39 → (UP (a0 152) (a 152) x1.toNat 0) → (OC a) → 1 ≤ a0 146 2 → ((0 ≤ x1 ∧ x1 < a0 146 2) ∧ ¬ a0 152 (x1.toNat) = 0) → jt (jxX E d 279 26 [some (.inr (.inr (.inl 146))), some (.inl y1), none, none] [] (jxSH, a, b0)) (jQ_X12_leave x1 a0 b0) := by
  intro y1 a hv hf hi0 hi1 hu152 hi3 hi4 hi5
  refine jt_eq (bq_X12_leave_26 E d y1 a b0) ?_
  have h512_ := iv_get hv0 (k := 146) (j := 2) (l := 0) (u := 40) rfl
  have h513_ := iv_get hv0 (k := 152) (j := x1.toNat) (l := 0) (u := 1) rfl
  exact (cp_X12_leave_30 E d hd x1 a0 b0 hv0 hp0 _).2.2.2 y1 0 0 a (Nat.le_refl _) hv hf (show 0 ≤ y1 from by omega) (show y1 ≤ 39 from by omega) (show 0 ≤ 0 from by omega) (show 0 ≤ 300 from by omega) (UP_cr hu152 (fun j => rfl)) hi3 (show 1 ≤ a0 146 2 from by omega) (show ((0 ≤ x1 ∧ x1 < a0 146 2) ∧ ¬ a0 152 (x1.toNat) = 0) from by omega)
theorem sp_X12_leave (E : jxE) (d : Nat) (hd : Nat.ble 5 d = true) (x1 : Int) (a0 b0 : Nat → Nat → Int) (hv0 : iv a0) (hp0 : OC a0) : jt (jxC E d 279 [.inr (.inr (.inl 146)), .inl x1] (jxSH, a0, b0)) (jQ_X12_leave x1 a0 b0) := by
  obtain ⟨d, rfl⟩ := jd_succ hd
  refine jt_eq (bq_X12_leave E d x1 a0 b0) ?_
  refine jt_eI (eq_X12_isMember E d (jd_le hd rfl) x1 a0 b0) ?_
  have h514_ := f_X12_isMember_eq a0 b0 x1
  have h515_ := iv_get hv0 (k := 146) (j := 2) (l := 0) (u := 40) rfl
  have h516_ : jxw ((a0 146 2) - 1) = (a0 146 2) - 1 := jxw_id (by omega) (by omega)
  have h517_ := f_X12_in_eq a0 b0 x1 0 (jxw ((a0 146 2) - 1))
  refine jt_ite (fun c518_ => ?_) (fun c518_ => ?_)
  ·
    exact jt_rI ⟨hv0, (jfr_rf _ _), rfl, hp0, (show (a0 146 2 = 0 → (-1) = 0 - 1) from by omega), (fun h => absurd h (by omega)), (fun _ j => rfl)⟩
  ·
    refine jt_grd (by omega) ?_
    have h519_ := iv_get hv0 (k := 152) (j := x1.toNat) (l := 0) (u := 1) rfl
    refine jt_ite (fun c520_ => ?_) (fun c520_ => ?_)
    ·
      exact jt_rI ⟨hv0, (jfr_rf _ _), rfl, hp0, (show (a0 146 2 = 0 → (-1) = 0 - 1) from by omega), (fun h => absurd h (by omega)), (fun _ j => rfl)⟩
    ·
      refine jt_grd (by omega) ?_
      have hv521_ : iv (jxu a0 152 (x1.toNat) 0) := iv_put hv0 (l := 0) (u := 1) rfl (by omega) (by omega)
      have hf522_ : jfr jW_X12_leave a0 (jxu a0 152 (x1.toNat) 0) := jfr_put (jfr_rf _ _) rfl
      have hg523_ : OC (jxu a0 152 (x1.toNat) 0) := (OC_fr hp0 (jfr_1 a0 152 (x1.toNat) 0) rfl rfl (fun _ => rfl) (fun _ => rfl) (fun _ => rfl) (fun _ => rfl) (fun _ => rfl))
      exact cp_X12_leave_26 E d hd x1 a0 b0 hv0 hp0 x1 (jxu a0 152 (x1.toNat) 0) hv521_ hf522_ (show 0 ≤ x1 from by omega) (show x1 ≤ 39 from by omega) (UP_cr (UP_put (fun _ => rfl)) (fun j => rfl)) hg523_ (show 1 ≤ a0 146 2 from by omega) (show ((0 ≤ x1 ∧ x1 < a0 146 2) ∧ ¬ a0 152 (x1.toNat) = 0) from by omega)
def jW_X12_makes : List (Nat × Nat) := [(199, 9999)]
abbrev jQ_X12_makes (a0 b0 : Nat → Nat → Int) : List jxV → (Nat → Nat → Int) → (Nat → Nat → Int) → Prop := rV (fun a b => (iv a) ∧ (jfr jW_X12_makes a0 a) ∧ (b0 = b))
theorem cp_X12_makes_39 (E : jxE) (d : Nat) (hd : Nat.ble 1 (d + 1) = true) (a0 b0 : Nat → Nat → Int) (hv0 : iv a0) (hp0 : SV a0) : ∀ n : Nat, (∀ (y1 y2 y3 y4 y5 : Int) (a : Nat → Nat → Int), (((((((y1 + 1) * 75709) + 0) + ((1400 - y2) * 54)) + 0) + ((51 - y4) * 1)) + 0).toNat ≤ n → iv a → jfr jW_X12_makes a0 a → 0 ≤ y1 → y1 ≤ 7 → 0 ≤ y2 → y2 ≤ 1399 → y3 ≤ 1000000 → 0 ≤ y4 → y4 ≤ 50 → jt (jxX E d 286 112 [some (.inr (.inr (.inl 146))), some (.inl y1), some (.inl y2), some (.inl y3), some (.inl y4), some (.inl y5)] [] (jxSH, a, b0)) (jQ_X12_makes a0 b0)) ∧ (∀ (y1 y2 y3 y4 : Int) (a : Nat → Nat → Int), (((((((y1 + 1) * 75709) + 0) + ((1400 - y2) * 54)) + 0) + ((51 - y4) * 1)) + 0).toNat ≤ n → iv a → jfr jW_X12_makes a0 a → 0 ≤ y1 → y1 ≤ 7 → 0 ≤ y2 → y2 ≤ 1399 → y3 ≤ 1000000 → 0 ≤ y4 → y4 ≤ 50 → y4 ≤ a 197 (y1.toNat) → y4 * (a 196 (y1.toNat)) ≤ y2 → 0 ≤ y4 → jt (jxX E d 286 83 [some (.inr (.inr (.inl 146))), some (.inl y1), some (.inl y2), some (.inl y3), some (.inl y4), none] [] (jxSH, a, b0)) (jQ_X12_makes a0 b0)) ∧ (∀ (y1 y2 y3 : Int) (a : Nat → Nat → Int), (((((y1 + 1) * 75709) + 0) + ((1400 - y2) * 54)) + 0).toNat ≤ n → iv a → jfr jW_X12_makes a0 a → 0 ≤ y1 → y1 ≤ 7 → 0 ≤ y2 → y2 ≤ 1399 → y3 ≤ 1000000 → jt (jxX E d 286 131 [some (.inr (.inr (.inl 146))), some (.inl y1), some (.inl y2), some (.inl y3), none, none] [] (jxSH, a, b0)) (jQ_X12_makes a0 b0)) ∧ (∀ (y1 y2 y3 y4 : Int) (a : Nat → Nat → Int), (((((((y1 + 1) * 75709) + 0) + ((1400 - y2) * 54)) + 0) + ((51 - y4) * 1)) + 0).toNat ≤ n → iv a → jfr jW_X12_makes a0 a → 0 ≤ y1 → y1 ≤ 7 → 0 ≤ y2 → y2 ≤ 1399 → y3 ≤ 1000000 → 0 ≤ y4 → y4 ≤ 51 → 0 ≤ y4 → jt (jxX E d 286 59 [some (.inr (.inr (.inl 146))), some (.inl y1), some (.inl y2), some (.inl y3), some (.inl y4), none] [] (jxSH, a, b0)) (jQ_X12_makes a0 b0)) ∧ (∀ (y1 y2 : Int) (a : Nat → Nat → Int), (((((y1 + 1) * 75709) + 0) + ((1400 - y2) * 54)) + 53).toNat ≤ n → iv a → jfr jW_X12_makes a0 a → 0 ≤ y1 → y1 ≤ 7 → 0 ≤ y2 → y2 ≤ 1400 → jt (jxX E d 286 45 [some (.inr (.inr (.inl 146))), some (.inl y1), some (.inl y2), none, none, none] [] (jxSH, a, b0)) (jQ_X12_makes a0 b0)) ∧ (∀ (y1 : Int) (a : Nat → Nat → Int), (((y1 + 1) * 75709) + 75708).toNat ≤ n → iv a → jfr jW_X12_makes a0 a → 0 - 1 ≤ y1 → y1 ≤ 7 → jt (jxX E d 286 39 [some (.inr (.inr (.inl 146))), some (.inl y1), none, none, none, none] [] (jxSH, a, b0)) (jQ_X12_makes a0 b0)) := by
  refine jx_ind fun n ih => ?_
  have ih112 : ∀ (y1 y2 y3 y4 y5 : Int) (a : Nat → Nat → Int), (((((((y1 + 1) * 75709) + 0) + ((1400 - y2) * 54)) + 0) + ((51 - y4) * 1)) + 0).toNat < n → iv a → jfr jW_X12_makes a0 a → 0 ≤ y1 → y1 ≤ 7 → 0 ≤ y2 → y2 ≤ 1399 → y3 ≤ 1000000 → 0 ≤ y4 → y4 ≤ 50 → jt (jxX E d 286 112 [some (.inr (.inr (.inl 146))), some (.inl y1), some (.inl y2), some (.inl y3), some (.inl y4), some (.inl y5)] [] (jxSH, a, b0)) (jQ_X12_makes a0 b0) := fun y1 y2 y3 y4 y5 a hlt i0 i1 i2 i3 i4 i5 i6 i7 i8 => (ih _ hlt).1 y1 y2 y3 y4 y5 a (Nat.le_refl _) i0 i1 i2 i3 i4 i5 i6 i7 i8
  have ih83 : ∀ (y1 y2 y3 y4 : Int) (a : Nat → Nat → Int), (((((((y1 + 1) * 75709) + 0) + ((1400 - y2) * 54)) + 0) + ((51 - y4) * 1)) + 0).toNat < n → iv a → jfr jW_X12_makes a0 a → 0 ≤ y1 → y1 ≤ 7 → 0 ≤ y2 → y2 ≤ 1399 → y3 ≤ 1000000 → 0 ≤ y4 → y4 ≤ 50 → y4 ≤ a 197 (y1.toNat) → y4 * (a 196 (y1.toNat)) ≤ y2 → 0 ≤ y4 → jt (jxX E d 286 83 [some (.inr (.inr (.inl 146))), some (.inl y1), some (.inl y2), some (.inl y3), some (.inl y4), none] [] (jxSH, a, b0)) (jQ_X12_makes a0 b0) := fun y1 y2 y3 y4 a hlt i0 i1 i2 i3 i4 i5 i6 i7 i8 i9 i10 i11 => (ih _ hlt).2.1 y1 y2 y3 y4 a (Nat.le_refl _) i0 i1 i2 i3 i4 i5 i6 i7 i8 i9 i10 i11
  have ih131 : ∀ (y1 y2 y3 : Int) (a : Nat → Nat → Int), (((((y1 + 1) * 75709) + 0) + ((1400 - y2) * 54)) + 0).toNat < n → iv a → jfr jW_X12_makes a0 a → 0 ≤ y1 → y1 ≤ 7 → 0 ≤ y2 → y2 ≤ 1399 → y3 ≤ 1000000 → jt (jxX E d 286 131 [some (.inr (.inr (.inl 146))), some (.inl y1), some (.inl y2), some (.inl y3), none, none] [] (jxSH, a, b0)) (jQ_X12_makes a0 b0) := fun y1 y2 y3 a hlt i0 i1 i2 i3 i4 i5 i6 => (ih _ hlt).2.2.1 y1 y2 y3 a (Nat.le_refl _) i0 i1 i2 i3 i4 i5 i6
  have ih59 : ∀ (y1 y2 y3 y4 : Int) (a : Nat → Nat → Int), (((((((y1 + 1) * 75709) + 0) + ((1400 - y2) * 54)) + 0) + ((51 - y4) * 1)) + 0).toNat < n → iv a → jfr jW_X12_makes a0 a → 0 ≤ y1 → y1 ≤ 7 → 0 ≤ y2 → y2 ≤ 1399 → y3 ≤ 1000000 → 0 ≤ y4 → y4 ≤ 51 → 0 ≤ y4 → jt (jxX E d 286 59 [some (.inr (.inr (.inl 146))), some (.inl y1), some (.inl y2), some (.inl y3), some (.inl y4), none] [] (jxSH, a, b0)) (jQ_X12_makes a0 b0) := fun y1 y2 y3 y4 a hlt i0 i1 i2 i3 i4 i5 i6 i7 i8 i9 => (ih _ hlt).2.2.2.1 y1 y2 y3 y4 a (Nat.le_refl _) i0 i1 i2 i3 i4 i5 i6 i7 i8 i9
  have ih45 : ∀ (y1 y2 : Int) (a : Nat → Nat → Int), (((((y1 + 1) * 75709) + 0) + ((1400 - y2) * 54)) + 53).toNat < n → iv a → jfr jW_X12_makes a0 a → 0 ≤ y1 → y1 ≤ 7 → 0 ≤ y2 → y2 ≤ 1400 → jt (jxX E d 286 45 [some (.inr (.inr (.inl 146))), some (.inl y1), some (.inl y2), none, none, none] [] (jxSH, a, b0)) (jQ_X12_makes a0 b0) := fun y1 y2 a hlt i0 i1 i2 i3 i4 i5 => (ih _ hlt).2.2.2.2.1 y1 y2 a (Nat.le_refl _) i0 i1 i2 i3 i4 i5
  have ih39 : ∀ (y1 : Int) (a : Nat → Nat → Int), (((y1 + 1) * 75709) + 75708).toNat < n → iv a → jfr jW_X12_makes a0 a → 0 - 1 ≤ y1 → y1 ≤ 7 → jt (jxX E d 286 39 [some (.inr (.inr (.inl 146))), some (.inl y1), none, none, none, none] [] (jxSH, a, b0)) (jQ_X12_makes a0 b0) := fun y1 a hlt i0 i1 i2 i3 => (ih _ hlt).2.2.2.2.2 y1 a (Nat.le_refl _) i0 i1 i2 i3
  have hc112 : ∀ (y1 y2 y3 y4 y5 : Int) (a : Nat → Nat → Int), (((((((y1 + 1) * 75709) + 0) + ((1400 - y2) * 54)) + 0) + ((51 - y4) * 1)) + 0).toNat ≤ n → iv a → jfr jW_X12_makes a0 a → 0 ≤ y1 → y1 ≤ 7 → 0 ≤ y2 → y2 ≤ 1399 → y3 ≤ 1000000 → 0 ≤ y4 → y4 ≤ 50 → jt (jxX E d 286 112 [some (.inr (.inr (.inl 146))), some (.inl y1), some (.inl y2), some (.inl y3), some (.inl y4), some (.inl y5)] [] (jxSH, a, b0)) (jQ_X12_makes a0 b0) := by
    intro y1 y2 y3 y4 y5 a hm hv hf hi0 hi1 hi2 hi3 hi4 hi5 hi6
    refine jt_eq (bq_X12_makes_112 E d y1 y2 y3 y4 y5 a b0) ?_
    refine jt_ite (fun c524_ => ?_) (fun c524_ => ?_)
    ·
      have h525_ : jxw (y4 + 1) = y4 + 1 := jxw_id (by omega) (by omega)
      exact ih59 y1 y2 y5 (jxw (y4 + 1)) a (show (((((((y1 + 1) * 75709) + 0) + ((1400 - y2) * 54)) + 0) + ((51 - (jxw (y4 + 1))) * 1)) + 0).toNat < n from by omega) hv hf (show 0 ≤ y1 from by omega) (show y1 ≤ 7 from by omega) (show 0 ≤ y2 from by omega) (show y2 ≤ 1399 from by omega) (show y5 ≤ 1000000 from by omega) (show 0 ≤ jxw (y4 + 1) from by omega) (show jxw (y4 + 1) ≤ 51 from by omega) (show 0 ≤ jxw (y4 + 1) from by omega)
    ·
      have h526_ : jxw (y4 + 1) = y4 + 1 := jxw_id (by omega) (by omega)
      exact ih59 y1 y2 y3 (jxw (y4 + 1)) a (show (((((((y1 + 1) * 75709) + 0) + ((1400 - y2) * 54)) + 0) + ((51 - (jxw (y4 + 1))) * 1)) + 0).toNat < n from by omega) hv hf (show 0 ≤ y1 from by omega) (show y1 ≤ 7 from by omega) (show 0 ≤ y2 from by omega) (show y2 ≤ 1399 from by omega) (show y3 ≤ 1000000 from by omega) (show 0 ≤ jxw (y4 + 1) from by omega) (show jxw (y4 + 1) ≤ 51 from by omega) (show 0 ≤ jxw (y4 + 1) from by omega)
  have hc83 : ∀ (y1 y2 y3 y4 : Int) (a : Nat → Nat → Int), (((((((y1 + 1) * 75709) + 0) + ((1400 - y2) * 54)) + 0) + ((51 - y4) * 1)) + 0).toNat ≤ n → iv a → jfr jW_X12_makes a0 a → 0 ≤ y1 → y1 ≤ 7 → 0 ≤ y2 → y2 ≤ 1399 → y3 ≤ 1000000 → 0 ≤ y4 → y4 ≤ 50 → y4 ≤ a 197 (y1.toNat) → y4 * (a 196 (y1.toNat)) ≤ y2 → 0 ≤ y4 → jt (jxX E d 286 83 [some (.inr (.inr (.inl 146))), some (.inl y1), some (.inl y2), some (.inl y3), some (.inl y4), none] [] (jxSH, a, b0)) (jQ_X12_makes a0 b0) := by
    intro y1 y2 y3 y4 a hm hv hf hi0 hi1 hi2 hi3 hi4 hi5 hi6 hi7 hi8 hi9
    refine jt_eq (bq_X12_makes_83 E d y1 y2 y3 y4 a b0) ?_
    have h527_ := iv_get hv (k := 197) (j := y1.toNat) (l := 0) (u := 50) rfl
    have h528_ : a 197 (y1.toNat) = a0 197 (y1.toNat) := hf 197 (y1.toNat) rfl
    have h529_ := iv_get hv0 (k := 197) (j := y1.toNat) (l := 0) (u := 50) rfl
    have h530_ := iv_get hv (k := 196) (j := y1.toNat) (l := (-1)) (u := 500) rfl
    have h531_ : a 196 (y1.toNat) = a0 196 (y1.toNat) := hf 196 (y1.toNat) rfl
    have h532_ := iv_get hv0 (k := 196) (j := y1.toNat) (l := (-1)) (u := 500) rfl
    have hsv := SV_fr hp0 hf (fun _ => rfl) (fun _ => rfl) y1.toNat (by omega)
    have i196 := iv_get hv (k := 196) (j := y1.toNat) (l := (-1)) (u := 500) rfl
    have i197 := iv_get hv (k := 197) (j := y1.toNat) (l := 0) (u := 50) rfl
    have hmul : y4 ≤ a 197 (y1.toNat) → 0 ≤ y4 * (a 196 (y1.toNat)) ∧ y4 * (a 196 (y1.toNat)) ≤ 25500 := fun h => mul_bd (by omega) (by omega) (by omega) (by omega)
    refine jt_grd (by omega) ?_
    have h533_ : jxw (y1 + 1) = y1 + 1 := jxw_id (by omega) (by omega)
    have h534_ : jxw (1400 * (jxw (y1 + 1))) = 1400 * (jxw (y1 + 1)) := jxw_id (by omega) (by omega)
    have h535_ : jxw ((jxw (1400 * (jxw (y1 + 1)))) + y2) = (jxw (1400 * (jxw (y1 + 1)))) + y2 := jxw_id (by omega) (by omega)
    have h536_ : jxw (y4 * (a 196 (y1.toNat))) = y4 * (a 196 (y1.toNat)) := jxw_id (by omega) (by omega)
    have h537_ : jxw ((jxw ((jxw (1400 * (jxw (y1 + 1)))) + y2)) - (jxw (y4 * (a 196 (y1.toNat))))) = (jxw ((jxw (1400 * (jxw (y1 + 1)))) + y2)) - (jxw (y4 * (a 196 (y1.toNat)))) := jxw_id (by omega) (by omega)
    refine jt_grd (by omega) ?_
    exact hc112 y1 y2 y3 y4 (jxw (y4 + (a 199 ((jxw ((jxw ((jxw (1400 * (jxw (y1 + 1)))) + y2)) - (jxw (y4 * (a 196 (y1.toNat)))))).toNat)))) a (show (((((((y1 + 1) * 75709) + 0) + ((1400 - y2) * 54)) + 0) + ((51 - y4) * 1)) + 0).toNat ≤ n from by omega) hv hf (show 0 ≤ y1 from by omega) (show y1 ≤ 7 from by omega) (show 0 ≤ y2 from by omega) (show y2 ≤ 1399 from by omega) (show y3 ≤ 1000000 from by omega) (show 0 ≤ y4 from by omega) (show y4 ≤ 50 from by omega)
  have hc131 : ∀ (y1 y2 y3 : Int) (a : Nat → Nat → Int), (((((y1 + 1) * 75709) + 0) + ((1400 - y2) * 54)) + 0).toNat ≤ n → iv a → jfr jW_X12_makes a0 a → 0 ≤ y1 → y1 ≤ 7 → 0 ≤ y2 → y2 ≤ 1399 → y3 ≤ 1000000 → jt (jxX E d 286 131 [some (.inr (.inr (.inl 146))), some (.inl y1), some (.inl y2), some (.inl y3), none, none] [] (jxSH, a, b0)) (jQ_X12_makes a0 b0) := by
    intro y1 y2 y3 a hm hv hf hi0 hi1 hi2 hi3 hi4
    refine jt_eq (bq_X12_makes_131 E d y1 y2 y3 a b0) ?_
    have h538_ : jxw (1400 * y1) = 1400 * y1 := jxw_id (by omega) (by omega)
    have h539_ : jxw ((jxw (1400 * y1)) + y2) = (jxw (1400 * y1)) + y2 := jxw_id (by omega) (by omega)
    refine jt_grd (by omega) ?_
    have hv540_ : iv (jxu a 199 ((jxw ((jxw (1400 * y1)) + y2)).toNat) y3) := iv_putf hv rfl
    have hf541_ : jfr jW_X12_makes a0 (jxu a 199 ((jxw ((jxw (1400 * y1)) + y2)).toNat) y3) := jfr_put hf rfl
    have h542_ : jxw (y2 + 1) = y2 + 1 := jxw_id (by omega) (by omega)
    exact ih45 y1 (jxw (y2 + 1)) (jxu a 199 ((jxw ((jxw (1400 * y1)) + y2)).toNat) y3) (show (((((y1 + 1) * 75709) + 0) + ((1400 - (jxw (y2 + 1))) * 54)) + 53).toNat < n from by omega) hv540_ hf541_ (show 0 ≤ y1 from by omega) (show y1 ≤ 7 from by omega) (show 0 ≤ jxw (y2 + 1) from by omega) (show jxw (y2 + 1) ≤ 1400 from by omega)
  have hc59 : ∀ (y1 y2 y3 y4 : Int) (a : Nat → Nat → Int), (((((((y1 + 1) * 75709) + 0) + ((1400 - y2) * 54)) + 0) + ((51 - y4) * 1)) + 0).toNat ≤ n → iv a → jfr jW_X12_makes a0 a → 0 ≤ y1 → y1 ≤ 7 → 0 ≤ y2 → y2 ≤ 1399 → y3 ≤ 1000000 → 0 ≤ y4 → y4 ≤ 51 → 0 ≤ y4 → jt (jxX E d 286 59 [some (.inr (.inr (.inl 146))), some (.inl y1), some (.inl y2), some (.inl y3), some (.inl y4), none] [] (jxSH, a, b0)) (jQ_X12_makes a0 b0) := by
    intro y1 y2 y3 y4 a hm hv hf hi0 hi1 hi2 hi3 hi4 hi5 hi6 hi7
    refine jt_eq (bq_X12_makes_59 E d y1 y2 y3 y4 a b0) ?_
    have hsv := SV_fr hp0 hf (fun _ => rfl) (fun _ => rfl) y1.toNat (by omega)
    have i196 := iv_get hv (k := 196) (j := y1.toNat) (l := (-1)) (u := 500) rfl
    have i197 := iv_get hv (k := 197) (j := y1.toNat) (l := 0) (u := 50) rfl
    have hmul : y4 ≤ a 197 (y1.toNat) → 0 ≤ y4 * (a 196 (y1.toNat)) ∧ y4 * (a 196 (y1.toNat)) ≤ 25500 := fun h => mul_bd (by omega) (by omega) (by omega) (by omega)
    refine jt_grd (by omega) ?_
    have h543_ := iv_get hv (k := 197) (j := y1.toNat) (l := 0) (u := 50) rfl
    have h544_ : a 197 (y1.toNat) = a0 197 (y1.toNat) := hf 197 (y1.toNat) rfl
    have h545_ := iv_get hv0 (k := 197) (j := y1.toNat) (l := 0) (u := 50) rfl
    refine jt_ite (fun c546_ => ?_) (fun c546_ => ?_)
    ·
      exact hc131 y1 y2 y3 a (show (((((y1 + 1) * 75709) + 0) + ((1400 - y2) * 54)) + 0).toNat ≤ n from by omega) hv hf (show 0 ≤ y1 from by omega) (show y1 ≤ 7 from by omega) (show 0 ≤ y2 from by omega) (show y2 ≤ 1399 from by omega) (show y3 ≤ 1000000 from by omega)
    ·
      refine jt_grd (by omega) ?_
      have h547_ := iv_get hv (k := 196) (j := y1.toNat) (l := (-1)) (u := 500) rfl
      have h548_ : a 196 (y1.toNat) = a0 196 (y1.toNat) := hf 196 (y1.toNat) rfl
      have h549_ := iv_get hv0 (k := 196) (j := y1.toNat) (l := (-1)) (u := 500) rfl
      have h550_ : jxw (y4 * (a 196 (y1.toNat))) = y4 * (a 196 (y1.toNat)) := jxw_id (by omega) (by omega)
      refine jt_ite (fun c551_ => ?_) (fun c551_ => ?_)
      ·
        exact hc131 y1 y2 y3 a (show (((((y1 + 1) * 75709) + 0) + ((1400 - y2) * 54)) + 0).toNat ≤ n from by omega) hv hf (show 0 ≤ y1 from by omega) (show y1 ≤ 7 from by omega) (show 0 ≤ y2 from by omega) (show y2 ≤ 1399 from by omega) (show y3 ≤ 1000000 from by omega)
      ·
        exact hc83 y1 y2 y3 y4 a (show (((((((y1 + 1) * 75709) + 0) + ((1400 - y2) * 54)) + 0) + ((51 - y4) * 1)) + 0).toNat ≤ n from by omega) hv hf (show 0 ≤ y1 from by omega) (show y1 ≤ 7 from by omega) (show 0 ≤ y2 from by omega) (show y2 ≤ 1399 from by omega) (show y3 ≤ 1000000 from by omega) (show 0 ≤ y4 from by omega) (show y4 ≤ 50 from by omega) (show y4 ≤ a 197 (y1.toNat) from by omega) (show y4 * (a 196 (y1.toNat)) ≤ y2 from by omega) (show 0 ≤ y4 from by omega)
  have hc45 : ∀ (y1 y2 : Int) (a : Nat → Nat → Int), (((((y1 + 1) * 75709) + 0) + ((1400 - y2) * 54)) + 53).toNat ≤ n → iv a → jfr jW_X12_makes a0 a → 0 ≤ y1 → y1 ≤ 7 → 0 ≤ y2 → y2 ≤ 1400 → jt (jxX E d 286 45 [some (.inr (.inr (.inl 146))), some (.inl y1), some (.inl y2), none, none, none] [] (jxSH, a, b0)) (jQ_X12_makes a0 b0) := by
    intro y1 y2 a hm hv hf hi0 hi1 hi2 hi3
    refine jt_eq (bq_X12_makes_45 E d y1 y2 a b0) ?_
    refine jt_ite (fun c552_ => ?_) (fun c552_ => ?_)
    ·
      exact hc59 y1 y2 1000000 0 a (show (((((((y1 + 1) * 75709) + 0) + ((1400 - y2) * 54)) + 0) + ((51 - 0) * 1)) + 0).toNat ≤ n from by omega) hv hf (show 0 ≤ y1 from by omega) (show y1 ≤ 7 from by omega) (show 0 ≤ y2 from by omega) (show y2 ≤ 1399 from by omega) (show 1000000 ≤ 1000000 from by omega) (show 0 ≤ 0 from by omega) (show 0 ≤ 51 from by omega) (show 0 ≤ 0 from by omega)
    ·
      have h553_ : jxw (y1 + (-1)) = y1 + (-1) := jxw_id (by omega) (by omega)
      exact ih39 (jxw (y1 + (-1))) a (show ((((jxw (y1 + (-1))) + 1) * 75709) + 75708).toNat < n from by omega) hv hf (show 0 - 1 ≤ jxw (y1 + (-1)) from by omega) (show jxw (y1 + (-1)) ≤ 7 from by omega)
  have hc39 : ∀ (y1 : Int) (a : Nat → Nat → Int), (((y1 + 1) * 75709) + 75708).toNat ≤ n → iv a → jfr jW_X12_makes a0 a → 0 - 1 ≤ y1 → y1 ≤ 7 → jt (jxX E d 286 39 [some (.inr (.inr (.inl 146))), some (.inl y1), none, none, none, none] [] (jxSH, a, b0)) (jQ_X12_makes a0 b0) := by
    intro y1 a hm hv hf hi0 hi1
    refine jt_eq (bq_X12_makes_39 E d y1 a b0) ?_
    refine jt_ite (fun c554_ => ?_) (fun c554_ => ?_)
    ·
      exact jt_rV ⟨hv, hf, rfl⟩
    ·
      exact hc45 y1 0 a (show (((((y1 + 1) * 75709) + 0) + ((1400 - 0) * 54)) + 53).toNat ≤ n from by omega) hv hf (show 0 ≤ y1 from by omega) (show y1 ≤ 7 from by omega) (show 0 ≤ 0 from by omega) (show 0 ≤ 1400 from by omega)
  exact ⟨hc112, hc83, hc131, hc59, hc45, hc39⟩
theorem cp_X12_makes_2 (E : jxE) (d : Nat) (hd : Nat.ble 1 (d + 1) = true) (a0 b0 : Nat → Nat → Int) (hv0 : iv a0) (hp0 : SV a0) : ∀ n : Nat, (∀ (y1 : Int) (a : Nat → Nat → Int), (((1400 - y1) * 2) + 1).toNat ≤ n → iv a → jfr jW_X12_makes a0 a → 1 ≤ y1 → y1 ≤ 1400 → jt (jxX E d 286 33 [some (.inr (.inr (.inl 146))), some (.inl y1), none, none, none, none] [] (jxSH, a, b0)) (jQ_X12_makes a0 b0)) ∧ (∀ (y1 : Int) (a : Nat → Nat → Int), (((1400 - y1) * 2) + 0).toNat ≤ n → iv a → jfr jW_X12_makes a0 a → 0 ≤ y1 → y1 ≤ 1400 → jt (jxX E d 286 2 [some (.inr (.inr (.inl 146))), some (.inl y1), none, none, none, none] [] (jxSH, a, b0)) (jQ_X12_makes a0 b0)) := by
  refine jx_ind fun n ih => ?_
  have ih33 : ∀ (y1 : Int) (a : Nat → Nat → Int), (((1400 - y1) * 2) + 1).toNat < n → iv a → jfr jW_X12_makes a0 a → 1 ≤ y1 → y1 ≤ 1400 → jt (jxX E d 286 33 [some (.inr (.inr (.inl 146))), some (.inl y1), none, none, none, none] [] (jxSH, a, b0)) (jQ_X12_makes a0 b0) := fun y1 a hlt i0 i1 i2 i3 => (ih _ hlt).1 y1 a (Nat.le_refl _) i0 i1 i2 i3
  have ih2 : ∀ (y1 : Int) (a : Nat → Nat → Int), (((1400 - y1) * 2) + 0).toNat < n → iv a → jfr jW_X12_makes a0 a → 0 ≤ y1 → y1 ≤ 1400 → jt (jxX E d 286 2 [some (.inr (.inr (.inl 146))), some (.inl y1), none, none, none, none] [] (jxSH, a, b0)) (jQ_X12_makes a0 b0) := fun y1 a hlt i0 i1 i2 i3 => (ih _ hlt).2 y1 a (Nat.le_refl _) i0 i1 i2 i3
  have hc33 : ∀ (y1 : Int) (a : Nat → Nat → Int), (((1400 - y1) * 2) + 1).toNat ≤ n → iv a → jfr jW_X12_makes a0 a → 1 ≤ y1 → y1 ≤ 1400 → jt (jxX E d 286 33 [some (.inr (.inr (.inl 146))), some (.inl y1), none, none, none, none] [] (jxSH, a, b0)) (jQ_X12_makes a0 b0) := by
    intro y1 a hm hv hf hi0 hi1
    refine jt_eq (bq_X12_makes_33 E d y1 a b0) ?_
    exact ih2 y1 a (show (((1400 - y1) * 2) + 0).toNat < n from by omega) hv hf (show 0 ≤ y1 from by omega) (show y1 ≤ 1400 from by omega)
  have hc2 : ∀ (y1 : Int) (a : Nat → Nat → Int), (((1400 - y1) * 2) + 0).toNat ≤ n → iv a → jfr jW_X12_makes a0 a → 0 ≤ y1 → y1 ≤ 1400 → jt (jxX E d 286 2 [some (.inr (.inr (.inl 146))), some (.inl y1), none, none, none, none] [] (jxSH, a, b0)) (jQ_X12_makes a0 b0) := by
    intro y1 a hm hv hf hi0 hi1
    refine jt_eq (bq_X12_makes_2 E d y1 a b0) ?_
    refine jt_ite (fun c555_ => ?_) (fun c555_ => ?_)
    ·
      refine jt_ite (fun c556_ => ?_) (fun c556_ => ?_)
      ·
        have h557_ : jxw (11200 + y1) = 11200 + y1 := jxw_id (by omega) (by omega)
        refine jt_grd (by omega) ?_
        have hv558_ : iv (jxu a 199 ((jxw (11200 + y1)).toNat) 0) := iv_putf hv rfl
        have hf559_ : jfr jW_X12_makes a0 (jxu a 199 ((jxw (11200 + y1)).toNat) 0) := jfr_put hf rfl
        have h560_ : jxw (y1 + 1) = y1 + 1 := jxw_id (by omega) (by omega)
        exact hc33 (jxw (y1 + 1)) (jxu a 199 ((jxw (11200 + y1)).toNat) 0) (show (((1400 - (jxw (y1 + 1))) * 2) + 1).toNat ≤ n from by omega) hv558_ hf559_ (show 1 ≤ jxw (y1 + 1) from by omega) (show jxw (y1 + 1) ≤ 1400 from by omega)
      ·
        have h561_ : jxw (11200 + y1) = 11200 + y1 := jxw_id (by omega) (by omega)
        refine jt_grd (by omega) ?_
        have hv562_ : iv (jxu a 199 ((jxw (11200 + y1)).toNat) 1000000) := iv_putf hv rfl
        have hf563_ : jfr jW_X12_makes a0 (jxu a 199 ((jxw (11200 + y1)).toNat) 1000000) := jfr_put hf rfl
        have h564_ : jxw (y1 + 1) = y1 + 1 := jxw_id (by omega) (by omega)
        exact hc33 (jxw (y1 + 1)) (jxu a 199 ((jxw (11200 + y1)).toNat) 1000000) (show (((1400 - (jxw (y1 + 1))) * 2) + 1).toNat ≤ n from by omega) hv562_ hf563_ (show 1 ≤ jxw (y1 + 1) from by omega) (show jxw (y1 + 1) ≤ 1400 from by omega)
    ·
      exact (cp_X12_makes_39 E d hd a0 b0 hv0 hp0 _).2.2.2.2.2 7 a (Nat.le_refl _) hv hf (show 0 - 1 ≤ 7 from by omega) (show 7 ≤ 7 from by omega)
  exact ⟨hc33, hc2⟩
theorem sp_X12_makes (E : jxE) (d : Nat) (hd : Nat.ble 1 d = true) (a0 b0 : Nat → Nat → Int) (hv0 : iv a0) (hp0 : SV a0) : jt (jxC E d 286 [.inr (.inr (.inl 146))] (jxSH, a0, b0)) (jQ_X12_makes a0 b0) := by
  obtain ⟨d, rfl⟩ := jd_succ hd
  refine jt_eq (bq_X12_makes E d a0 b0) ?_
  exact (cp_X12_makes_2 E d hd a0 b0 hv0 hp0 _).2 0 a0 (Nat.le_refl _) hv0 (jfr_rf _ _) (show 0 ≤ 0 from by omega) (show 0 ≤ 1400 from by omega)
def jW_X12_may : List (Nat × Nat) := [(170, 9999)]
abbrev jQ_X12_may (x1 x2 : Int) (a0 b0 : Nat → Nat → Int) : List jxV → (Nat → Nat → Int) → (Nat → Nat → Int) → Prop := rI (fun r a b => (iv a) ∧ (jfr jW_X12_may a0 a) ∧ (b0 = b) ∧ ((a0 146 2 = 0 → r = 0 - 1)))
theorem sp_X12_may (E : jxE) (d : Nat) (hd : Nat.ble 8 d = true) (x1 x2 : Int) (a0 b0 : Nat → Nat → Int) (hv0 : iv a0) (hp0 : WFW a0) (hp1 : WISHR a0) : jt (jxC E d 249 [.inr (.inr (.inl 146)), .inl x1, .inl x2] (jxSH, a0, b0)) (jQ_X12_may x1 x2 a0 b0) := by
  obtain ⟨d, rfl⟩ := jd_succ hd
  refine jt_eq (bq_X12_may E d x1 x2 a0 b0) ?_
  refine jt_eI (eq_X12_isMember E d (jd_le hd rfl) x1 a0 b0) ?_
  have h565_ := f_X12_isMember_eq a0 b0 x1
  have h566_ := iv_get hv0 (k := 146) (j := 2) (l := 0) (u := 40) rfl
  have h567_ : jxw ((a0 146 2) - 1) = (a0 146 2) - 1 := jxw_id (by omega) (by omega)
  have h568_ := f_X12_in_eq a0 b0 x1 0 (jxw ((a0 146 2) - 1))
  refine jt_ite (fun c569_ => ?_) (fun c569_ => ?_)
  ·
    exact jt_rI ⟨hv0, (jfr_rf _ _), rfl, (show (a0 146 2 = 0 → (-1) = 0 - 1) from by omega)⟩
  ·
    refine jt_eI (eq_X12_isMember E d (jd_le hd rfl) x2 a0 b0) ?_
    have h570_ := f_X12_isMember_eq a0 b0 x2
    have h571_ := f_X12_in_eq a0 b0 x2 0 (jxw ((a0 146 2) - 1))
    refine jt_ite (fun c572_ => ?_) (fun c572_ => ?_)
    ·
      exact jt_rI ⟨hv0, (jfr_rf _ _), rfl, (show (a0 146 2 = 0 → (-1) = 0 - 1) from by omega)⟩
    ·
      refine jt_bI (sp_X12_mayGet E d (jd_le hd rfl) x1 x2 a0 b0 hv0 (show (0 ≤ x1 ∧ x1 ≤ 39) from by omega) (show (0 ≤ x2 ∧ x2 ≤ 39) from by omega) hp0 hp1) (fun r573_ a573_ b573_ h573_ => ?_)
      obtain ⟨hv573_, hf573_, rfl, hq573_0⟩ := h573_
      refine jt_ite (fun c574_ => ?_) (fun c574_ => ?_)
      ·
        have hf575_ : jfr jW_X12_may a0 a573_ := jfr_tr (jfr_rf _ _) hf573_ rfl
        exact jt_rI ⟨hv573_, hf575_, rfl, (show (a0 146 2 = 0 → 0 = 0 - 1) from by omega)⟩
      ·
        have hf576_ : jfr jW_X12_may a0 a573_ := jfr_tr (jfr_rf _ _) hf573_ rfl
        exact jt_rI ⟨hv573_, hf576_, rfl, (show (a0 146 2 = 0 → 1 = 0 - 1) from by omega)⟩
def jW_X12_meets : List (Nat × Nat) := [(170, 9999)]
abbrev jQ_X12_meets (x1 x2 : Int) (a0 b0 : Nat → Nat → Int) : List jxV → (Nat → Nat → Int) → (Nat → Nat → Int) → Prop := rI (fun r a b => (iv a) ∧ (jfr jW_X12_meets a0 a) ∧ (b0 = b) ∧ ((a0 146 2 = 0 → r = 0 - 1)) ∧ (0 ≤ x1 → x1 < a0 146 2 → 0 ≤ x2 → x2 < a0 146 2 → ¬ x1 = x2 → r = METR a0 b0 x1 x2) ∧ ((((((x1 < 0 ∨ a0 146 2 ≤ x1) ∨ x2 < 0) ∨ a0 146 2 ≤ x2) ∨ x1 = x2) → r = 0 - 1)))
theorem cp_X12_meets_34 (E : jxE) (d : Nat) (hd : Nat.ble 3 (d + 1) = true) (x1 x2 : Int) (a0 b0 : Nat → Nat → Int) (hv0 : iv a0) (hp0 : WFW a0) (hp1 : WISHR a0) : ∀ (a : Nat → Nat → Int), iv a → jfr jW_X12_meets a0 a → ((((0 ≤ x1 ∧ x1 < a 146 2) ∧ 0 ≤ x2) ∧ x2 < a 146 2) ∧ ¬ x1 = x2) → (METR a0 b0 x1 x2 = 1) → 1 ≤ a0 146 2 → jt (jxX E d 228 34 [none, none, none] [] (jxSH, a, b0)) (jQ_X12_meets x1 x2 a0 b0) := by
  intro a hv hf hi0 hmx hi2
  refine jt_eq (bq_X12_meets_34 E d a b0) ?_
  have h577_ := iv_get hv (k := 146) (j := 2) (l := 0) (u := 40) rfl
  have h578_ : a 146 2 = a0 146 2 := hf 146 2 rfl
  have h579_ := iv_get hv0 (k := 146) (j := 2) (l := 0) (u := 40) rfl
  exact jt_rI ⟨hv, hf, rfl, (show (a0 146 2 = 0 → 1 = 0 - 1) from by omega), (fun _ _ _ _ _ => hmx.symm), (show (((((x1 < 0 ∨ a0 146 2 ≤ x1) ∨ x2 < 0) ∨ a0 146 2 ≤ x2) ∨ x1 = x2) → 1 = 0 - 1) from by omega)⟩
theorem cp_X12_meets_38 (E : jxE) (d : Nat) (hd : Nat.ble 3 (d + 1) = true) (x1 x2 : Int) (a0 b0 : Nat → Nat → Int) (hv0 : iv a0) (hp0 : WFW a0) (hp1 : WISHR a0) : ∀ (a : Nat → Nat → Int), iv a → jfr jW_X12_meets a0 a → ((((0 ≤ x1 ∧ x1 < a 146 2) ∧ 0 ≤ x2) ∧ x2 < a 146 2) ∧ ¬ x1 = x2) → (METR a0 b0 x1 x2 = 0) → 1 ≤ a0 146 2 → jt (jxX E d 228 38 [none, none, none] [] (jxSH, a, b0)) (jQ_X12_meets x1 x2 a0 b0) := by
  intro a hv hf hi0 hmx hi2
  refine jt_eq (bq_X12_meets_38 E d a b0) ?_
  have h580_ := iv_get hv (k := 146) (j := 2) (l := 0) (u := 40) rfl
  have h581_ : a 146 2 = a0 146 2 := hf 146 2 rfl
  have h582_ := iv_get hv0 (k := 146) (j := 2) (l := 0) (u := 40) rfl
  exact jt_rI ⟨hv, hf, rfl, (show (a0 146 2 = 0 → 0 = 0 - 1) from by omega), (fun _ _ _ _ _ => hmx.symm), (show (((((x1 < 0 ∨ a0 146 2 ≤ x1) ∨ x2 < 0) ∨ a0 146 2 ≤ x2) ∨ x1 = x2) → 0 = 0 - 1) from by omega)⟩
theorem sp_X12_meets (E : jxE) (d : Nat) (hd : Nat.ble 3 d = true) (x1 x2 : Int) (a0 b0 : Nat → Nat → Int) (hv0 : iv a0) (hp0 : WFW a0) (hp1 : WISHR a0) : jt (jxC E d 228 [.inr (.inr (.inl 146)), .inl x1, .inl x2] (jxSH, a0, b0)) (jQ_X12_meets x1 x2 a0 b0) := by
  obtain ⟨d, rfl⟩ := jd_succ hd
  refine jt_eq (bq_X12_meets E d x1 x2 a0 b0) ?_
  refine jt_eI (eq_X12_isMember E d (jd_le hd rfl) x1 a0 b0) ?_
  have h583_ := f_X12_isMember_eq a0 b0 x1
  have h584_ := iv_get hv0 (k := 146) (j := 2) (l := 0) (u := 40) rfl
  have h585_ : jxw ((a0 146 2) - 1) = (a0 146 2) - 1 := jxw_id (by omega) (by omega)
  have h586_ := f_X12_in_eq a0 b0 x1 0 (jxw ((a0 146 2) - 1))
  refine jt_ite (fun c587_ => ?_) (fun c587_ => ?_)
  ·
    exact jt_rI ⟨hv0, (jfr_rf _ _), rfl, (show (a0 146 2 = 0 → (-1) = 0 - 1) from by omega), (fun h1 h2 h3 h4 h5 => by omega), (show (((((x1 < 0 ∨ a0 146 2 ≤ x1) ∨ x2 < 0) ∨ a0 146 2 ≤ x2) ∨ x1 = x2) → (-1) = 0 - 1) from by omega)⟩
  ·
    refine jt_eI (eq_X12_isMember E d (jd_le hd rfl) x2 a0 b0) ?_
    have h588_ := f_X12_isMember_eq a0 b0 x2
    have h589_ := f_X12_in_eq a0 b0 x2 0 (jxw ((a0 146 2) - 1))
    refine jt_ite (fun c590_ => ?_) (fun c590_ => ?_)
    ·
      exact jt_rI ⟨hv0, (jfr_rf _ _), rfl, (show (a0 146 2 = 0 → (-1) = 0 - 1) from by omega), (fun h1 h2 h3 h4 h5 => by omega), (show (((((x1 < 0 ∨ a0 146 2 ≤ x1) ∨ x2 < 0) ∨ a0 146 2 ≤ x2) ∨ x1 = x2) → (-1) = 0 - 1) from by omega)⟩
    ·
      refine jt_ite (fun c591_ => ?_) (fun c591_ => ?_)
      ·
        exact jt_rI ⟨hv0, (jfr_rf _ _), rfl, (show (a0 146 2 = 0 → (-1) = 0 - 1) from by omega), (fun h1 h2 h3 h4 h5 => by omega), (show (((((x1 < 0 ∨ a0 146 2 ≤ x1) ∨ x2 < 0) ∨ a0 146 2 ≤ x2) ∨ x1 = x2) → (-1) = 0 - 1) from by omega)⟩
      ·
        refine jt_bI (sp_X12_isMet E d (jd_le hd rfl) x1 x2 a0 b0 hv0 (show (0 ≤ x1 ∧ x1 ≤ 39) from by omega) (show (0 ≤ x2 ∧ x2 ≤ 39) from by omega) hp0 hp1) (fun r592_ a592_ b592_ h592_ => ?_)
        obtain ⟨hv592_, hf592_, rfl, hq592_0, hq592_1⟩ := h592_
        refine jt_ite (fun c593_ => ?_) (fun c593_ => ?_)
        ·
          have hf594_ : jfr jW_X12_meets a0 a592_ := jfr_tr (jfr_rf _ _) hf592_ rfl
          have h595_ := iv_get hv592_ (k := 146) (j := 2) (l := 0) (u := 40) rfl
          have h596_ : a592_ 146 2 = a0 146 2 := hf592_ 146 2 rfl
          exact cp_X12_meets_38 E d hd x1 x2 a0 b0 hv0 hp0 hp1 a592_ hv592_ hf594_ (show ((((0 ≤ x1 ∧ x1 < a592_ 146 2) ∧ 0 ≤ x2) ∧ x2 < a592_ 146 2) ∧ ¬ x1 = x2) from by omega) (by have q := hq592_1; omega) (show 1 ≤ a0 146 2 from by omega)
        ·
          have hf597_ : jfr jW_X12_meets a0 a592_ := jfr_tr (jfr_rf _ _) hf592_ rfl
          have h598_ := iv_get hv592_ (k := 146) (j := 2) (l := 0) (u := 40) rfl
          have h599_ : a592_ 146 2 = a0 146 2 := hf592_ 146 2 rfl
          exact cp_X12_meets_34 E d hd x1 x2 a0 b0 hv0 hp0 hp1 a592_ hv592_ hf597_ (show ((((0 ≤ x1 ∧ x1 < a592_ 146 2) ∧ 0 ≤ x2) ∧ x2 < a592_ 146 2) ∧ ¬ x1 = x2) from by omega) (by have q := hq592_1; omega) (show 1 ≤ a0 146 2 from by omega)
def jW_X12_offer : List (Nat × Nat) := [(146, 49), (178, 9999), (179, 9999), (180, 9999), (182, 9999)]
abbrev jQ_X12_offer (x1 x2 x3 : Int) (a0 b0 : Nat → Nat → Int) : List jxV → (Nat → Nat → Int) → (Nat → Nat → Int) → Prop := rI (fun r a b => (iv a) ∧ (jfr jW_X12_offer a0 a) ∧ (b0 = b) ∧ (OC a) ∧ (FO a) ∧ (FW a) ∧ ((a0 146 2 = 0 → r = 0 - 1)) ∧ (((((((((0 ≤ x1 ∧ x1 < a0 146 2) ∧ ¬ a0 152 (x1.toNat) = 0) ∧ 0 ≤ x2) ∧ x2 ≤ 31) ∧ a0 146 49 < 20) ∧ r = a0 146 49) ∧ a 146 49 = (a0 146 49) + 1) ∨ (((((((x1 < 0 ∨ a0 146 2 ≤ x1) ∨ a0 152 (x1.toNat) = 0) ∨ x2 < 0) ∨ 31 < x2) ∨ 20 ≤ a0 146 49) ∧ r = 0 - 1) ∧ a 146 49 = a0 146 49))))
theorem cp_X12_offer_36 (E : jxE) (d : Nat) (hd : Nat.ble 3 (d + 1) = true) (x1 x2 x3 : Int) (a0 b0 : Nat → Nat → Int) (hv0 : iv a0) (hp0 : OC a0) (hp1 : FO a0) (hp2 : FW a0) : ∀ (a : Nat → Nat → Int), iv a → jfr jW_X12_offer a0 a → (((((x1 < 0 ∨ a0 146 2 ≤ x1) ∨ a0 152 (x1.toNat) = 0) ∨ x2 < 0) ∨ 31 < x2) ∨ 20 ≤ a0 146 49) → a 146 49 = a0 146 49 → (OC a) → (FO a) → (FW a) → jt (jxX E d 262 36 [none, none, none, none] [] (jxSH, a, b0)) (jQ_X12_offer x1 x2 x3 a0 b0) := by
  intro a hv hf hi0 hi1 hi2 hi3 hi4
  refine jt_eq (bq_X12_offer_36 E d a b0) ?_
  have h600_ := iv_get hv0 (k := 146) (j := 2) (l := 0) (u := 40) rfl
  have h601_ := iv_get hv0 (k := 152) (j := x1.toNat) (l := 0) (u := 1) rfl
  have h602_ := iv_get hv0 (k := 146) (j := 49) (l := 0) (u := 20) rfl
  have h603_ := iv_get hv (k := 146) (j := 49) (l := 0) (u := 20) rfl
  exact jt_rI ⟨hv, hf, rfl, hi2, hi3, hi4, (show (a0 146 2 = 0 → (-1) = 0 - 1) from by omega), (show ((((((((0 ≤ x1 ∧ x1 < a0 146 2) ∧ ¬ a0 152 (x1.toNat) = 0) ∧ 0 ≤ x2) ∧ x2 ≤ 31) ∧ a0 146 49 < 20) ∧ (-1) = a0 146 49) ∧ a 146 49 = (a0 146 49) + 1) ∨ (((((((x1 < 0 ∨ a0 146 2 ≤ x1) ∨ a0 152 (x1.toNat) = 0) ∨ x2 < 0) ∨ 31 < x2) ∨ 20 ≤ a0 146 49) ∧ (-1) = 0 - 1) ∧ a 146 49 = a0 146 49)) from by omega)⟩
theorem cp_X12_offer_68 (E : jxE) (d : Nat) (hd : Nat.ble 3 (d + 1) = true) (x1 x2 x3 : Int) (a0 b0 : Nat → Nat → Int) (hv0 : iv a0) (hp0 : OC a0) (hp1 : FO a0) (hp2 : FW a0) : ∀ (a : Nat → Nat → Int), iv a → jfr jW_X12_offer a0 a → a 146 49 ≤ 19 → 1 ≤ a0 146 2 → (((((0 ≤ x1 ∧ x1 < a0 146 2) ∧ ¬ a0 152 (x1.toNat) = 0) ∧ 0 ≤ x2) ∧ x2 ≤ 31) ∧ a0 146 49 < 20) → a 146 49 = a0 146 49 → (OC a) → (FO a) → (FW a) → jt (jxX E d 262 68 [some (.inr (.inr (.inl 146))), none, none, none] [] (jxSH, a, b0)) (jQ_X12_offer x1 x2 x3 a0 b0) := by
  intro a hv hf hi0 hi1 hi2 hi3 hi4 hi5 hi6
  refine jt_eq (bq_X12_offer_68 E d a b0) ?_
  have h604_ := iv_get hv (k := 146) (j := 49) (l := 0) (u := 20) rfl
  have h605_ := iv_get hv0 (k := 146) (j := 2) (l := 0) (u := 40) rfl
  have h606_ := iv_get hv0 (k := 152) (j := x1.toNat) (l := 0) (u := 1) rfl
  have h607_ := iv_get hv0 (k := 146) (j := 49) (l := 0) (u := 20) rfl
  refine jt_grd (by omega) ?_
  have hv608_ : iv (jxu a 182 ((a 146 49).toNat) (-1)) := iv_putf hv rfl
  have h610_ : jxw ((a 146 49) + 1) = (a 146 49) + 1 := jxw_id (by omega) (by omega)
  have hv609_ : iv (jxu (jxu a 182 ((a 146 49).toNat) (-1)) 146 49 (jxw ((a 146 49) + 1))) := iv_put hv608_ (l := 0) (u := 20) rfl (by omega) (by omega)
  have hf611_ : jfr jW_X12_offer a0 (jxu a 182 ((a 146 49).toNat) (-1)) := jfr_put hf rfl
  have hf612_ : jfr jW_X12_offer a0 (jxu (jxu a 182 ((a 146 49).toNat) (-1)) 146 49 (jxw ((a 146 49) + 1))) := jfr_put hf611_ rfl
  have hg613_ : OC (jxu a 182 ((a 146 49).toNat) (-1)) := (OC_putx hi4 (by decide) (show a 146 49 ≤ ((((a 146 49).toNat) : Nat) : Int) from by omega))
  have hg614_ : OC (jxu (jxu a 182 ((a 146 49).toNat) (-1)) 146 49 (jxw ((a 146 49) + 1))) := (OC_put49 hg613_ (show 0 ≤ a 146 49 from by omega) (show jxw ((a 146 49) + 1) = a 146 49 + 1 from by omega))
  have hg615_ : FO (jxu a 182 ((a 146 49).toNat) (-1)) := (FO_fr hi5 (jfr_1 a 182 ((a 146 49).toNat) (-1)) rfl rfl (fun _ => rfl))
  have hg616_ : FO (jxu (jxu a 182 ((a 146 49).toNat) (-1)) 146 49 (jxw ((a 146 49) + 1))) := (FO_put49 hg615_ (show a 146 49 ≤ jxw ((a 146 49) + 1) from by omega))
  have hg617_ : FW (jxu a 182 ((a 146 49).toNat) (-1)) := (FW_fr hi6 (jfr_1 a 182 ((a 146 49).toNat) (-1)) rfl (fun _ => rfl))
  have hg618_ : FW (jxu (jxu a 182 ((a 146 49).toNat) (-1)) 146 49 (jxw ((a 146 49) + 1))) := (FW_put49 hg617_ (show a 146 49 ≤ jxw ((a 146 49) + 1) from by omega))
  have h619_ : jxw ((jxw ((a 146 49) + 1)) - 1) = (jxw ((a 146 49) + 1)) - 1 := jxw_id (by omega) (by omega)
  exact jt_rI ⟨hv609_, hf612_, rfl, hg614_, hg616_, hg618_, (show (a0 146 2 = 0 → jxw ((jxw ((a 146 49) + 1)) - 1) = 0 - 1) from by omega), (show ((((((((0 ≤ x1 ∧ x1 < a0 146 2) ∧ ¬ a0 152 (x1.toNat) = 0) ∧ 0 ≤ x2) ∧ x2 ≤ 31) ∧ a0 146 49 < 20) ∧ jxw ((jxw ((a 146 49) + 1)) - 1) = a0 146 49) ∧ jxw ((a 146 49) + 1) = (a0 146 49) + 1) ∨ (((((((x1 < 0 ∨ a0 146 2 ≤ x1) ∨ a0 152 (x1.toNat) = 0) ∨ x2 < 0) ∨ 31 < x2) ∨ 20 ≤ a0 146 49) ∧ jxw ((jxw ((a 146 49) + 1)) - 1) = 0 - 1) ∧ jxw ((a 146 49) + 1) = a0 146 49)) from by omega)⟩
theorem cp_X12_offer_38 (E : jxE) (d : Nat) (hd : Nat.ble 3 (d + 1) = true) (x1 x2 x3 : Int) (a0 b0 : Nat → Nat → Int) (hv0 : iv a0) (hp0 : OC a0) (hp1 : FO a0) (hp2 : FW a0) : ∀ (y1 y2 y3 : Int) (a : Nat → Nat → Int), iv a → jfr jW_X12_offer a0 a → 0 ≤ y1 → y1 ≤ 39 → 0 ≤ y2 → y2 ≤ 31 → a 146 49 ≤ 19 → 1 ≤ a0 146 2 → (((((0 ≤ x1 ∧ x1 < a0 146 2) ∧ ¬ a0 152 (x1.toNat) = 0) ∧ 0 ≤ x2) ∧ x2 ≤ 31) ∧ a0 146 49 < 20) → a 146 49 = a0 146 49 → (OC a) → (FO a) → (FW a) → jt (jxX E d 262 38 [some (.inr (.inr (.inl 146))), some (.inl y1), some (.inl y2), some (.inl y3)] [] (jxSH, a, b0)) (jQ_X12_offer x1 x2 x3 a0 b0) := by
  intro y1 y2 y3 a hv hf hi0 hi1 hi2 hi3 hi4 hi5 hi6 hi7 hi8 hi9 hi10
  refine jt_eq (bq_X12_offer_38 E d y1 y2 y3 a b0) ?_
  have h620_ := iv_get hv (k := 146) (j := 49) (l := 0) (u := 20) rfl
  have h621_ := iv_get hv0 (k := 146) (j := 2) (l := 0) (u := 40) rfl
  have h622_ := iv_get hv0 (k := 152) (j := x1.toNat) (l := 0) (u := 1) rfl
  have h623_ := iv_get hv0 (k := 146) (j := 49) (l := 0) (u := 20) rfl
  refine jt_grd (by omega) ?_
  refine jt_grd (by omega) ?_
  refine jt_grd (by omega) ?_
  have hv624_ : iv (jxu a 178 ((a 146 49).toNat) y1) := iv_put hv (l := 0) (u := 39) rfl (by omega) (by omega)
  have hv625_ : iv (jxu (jxu a 178 ((a 146 49).toNat) y1) 179 ((a 146 49).toNat) y2) := iv_put hv624_ (l := 0) (u := 31) rfl (by omega) (by omega)
  have hv626_ : iv (jxu (jxu (jxu a 178 ((a 146 49).toNat) y1) 179 ((a 146 49).toNat) y2) 180 ((a 146 49).toNat) y3) := iv_putf hv625_ rfl
  have hf627_ : jfr jW_X12_offer a0 (jxu a 178 ((a 146 49).toNat) y1) := jfr_put hf rfl
  have hf628_ : jfr jW_X12_offer a0 (jxu (jxu a 178 ((a 146 49).toNat) y1) 179 ((a 146 49).toNat) y2) := jfr_put hf627_ rfl
  have hf629_ : jfr jW_X12_offer a0 (jxu (jxu (jxu a 178 ((a 146 49).toNat) y1) 179 ((a 146 49).toNat) y2) 180 ((a 146 49).toNat) y3) := jfr_put hf628_ rfl
  have hg630_ : OC (jxu a 178 ((a 146 49).toNat) y1) := (OC_putx hi8 (by decide) (show a 146 49 ≤ ((((a 146 49).toNat) : Nat) : Int) from by omega))
  have hg631_ : OC (jxu (jxu a 178 ((a 146 49).toNat) y1) 179 ((a 146 49).toNat) y2) := (OC_fr hg630_ (jfr_1 (jxu a 178 ((a 146 49).toNat) y1) 179 ((a 146 49).toNat) y2) rfl rfl (fun _ => rfl) (fun _ => rfl) (fun _ => rfl) (fun _ => rfl) (fun _ => rfl))
  have hg632_ : OC (jxu (jxu (jxu a 178 ((a 146 49).toNat) y1) 179 ((a 146 49).toNat) y2) 180 ((a 146 49).toNat) y3) := (OC_fr hg631_ (jfr_1 (jxu (jxu a 178 ((a 146 49).toNat) y1) 179 ((a 146 49).toNat) y2) 180 ((a 146 49).toNat) y3) rfl rfl (fun _ => rfl) (fun _ => rfl) (fun _ => rfl) (fun _ => rfl) (fun _ => rfl))
  have hg633_ : FO (jxu a 178 ((a 146 49).toNat) y1) := (FO_fr hi9 (jfr_1 a 178 ((a 146 49).toNat) y1) rfl rfl (fun _ => rfl))
  have hg634_ : FO (jxu (jxu a 178 ((a 146 49).toNat) y1) 179 ((a 146 49).toNat) y2) := (FO_fr hg633_ (jfr_1 (jxu a 178 ((a 146 49).toNat) y1) 179 ((a 146 49).toNat) y2) rfl rfl (fun _ => rfl))
  have hg635_ : FO (jxu (jxu (jxu a 178 ((a 146 49).toNat) y1) 179 ((a 146 49).toNat) y2) 180 ((a 146 49).toNat) y3) := (FO_fr hg634_ (jfr_1 (jxu (jxu a 178 ((a 146 49).toNat) y1) 179 ((a 146 49).toNat) y2) 180 ((a 146 49).toNat) y3) rfl rfl (fun _ => rfl))
  have hg636_ : FW (jxu a 178 ((a 146 49).toNat) y1) := (FW_fr hi10 (jfr_1 a 178 ((a 146 49).toNat) y1) rfl (fun _ => rfl))
  have hg637_ : FW (jxu (jxu a 178 ((a 146 49).toNat) y1) 179 ((a 146 49).toNat) y2) := (FW_fr hg636_ (jfr_1 (jxu a 178 ((a 146 49).toNat) y1) 179 ((a 146 49).toNat) y2) rfl (fun _ => rfl))
  have hg638_ : FW (jxu (jxu (jxu a 178 ((a 146 49).toNat) y1) 179 ((a 146 49).toNat) y2) 180 ((a 146 49).toNat) y3) := (FW_fr hg637_ (jfr_1 (jxu (jxu a 178 ((a 146 49).toNat) y1) 179 ((a 146 49).toNat) y2) 180 ((a 146 49).toNat) y3) rfl (fun _ => rfl))
  exact cp_X12_offer_68 E d hd x1 x2 x3 a0 b0 hv0 hp0 hp1 hp2 (jxu (jxu (jxu a 178 ((a 146 49).toNat) y1) 179 ((a 146 49).toNat) y2) 180 ((a 146 49).toNat) y3) hv626_ hf629_ (show a 146 49 ≤ 19 from by omega) (show 1 ≤ a0 146 2 from by omega) (show (((((0 ≤ x1 ∧ x1 < a0 146 2) ∧ ¬ a0 152 (x1.toNat) = 0) ∧ 0 ≤ x2) ∧ x2 ≤ 31) ∧ a0 146 49 < 20) from by omega) (show a 146 49 = a0 146 49 from by omega) hg632_ hg635_ hg638_
theorem sp_X12_offer (E : jxE) (d : Nat) (hd : Nat.ble 3 d = true) (x1 x2 x3 : Int) (a0 b0 : Nat → Nat → Int) (hv0 : iv a0) (hp0 : OC a0) (hp1 : FO a0) (hp2 : FW a0) : jt (jxC E d 262 [.inr (.inr (.inl 146)), .inl x1, .inl x2, .inl x3] (jxSH, a0, b0)) (jQ_X12_offer x1 x2 x3 a0 b0) := by
  obtain ⟨d, rfl⟩ := jd_succ hd
  refine jt_eq (bq_X12_offer E d x1 x2 x3 a0 b0) ?_
  have h639_ := iv_get hv0 (k := 146) (j := 49) (l := 0) (u := 20) rfl
  refine jt_ite (fun c640_ => ?_) (fun c640_ => ?_)
  ·
    have h641_ := iv_get hv0 (k := 146) (j := 2) (l := 0) (u := 40) rfl
    have h642_ := iv_get hv0 (k := 152) (j := x1.toNat) (l := 0) (u := 1) rfl
    exact cp_X12_offer_36 E d hd x1 x2 x3 a0 b0 hv0 hp0 hp1 hp2 a0 hv0 (jfr_rf _ _) (show (((((x1 < 0 ∨ a0 146 2 ≤ x1) ∨ a0 152 (x1.toNat) = 0) ∨ x2 < 0) ∨ 31 < x2) ∨ 20 ≤ a0 146 49) from by omega) (show a0 146 49 = a0 146 49 from by omega) hp0 hp1 hp2
  ·
    refine jt_eI (eq_X12_isMember E d (jd_le hd rfl) x1 a0 b0) ?_
    have h643_ := f_X12_isMember_eq a0 b0 x1
    have h644_ := iv_get hv0 (k := 146) (j := 2) (l := 0) (u := 40) rfl
    have h645_ : jxw ((a0 146 2) - 1) = (a0 146 2) - 1 := jxw_id (by omega) (by omega)
    have h646_ := f_X12_in_eq a0 b0 x1 0 (jxw ((a0 146 2) - 1))
    refine jt_ite (fun c647_ => ?_) (fun c647_ => ?_)
    ·
      have h648_ := iv_get hv0 (k := 152) (j := x1.toNat) (l := 0) (u := 1) rfl
      exact cp_X12_offer_36 E d hd x1 x2 x3 a0 b0 hv0 hp0 hp1 hp2 a0 hv0 (jfr_rf _ _) (show (((((x1 < 0 ∨ a0 146 2 ≤ x1) ∨ a0 152 (x1.toNat) = 0) ∨ x2 < 0) ∨ 31 < x2) ∨ 20 ≤ a0 146 49) from by omega) (show a0 146 49 = a0 146 49 from by omega) hp0 hp1 hp2
    ·
      refine jt_grd (by omega) ?_
      have h649_ := iv_get hv0 (k := 152) (j := x1.toNat) (l := 0) (u := 1) rfl
      refine jt_ite (fun c650_ => ?_) (fun c650_ => ?_)
      ·
        exact cp_X12_offer_36 E d hd x1 x2 x3 a0 b0 hv0 hp0 hp1 hp2 a0 hv0 (jfr_rf _ _) (show (((((x1 < 0 ∨ a0 146 2 ≤ x1) ∨ a0 152 (x1.toNat) = 0) ∨ x2 < 0) ∨ 31 < x2) ∨ 20 ≤ a0 146 49) from by omega) (show a0 146 49 = a0 146 49 from by omega) hp0 hp1 hp2
      ·
        refine jt_eI (eq_X12_in E d (jd_le hd rfl) x2 0 31 a0 b0) ?_
        have h651_ := f_X12_in_eq a0 b0 x2 0 31
        refine jt_ite (fun c652_ => ?_) (fun c652_ => ?_)
        ·
          exact cp_X12_offer_36 E d hd x1 x2 x3 a0 b0 hv0 hp0 hp1 hp2 a0 hv0 (jfr_rf _ _) (show (((((x1 < 0 ∨ a0 146 2 ≤ x1) ∨ a0 152 (x1.toNat) = 0) ∨ x2 < 0) ∨ 31 < x2) ∨ 20 ≤ a0 146 49) from by omega) (show a0 146 49 = a0 146 49 from by omega) hp0 hp1 hp2
        ·
          exact cp_X12_offer_38 E d hd x1 x2 x3 a0 b0 hv0 hp0 hp1 hp2 x1 x2 x3 a0 hv0 (jfr_rf _ _) (show 0 ≤ x1 from by omega) (show x1 ≤ 39 from by omega) (show 0 ≤ x2 from by omega) (show x2 ≤ 31 from by omega) (show a0 146 49 ≤ 19 from by omega) (show 1 ≤ a0 146 2 from by omega) (show (((((0 ≤ x1 ∧ x1 < a0 146 2) ∧ ¬ a0 152 (x1.toNat) = 0) ∧ 0 ≤ x2) ∧ x2 ≤ 31) ∧ a0 146 49 < 20) from by omega) (show a0 146 49 = a0 146 49 from by omega) hp0 hp1 hp2
def jW_X12_pay : List (Nat × Nat) := [(146, 75), (197, 9999), (198, 9999), (199, 9999)]
abbrev jQ_X12_pay (x1 x2 : Int) (a0 b0 : Nat → Nat → Int) : List jxV → (Nat → Nat → Int) → (Nat → Nat → Int) → Prop := rI (fun r a b => (iv a) ∧ (jfr jW_X12_pay a0 a) ∧ (b0 = b) ∧ (SV a) ∧ ((a0 146 9 = 0 → r = 0 - 1)))
theorem cp_X12_pay_118 (E : jxE) (d : Nat) (hd : Nat.ble 2 (d + 1) = true) (x1 x2 : Int) (a0 b0 : Nat → Nat → Int) (hv0 : iv a0) (hp0 : SV a0) : ∀ n : Nat, (∀ (y4 y5 y6 y7 : Int) (a : Nat → Nat → Int), (((((8 - y6) * 53) + 0) + ((y7 + 0) * 1)) + 0).toNat ≤ n → iv a → jfr jW_X12_pay a0 a → 0 ≤ y4 → y4 ≤ 1399 → 0 ≤ y5 → y5 ≤ 1399 → 0 ≤ y6 → y6 ≤ 7 → 1 ≤ y7 → y7 ≤ 50 → 0 ≤ y5 → y5 ≤ 1399 → 0 ≤ y7 → y7 ≤ a 197 (y6.toNat) → 1 ≤ y7 → (SV a) → 1 ≤ a0 146 9 → jt (jxX E d 287 201 [some (.inr (.inr (.inl 146))), none, none, none, some (.inl y4), some (.inl y5), some (.inl y6), some (.inl y7)] [] (jxSH, a, b0)) (jQ_X12_pay x1 x2 a0 b0)) ∧ (∀ (y4 y5 y6 : Int) (a : Nat → Nat → Int), (((8 - y6) * 53) + 0).toNat ≤ n → iv a → jfr jW_X12_pay a0 a → 0 ≤ y4 → y4 ≤ 1399 → 0 ≤ y5 → y5 ≤ 1399 → 0 ≤ y6 → y6 ≤ 7 → 0 ≤ y5 → y5 ≤ 1399 → (SV a) → 1 ≤ a0 146 9 → jt (jxX E d 287 243 [some (.inr (.inr (.inl 146))), none, none, none, some (.inl y4), some (.inl y5), some (.inl y6), none] [] (jxSH, a, b0)) (jQ_X12_pay x1 x2 a0 b0)) ∧ (∀ (y4 y5 y6 y7 : Int) (a : Nat → Nat → Int), (((8 - y6) * 53) + 0).toNat ≤ n → iv a → jfr jW_X12_pay a0 a → 0 ≤ y4 → y4 ≤ 1399 → 0 ≤ y5 → y5 ≤ 1399 → 0 ≤ y6 → y6 ≤ 7 → 0 ≤ y7 → y7 ≤ 50 → 0 ≤ y5 → y5 ≤ 1399 → 0 ≤ y7 → y7 ≤ a 197 (y6.toNat) → y7 * (a 196 (y6.toNat)) ≤ y5 → (SV a) → 1 ≤ a0 146 9 → jt (jxX E d 287 207 [some (.inr (.inr (.inl 146))), none, none, none, some (.inl y4), some (.inl y5), some (.inl y6), some (.inl y7)] [] (jxSH, a, b0)) (jQ_X12_pay x1 x2 a0 b0)) ∧ (∀ (y4 y5 y6 y7 : Int) (a : Nat → Nat → Int), (((((8 - y6) * 53) + 0) + ((y7 + 0) * 1)) + 0).toNat ≤ n → iv a → jfr jW_X12_pay a0 a → 0 ≤ y4 → y4 ≤ 1399 → 0 ≤ y5 → y5 ≤ 1399 → 0 ≤ y6 → y6 ≤ 7 → 0 ≤ y7 → y7 ≤ 50 → 0 ≤ y5 → y5 ≤ 1399 → 0 ≤ y7 → y7 ≤ a 197 (y6.toNat) → (SV a) → 1 ≤ a0 146 9 → jt (jxX E d 287 134 [some (.inr (.inr (.inl 146))), none, none, none, some (.inl y4), some (.inl y5), some (.inl y6), some (.inl y7)] [] (jxSH, a, b0)) (jQ_X12_pay x1 x2 a0 b0)) ∧ (∀ (y4 y5 y6 : Int) (a : Nat → Nat → Int), (((8 - y6) * 53) + 52).toNat ≤ n → iv a → jfr jW_X12_pay a0 a → 0 ≤ y4 → y4 ≤ 1399 → 0 ≤ y5 → y5 ≤ 1399 → 0 ≤ y6 → y6 ≤ 8 → 0 ≤ y5 → y5 ≤ 1399 → (SV a) → 1 ≤ a0 146 9 → jt (jxX E d 287 118 [some (.inr (.inr (.inl 146))), none, none, none, some (.inl y4), some (.inl y5), some (.inl y6), none] [] (jxSH, a, b0)) (jQ_X12_pay x1 x2 a0 b0)) := by
  refine jx_ind fun n ih => ?_
  have ih201 : ∀ (y4 y5 y6 y7 : Int) (a : Nat → Nat → Int), (((((8 - y6) * 53) + 0) + ((y7 + 0) * 1)) + 0).toNat < n → iv a → jfr jW_X12_pay a0 a → 0 ≤ y4 → y4 ≤ 1399 → 0 ≤ y5 → y5 ≤ 1399 → 0 ≤ y6 → y6 ≤ 7 → 1 ≤ y7 → y7 ≤ 50 → 0 ≤ y5 → y5 ≤ 1399 → 0 ≤ y7 → y7 ≤ a 197 (y6.toNat) → 1 ≤ y7 → (SV a) → 1 ≤ a0 146 9 → jt (jxX E d 287 201 [some (.inr (.inr (.inl 146))), none, none, none, some (.inl y4), some (.inl y5), some (.inl y6), some (.inl y7)] [] (jxSH, a, b0)) (jQ_X12_pay x1 x2 a0 b0) := fun y4 y5 y6 y7 a hlt i0 i1 i2 i3 i4 i5 i6 i7 i8 i9 i10 i11 i12 i13 i14 i15 i16 => (ih _ hlt).1 y4 y5 y6 y7 a (Nat.le_refl _) i0 i1 i2 i3 i4 i5 i6 i7 i8 i9 i10 i11 i12 i13 i14 i15 i16
  have ih243 : ∀ (y4 y5 y6 : Int) (a : Nat → Nat → Int), (((8 - y6) * 53) + 0).toNat < n → iv a → jfr jW_X12_pay a0 a → 0 ≤ y4 → y4 ≤ 1399 → 0 ≤ y5 → y5 ≤ 1399 → 0 ≤ y6 → y6 ≤ 7 → 0 ≤ y5 → y5 ≤ 1399 → (SV a) → 1 ≤ a0 146 9 → jt (jxX E d 287 243 [some (.inr (.inr (.inl 146))), none, none, none, some (.inl y4), some (.inl y5), some (.inl y6), none] [] (jxSH, a, b0)) (jQ_X12_pay x1 x2 a0 b0) := fun y4 y5 y6 a hlt i0 i1 i2 i3 i4 i5 i6 i7 i8 i9 i10 i11 => (ih _ hlt).2.1 y4 y5 y6 a (Nat.le_refl _) i0 i1 i2 i3 i4 i5 i6 i7 i8 i9 i10 i11
  have ih207 : ∀ (y4 y5 y6 y7 : Int) (a : Nat → Nat → Int), (((8 - y6) * 53) + 0).toNat < n → iv a → jfr jW_X12_pay a0 a → 0 ≤ y4 → y4 ≤ 1399 → 0 ≤ y5 → y5 ≤ 1399 → 0 ≤ y6 → y6 ≤ 7 → 0 ≤ y7 → y7 ≤ 50 → 0 ≤ y5 → y5 ≤ 1399 → 0 ≤ y7 → y7 ≤ a 197 (y6.toNat) → y7 * (a 196 (y6.toNat)) ≤ y5 → (SV a) → 1 ≤ a0 146 9 → jt (jxX E d 287 207 [some (.inr (.inr (.inl 146))), none, none, none, some (.inl y4), some (.inl y5), some (.inl y6), some (.inl y7)] [] (jxSH, a, b0)) (jQ_X12_pay x1 x2 a0 b0) := fun y4 y5 y6 y7 a hlt i0 i1 i2 i3 i4 i5 i6 i7 i8 i9 i10 i11 i12 i13 i14 i15 i16 => (ih _ hlt).2.2.1 y4 y5 y6 y7 a (Nat.le_refl _) i0 i1 i2 i3 i4 i5 i6 i7 i8 i9 i10 i11 i12 i13 i14 i15 i16
  have ih134 : ∀ (y4 y5 y6 y7 : Int) (a : Nat → Nat → Int), (((((8 - y6) * 53) + 0) + ((y7 + 0) * 1)) + 0).toNat < n → iv a → jfr jW_X12_pay a0 a → 0 ≤ y4 → y4 ≤ 1399 → 0 ≤ y5 → y5 ≤ 1399 → 0 ≤ y6 → y6 ≤ 7 → 0 ≤ y7 → y7 ≤ 50 → 0 ≤ y5 → y5 ≤ 1399 → 0 ≤ y7 → y7 ≤ a 197 (y6.toNat) → (SV a) → 1 ≤ a0 146 9 → jt (jxX E d 287 134 [some (.inr (.inr (.inl 146))), none, none, none, some (.inl y4), some (.inl y5), some (.inl y6), some (.inl y7)] [] (jxSH, a, b0)) (jQ_X12_pay x1 x2 a0 b0) := fun y4 y5 y6 y7 a hlt i0 i1 i2 i3 i4 i5 i6 i7 i8 i9 i10 i11 i12 i13 i14 i15 => (ih _ hlt).2.2.2.1 y4 y5 y6 y7 a (Nat.le_refl _) i0 i1 i2 i3 i4 i5 i6 i7 i8 i9 i10 i11 i12 i13 i14 i15
  have ih118 : ∀ (y4 y5 y6 : Int) (a : Nat → Nat → Int), (((8 - y6) * 53) + 52).toNat < n → iv a → jfr jW_X12_pay a0 a → 0 ≤ y4 → y4 ≤ 1399 → 0 ≤ y5 → y5 ≤ 1399 → 0 ≤ y6 → y6 ≤ 8 → 0 ≤ y5 → y5 ≤ 1399 → (SV a) → 1 ≤ a0 146 9 → jt (jxX E d 287 118 [some (.inr (.inr (.inl 146))), none, none, none, some (.inl y4), some (.inl y5), some (.inl y6), none] [] (jxSH, a, b0)) (jQ_X12_pay x1 x2 a0 b0) := fun y4 y5 y6 a hlt i0 i1 i2 i3 i4 i5 i6 i7 i8 i9 i10 i11 => (ih _ hlt).2.2.2.2 y4 y5 y6 a (Nat.le_refl _) i0 i1 i2 i3 i4 i5 i6 i7 i8 i9 i10 i11
  have hc201 : ∀ (y4 y5 y6 y7 : Int) (a : Nat → Nat → Int), (((((8 - y6) * 53) + 0) + ((y7 + 0) * 1)) + 0).toNat ≤ n → iv a → jfr jW_X12_pay a0 a → 0 ≤ y4 → y4 ≤ 1399 → 0 ≤ y5 → y5 ≤ 1399 → 0 ≤ y6 → y6 ≤ 7 → 1 ≤ y7 → y7 ≤ 50 → 0 ≤ y5 → y5 ≤ 1399 → 0 ≤ y7 → y7 ≤ a 197 (y6.toNat) → 1 ≤ y7 → (SV a) → 1 ≤ a0 146 9 → jt (jxX E d 287 201 [some (.inr (.inr (.inl 146))), none, none, none, some (.inl y4), some (.inl y5), some (.inl y6), some (.inl y7)] [] (jxSH, a, b0)) (jQ_X12_pay x1 x2 a0 b0) := by
    intro y4 y5 y6 y7 a hm hv hf hi0 hi1 hi2 hi3 hi4 hi5 hi6 hi7 hi8 hi9 hi10 hi11 hi12 hi13 hi14
    refine jt_eq (bq_X12_pay_201 E d y4 y5 y6 y7 a b0) ?_
    have h653_ := iv_get hv (k := 197) (j := y6.toNat) (l := 0) (u := 50) rfl
    have h654_ := iv_get hv0 (k := 146) (j := 9) (l := 0) (u := 300) rfl
    have i196 := iv_get hv (k := 196) (j := y6.toNat) (l := (-1)) (u := 500) rfl
    have i197 := iv_get hv (k := 197) (j := y6.toNat) (l := 0) (u := 50) rfl
    have hmul : y7 ≤ a 197 (y6.toNat) → 0 ≤ y7 * (a 196 (y6.toNat)) ∧ y7 * (a 196 (y6.toNat)) ≤ 25500 := fun h => mul_bd (by omega) (by omega) (by omega) (by have := (by assumption : SV a) y6.toNat (by omega); omega)
    have hz : y7 = 0 → y7 * (a 196 (y6.toNat)) = 0 := fun h => by rw [h]; exact Int.zero_mul _
    have h655_ : jxw (y7 + (-1)) = y7 + (-1) := jxw_id (by omega) (by omega)
    exact ih134 y4 y5 y6 (jxw (y7 + (-1))) a (show (((((8 - y6) * 53) + 0) + (((jxw (y7 + (-1))) + 0) * 1)) + 0).toNat < n from by omega) hv hf (show 0 ≤ y4 from by omega) (show y4 ≤ 1399 from by omega) (show 0 ≤ y5 from by omega) (show y5 ≤ 1399 from by omega) (show 0 ≤ y6 from by omega) (show y6 ≤ 7 from by omega) (show 0 ≤ jxw (y7 + (-1)) from by omega) (show jxw (y7 + (-1)) ≤ 50 from by omega) (show 0 ≤ y5 from by omega) (show y5 ≤ 1399 from by omega) (show 0 ≤ jxw (y7 + (-1)) from by omega) (show jxw (y7 + (-1)) ≤ a 197 (y6.toNat) from by omega) hi13 (show 1 ≤ a0 146 9 from by omega)
  have hc243 : ∀ (y4 y5 y6 : Int) (a : Nat → Nat → Int), (((8 - y6) * 53) + 0).toNat ≤ n → iv a → jfr jW_X12_pay a0 a → 0 ≤ y4 → y4 ≤ 1399 → 0 ≤ y5 → y5 ≤ 1399 → 0 ≤ y6 → y6 ≤ 7 → 0 ≤ y5 → y5 ≤ 1399 → (SV a) → 1 ≤ a0 146 9 → jt (jxX E d 287 243 [some (.inr (.inr (.inl 146))), none, none, none, some (.inl y4), some (.inl y5), some (.inl y6), none] [] (jxSH, a, b0)) (jQ_X12_pay x1 x2 a0 b0) := by
    intro y4 y5 y6 a hm hv hf hi0 hi1 hi2 hi3 hi4 hi5 hi6 hi7 hi8 hi9
    refine jt_eq (bq_X12_pay_243 E d y4 y5 y6 a b0) ?_
    have h656_ := iv_get hv0 (k := 146) (j := 9) (l := 0) (u := 300) rfl
    have h657_ : jxw (y6 + 1) = y6 + 1 := jxw_id (by omega) (by omega)
    exact ih118 y4 y5 (jxw (y6 + 1)) a (show (((8 - (jxw (y6 + 1))) * 53) + 52).toNat < n from by omega) hv hf (show 0 ≤ y4 from by omega) (show y4 ≤ 1399 from by omega) (show 0 ≤ y5 from by omega) (show y5 ≤ 1399 from by omega) (show 0 ≤ jxw (y6 + 1) from by omega) (show jxw (y6 + 1) ≤ 8 from by omega) (show 0 ≤ y5 from by omega) (show y5 ≤ 1399 from by omega) hi8 (show 1 ≤ a0 146 9 from by omega)
  have hc207 : ∀ (y4 y5 y6 y7 : Int) (a : Nat → Nat → Int), (((8 - y6) * 53) + 0).toNat ≤ n → iv a → jfr jW_X12_pay a0 a → 0 ≤ y4 → y4 ≤ 1399 → 0 ≤ y5 → y5 ≤ 1399 → 0 ≤ y6 → y6 ≤ 7 → 0 ≤ y7 → y7 ≤ 50 → 0 ≤ y5 → y5 ≤ 1399 → 0 ≤ y7 → y7 ≤ a 197 (y6.toNat) → y7 * (a 196 (y6.toNat)) ≤ y5 → (SV a) → 1 ≤ a0 146 9 → jt (jxX E d 287 207 [some (.inr (.inr (.inl 146))), none, none, none, some (.inl y4), some (.inl y5), some (.inl y6), some (.inl y7)] [] (jxSH, a, b0)) (jQ_X12_pay x1 x2 a0 b0) := by
    intro y4 y5 y6 y7 a hm hv hf hi0 hi1 hi2 hi3 hi4 hi5 hi6 hi7 hi8 hi9 hi10 hi11 hi12 hi13 hi14
    refine jt_eq (bq_X12_pay_207 E d y4 y5 y6 y7 a b0) ?_
    have h658_ := iv_get hv (k := 197) (j := y6.toNat) (l := 0) (u := 50) rfl
    have h659_ := iv_get hv (k := 196) (j := y6.toNat) (l := (-1)) (u := 500) rfl
    have h660_ : a 196 (y6.toNat) = a0 196 (y6.toNat) := hf 196 (y6.toNat) rfl
    have h661_ := iv_get hv0 (k := 196) (j := y6.toNat) (l := (-1)) (u := 500) rfl
    have h662_ := iv_get hv0 (k := 146) (j := 9) (l := 0) (u := 300) rfl
    have i196 := iv_get hv (k := 196) (j := y6.toNat) (l := (-1)) (u := 500) rfl
    have i197 := iv_get hv (k := 197) (j := y6.toNat) (l := 0) (u := 50) rfl
    have hmul : y7 ≤ a 197 (y6.toNat) → 0 ≤ y7 * (a 196 (y6.toNat)) ∧ y7 * (a 196 (y6.toNat)) ≤ 25500 := fun h => mul_bd (by omega) (by omega) (by omega) (by have := (by assumption : SV a) y6.toNat (by omega); omega)
    have hz : y7 = 0 → y7 * (a 196 (y6.toNat)) = 0 := fun h => by rw [h]; exact Int.zero_mul _
    refine jt_grd (by omega) ?_
    refine jt_grd (by omega) ?_
    refine jt_grd (by omega) ?_
    refine jt_grd (by omega) ?_
    have hv663_ : iv (jxu a 198 (y6.toNat) y7) := iv_putf hv rfl
    have h665_ : jxw ((a 197 (y6.toNat)) - y7) = (a 197 (y6.toNat)) - y7 := jxw_id (by omega) (by omega)
    have hv664_ : iv (jxu (jxu a 198 (y6.toNat) y7) 197 (y6.toNat) (jxw ((a 197 (y6.toNat)) - y7))) := iv_put hv663_ (l := 0) (u := 50) rfl (by omega) (by omega)
    have hf666_ : jfr jW_X12_pay a0 (jxu a 198 (y6.toNat) y7) := jfr_put hf rfl
    have hf667_ : jfr jW_X12_pay a0 (jxu (jxu a 198 (y6.toNat) y7) 197 (y6.toNat) (jxw ((a 197 (y6.toNat)) - y7))) := jfr_put hf666_ rfl
    have h668_ : jxw (y7 * (a 196 (y6.toNat))) = y7 * (a 196 (y6.toNat)) := jxw_id (by omega) (by omega)
    have h669_ : jxw (y5 - (jxw (y7 * (a 196 (y6.toNat))))) = y5 - (jxw (y7 * (a 196 (y6.toNat)))) := jxw_id (by omega) (by omega)
    have hg670_ : SV (jxu a 198 (y6.toNat) y7) := (SV_fr hi13 (jfr_1 a 198 (y6.toNat) y7) (fun _ => rfl) (fun _ => rfl))
    have hg671_ : SV (jxu (jxu a 198 (y6.toNat) y7) 197 (y6.toNat) (jxw ((a 197 (y6.toNat)) - y7))) := (SV_put197 hg670_ (by first | (left; show jxw ((a 197 (y6.toNat)) - y7) ≤ a 197 (y6.toNat); omega) | (right; show 1 ≤ a 196 (y6.toNat); omega)))
    exact hc243 y4 (jxw (y5 - (jxw (y7 * (a 196 (y6.toNat)))))) y6 (jxu (jxu a 198 (y6.toNat) y7) 197 (y6.toNat) (jxw ((a 197 (y6.toNat)) - y7))) (show (((8 - y6) * 53) + 0).toNat ≤ n from by omega) hv664_ hf667_ (show 0 ≤ y4 from by omega) (show y4 ≤ 1399 from by omega) (show 0 ≤ jxw (y5 - (jxw (y7 * (a 196 (y6.toNat))))) from by omega) (show jxw (y5 - (jxw (y7 * (a 196 (y6.toNat))))) ≤ 1399 from by omega) (show 0 ≤ y6 from by omega) (show y6 ≤ 7 from by omega) (show 0 ≤ jxw (y5 - (jxw (y7 * (a 196 (y6.toNat))))) from by omega) (show jxw (y5 - (jxw (y7 * (a 196 (y6.toNat))))) ≤ 1399 from by omega) hg671_ (show 1 ≤ a0 146 9 from by omega)
  have hc134 : ∀ (y4 y5 y6 y7 : Int) (a : Nat → Nat → Int), (((((8 - y6) * 53) + 0) + ((y7 + 0) * 1)) + 0).toNat ≤ n → iv a → jfr jW_X12_pay a0 a → 0 ≤ y4 → y4 ≤ 1399 → 0 ≤ y5 → y5 ≤ 1399 → 0 ≤ y6 → y6 ≤ 7 → 0 ≤ y7 → y7 ≤ 50 → 0 ≤ y5 → y5 ≤ 1399 → 0 ≤ y7 → y7 ≤ a 197 (y6.toNat) → (SV a) → 1 ≤ a0 146 9 → jt (jxX E d 287 134 [some (.inr (.inr (.inl 146))), none, none, none, some (.inl y4), some (.inl y5), some (.inl y6), some (.inl y7)] [] (jxSH, a, b0)) (jQ_X12_pay x1 x2 a0 b0) := by
    intro y4 y5 y6 y7 a hm hv hf hi0 hi1 hi2 hi3 hi4 hi5 hi6 hi7 hi8 hi9 hi10 hi11 hi12 hi13
    refine jt_eq (bq_X12_pay_134 E d y4 y5 y6 y7 a b0) ?_
    have h672_ := iv_get hv (k := 197) (j := y6.toNat) (l := 0) (u := 50) rfl
    have h673_ := iv_get hv0 (k := 146) (j := 9) (l := 0) (u := 300) rfl
    have i196 := iv_get hv (k := 196) (j := y6.toNat) (l := (-1)) (u := 500) rfl
    have i197 := iv_get hv (k := 197) (j := y6.toNat) (l := 0) (u := 50) rfl
    have hmul : y7 ≤ a 197 (y6.toNat) → 0 ≤ y7 * (a 196 (y6.toNat)) ∧ y7 * (a 196 (y6.toNat)) ≤ 25500 := fun h => mul_bd (by omega) (by omega) (by omega) (by have := (by assumption : SV a) y6.toNat (by omega); omega)
    have hz : y7 = 0 → y7 * (a 196 (y6.toNat)) = 0 := fun h => by rw [h]; exact Int.zero_mul _
    refine jt_ite (fun c674_ => ?_) (fun c674_ => ?_)
    ·
      refine jt_grd (by omega) ?_
      have h675_ := iv_get hv (k := 196) (j := y6.toNat) (l := (-1)) (u := 500) rfl
      have h676_ : a 196 (y6.toNat) = a0 196 (y6.toNat) := hf 196 (y6.toNat) rfl
      have h677_ := iv_get hv0 (k := 196) (j := y6.toNat) (l := (-1)) (u := 500) rfl
      have h678_ : jxw (y7 * (a 196 (y6.toNat))) = y7 * (a 196 (y6.toNat)) := jxw_id (by omega) (by omega)
      refine jt_ite (fun c679_ => ?_) (fun c679_ => ?_)
      ·
        exact hc201 y4 y5 y6 y7 a (show (((((8 - y6) * 53) + 0) + ((y7 + 0) * 1)) + 0).toNat ≤ n from by omega) hv hf (show 0 ≤ y4 from by omega) (show y4 ≤ 1399 from by omega) (show 0 ≤ y5 from by omega) (show y5 ≤ 1399 from by omega) (show 0 ≤ y6 from by omega) (show y6 ≤ 7 from by omega) (show 1 ≤ y7 from by omega) (show y7 ≤ 50 from by omega) (show 0 ≤ y5 from by omega) (show y5 ≤ 1399 from by omega) (show 0 ≤ y7 from by omega) (show y7 ≤ a 197 (y6.toNat) from by omega) (show 1 ≤ y7 from by omega) hi12 (show 1 ≤ a0 146 9 from by omega)
      ·
        refine jt_grd (by omega) ?_
        have h680_ : jxw (y6 + 1) = y6 + 1 := jxw_id (by omega) (by omega)
        have h681_ : jxw (1400 * (jxw (y6 + 1))) = 1400 * (jxw (y6 + 1)) := jxw_id (by omega) (by omega)
        have h682_ : jxw ((jxw (1400 * (jxw (y6 + 1)))) + y5) = (jxw (1400 * (jxw (y6 + 1)))) + y5 := jxw_id (by omega) (by omega)
        have h683_ : jxw ((jxw ((jxw (1400 * (jxw (y6 + 1)))) + y5)) - (jxw (y7 * (a 196 (y6.toNat))))) = (jxw ((jxw (1400 * (jxw (y6 + 1)))) + y5)) - (jxw (y7 * (a 196 (y6.toNat)))) := jxw_id (by omega) (by omega)
        refine jt_grd (by omega) ?_
        have h684_ : jxw (1400 * y6) = 1400 * y6 := jxw_id (by omega) (by omega)
        have h685_ : jxw ((jxw (1400 * y6)) + y5) = (jxw (1400 * y6)) + y5 := jxw_id (by omega) (by omega)
        refine jt_grd (by omega) ?_
        have h686_ := jxw_im (y7 + (a 199 ((jxw ((jxw ((jxw (1400 * (jxw (y6 + 1)))) + y5)) - (jxw (y7 * (a 196 (y6.toNat)))))).toNat)))
        have h687_ := jxw_rg (y7 + (a 199 ((jxw ((jxw ((jxw (1400 * (jxw (y6 + 1)))) + y5)) - (jxw (y7 * (a 196 (y6.toNat)))))).toNat)))
        refine jt_ite (fun c688_ => ?_) (fun c688_ => ?_)
        ·
          exact hc207 y4 y5 y6 y7 a (show (((8 - y6) * 53) + 0).toNat ≤ n from by omega) hv hf (show 0 ≤ y4 from by omega) (show y4 ≤ 1399 from by omega) (show 0 ≤ y5 from by omega) (show y5 ≤ 1399 from by omega) (show 0 ≤ y6 from by omega) (show y6 ≤ 7 from by omega) (show 0 ≤ y7 from by omega) (show y7 ≤ 50 from by omega) (show 0 ≤ y5 from by omega) (show y5 ≤ 1399 from by omega) (show 0 ≤ y7 from by omega) (show y7 ≤ a 197 (y6.toNat) from by omega) (show y7 * (a 196 (y6.toNat)) ≤ y5 from by omega) hi12 (show 1 ≤ a0 146 9 from by omega)
        ·
          exact hc201 y4 y5 y6 y7 a (show (((((8 - y6) * 53) + 0) + ((y7 + 0) * 1)) + 0).toNat ≤ n from by omega) hv hf (show 0 ≤ y4 from by omega) (show y4 ≤ 1399 from by omega) (show 0 ≤ y5 from by omega) (show y5 ≤ 1399 from by omega) (show 0 ≤ y6 from by omega) (show y6 ≤ 7 from by omega) (show 1 ≤ y7 from by omega) (show y7 ≤ 50 from by omega) (show 0 ≤ y5 from by omega) (show y5 ≤ 1399 from by omega) (show 0 ≤ y7 from by omega) (show y7 ≤ a 197 (y6.toNat) from by omega) (show 1 ≤ y7 from by omega) hi12 (show 1 ≤ a0 146 9 from by omega)
    ·
      have h689_ := iv_get hv (k := 196) (j := y6.toNat) (l := (-1)) (u := 500) rfl
      have h690_ : a 196 (y6.toNat) = a0 196 (y6.toNat) := hf 196 (y6.toNat) rfl
      have h691_ := iv_get hv0 (k := 196) (j := y6.toNat) (l := (-1)) (u := 500) rfl
      exact hc207 y4 y5 y6 y7 a (show (((8 - y6) * 53) + 0).toNat ≤ n from by omega) hv hf (show 0 ≤ y4 from by omega) (show y4 ≤ 1399 from by omega) (show 0 ≤ y5 from by omega) (show y5 ≤ 1399 from by omega) (show 0 ≤ y6 from by omega) (show y6 ≤ 7 from by omega) (show 0 ≤ y7 from by omega) (show y7 ≤ 50 from by omega) (show 0 ≤ y5 from by omega) (show y5 ≤ 1399 from by omega) (show 0 ≤ y7 from by omega) (show y7 ≤ a 197 (y6.toNat) from by omega) (show y7 * (a 196 (y6.toNat)) ≤ y5 from by omega) hi12 (show 1 ≤ a0 146 9 from by omega)
  have hc118 : ∀ (y4 y5 y6 : Int) (a : Nat → Nat → Int), (((8 - y6) * 53) + 52).toNat ≤ n → iv a → jfr jW_X12_pay a0 a → 0 ≤ y4 → y4 ≤ 1399 → 0 ≤ y5 → y5 ≤ 1399 → 0 ≤ y6 → y6 ≤ 8 → 0 ≤ y5 → y5 ≤ 1399 → (SV a) → 1 ≤ a0 146 9 → jt (jxX E d 287 118 [some (.inr (.inr (.inl 146))), none, none, none, some (.inl y4), some (.inl y5), some (.inl y6), none] [] (jxSH, a, b0)) (jQ_X12_pay x1 x2 a0 b0) := by
    intro y4 y5 y6 a hm hv hf hi0 hi1 hi2 hi3 hi4 hi5 hi6 hi7 hi8 hi9
    refine jt_eq (bq_X12_pay_118 E d y4 y5 y6 a b0) ?_
    have h692_ := iv_get hv0 (k := 146) (j := 9) (l := 0) (u := 300) rfl
    refine jt_ite (fun c693_ => ?_) (fun c693_ => ?_)
    ·
      refine jt_grd (by omega) ?_
      have h694_ := iv_get hv (k := 197) (j := y6.toNat) (l := 0) (u := 50) rfl
      exact hc134 y4 y5 y6 (a 197 (y6.toNat)) a (show (((((8 - y6) * 53) + 0) + (((a 197 (y6.toNat)) + 0) * 1)) + 0).toNat ≤ n from by omega) hv hf (show 0 ≤ y4 from by omega) (show y4 ≤ 1399 from by omega) (show 0 ≤ y5 from by omega) (show y5 ≤ 1399 from by omega) (show 0 ≤ y6 from by omega) (show y6 ≤ 7 from by omega) (show 0 ≤ a 197 (y6.toNat) from by omega) (show a 197 (y6.toNat) ≤ 50 from by omega) (show 0 ≤ y5 from by omega) (show y5 ≤ 1399 from by omega) (show 0 ≤ a 197 (y6.toNat) from by omega) (show a 197 (y6.toNat) ≤ a 197 (y6.toNat) from by omega) hi8 (show 1 ≤ a0 146 9 from by omega)
    ·
      have hv695_ : iv (jxu a 146 75 1) := iv_putf hv rfl
      have hf696_ : jfr jW_X12_pay a0 (jxu a 146 75 1) := jfr_put hf rfl
      have hg697_ : SV (jxu a 146 75 1) := (SV_fr hi8 (jfr_1s a 146 75 1) (fun _ => rfl) (fun _ => rfl))
      exact jt_rI ⟨hv695_, hf696_, rfl, hg697_, (show (a0 146 9 = 0 → y4 = 0 - 1) from by omega)⟩
  exact ⟨hc201, hc243, hc207, hc134, hc118⟩
theorem cp_X12_pay_100 (E : jxE) (d : Nat) (hd : Nat.ble 2 (d + 1) = true) (x1 x2 : Int) (a0 b0 : Nat → Nat → Int) (hv0 : iv a0) (hp0 : SV a0) : ∀ (y4 : Int) (a : Nat → Nat → Int), iv a → jfr jW_X12_pay a0 a → 0 ≤ y4 → y4 ≤ 1400 → (SV a) → 1 ≤ a0 146 9 → jt (jxX E d 287 100 [some (.inr (.inr (.inl 146))), none, none, none, some (.inl y4), none, none, none] [] (jxSH, a, b0)) (jQ_X12_pay x1 x2 a0 b0) := by
  intro y4 a hv hf hi0 hi1 hi2 hi3
  refine jt_eq (bq_X12_pay_100 E d y4 a b0) ?_
  have h698_ := iv_get hv0 (k := 146) (j := 9) (l := 0) (u := 300) rfl
  refine jt_ite (fun c699_ => ?_) (fun c699_ => ?_)
  ·
    exact jt_rI ⟨hv, hf, rfl, hi2, (show (a0 146 9 = 0 → (-3) = 0 - 1) from by omega)⟩
  ·
    exact (cp_X12_pay_118 E d hd x1 x2 a0 b0 hv0 hp0 _).2.2.2.2 y4 y4 0 a (Nat.le_refl _) hv hf (show 0 ≤ y4 from by omega) (show y4 ≤ 1399 from by omega) (show 0 ≤ y4 from by omega) (show y4 ≤ 1399 from by omega) (show 0 ≤ 0 from by omega) (show 0 ≤ 8 from by omega) (show 0 ≤ y4 from by omega) (show y4 ≤ 1399 from by omega) hi2 (show 1 ≤ a0 146 9 from by omega)
theorem cp_X12_pay_73 (E : jxE) (d : Nat) (hd : Nat.ble 2 (d + 1) = true) (x1 x2 : Int) (a0 b0 : Nat → Nat → Int) (hv0 : iv a0) (hp0 : SV a0) : ∀ n : Nat, (∀ (y4 : Int) (a : Nat → Nat → Int), (((1400 - y4) * 1) + 0).toNat ≤ n → iv a → jfr jW_X12_pay a0 a → 0 ≤ y4 → y4 ≤ 1400 → (SV a) → 1 ≤ a0 146 9 → jt (jxX E d 287 73 [some (.inr (.inr (.inl 146))), none, none, none, some (.inl y4), none, none, none] [] (jxSH, a, b0)) (jQ_X12_pay x1 x2 a0 b0)) := by
  refine jx_ind fun n ih => ?_
  have ih73 : ∀ (y4 : Int) (a : Nat → Nat → Int), (((1400 - y4) * 1) + 0).toNat < n → iv a → jfr jW_X12_pay a0 a → 0 ≤ y4 → y4 ≤ 1400 → (SV a) → 1 ≤ a0 146 9 → jt (jxX E d 287 73 [some (.inr (.inr (.inl 146))), none, none, none, some (.inl y4), none, none, none] [] (jxSH, a, b0)) (jQ_X12_pay x1 x2 a0 b0) := fun y4 a hlt i0 i1 i2 i3 i4 i5 => (ih _ hlt) y4 a (Nat.le_refl _) i0 i1 i2 i3 i4 i5
  have hc73 : ∀ (y4 : Int) (a : Nat → Nat → Int), (((1400 - y4) * 1) + 0).toNat ≤ n → iv a → jfr jW_X12_pay a0 a → 0 ≤ y4 → y4 ≤ 1400 → (SV a) → 1 ≤ a0 146 9 → jt (jxX E d 287 73 [some (.inr (.inr (.inl 146))), none, none, none, some (.inl y4), none, none, none] [] (jxSH, a, b0)) (jQ_X12_pay x1 x2 a0 b0) := by
    intro y4 a hm hv hf hi0 hi1 hi2 hi3
    refine jt_eq (bq_X12_pay_73 E d y4 a b0) ?_
    have h700_ := iv_get hv0 (k := 146) (j := 9) (l := 0) (u := 300) rfl
    refine jt_ite (fun c701_ => ?_) (fun c701_ => ?_)
    ·
      refine jt_grd (by omega) ?_
      refine jt_ite (fun c702_ => ?_) (fun c702_ => ?_)
      ·
        exact cp_X12_pay_100 E d hd x1 x2 a0 b0 hv0 hp0 y4 a hv hf (show 0 ≤ y4 from by omega) (show y4 ≤ 1400 from by omega) hi2 (show 1 ≤ a0 146 9 from by omega)
      ·
        have h703_ : jxw (y4 + 1) = y4 + 1 := jxw_id (by omega) (by omega)
        exact ih73 (jxw (y4 + 1)) a (show (((1400 - (jxw (y4 + 1))) * 1) + 0).toNat < n from by omega) hv hf (show 0 ≤ jxw (y4 + 1) from by omega) (show jxw (y4 + 1) ≤ 1400 from by omega) hi2 (show 1 ≤ a0 146 9 from by omega)
    ·
      exact cp_X12_pay_100 E d hd x1 x2 a0 b0 hv0 hp0 y4 a hv hf (show 0 ≤ y4 from by omega) (show y4 ≤ 1400 from by omega) hi2 (show 1 ≤ a0 146 9 from by omega)
  exact hc73
theorem cp_X12_pay_59 (E : jxE) (d : Nat) (hd : Nat.ble 2 (d + 1) = true) (x1 x2 : Int) (a0 b0 : Nat → Nat → Int) (hv0 : iv a0) (hp0 : SV a0) : ∀ (y3 : Int) (a : Nat → Nat → Int), iv a → jfr jW_X12_pay a0 a → 0 - 2 ≤ y3 → y3 ≤ 900 → (SV a) → 1 ≤ a0 146 9 → jt (jxX E d 287 59 [some (.inr (.inr (.inl 146))), none, none, some (.inl y3), none, none, none, none] [] (jxSH, a, b0)) (jQ_X12_pay x1 x2 a0 b0) := by
  intro y3 a hv hf hi0 hi1 hi2 hi3
  refine jt_eq (bq_X12_pay_59 E d y3 a b0) ?_
  have h704_ := iv_get hv0 (k := 146) (j := 9) (l := 0) (u := 300) rfl
  refine jt_ite (fun c705_ => ?_) (fun c705_ => ?_)
  ·
    exact jt_rI ⟨hv, hf, rfl, hi2, (show (a0 146 9 = 0 → (-2) = 0 - 1) from by omega)⟩
  ·
    refine jt_bV (sp_X12_makes E d (jd_le hd rfl) a b0 hv hi2) (fun a706_ b706_ h706_ => ?_)
    obtain ⟨hv706_, hf706_, rfl⟩ := h706_
    have hf707_ : jfr jW_X12_pay a0 a706_ := jfr_tr hf hf706_ rfl
    exact (cp_X12_pay_73 E d hd x1 x2 a0 b0 hv0 hp0 _) y3 a706_ (Nat.le_refl _) hv706_ hf707_ (show 0 ≤ y3 from by omega) (show y3 ≤ 1400 from by omega) (SV_fr hi2 hf706_ (fun _ => rfl) (fun _ => rfl)) (show 1 ≤ a0 146 9 from by omega)
theorem sp_X12_pay (E : jxE) (d : Nat) (hd : Nat.ble 2 d = true) (x1 x2 : Int) (a0 b0 : Nat → Nat → Int) (hv0 : iv a0) (hp0 : SV a0) : jt (jxC E d 287 [.inr (.inr (.inl 146)), .inl x1, .inl x2] (jxSH, a0, b0)) (jQ_X12_pay x1 x2 a0 b0) := by
  obtain ⟨d, rfl⟩ := jd_succ hd
  refine jt_eq (bq_X12_pay E d x1 x2 a0 b0) ?_
  refine jt_eI (eq_X12_in E d (jd_le hd rfl) x1 0 (jxw ((a0 146 9) - 1)) a0 b0) ?_
  have h708_ := iv_get hv0 (k := 146) (j := 9) (l := 0) (u := 300) rfl
  have h709_ : jxw ((a0 146 9) - 1) = (a0 146 9) - 1 := jxw_id (by omega) (by omega)
  have h710_ := f_X12_in_eq a0 b0 x1 0 (jxw ((a0 146 9) - 1))
  refine jt_ite (fun c711_ => ?_) (fun c711_ => ?_)
  ·
    exact jt_rI ⟨hv0, (jfr_rf _ _), rfl, hp0, (show (a0 146 9 = 0 → (-1) = 0 - 1) from by omega)⟩
  ·
    refine jt_eI (eq_X12_in E d (jd_le hd rfl) x2 1 500 a0 b0) ?_
    have h712_ := f_X12_in_eq a0 b0 x2 1 500
    refine jt_ite (fun c713_ => ?_) (fun c713_ => ?_)
    ·
      exact jt_rI ⟨hv0, (jfr_rf _ _), rfl, hp0, (show (a0 146 9 = 0 → (-1) = 0 - 1) from by omega)⟩
    ·
      refine jt_grd (by omega) ?_
      have h714_ := iv_get hv0 (k := 154) (j := x1.toNat) (l := 0) (u := 39) rfl
      refine jt_grd (by omega) ?_
      refine jt_grd (by omega) ?_
      have h715_ := iv_get hv0 (k := 155) (j := x1.toNat) (l := 0) (u := 39) rfl
      refine jt_grd (by omega) ?_
      have h716_ := iv_get hv0 (k := 148) (j := (a0 154 (x1.toNat)).toNat) (l := 0) (u := 15) rfl
      have h717_ := iv_get hv0 (k := 148) (j := (a0 155 (x1.toNat)).toNat) (l := 0) (u := 15) rfl
      refine jt_bI (sp_X12_priceOf E d (jd_le hd rfl) (a0 148 ((a0 154 (x1.toNat)).toNat)) (a0 148 ((a0 155 (x1.toNat)).toNat)) x2 (a0 146 0) a0 b0 hv0 (show (0 ≤ a0 148 ((a0 154 (x1.toNat)).toNat) ∧ a0 148 ((a0 154 (x1.toNat)).toNat) ≤ 15) from by omega) (show (0 ≤ a0 148 ((a0 155 (x1.toNat)).toNat) ∧ a0 148 ((a0 155 (x1.toNat)).toNat) ≤ 15) from by omega)) (fun r718_ a718_ b718_ h718_ => ?_)
      obtain ⟨rfl, rfl, hq718_0, hq718_1, hq718_2, hq718_3⟩ := h718_
      have h719_ := iv_get hv0 (k := 146) (j := 68) (l := 0) (u := 10) rfl
      exact cp_X12_pay_59 E d hd x1 x2 a0 b0 hv0 hp0 r718_ a0 hv0 (jfr_rf _ _) (show 0 - 2 ≤ r718_ from by omega) (show r718_ ≤ 900 from by omega) hp0 (show 1 ≤ a0 146 9 from by omega)
def jW_X12_stamps : List (Nat × Nat) := [(196, 9999), (197, 9999)]
abbrev jQ_X12_stamps (x1 x2 x3 : Int) (a0 b0 : Nat → Nat → Int) : List jxV → (Nat → Nat → Int) → (Nat → Nat → Int) → Prop := rI (fun r a b => (iv a) ∧ (jfr jW_X12_stamps a0 a) ∧ (b0 = b) ∧ ((0 ≤ r ∧ r ≤ 1)) ∧ (SV a) ∧ ((((((((r = 1 ∧ 0 ≤ x1) ∧ x1 ≤ 7) ∧ 1 ≤ x2) ∧ x2 ≤ 500) ∧ 0 ≤ x3) ∧ x3 ≤ 50) ∨ (r = 0 ∧ (((((x1 < 0 ∨ 7 < x1) ∨ x2 < 1) ∨ 500 < x2) ∨ x3 < 0) ∨ 50 < x3)))))
theorem cp_X12_stamps_31 (E : jxE) (d : Nat) (hd : Nat.ble 2 (d + 1) = true) (x1 x2 x3 : Int) (a0 b0 : Nat → Nat → Int) (hv0 : iv a0) (hp0 : SV a0) : ∀ (a : Nat → Nat → Int), iv a → jfr jW_X12_stamps a0 a → (((((x1 < 0 ∨ 7 < x1) ∨ x2 < 1) ∨ 500 < x2) ∨ x3 < 0) ∨ 50 < x3) → (SV a) → jt (jxX E d 285 31 [none, none, none, none] [] (jxSH, a, b0)) (jQ_X12_stamps x1 x2 x3 a0 b0) := by
  intro a hv hf hi0 hi1
  refine jt_eq (bq_X12_stamps_31 E d a b0) ?_
  exact jt_rI ⟨hv, hf, rfl, (show (0 ≤ 0 ∧ 0 ≤ 1) from by omega), hi1, (show (((((((0 = 1 ∧ 0 ≤ x1) ∧ x1 ≤ 7) ∧ 1 ≤ x2) ∧ x2 ≤ 500) ∧ 0 ≤ x3) ∧ x3 ≤ 50) ∨ (0 = 0 ∧ (((((x1 < 0 ∨ 7 < x1) ∨ x2 < 1) ∨ 500 < x2) ∨ x3 < 0) ∨ 50 < x3))) from by omega)⟩
theorem cp_X12_stamps_33 (E : jxE) (d : Nat) (hd : Nat.ble 2 (d + 1) = true) (x1 x2 x3 : Int) (a0 b0 : Nat → Nat → Int) (hv0 : iv a0) (hp0 : SV a0) : ∀ (y1 y2 y3 : Int) (a : Nat → Nat → Int), iv a → jfr jW_X12_stamps a0 a → 0 ≤ y1 → y1 ≤ 7 → 1 ≤ y2 → y2 ≤ 500 → 0 ≤ y3 → y3 ≤ 50 → y1 = x1 → y2 = x2 → y3 = x3 → (((((0 ≤ x1 ∧ x1 ≤ 7) ∧ 1 ≤ x2) ∧ x2 ≤ 500) ∧ 0 ≤ x3) ∧ x3 ≤ 50) → (SV a) → jt (jxX E d 285 33 [some (.inr (.inr (.inl 146))), some (.inl y1), some (.inl y2), some (.inl y3)] [] (jxSH, a, b0)) (jQ_X12_stamps x1 x2 x3 a0 b0) := by
  intro y1 y2 y3 a hv hf hi0 hi1 hi2 hi3 hi4 hi5 hi6 hi7 hi8 hi9 hi10
  refine jt_eq (bq_X12_stamps_33 E d y1 y2 y3 a b0) ?_
  refine jt_grd (by omega) ?_
  refine jt_grd (by omega) ?_
  have hv720_ : iv (jxu a 196 (y1.toNat) y2) := iv_put hv (l := (-1)) (u := 500) rfl (by omega) (by omega)
  have hv721_ : iv (jxu (jxu a 196 (y1.toNat) y2) 197 (y1.toNat) y3) := iv_put hv720_ (l := 0) (u := 50) rfl (by omega) (by omega)
  have hf722_ : jfr jW_X12_stamps a0 (jxu a 196 (y1.toNat) y2) := jfr_put hf rfl
  have hf723_ : jfr jW_X12_stamps a0 (jxu (jxu a 196 (y1.toNat) y2) 197 (y1.toNat) y3) := jfr_put hf722_ rfl
  have hg724_ : SV (jxu a 196 (y1.toNat) y2) := (SV_put196 hi10 (by omega))
  have h725_ := iv_get hv (k := 197) (j := y1.toNat) (l := 0) (u := 50) rfl
  have h726_ := iv_get hv720_ (k := 196) (j := y1.toNat) (l := (-1)) (u := 500) rfl
  have h727_ := jxu_sp a 196 (y1.toNat) y2 (y1.toNat)
  have h728_ := iv_get hv (k := 196) (j := y1.toNat) (l := (-1)) (u := 500) rfl
  have hg729_ : SV (jxu (jxu a 196 (y1.toNat) y2) 197 (y1.toNat) y3) := (SV_put197 hg724_ (by first | (left; show y3 ≤ a 197 (y1.toNat); omega) | (right; show 1 ≤ (jxu a 196 (y1.toNat) y2) 196 (y1.toNat); omega)))
  exact jt_rI ⟨hv721_, hf723_, rfl, (show (0 ≤ 1 ∧ 1 ≤ 1) from by omega), hg729_, (show (((((((1 = 1 ∧ 0 ≤ x1) ∧ x1 ≤ 7) ∧ 1 ≤ x2) ∧ x2 ≤ 500) ∧ 0 ≤ x3) ∧ x3 ≤ 50) ∨ (1 = 0 ∧ (((((x1 < 0 ∨ 7 < x1) ∨ x2 < 1) ∨ 500 < x2) ∨ x3 < 0) ∨ 50 < x3))) from by omega)⟩
theorem sp_X12_stamps (E : jxE) (d : Nat) (hd : Nat.ble 2 d = true) (x1 x2 x3 : Int) (a0 b0 : Nat → Nat → Int) (hv0 : iv a0) (hp0 : SV a0) : jt (jxC E d 285 [.inr (.inr (.inl 146)), .inl x1, .inl x2, .inl x3] (jxSH, a0, b0)) (jQ_X12_stamps x1 x2 x3 a0 b0) := by
  obtain ⟨d, rfl⟩ := jd_succ hd
  refine jt_eq (bq_X12_stamps E d x1 x2 x3 a0 b0) ?_
  refine jt_eI (eq_X12_in E d (jd_le hd rfl) x1 0 7 a0 b0) ?_
  have h730_ := f_X12_in_eq a0 b0 x1 0 7
  refine jt_ite (fun c731_ => ?_) (fun c731_ => ?_)
  ·
    exact cp_X12_stamps_31 E d hd x1 x2 x3 a0 b0 hv0 hp0 a0 hv0 (jfr_rf _ _) (show (((((x1 < 0 ∨ 7 < x1) ∨ x2 < 1) ∨ 500 < x2) ∨ x3 < 0) ∨ 50 < x3) from by omega) hp0
  ·
    refine jt_eI (eq_X12_in E d (jd_le hd rfl) x2 1 500 a0 b0) ?_
    have h732_ := f_X12_in_eq a0 b0 x2 1 500
    refine jt_ite (fun c733_ => ?_) (fun c733_ => ?_)
    ·
      exact cp_X12_stamps_31 E d hd x1 x2 x3 a0 b0 hv0 hp0 a0 hv0 (jfr_rf _ _) (show (((((x1 < 0 ∨ 7 < x1) ∨ x2 < 1) ∨ 500 < x2) ∨ x3 < 0) ∨ 50 < x3) from by omega) hp0
    ·
      refine jt_eI (eq_X12_in E d (jd_le hd rfl) x3 0 50 a0 b0) ?_
      have h734_ := f_X12_in_eq a0 b0 x3 0 50
      refine jt_ite (fun c735_ => ?_) (fun c735_ => ?_)
      ·
        exact cp_X12_stamps_31 E d hd x1 x2 x3 a0 b0 hv0 hp0 a0 hv0 (jfr_rf _ _) (show (((((x1 < 0 ∨ 7 < x1) ∨ x2 < 1) ∨ 500 < x2) ∨ x3 < 0) ∨ 50 < x3) from by omega) hp0
      ·
        exact cp_X12_stamps_33 E d hd x1 x2 x3 a0 b0 hv0 hp0 x1 x2 x3 a0 hv0 (jfr_rf _ _) (show 0 ≤ x1 from by omega) (show x1 ≤ 7 from by omega) (show 1 ≤ x2 from by omega) (show x2 ≤ 500 from by omega) (show 0 ≤ x3 from by omega) (show x3 ≤ 50 from by omega) (show x1 = x1 from by omega) (show x2 = x2 from by omega) (show x3 = x3 from by omega) (show (((((0 ≤ x1 ∧ x1 ≤ 7) ∧ 1 ≤ x2) ∧ x2 ≤ 500) ∧ 0 ≤ x3) ∧ x3 ≤ 50) from by omega) hp0
