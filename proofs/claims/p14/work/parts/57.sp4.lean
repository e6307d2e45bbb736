def jW_X12_isMet : List (Nat × Nat) := [(170, 9999)]
abbrev jQ_X12_isMet (x1 x2 : Int) (a0 b0 : Nat → Nat → Int) : List jxV → (Nat → Nat → Int) → (Nat → Nat → Int) → Prop := rI (fun r a b => (iv a) ∧ (jfr jW_X12_isMet a0 a) ∧ (b0 = b) ∧ ((0 ≤ r ∧ r ≤ 1)) ∧ (r = METR a0 b0 x1 x2))
theorem cp_X12_isMet_16 (E : jxE) (d : Nat) (hd : Nat.ble 2 (d + 1) = true) (x1 x2 : Int) (a0 b0 : Nat → Nat → Int) (hv0 : iv a0) (hp0 : (0 ≤ x1 ∧ x1 ≤ 39)) (hp1 : (0 ≤ x2 ∧ x2 ≤ 39)) (hp2 : WFW a0) (hp3 : WISHR a0) : ∀ n : Nat, (∀ (y1 y2 y3 y4 : Int) (a : Nat → Nat → Int), (((64 - y4) * 1) + 0).toNat ≤ n → iv a → jfr jW_X12_isMet a0 a → 0 ≤ y1 → y1 ≤ 39 → 0 ≤ y2 → y2 ≤ 39 → 0 ≤ y4 → y4 ≤ 63 → y1 = x1 → y2 = x2 → 0 ≤ y4 → 0 ≤ y3 → y4 < a 167 (y1.toNat) → (y3 = jhg (fun k => a0 166 (64 * x1.toNat + k)) (y4.toNat + 1)) → ¬ a0 167 (x1.toNat) = 0 → (OUL (a 170) y3.toNat = ESTR (TRR a0 b0 x1 x2) (fun k => a0 166 (x1.toNat * 64 + k)) (y4.toNat + 1)) → jt (jxX E d 227 172 [some (.inr (.inr (.inl 146))), some (.inl y1), some (.inl y2), some (.inl y3), some (.inl y4), none] [] (jxSH, a, b0)) (jQ_X12_isMet x1 x2 a0 b0)) ∧ (∀ (y1 y2 y3 y4 : Int) (a : Nat → Nat → Int), (((64 - y4) * 1) + 0).toNat ≤ n → iv a → jfr jW_X12_isMet a0 a → 0 ≤ y1 → y1 ≤ 39 → 0 ≤ y2 → y2 ≤ 39 → 0 ≤ y4 → y4 ≤ 63 → y1 = x1 → y2 = x2 → 0 ≤ y4 → 0 ≤ y3 → y4 < a 167 (y1.toNat) → (y3 = jhg (fun k => a0 166 (64 * x1.toNat + k)) (y4.toNat + 1)) → ¬ a0 167 (x1.toNat) = 0 → (OUL (a 170) y3.toNat = ESTR (TRR a0 b0 x1 x2) (fun k => a0 166 (x1.toNat * 64 + k)) (y4.toNat + 1)) → jt (jxX E d 227 99 [some (.inr (.inr (.inl 146))), some (.inl y1), some (.inl y2), some (.inl y3), some (.inl y4), none] [] (jxSH, a, b0)) (jQ_X12_isMet x1 x2 a0 b0)) ∧ (∀ (y1 y2 y3 y4 y5 : Int) (a : Nat → Nat → Int), (((64 - y4) * 1) + 0).toNat ≤ n → iv a → jfr jW_X12_isMet a0 a → 0 ≤ y1 → y1 ≤ 39 → 0 ≤ y2 → y2 ≤ 39 → 0 ≤ y4 → y4 ≤ 63 → y1 = x1 → y2 = x2 → 0 ≤ y4 → 0 ≤ y3 → y4 < a 167 (y1.toNat) → (y3 = jhg (fun k => a0 166 (64 * x1.toNat + k)) y4.toNat) → (y5 = a0 166 (64 * x1.toNat + y4.toNat)) → ¬ a0 167 (x1.toNat) = 0 → (OUL (a 170) y3.toNat = ESTR (TRR a0 b0 x1 x2) (fun k => a0 166 (x1.toNat * 64 + k)) y4.toNat) → jt (jxX E d 227 41 [some (.inr (.inr (.inl 146))), some (.inl y1), some (.inl y2), some (.inl y3), some (.inl y4), some (.inl y5)] [] (jxSH, a, b0)) (jQ_X12_isMet x1 x2 a0 b0)) ∧ (∀ (y1 y2 y3 y4 : Int) (a : Nat → Nat → Int), (((64 - y4) * 1) + 0).toNat ≤ n → iv a → jfr jW_X12_isMet a0 a → 0 ≤ y1 → y1 ≤ 39 → 0 ≤ y2 → y2 ≤ 39 → 0 ≤ y4 → y4 ≤ 64 → y1 = x1 → y2 = x2 → 0 ≤ y4 → 0 ≤ y3 → y4 ≤ a 167 (y1.toNat) → (y3 = jhg (fun k => a0 166 (64 * x1.toNat + k)) y4.toNat) → ¬ a0 167 (x1.toNat) = 0 → (OUL (a 170) y3.toNat = ESTR (TRR a0 b0 x1 x2) (fun k => a0 166 (x1.toNat * 64 + k)) y4.toNat) → jt (jxX E d 227 16 [some (.inr (.inr (.inl 146))), some (.inl y1), some (.inl y2), some (.inl y3), some (.inl y4), none] [] (jxSH, a, b0)) (jQ_X12_isMet x1 x2 a0 b0)) := by
  refine jx_ind fun n ih => ?_
  have ih172 : ∀ (y1 y2 y3 y4 : Int) (a : Nat → Nat → Int), (((64 - y4) * 1) + 0).toNat < n → iv a → jfr jW_X12_isMet a0 a → 0 ≤ y1 → y1 ≤ 39 → 0 ≤ y2 → y2 ≤ 39 → 0 ≤ y4 → y4 ≤ 63 → y1 = x1 → y2 = x2 → 0 ≤ y4 → 0 ≤ y3 → y4 < a 167 (y1.toNat) → (y3 = jhg (fun k => a0 166 (64 * x1.toNat + k)) (y4.toNat + 1)) → ¬ a0 167 (x1.toNat) = 0 → (OUL (a 170) y3.toNat = ESTR (TRR a0 b0 x1 x2) (fun k => a0 166 (x1.toNat * 64 + k)) (y4.toNat + 1)) → jt (jxX E d 227 172 [some (.inr (.inr (.inl 146))), some (.inl y1), some (.inl y2), some (.inl y3), some (.inl y4), none] [] (jxSH, a, b0)) (jQ_X12_isMet x1 x2 a0 b0) := fun y1 y2 y3 y4 a hlt i0 i1 i2 i3 i4 i5 i6 i7 i8 i9 i10 i11 i12 i13 i14 i15 => (ih _ hlt).1 y1 y2 y3 y4 a (Nat.le_refl _) i0 i1 i2 i3 i4 i5 i6 i7 i8 i9 i10 i11 i12 i13 i14 i15
  have ih99 : ∀ (y1 y2 y3 y4 : Int) (a : Nat → Nat → Int), (((64 - y4) * 1) + 0).toNat < n → iv a → jfr jW_X12_isMet a0 a → 0 ≤ y1 → y1 ≤ 39 → 0 ≤ y2 → y2 ≤ 39 → 0 ≤ y4 → y4 ≤ 63 → y1 = x1 → y2 = x2 → 0 ≤ y4 → 0 ≤ y3 → y4 < a 167 (y1.toNat) → (y3 = jhg (fun k => a0 166 (64 * x1.toNat + k)) (y4.toNat + 1)) → ¬ a0 167 (x1.toNat) = 0 → (OUL (a 170) y3.toNat = ESTR (TRR a0 b0 x1 x2) (fun k => a0 166 (x1.toNat * 64 + k)) (y4.toNat + 1)) → jt (jxX E d 227 99 [some (.inr (.inr (.inl 146))), some (.inl y1), some (.inl y2), some (.inl y3), some (.inl y4), none] [] (jxSH, a, b0)) (jQ_X12_isMet x1 x2 a0 b0) := fun y1 y2 y3 y4 a hlt i0 i1 i2 i3 i4 i5 i6 i7 i8 i9 i10 i11 i12 i13 i14 i15 => (ih _ hlt).2.1 y1 y2 y3 y4 a (Nat.le_refl _) i0 i1 i2 i3 i4 i5 i6 i7 i8 i9 i10 i11 i12 i13 i14 i15
  have ih41 : ∀ (y1 y2 y3 y4 y5 : Int) (a : Nat → Nat → Int), (((64 - y4) * 1) + 0).toNat < n → iv a → jfr jW_X12_isMet a0 a → 0 ≤ y1 → y1 ≤ 39 → 0 ≤ y2 → y2 ≤ 39 → 0 ≤ y4 → y4 ≤ 63 → y1 = x1 → y2 = x2 → 0 ≤ y4 → 0 ≤ y3 → y4 < a 167 (y1.toNat) → (y3 = jhg (fun k => a0 166 (64 * x1.toNat + k)) y4.toNat) → (y5 = a0 166 (64 * x1.toNat + y4.toNat)) → ¬ a0 167 (x1.toNat) = 0 → (OUL (a 170) y3.toNat = ESTR (TRR a0 b0 x1 x2) (fun k => a0 166 (x1.toNat * 64 + k)) y4.toNat) → jt (jxX E d 227 41 [some (.inr (.inr (.inl 146))), some (.inl y1), some (.inl y2), some (.inl y3), some (.inl y4), some (.inl y5)] [] (jxSH, a, b0)) (jQ_X12_isMet x1 x2 a0 b0) := fun y1 y2 y3 y4 y5 a hlt i0 i1 i2 i3 i4 i5 i6 i7 i8 i9 i10 i11 i12 i13 i14 i15 i16 => (ih _ hlt).2.2.1 y1 y2 y3 y4 y5 a (Nat.le_refl _) i0 i1 i2 i3 i4 i5 i6 i7 i8 i9 i10 i11 i12 i13 i14 i15 i16
  have ih16 : ∀ (y1 y2 y3 y4 : Int) (a : Nat → Nat → Int), (((64 - y4) * 1) + 0).toNat < n → iv a → jfr jW_X12_isMet a0 a → 0 ≤ y1 → y1 ≤ 39 → 0 ≤ y2 → y2 ≤ 39 → 0 ≤ y4 → y4 ≤ 64 → y1 = x1 → y2 = x2 → 0 ≤ y4 → 0 ≤ y3 → y4 ≤ a 167 (y1.toNat) → (y3 = jhg (fun k => a0 166 (64 * x1.toNat + k)) y4.toNat) → ¬ a0 167 (x1.toNat) = 0 → (OUL (a 170) y3.toNat = ESTR (TRR a0 b0 x1 x2) (fun k => a0 166 (x1.toNat * 64 + k)) y4.toNat) → jt (jxX E d 227 16 [some (.inr (.inr (.inl 146))), some (.inl y1), some (.inl y2), some (.inl y3), some (.inl y4), none] [] (jxSH, a, b0)) (jQ_X12_isMet x1 x2 a0 b0) := fun y1 y2 y3 y4 a hlt i0 i1 i2 i3 i4 i5 i6 i7 i8 i9 i10 i11 i12 i13 i14 i15 => (ih _ hlt).2.2.2 y1 y2 y3 y4 a (Nat.le_refl _) i0 i1 i2 i3 i4 i5 i6 i7 i8 i9 i10 i11 i12 i13 i14 i15
  have hc172 : ∀ (y1 y2 y3 y4 : Int) (a : Nat → Nat → Int), (((64 - y4) * 1) + 0).toNat ≤ n → iv a → jfr jW_X12_isMet a0 a → 0 ≤ y1 → y1 ≤ 39 → 0 ≤ y2 → y2 ≤ 39 → 0 ≤ y4 → y4 ≤ 63 → y1 = x1 → y2 = x2 → 0 ≤ y4 → 0 ≤ y3 → y4 < a 167 (y1.toNat) → (y3 = jhg (fun k => a0 166 (64 * x1.toNat + k)) (y4.toNat + 1)) → ¬ a0 167 (x1.toNat) = 0 → (OUL (a 170) y3.toNat = ESTR (TRR a0 b0 x1 x2) (fun k => a0 166 (x1.toNat * 64 + k)) (y4.toNat + 1)) → jt (jxX E d 227 172 [some (.inr (.inr (.inl 146))), some (.inl y1), some (.inl y2), some (.inl y3), some (.inl y4), none] [] (jxSH, a, b0)) (jQ_X12_isMet x1 x2 a0 b0) := by
    intro y1 y2 y3 y4 a hm hv hf hi0 hi1 hi2 hi3 hi4 hi5 hi6 hi7 hi8 hi9 hi10 hi11 hi12 hst
    refine jt_eq (bq_X12_isMet_172 E d y1 y2 y3 y4 a b0) ?_
    have h1_ := iv_get hv (k := 167) (j := y1.toNat) (l := 0) (u := 64) rfl
    have h2_ : a 167 (y1.toNat) = a0 167 (y1.toNat) := hf 167 (y1.toNat) rfl
    have h3_ := iv_get hv0 (k := 167) (j := y1.toNat) (l := 0) (u := 64) rfl
    have h4_ := iv_get hv0 (k := 167) (j := x1.toNat) (l := 0) (u := 64) rfl
    have h5_ : jxw (y4 + 1) = y4 + 1 := jxw_id (by omega) (by omega)
    exact ih16 y1 y2 y3 (jxw (y4 + 1)) a (show (((64 - (jxw (y4 + 1))) * 1) + 0).toNat < n from by omega) hv hf (show 0 ≤ y1 from by omega) (show y1 ≤ 39 from by omega) (show 0 ≤ y2 from by omega) (show y2 ≤ 39 from by omega) (show 0 ≤ jxw (y4 + 1) from by omega) (show jxw (y4 + 1) ≤ 64 from by omega) (show y1 = x1 from by omega) (show y2 = x2 from by omega) (show 0 ≤ jxw (y4 + 1) from by omega) (show 0 ≤ y3 from by omega) (show jxw (y4 + 1) ≤ a 167 (y1.toNat) from by omega) (by first | rfl | (rw [show (jxw (y4 + 1)).toNat = y4.toNat + 1 from by omega]; assumption)) (show ¬ a0 167 (x1.toNat) = 0 from by omega) (by first | rfl | (rw [show (jxw (y4 + 1)).toNat = y4.toNat + 1 from by omega]; exact hst))
  have hc99 : ∀ (y1 y2 y3 y4 : Int) (a : Nat → Nat → Int), (((64 - y4) * 1) + 0).toNat ≤ n → iv a → jfr jW_X12_isMet a0 a → 0 ≤ y1 → y1 ≤ 39 → 0 ≤ y2 → y2 ≤ 39 → 0 ≤ y4 → y4 ≤ 63 → y1 = x1 → y2 = x2 → 0 ≤ y4 → 0 ≤ y3 → y4 < a 167 (y1.toNat) → (y3 = jhg (fun k => a0 166 (64 * x1.toNat + k)) (y4.toNat + 1)) → ¬ a0 167 (x1.toNat) = 0 → (OUL (a 170) y3.toNat = ESTR (TRR a0 b0 x1 x2) (fun k => a0 166 (x1.toNat * 64 + k)) (y4.toNat + 1)) → jt (jxX E d 227 99 [some (.inr (.inr (.inl 146))), some (.inl y1), some (.inl y2), some (.inl y3), some (.inl y4), none] [] (jxSH, a, b0)) (jQ_X12_isMet x1 x2 a0 b0) := by
    intro y1 y2 y3 y4 a hm hv hf hi0 hi1 hi2 hi3 hi4 hi5 hi6 hi7 hi8 hi9 hi10 hi11 hi12 hst
    refine jt_eq (bq_X12_isMet_99 E d y1 y2 y3 y4 a b0) ?_
    have h6_ := iv_get hv (k := 167) (j := y1.toNat) (l := 0) (u := 64) rfl
    have h7_ : a 167 (y1.toNat) = a0 167 (y1.toNat) := hf 167 (y1.toNat) rfl
    have h8_ := iv_get hv0 (k := 167) (j := y1.toNat) (l := 0) (u := 64) rfl
    have h9_ := iv_get hv0 (k := 167) (j := x1.toNat) (l := 0) (u := 64) rfl
    exact hc172 y1 y2 y3 y4 a (show (((64 - y4) * 1) + 0).toNat ≤ n from by omega) hv hf (show 0 ≤ y1 from by omega) (show y1 ≤ 39 from by omega) (show 0 ≤ y2 from by omega) (show y2 ≤ 39 from by omega) (show 0 ≤ y4 from by omega) (show y4 ≤ 63 from by omega) (show y1 = x1 from by omega) (show y2 = x2 from by omega) (show 0 ≤ y4 from by omega) (show 0 ≤ y3 from by omega) (show y4 < a 167 (y1.toNat) from by omega) (by first | assumption | omega) (show ¬ a0 167 (x1.toNat) = 0 from by omega) hst
  have hc41 : ∀ (y1 y2 y3 y4 y5 : Int) (a : Nat → Nat → Int), (((64 - y4) * 1) + 0).toNat ≤ n → iv a → jfr jW_X12_isMet a0 a → 0 ≤ y1 → y1 ≤ 39 → 0 ≤ y2 → y2 ≤ 39 → 0 ≤ y4 → y4 ≤ 63 → y1 = x1 → y2 = x2 → 0 ≤ y4 → 0 ≤ y3 → y4 < a 167 (y1.toNat) → (y3 = jhg (fun k => a0 166 (64 * x1.toNat + k)) y4.toNat) → (y5 = a0 166 (64 * x1.toNat + y4.toNat)) → ¬ a0 167 (x1.toNat) = 0 → (OUL (a 170) y3.toNat = ESTR (TRR a0 b0 x1 x2) (fun k => a0 166 (x1.toNat * 64 + k)) y4.toNat) → jt (jxX E d 227 41 [some (.inr (.inr (.inl 146))), some (.inl y1), some (.inl y2), some (.inl y3), some (.inl y4), some (.inl y5)] [] (jxSH, a, b0)) (jQ_X12_isMet x1 x2 a0 b0) := by
    intro y1 y2 y3 y4 y5 a hm hv hf hi0 hi1 hi2 hi3 hi4 hi5 hi6 hi7 hi8 hi9 hi10 hi11 hi12 hi13 hst
    refine jt_eq (bq_X12_isMet_41 E d y1 y2 y3 y4 y5 a b0) ?_
    have h10_ := iv_get hv (k := 167) (j := y1.toNat) (l := 0) (u := 64) rfl
    have h11_ : a 167 (y1.toNat) = a0 167 (y1.toNat) := hf 167 (y1.toNat) rfl
    have h12_ := iv_get hv0 (k := 167) (j := y1.toNat) (l := 0) (u := 64) rfl
    have h13_ := iv_get hv0 (k := 167) (j := x1.toNat) (l := 0) (u := 64) rfl
    have h167a := hf 167 y1.toNat rfl
    have h167c : a0 167 x1.toNat = a0 167 y1.toNat := by rw [show y1 = x1 from by omega]
    have hst := wf_step hp2 hp0 (y := y4) (by omega) (by omega)
    have h167 := iv_get hv0 (k := 167) (j := x1.toNat) (l := 0) (u := 64) rfl
    have h167b := hf 167 x1.toNat rfl
    obtain ⟨hst1, hst2, hst3⟩ := hst
    have hy5 : y5 = a0 166 (64 * x1.toNat + y4.toNat) := by assumption
    have hy3 : y3 = jhg (fun k => a0 166 (64 * x1.toNat + k)) y4.toNat := by assumption
    rw [← hy5, ← hy3] at hst1 hst2
    rw [← hy3] at hst3
    have hg5 : a0 166 (x1.toNat * 64 + y4.toNat) = y5 := by rw [hy5]; congr 1; omega
    refine jt_ite (fun c14_ => ?_) (fun c14_ => ?_)
    ·
      refine jt_ite (fun c15_ => ?_) (fun c15_ => ?_)
      ·
        have h16_ := jxw_im (y3 - 1)
        have h17_ := jxw_rg (y3 - 1)
        refine jt_grd (by omega) ?_
        have h18_ := iv_get hv (k := 170) (j := (jxw (y3 - 1)).toNat) (l := 0) (u := 1) rfl
        refine jt_ite (fun c19_ => ?_) (fun c19_ => ?_)
        ·
          refine jt_grd (by omega) ?_
          have hv20_ : iv (jxu a 170 ((jxw (y3 - 1)).toNat) 1) := iv_put hv (l := 0) (u := 1) rfl (by omega) (by omega)
          have hf21_ : jfr jW_X12_isMet a0 (jxu a 170 ((jxw (y3 - 1)).toNat) 1) := jfr_put hf rfl
          exact hc99 y1 y2 y3 y4 (jxu a 170 ((jxw (y3 - 1)).toNat) 1) (show (((64 - y4) * 1) + 0).toNat ≤ n from by omega) hv20_ hf21_ (show 0 ≤ y1 from by omega) (show y1 ≤ 39 from by omega) (show 0 ≤ y2 from by omega) (show y2 ≤ 39 from by omega) (show 0 ≤ y4 from by omega) (show y4 ≤ 63 from by omega) (show y1 = x1 from by omega) (show y2 = x2 from by omega) (show 0 ≤ y4 from by omega) (show 0 ≤ y3 from by omega) (show y4 < a 167 (y1.toNat) from by omega) (by omega) (show ¬ a0 167 (x1.toNat) = 0 from by omega) (by first | exact IRS (s := a 170) (y := y3) (z := y3) hst (by omega) (by omega) (fun i hi => by show (if i = ((jxw (y3 - 1)).toNat) then _ else a 170 i) = _; rw [if_neg (by omega)]) (Or.inr (Or.inl ⟨by show a0 166 (x1.toNat * 64 + y4.toNat) = 2; omega, by omega, by omega, by show (if _ = ((jxw (y3 - 1)).toNat) then _ else _) = _; rw [if_pos (by omega)]; rw [show (y3 - 1).toNat = (jxw (y3 - 1)).toNat from by omega]; first | rw [if_pos (by assumption)] | rw [if_neg (by assumption)]⟩)))
        ·
          refine jt_grd (by omega) ?_
          have hv22_ : iv (jxu a 170 ((jxw (y3 - 1)).toNat) 0) := iv_put hv (l := 0) (u := 1) rfl (by omega) (by omega)
          have hf23_ : jfr jW_X12_isMet a0 (jxu a 170 ((jxw (y3 - 1)).toNat) 0) := jfr_put hf rfl
          exact hc99 y1 y2 y3 y4 (jxu a 170 ((jxw (y3 - 1)).toNat) 0) (show (((64 - y4) * 1) + 0).toNat ≤ n from by omega) hv22_ hf23_ (show 0 ≤ y1 from by omega) (show y1 ≤ 39 from by omega) (show 0 ≤ y2 from by omega) (show y2 ≤ 39 from by omega) (show 0 ≤ y4 from by omega) (show y4 ≤ 63 from by omega) (show y1 = x1 from by omega) (show y2 = x2 from by omega) (show 0 ≤ y4 from by omega) (show 0 ≤ y3 from by omega) (show y4 < a 167 (y1.toNat) from by omega) (by omega) (show ¬ a0 167 (x1.toNat) = 0 from by omega) (by first | exact IRS (s := a 170) (y := y3) (z := y3) hst (by omega) (by omega) (fun i hi => by show (if i = ((jxw (y3 - 1)).toNat) then _ else a 170 i) = _; rw [if_neg (by omega)]) (Or.inr (Or.inl ⟨by show a0 166 (x1.toNat * 64 + y4.toNat) = 2; omega, by omega, by omega, by show (if _ = ((jxw (y3 - 1)).toNat) then _ else _) = _; rw [if_pos (by omega)]; rw [show (y3 - 1).toNat = (jxw (y3 - 1)).toNat from by omega]; first | rw [if_pos (by assumption)] | rw [if_neg (by assumption)]⟩)))
      ·
        refine jt_ite (fun c24_ => ?_) (fun c24_ => ?_)
        ·
          have h25_ := jxw_im (y3 + (-1))
          have h26_ := jxw_rg (y3 + (-1))
          have h27_ := jxw_im ((jxw (y3 + (-1))) - 1)
          have h28_ := jxw_rg ((jxw (y3 + (-1))) - 1)
          refine jt_grd (by omega) ?_
          have h29_ := iv_get hv (k := 170) (j := (jxw ((jxw (y3 + (-1))) - 1)).toNat) (l := 0) (u := 1) rfl
          refine jt_ite (fun c30_ => ?_) (fun c30_ => ?_)
          ·
            refine jt_grd (by omega) ?_
            have hv31_ : iv (jxu a 170 ((jxw ((jxw (y3 + (-1))) - 1)).toNat) 0) := iv_put hv (l := 0) (u := 1) rfl (by omega) (by omega)
            have hf32_ : jfr jW_X12_isMet a0 (jxu a 170 ((jxw ((jxw (y3 + (-1))) - 1)).toNat) 0) := jfr_put hf rfl
            exact hc172 y1 y2 (jxw (y3 + (-1))) y4 (jxu a 170 ((jxw ((jxw (y3 + (-1))) - 1)).toNat) 0) (show (((64 - y4) * 1) + 0).toNat ≤ n from by omega) hv31_ hf32_ (show 0 ≤ y1 from by omega) (show y1 ≤ 39 from by omega) (show 0 ≤ y2 from by omega) (show y2 ≤ 39 from by omega) (show 0 ≤ y4 from by omega) (show y4 ≤ 63 from by omega) (show y1 = x1 from by omega) (show y2 = x2 from by omega) (show 0 ≤ y4 from by omega) (show 0 ≤ jxw (y3 + (-1)) from by omega) (show y4 < a 167 (y1.toNat) from by omega) (by first | assumption | omega) (show ¬ a0 167 (x1.toNat) = 0 from by omega) (by first | exact IRS (s := a 170) (y := y3) (z := jxw (y3 + (-1))) hst (by omega) (by omega) (fun i hi => by show (if i = ((jxw ((jxw (y3 + (-1))) - 1)).toNat) then _ else a 170 i) = _; rw [if_neg (by omega)]) (Or.inr (Or.inr (Or.inl ⟨by show a0 166 (x1.toNat * 64 + y4.toNat) = 1; omega, by omega, by omega, by show (if _ = ((jxw ((jxw (y3 + (-1))) - 1)).toNat) then _ else _) = _; rw [if_pos (by omega)]; rw [show (y3 - 2).toNat = (jxw ((jxw (y3 + (-1))) - 1)).toNat from by omega, show (y3 - 1).toNat = (jxw (y3 + (-1))).toNat from by omega]; repeat (first | rw [if_pos (by assumption)] | rw [if_neg (by assumption)])⟩))) | exact IRS (s := a 170) (y := y3) (z := jxw (y3 + (-1))) hst (by omega) (by omega) (fun i hi => by show (if i = ((jxw ((jxw (y3 + (-1))) - 1)).toNat) then _ else a 170 i) = _; rw [if_neg (by omega)]) (Or.inr (Or.inr (Or.inr ⟨by show ¬ 1024 ≤ a0 166 (x1.toNat * 64 + y4.toNat); omega, by show ¬ a0 166 (x1.toNat * 64 + y4.toNat) = 2; omega, by show ¬ a0 166 (x1.toNat * 64 + y4.toNat) = 1; omega, by omega, by omega, by show (if _ = ((jxw ((jxw (y3 + (-1))) - 1)).toNat) then _ else _) = _; rw [if_pos (by omega)]; rw [show (y3 - 2).toNat = (jxw ((jxw (y3 + (-1))) - 1)).toNat from by omega, show (y3 - 1).toNat = (jxw (y3 + (-1))).toNat from by omega]; repeat (first | rw [if_pos (by assumption)] | rw [if_neg (by assumption)])⟩))))
          ·
            refine jt_grd (by omega) ?_
            have h33_ := iv_get hv (k := 170) (j := (jxw (y3 + (-1))).toNat) (l := 0) (u := 1) rfl
            refine jt_ite (fun c34_ => ?_) (fun c34_ => ?_)
            ·
              refine jt_grd (by omega) ?_
              have hv35_ : iv (jxu a 170 ((jxw ((jxw (y3 + (-1))) - 1)).toNat) 0) := iv_put hv (l := 0) (u := 1) rfl (by omega) (by omega)
              have hf36_ : jfr jW_X12_isMet a0 (jxu a 170 ((jxw ((jxw (y3 + (-1))) - 1)).toNat) 0) := jfr_put hf rfl
              exact hc172 y1 y2 (jxw (y3 + (-1))) y4 (jxu a 170 ((jxw ((jxw (y3 + (-1))) - 1)).toNat) 0) (show (((64 - y4) * 1) + 0).toNat ≤ n from by omega) hv35_ hf36_ (show 0 ≤ y1 from by omega) (show y1 ≤ 39 from by omega) (show 0 ≤ y2 from by omega) (show y2 ≤ 39 from by omega) (show 0 ≤ y4 from by omega) (show y4 ≤ 63 from by omega) (show y1 = x1 from by omega) (show y2 = x2 from by omega) (show 0 ≤ y4 from by omega) (show 0 ≤ jxw (y3 + (-1)) from by omega) (show y4 < a 167 (y1.toNat) from by omega) (by first | assumption | omega) (show ¬ a0 167 (x1.toNat) = 0 from by omega) (by first | exact IRS (s := a 170) (y := y3) (z := jxw (y3 + (-1))) hst (by omega) (by omega) (fun i hi => by show (if i = ((jxw ((jxw (y3 + (-1))) - 1)).toNat) then _ else a 170 i) = _; rw [if_neg (by omega)]) (Or.inr (Or.inr (Or.inl ⟨by show a0 166 (x1.toNat * 64 + y4.toNat) = 1; omega, by omega, by omega, by show (if _ = ((jxw ((jxw (y3 + (-1))) - 1)).toNat) then _ else _) = _; rw [if_pos (by omega)]; rw [show (y3 - 2).toNat = (jxw ((jxw (y3 + (-1))) - 1)).toNat from by omega, show (y3 - 1).toNat = (jxw (y3 + (-1))).toNat from by omega]; repeat (first | rw [if_pos (by assumption)] | rw [if_neg (by assumption)])⟩))) | exact IRS (s := a 170) (y := y3) (z := jxw (y3 + (-1))) hst (by omega) (by omega) (fun i hi => by show (if i = ((jxw ((jxw (y3 + (-1))) - 1)).toNat) then _ else a 170 i) = _; rw [if_neg (by omega)]) (Or.inr (Or.inr (Or.inr ⟨by show ¬ 1024 ≤ a0 166 (x1.toNat * 64 + y4.toNat); omega, by show ¬ a0 166 (x1.toNat * 64 + y4.toNat) = 2; omega, by show ¬ a0 166 (x1.toNat * 64 + y4.toNat) = 1; omega, by omega, by omega, by show (if _ = ((jxw ((jxw (y3 + (-1))) - 1)).toNat) then _ else _) = _; rw [if_pos (by omega)]; rw [show (y3 - 2).toNat = (jxw ((jxw (y3 + (-1))) - 1)).toNat from by omega, show (y3 - 1).toNat = (jxw (y3 + (-1))).toNat from by omega]; repeat (first | rw [if_pos (by assumption)] | rw [if_neg (by assumption)])⟩))))
            ·
              refine jt_grd (by omega) ?_
              have hv37_ : iv (jxu a 170 ((jxw ((jxw (y3 + (-1))) - 1)).toNat) 1) := iv_put hv (l := 0) (u := 1) rfl (by omega) (by omega)
              have hf38_ : jfr jW_X12_isMet a0 (jxu a 170 ((jxw ((jxw (y3 + (-1))) - 1)).toNat) 1) := jfr_put hf rfl
              exact hc172 y1 y2 (jxw (y3 + (-1))) y4 (jxu a 170 ((jxw ((jxw (y3 + (-1))) - 1)).toNat) 1) (show (((64 - y4) * 1) + 0).toNat ≤ n from by omega) hv37_ hf38_ (show 0 ≤ y1 from by omega) (show y1 ≤ 39 from by omega) (show 0 ≤ y2 from by omega) (show y2 ≤ 39 from by omega) (show 0 ≤ y4 from by omega) (show y4 ≤ 63 from by omega) (show y1 = x1 from by omega) (show y2 = x2 from by omega) (show 0 ≤ y4 from by omega) (show 0 ≤ jxw (y3 + (-1)) from by omega) (show y4 < a 167 (y1.toNat) from by omega) (by first | assumption | omega) (show ¬ a0 167 (x1.toNat) = 0 from by omega) (by first | exact IRS (s := a 170) (y := y3) (z := jxw (y3 + (-1))) hst (by omega) (by omega) (fun i hi => by show (if i = ((jxw ((jxw (y3 + (-1))) - 1)).toNat) then _ else a 170 i) = _; rw [if_neg (by omega)]) (Or.inr (Or.inr (Or.inl ⟨by show a0 166 (x1.toNat * 64 + y4.toNat) = 1; omega, by omega, by omega, by show (if _ = ((jxw ((jxw (y3 + (-1))) - 1)).toNat) then _ else _) = _; rw [if_pos (by omega)]; rw [show (y3 - 2).toNat = (jxw ((jxw (y3 + (-1))) - 1)).toNat from by omega, show (y3 - 1).toNat = (jxw (y3 + (-1))).toNat from by omega]; repeat (first | rw [if_pos (by assumption)] | rw [if_neg (by assumption)])⟩))) | exact IRS (s := a 170) (y := y3) (z := jxw (y3 + (-1))) hst (by omega) (by omega) (fun i hi => by show (if i = ((jxw ((jxw (y3 + (-1))) - 1)).toNat) then _ else a 170 i) = _; rw [if_neg (by omega)]) (Or.inr (Or.inr (Or.inr ⟨by show ¬ 1024 ≤ a0 166 (x1.toNat * 64 + y4.toNat); omega, by show ¬ a0 166 (x1.toNat * 64 + y4.toNat) = 2; omega, by show ¬ a0 166 (x1.toNat * 64 + y4.toNat) = 1; omega, by omega, by omega, by show (if _ = ((jxw ((jxw (y3 + (-1))) - 1)).toNat) then _ else _) = _; rw [if_pos (by omega)]; rw [show (y3 - 2).toNat = (jxw ((jxw (y3 + (-1))) - 1)).toNat from by omega, show (y3 - 1).toNat = (jxw (y3 + (-1))).toNat from by omega]; repeat (first | rw [if_pos (by assumption)] | rw [if_neg (by assumption)])⟩))))
        ·
          have h39_ := jxw_im (y3 + (-1))
          have h40_ := jxw_rg (y3 + (-1))
          have h41_ := jxw_im ((jxw (y3 + (-1))) - 1)
          have h42_ := jxw_rg ((jxw (y3 + (-1))) - 1)
          refine jt_grd (by omega) ?_
          have h43_ := iv_get hv (k := 170) (j := (jxw ((jxw (y3 + (-1))) - 1)).toNat) (l := 0) (u := 1) rfl
          refine jt_ite (fun c44_ => ?_) (fun c44_ => ?_)
          ·
            refine jt_grd (by omega) ?_
            have h45_ := iv_get hv (k := 170) (j := (jxw (y3 + (-1))).toNat) (l := 0) (u := 1) rfl
            refine jt_ite (fun c46_ => ?_) (fun c46_ => ?_)
            ·
              refine jt_grd (by omega) ?_
              have hv47_ : iv (jxu a 170 ((jxw ((jxw (y3 + (-1))) - 1)).toNat) 0) := iv_put hv (l := 0) (u := 1) rfl (by omega) (by omega)
              have hf48_ : jfr jW_X12_isMet a0 (jxu a 170 ((jxw ((jxw (y3 + (-1))) - 1)).toNat) 0) := jfr_put hf rfl
              exact hc172 y1 y2 (jxw (y3 + (-1))) y4 (jxu a 170 ((jxw ((jxw (y3 + (-1))) - 1)).toNat) 0) (show (((64 - y4) * 1) + 0).toNat ≤ n from by omega) hv47_ hf48_ (show 0 ≤ y1 from by omega) (show y1 ≤ 39 from by omega) (show 0 ≤ y2 from by omega) (show y2 ≤ 39 from by omega) (show 0 ≤ y4 from by omega) (show y4 ≤ 63 from by omega) (show y1 = x1 from by omega) (show y2 = x2 from by omega) (show 0 ≤ y4 from by omega) (show 0 ≤ jxw (y3 + (-1)) from by omega) (show y4 < a 167 (y1.toNat) from by omega) (by first | assumption | omega) (show ¬ a0 167 (x1.toNat) = 0 from by omega) (by first | exact IRS (s := a 170) (y := y3) (z := jxw (y3 + (-1))) hst (by omega) (by omega) (fun i hi => by show (if i = ((jxw ((jxw (y3 + (-1))) - 1)).toNat) then _ else a 170 i) = _; rw [if_neg (by omega)]) (Or.inr (Or.inr (Or.inl ⟨by show a0 166 (x1.toNat * 64 + y4.toNat) = 1; omega, by omega, by omega, by show (if _ = ((jxw ((jxw (y3 + (-1))) - 1)).toNat) then _ else _) = _; rw [if_pos (by omega)]; rw [show (y3 - 2).toNat = (jxw ((jxw (y3 + (-1))) - 1)).toNat from by omega, show (y3 - 1).toNat = (jxw (y3 + (-1))).toNat from by omega]; repeat (first | rw [if_pos (by assumption)] | rw [if_neg (by assumption)])⟩))) | exact IRS (s := a 170) (y := y3) (z := jxw (y3 + (-1))) hst (by omega) (by omega) (fun i hi => by show (if i = ((jxw ((jxw (y3 + (-1))) - 1)).toNat) then _ else a 170 i) = _; rw [if_neg (by omega)]) (Or.inr (Or.inr (Or.inr ⟨by show ¬ 1024 ≤ a0 166 (x1.toNat * 64 + y4.toNat); omega, by show ¬ a0 166 (x1.toNat * 64 + y4.toNat) = 2; omega, by show ¬ a0 166 (x1.toNat * 64 + y4.toNat) = 1; omega, by omega, by omega, by show (if _ = ((jxw ((jxw (y3 + (-1))) - 1)).toNat) then _ else _) = _; rw [if_pos (by omega)]; rw [show (y3 - 2).toNat = (jxw ((jxw (y3 + (-1))) - 1)).toNat from by omega, show (y3 - 1).toNat = (jxw (y3 + (-1))).toNat from by omega]; repeat (first | rw [if_pos (by assumption)] | rw [if_neg (by assumption)])⟩))))
            ·
              refine jt_grd (by omega) ?_
              have hv49_ : iv (jxu a 170 ((jxw ((jxw (y3 + (-1))) - 1)).toNat) 1) := iv_put hv (l := 0) (u := 1) rfl (by omega) (by omega)
              have hf50_ : jfr jW_X12_isMet a0 (jxu a 170 ((jxw ((jxw (y3 + (-1))) - 1)).toNat) 1) := jfr_put hf rfl
              exact hc172 y1 y2 (jxw (y3 + (-1))) y4 (jxu a 170 ((jxw ((jxw (y3 + (-1))) - 1)).toNat) 1) (show (((64 - y4) * 1) + 0).toNat ≤ n from by omega) hv49_ hf50_ (show 0 ≤ y1 from by omega) (show y1 ≤ 39 from by omega) (show 0 ≤ y2 from by omega) (show y2 ≤ 39 from by omega) (show 0 ≤ y4 from by omega) (show y4 ≤ 63 from by omega) (show y1 = x1 from by omega) (show y2 = x2 from by omega) (show 0 ≤ y4 from by omega) (show 0 ≤ jxw (y3 + (-1)) from by omega) (show y4 < a 167 (y1.toNat) from by omega) (by first | assumption | omega) (show ¬ a0 167 (x1.toNat) = 0 from by omega) (by first | exact IRS (s := a 170) (y := y3) (z := jxw (y3 + (-1))) hst (by omega) (by omega) (fun i hi => by show (if i = ((jxw ((jxw (y3 + (-1))) - 1)).toNat) then _ else a 170 i) = _; rw [if_neg (by omega)]) (Or.inr (Or.inr (Or.inl ⟨by show a0 166 (x1.toNat * 64 + y4.toNat) = 1; omega, by omega, by omega, by show (if _ = ((jxw ((jxw (y3 + (-1))) - 1)).toNat) then _ else _) = _; rw [if_pos (by omega)]; rw [show (y3 - 2).toNat = (jxw ((jxw (y3 + (-1))) - 1)).toNat from by omega, show (y3 - 1).toNat = (jxw (y3 + (-1))).toNat from by omega]; repeat (first | rw [if_pos (by assumption)] | rw [if_neg (by assumption)])⟩))) | exact IRS (s := a 170) (y := y3) (z := jxw (y3 + (-1))) hst (by omega) (by omega) (fun i hi => by show (if i = ((jxw ((jxw (y3 + (-1))) - 1)).toNat) then _ else a 170 i) = _; rw [if_neg (by omega)]) (Or.inr (Or.inr (Or.inr ⟨by show ¬ 1024 ≤ a0 166 (x1.toNat * 64 + y4.toNat); omega, by show ¬ a0 166 (x1.toNat * 64 + y4.toNat) = 2; omega, by show ¬ a0 166 (x1.toNat * 64 + y4.toNat) = 1; omega, by omega, by omega, by show (if _ = ((jxw ((jxw (y3 + (-1))) - 1)).toNat) then _ else _) = _; rw [if_pos (by omega)]; rw [show (y3 - 2).toNat = (jxw ((jxw (y3 + (-1))) - 1)).toNat from by omega, show (y3 - 1).toNat = (jxw (y3 + (-1))).toNat from by omega]; repeat (first | rw [if_pos (by assumption)] | rw [if_neg (by assumption)])⟩))))
          ·
            refine jt_grd (by omega) ?_
            have hv51_ : iv (jxu a 170 ((jxw ((jxw (y3 + (-1))) - 1)).toNat) 1) := iv_put hv (l := 0) (u := 1) rfl (by omega) (by omega)
            have hf52_ : jfr jW_X12_isMet a0 (jxu a 170 ((jxw ((jxw (y3 + (-1))) - 1)).toNat) 1) := jfr_put hf rfl
            exact hc172 y1 y2 (jxw (y3 + (-1))) y4 (jxu a 170 ((jxw ((jxw (y3 + (-1))) - 1)).toNat) 1) (show (((64 - y4) * 1) + 0).toNat ≤ n from by omega) hv51_ hf52_ (show 0 ≤ y1 from by omega) (show y1 ≤ 39 from by omega) (show 0 ≤ y2 from by omega) (show y2 ≤ 39 from by omega) (show 0 ≤ y4 from by omega) (show y4 ≤ 63 from by omega) (show y1 = x1 from by omega) (show y2 = x2 from by omega) (show 0 ≤ y4 from by omega) (show 0 ≤ jxw (y3 + (-1)) from by omega) (show y4 < a 167 (y1.toNat) from by omega) (by first | assumption | omega) (show ¬ a0 167 (x1.toNat) = 0 from by omega) (by first | exact IRS (s := a 170) (y := y3) (z := jxw (y3 + (-1))) hst (by omega) (by omega) (fun i hi => by show (if i = ((jxw ((jxw (y3 + (-1))) - 1)).toNat) then _ else a 170 i) = _; rw [if_neg (by omega)]) (Or.inr (Or.inr (Or.inl ⟨by show a0 166 (x1.toNat * 64 + y4.toNat) = 1; omega, by omega, by omega, by show (if _ = ((jxw ((jxw (y3 + (-1))) - 1)).toNat) then _ else _) = _; rw [if_pos (by omega)]; rw [show (y3 - 2).toNat = (jxw ((jxw (y3 + (-1))) - 1)).toNat from by omega, show (y3 - 1).toNat = (jxw (y3 + (-1))).toNat from by omega]; repeat (first | rw [if_pos (by assumption)] | rw [if_neg (by assumption)])⟩))) | exact IRS (s := a 170) (y := y3) (z := jxw (y3 + (-1))) hst (by omega) (by omega) (fun i hi => by show (if i = ((jxw ((jxw (y3 + (-1))) - 1)).toNat) then _ else a 170 i) = _; rw [if_neg (by omega)]) (Or.inr (Or.inr (Or.inr ⟨by show ¬ 1024 ≤ a0 166 (x1.toNat * 64 + y4.toNat); omega, by show ¬ a0 166 (x1.toNat * 64 + y4.toNat) = 2; omega, by show ¬ a0 166 (x1.toNat * 64 + y4.toNat) = 1; omega, by omega, by omega, by show (if _ = ((jxw ((jxw (y3 + (-1))) - 1)).toNat) then _ else _) = _; rw [if_pos (by omega)]; rw [show (y3 - 2).toNat = (jxw ((jxw (y3 + (-1))) - 1)).toNat from by omega, show (y3 - 1).toNat = (jxw (y3 + (-1))).toNat from by omega]; repeat (first | rw [if_pos (by assumption)] | rw [if_neg (by assumption)])⟩))))
    ·
      refine jt_eI (eq_X12_isAtom E d (jd_le hd rfl) y5 y1 y2 a b0 hv (show (0 ≤ y1 ∧ y1 < 40) from by omega) (show (0 ≤ y2 ∧ y2 < 40) from by omega)) ?_
      refine jt_grd (by omega) ?_
      have h53_ := f_X12_isAtom_bool a b0 y5 y1 y2
      refine jt_grd (by omega) ?_
      have hv54_ : iv (jxu a 170 (y3.toNat) (f_X12_isAtom a b0 y5 y1 y2)) := iv_put hv (l := 0) (u := 1) rfl (by omega) (by omega)
      have hf55_ : jfr jW_X12_isMet a0 (jxu a 170 (y3.toNat) (f_X12_isAtom a b0 y5 y1 y2)) := jfr_put hf rfl
      have h56_ : jxw (y3 + 1) = y3 + 1 := jxw_id (by omega) (by omega)
      exact hc172 y1 y2 (jxw (y3 + 1)) y4 (jxu a 170 (y3.toNat) (f_X12_isAtom a b0 y5 y1 y2)) (show (((64 - y4) * 1) + 0).toNat ≤ n from by omega) hv54_ hf55_ (show 0 ≤ y1 from by omega) (show y1 ≤ 39 from by omega) (show 0 ≤ y2 from by omega) (show y2 ≤ 39 from by omega) (show 0 ≤ y4 from by omega) (show y4 ≤ 63 from by omega) (show y1 = x1 from by omega) (show y2 = x2 from by omega) (show 0 ≤ y4 from by omega) (show 0 ≤ jxw (y3 + 1) from by omega) (show y4 < a 167 (y1.toNat) from by omega) (by first | assumption | omega) (show ¬ a0 167 (x1.toNat) = 0 from by omega) (by first | exact IRS (s := a 170) (y := y3) (z := jxw (y3 + 1)) hst (by omega) (by omega) (fun i hi => by show (if i = (y3.toNat) then _ else a 170 i) = _; rw [if_neg (by omega)]) (Or.inl ⟨by show 1024 ≤ a0 166 (x1.toNat * 64 + y4.toNat); omega, by omega, by show (if _ = (y3.toNat) then _ else _) = _; rw [if_pos (by omega)]; show _ = TRR a0 b0 x1 x2 (a0 166 (x1.toNat * 64 + y4.toNat)); rw [hg5, show y1 = x1 from by omega, show y2 = x2 from by omega]; exact isAtom_fr (funext fun j => hf 147 j rfl) (funext fun j => hf 148 j rfl) (funext fun j => hf 149 j rfl) (funext fun j => hf 151 j rfl) (hf 146 0 rfl) _ _ _⟩))
  have hc16 : ∀ (y1 y2 y3 y4 : Int) (a : Nat → Nat → Int), (((64 - y4) * 1) + 0).toNat ≤ n → iv a → jfr jW_X12_isMet a0 a → 0 ≤ y1 → y1 ≤ 39 → 0 ≤ y2 → y2 ≤ 39 → 0 ≤ y4 → y4 ≤ 64 → y1 = x1 → y2 = x2 → 0 ≤ y4 → 0 ≤ y3 → y4 ≤ a 167 (y1.toNat) → (y3 = jhg (fun k => a0 166 (64 * x1.toNat + k)) y4.toNat) → ¬ a0 167 (x1.toNat) = 0 → (OUL (a 170) y3.toNat = ESTR (TRR a0 b0 x1 x2) (fun k => a0 166 (x1.toNat * 64 + k)) y4.toNat) → jt (jxX E d 227 16 [some (.inr (.inr (.inl 146))), some (.inl y1), some (.inl y2), some (.inl y3), some (.inl y4), none] [] (jxSH, a, b0)) (jQ_X12_isMet x1 x2 a0 b0) := by
    intro y1 y2 y3 y4 a hm hv hf hi0 hi1 hi2 hi3 hi4 hi5 hi6 hi7 hi8 hi9 hi10 hi11 hi12 hst
    refine jt_eq (bq_X12_isMet_16 E d y1 y2 y3 y4 a b0) ?_
    have h57_ := iv_get hv (k := 167) (j := y1.toNat) (l := 0) (u := 64) rfl
    have h58_ : a 167 (y1.toNat) = a0 167 (y1.toNat) := hf 167 (y1.toNat) rfl
    have h59_ := iv_get hv0 (k := 167) (j := y1.toNat) (l := 0) (u := 64) rfl
    have h60_ := iv_get hv0 (k := 167) (j := x1.toNat) (l := 0) (u := 64) rfl
    have hix : (jxw ((jxw (64 * y1)) + y4)).toNat = 64 * x1.toNat + y4.toNat ∨ a 167 y1.toNat ≤ y4 := by
      have := iv_get hv (k := 167) (j := y1.toNat) (l := 0) (u := 64) rfl
      by_cases hc : a 167 y1.toNat ≤ y4
      · exact Or.inr hc
      · left
        rw [jxw_id (x := 64 * y1) (by omega) (by omega), jxw_id (by omega) (by omega)]
        omega
    have hs : y4 < a 167 y1.toNat → a 166 ((jxw ((jxw (64 * y1)) + y4)).toNat) = a0 166 (64 * x1.toNat + y4.toNat) := by
      intro hlt
      rcases hix with h | h
      · rw [h]; exact hf 166 _ rfl
      · omega
    refine jt_grd (by omega) ?_
    refine jt_ite (fun c61_ => ?_) (fun c61_ => ?_)
    ·
      have h62_ : jxw (64 * y1) = 64 * y1 := jxw_id (by omega) (by omega)
      have h63_ : jxw ((jxw (64 * y1)) + y4) = (jxw (64 * y1)) + y4 := jxw_id (by omega) (by omega)
      refine jt_grd (by omega) ?_
      have h64_ : a 166 ((jxw ((jxw (64 * y1)) + y4)).toNat) = a0 166 ((jxw ((jxw (64 * y1)) + y4)).toNat) := hf 166 ((jxw ((jxw (64 * y1)) + y4)).toNat) rfl
      exact hc41 y1 y2 y3 y4 (a 166 ((jxw ((jxw (64 * y1)) + y4)).toNat)) a (show (((64 - y4) * 1) + 0).toNat ≤ n from by omega) hv hf (show 0 ≤ y1 from by omega) (show y1 ≤ 39 from by omega) (show 0 ≤ y2 from by omega) (show y2 ≤ 39 from by omega) (show 0 ≤ y4 from by omega) (show y4 ≤ 63 from by omega) (show y1 = x1 from by omega) (show y2 = x2 from by omega) (show 0 ≤ y4 from by omega) (show 0 ≤ y3 from by omega) (show y4 < a 167 (y1.toNat) from by omega) (by assumption) (by first | assumption | exact hs (by omega)) (show ¬ a0 167 (x1.toNat) = 0 from by omega) hst
    ·
      have h65_ := iv_get hv (k := 170) (j := 0) (l := 0) (u := 1) rfl
      refine jt_grd (by omega) ?_
      exact jt_rI ⟨hv, hf, rfl, (show (0 ≤ a 170 0 ∧ a 170 0 ≤ 1) from by omega), (by have h167a := hf 167 y1.toNat rfl; have h167c : a0 167 x1.toNat = a0 167 y1.toNat := (by rw [show y1 = x1 from by omega]); have i167 := iv_get hv0 (k := 167) (j := x1.toNat) (l := 0) (u := 64) rfl; have ek : y4.toNat = (a0 167 x1.toNat).toNat := (by omega); have q := hst; rw [ek] at q; unfold METR; rw [if_neg (by omega)]; exact IRS_end q (WISHR_one hp3 (by omega) (by omega)) (by omega))⟩
  exact ⟨hc172, hc99, hc41, hc16⟩
theorem sp_X12_isMet (E : jxE) (d : Nat) (hd : Nat.ble 2 d = true) (x1 x2 : Int) (a0 b0 : Nat → Nat → Int) (hv0 : iv a0) (hp0 : (0 ≤ x1 ∧ x1 ≤ 39)) (hp1 : (0 ≤ x2 ∧ x2 ≤ 39)) (hp2 : WFW a0) (hp3 : WISHR a0) : jt (jxC E d 227 [.inr (.inr (.inl 146)), .inl x1, .inl x2] (jxSH, a0, b0)) (jQ_X12_isMet x1 x2 a0 b0) := by
  obtain ⟨d, rfl⟩ := jd_succ hd
  refine jt_eq (bq_X12_isMet E d x1 x2 a0 b0) ?_
  refine jt_grd (by omega) ?_
  have h66_ := iv_get hv0 (k := 167) (j := x1.toNat) (l := 0) (u := 64) rfl
  refine jt_ite (fun c67_ => ?_) (fun c67_ => ?_)
  ·
    exact jt_rI ⟨hv0, (jfr_rf _ _), rfl, (show (0 ≤ 1 ∧ 1 ≤ 1) from by omega), (by unfold METR; rw [if_pos (by assumption)])⟩
  ·
    exact (cp_X12_isMet_16 E d hd x1 x2 a0 b0 hv0 hp0 hp1 hp2 hp3 _).2.2.2 x1 x2 0 0 a0 (Nat.le_refl _) hv0 (jfr_rf _ _) (show 0 ≤ x1 from by omega) (show x1 ≤ 39 from by omega) (show 0 ≤ x2 from by omega) (show x2 ≤ 39 from by omega) (show 0 ≤ 0 from by omega) (show 0 ≤ 64 from by omega) (show x1 = x1 from by omega) (show x2 = x2 from by omega) (show 0 ≤ 0 from by omega) (show 0 ≤ 0 from by omega) (show 0 ≤ a0 167 (x1.toNat) from by omega) (by first | rfl | (rw [show (jxw (y4 + 1)).toNat = y4.toNat + 1 from by omega]; assumption)) (show ¬ a0 167 (x1.toNat) = 0 from by omega) (by first | rfl | (rw [show (jxw (y4 + 1)).toNat = y4.toNat + 1 from by omega]; exact hst))
def jW_X12_unhappy : List (Nat × Nat) := [(170, 9999)]
abbrev jQ_X12_unhappy (x1 x2 : Int) (a0 b0 : Nat → Nat → Int) : List jxV → (Nat → Nat → Int) → (Nat → Nat → Int) → Prop := rI (fun r a b => (iv a) ∧ (jfr jW_X12_unhappy a0 a) ∧ (b0 = b) ∧ (0 ≤ r) ∧ (r ≤ 2) ∧ (r = UNR a0 b0 x1 x2))
theorem cp_X12_unhappy_14 (E : jxE) (d : Nat) (hd : Nat.ble 3 (d + 1) = true) (x1 x2 : Int) (a0 b0 : Nat → Nat → Int) (hv0 : iv a0) (hp0 : (0 ≤ x1 ∧ x1 ≤ 39)) (hp1 : (0 ≤ x2 ∧ x2 ≤ 39)) (hp2 : WFW a0) (hp3 : WISHR a0) : ∀ (y1 y2 s0 : Int) (a : Nat → Nat → Int), iv a → jfr jW_X12_unhappy a0 a → 0 ≤ y1 → y1 ≤ 39 → 0 ≤ y2 → y2 ≤ 39 → 0 ≤ s0 → s0 ≤ 1 → (y1 = x1) → (y2 = x2) → (s0 = (if METR a0 b0 x1 x2 = 0 then 1 else 0)) → jt (jxX E d 229 14 [some (.inr (.inr (.inl 146))), some (.inl y1), some (.inl y2)] [.inl s0] (jxSH, a, b0)) (jQ_X12_unhappy x1 x2 a0 b0) := by
  intro y1 y2 s0 a hv hf hi0 hi1 hi2 hi3 hi4 hi5 hy1 hy2 hs0
  refine jt_eq (bq_X12_unhappy_14 E d y1 y2 s0 a b0) ?_
  refine jt_bI (sp_X12_isMet E d (jd_le hd rfl) y2 y1 a b0 hv (show (0 ≤ y2 ∧ y2 ≤ 39) from by omega) (show (0 ≤ y1 ∧ y1 ≤ 39) from by omega) (WFW_fr hp2 hf (fun _ => rfl) (fun _ => rfl)) (WISHR_fr hp3 hf (fun _ => rfl) (fun _ => rfl) (fun _ => rfl) (fun _ => rfl))) (fun r68_ a68_ b68_ h68_ => ?_)
  obtain ⟨hv68_, hf68_, rfl, hq68_0, hq68_1⟩ := h68_
  refine jt_ite (fun c69_ => ?_) (fun c69_ => ?_)
  ·
    have hf70_ : jfr jW_X12_unhappy a0 a68_ := jfr_tr hf hf68_ rfl
    have h71_ : jxw (s0 + 1) = s0 + 1 := jxw_id (by omega) (by omega)
    exact jt_rI ⟨hv68_, hf70_, rfl, (show 0 ≤ jxw (s0 + 1) from by omega), (show jxw (s0 + 1) ≤ 2 from by omega), (by unfold UNR unh; rw [← hs0]; have q := hq68_1; rw [hy1, hy2, METR_170 hf rfl] at q; rw [← q]; first | rw [if_pos (by assumption)] | rw [if_neg (by assumption)])⟩
  ·
    have hf72_ : jfr jW_X12_unhappy a0 a68_ := jfr_tr hf hf68_ rfl
    have h73_ : jxw (s0 + 0) = s0 + 0 := jxw_id (by omega) (by omega)
    exact jt_rI ⟨hv68_, hf72_, rfl, (show 0 ≤ jxw (s0 + 0) from by omega), (show jxw (s0 + 0) ≤ 2 from by omega), (by unfold UNR unh; rw [← hs0]; have q := hq68_1; rw [hy1, hy2, METR_170 hf rfl] at q; rw [← q]; first | rw [if_pos (by assumption)] | rw [if_neg (by assumption)])⟩
theorem sp_X12_unhappy (E : jxE) (d : Nat) (hd : Nat.ble 3 d = true) (x1 x2 : Int) (a0 b0 : Nat → Nat → Int) (hv0 : iv a0) (hp0 : (0 ≤ x1 ∧ x1 ≤ 39)) (hp1 : (0 ≤ x2 ∧ x2 ≤ 39)) (hp2 : WFW a0) (hp3 : WISHR a0) : jt (jxC E d 229 [.inr (.inr (.inl 146)), .inl x1, .inl x2] (jxSH, a0, b0)) (jQ_X12_unhappy x1 x2 a0 b0) := by
  obtain ⟨d, rfl⟩ := jd_succ hd
  refine jt_eq (bq_X12_unhappy E d x1 x2 a0 b0) ?_
  refine jt_bI (sp_X12_isMet E d (jd_le hd rfl) x1 x2 a0 b0 hv0 (show (0 ≤ x1 ∧ x1 ≤ 39) from by omega) (show (0 ≤ x2 ∧ x2 ≤ 39) from by omega) hp2 hp3) (fun r74_ a74_ b74_ h74_ => ?_)
  obtain ⟨hv74_, hf74_, rfl, hq74_0, hq74_1⟩ := h74_
  refine jt_ite (fun c75_ => ?_) (fun c75_ => ?_)
  ·
    have hf76_ : jfr jW_X12_unhappy a0 a74_ := jfr_tr (jfr_rf _ _) hf74_ rfl
    exact cp_X12_unhappy_14 E d hd x1 x2 a0 b0 hv0 hp0 hp1 hp2 hp3 x1 x2 1 a74_ hv74_ hf76_ (show 0 ≤ x1 from by omega) (show x1 ≤ 39 from by omega) (show 0 ≤ x2 from by omega) (show x2 ≤ 39 from by omega) (show 0 ≤ 1 from by omega) (show 1 ≤ 1 from by omega) (by first | rfl | assumption) (by first | rfl | assumption) (by rw [← hq74_1]; first | rw [if_pos (by assumption)] | rw [if_neg (by assumption)])
  ·
    have hf77_ : jfr jW_X12_unhappy a0 a74_ := jfr_tr (jfr_rf _ _) hf74_ rfl
    exact cp_X12_unhappy_14 E d hd x1 x2 a0 b0 hv0 hp0 hp1 hp2 hp3 x1 x2 0 a74_ hv74_ hf77_ (show 0 ≤ x1 from by omega) (show x1 ≤ 39 from by omega) (show 0 ≤ x2 from by omega) (show x2 ≤ 39 from by omega) (show 0 ≤ 0 from by omega) (show 0 ≤ 1 from by omega) (by first | rfl | assumption) (by first | rfl | assumption) (by rw [← hq74_1]; first | rw [if_pos (by assumption)] | rw [if_neg (by assumption)])
def jW_X12_mayGet : List (Nat × Nat) := [(170, 9999)]
abbrev jQ_X12_mayGet (x1 x2 : Int) (a0 b0 : Nat → Nat → Int) : List jxV → (Nat → Nat → Int) → (Nat → Nat → Int) → Prop := rI (fun r a b => (iv a) ∧ (jfr jW_X12_mayGet a0 a) ∧ (b0 = b) ∧ ((0 ≤ r ∧ r ≤ 1)) ∧ (r = MGR a0 b0 x1 x2))
theorem cp_X12_mayGet_96 (E : jxE) (d : Nat) (hd : Nat.ble 7 (d + 1) = true) (x1 x2 : Int) (a0 b0 : Nat → Nat → Int) (hv0 : iv a0) (hp0 : (0 ≤ x1 ∧ x1 ≤ 39)) (hp1 : (0 ≤ x2 ∧ x2 ≤ 39)) (hp2 : WFW a0) (hp3 : WISHR a0) : ∀ (a : Nat → Nat → Int), iv a → jfr jW_X12_mayGet a0 a → (MGR a0 b0 x1 x2 = 0) → jt (jxX E d 248 96 [none, none, none, none] [] (jxSH, a, b0)) (jQ_X12_mayGet x1 x2 a0 b0) := by
  intro a hv hf hmg
  refine jt_eq (bq_X12_mayGet_96 E d a b0) ?_
  exact jt_rI ⟨hv, hf, rfl, (show (0 ≤ 0 ∧ 0 ≤ 1) from by omega), hmg.symm⟩
theorem cp_X12_mayGet_54 (E : jxE) (d : Nat) (hd : Nat.ble 7 (d + 1) = true) (x1 x2 : Int) (a0 b0 : Nat → Nat → Int) (hv0 : iv a0) (hp0 : (0 ≤ x1 ∧ x1 ≤ 39)) (hp1 : (0 ≤ x2 ∧ x2 ≤ 39)) (hp2 : WFW a0) (hp3 : WISHR a0) : ∀ (a : Nat → Nat → Int), iv a → jfr jW_X12_mayGet a0 a → 1 ≤ a 146 9 → (¬ a0 152 x2.toNat = 0 ∧ f_X12_isKin a0 b0 x1 x2 = 0) → 0 ≤ a 146 9 → (RCR a0 b0 x1 x2 (a0 146 9).toNat = 1) → jt (jxX E d 248 54 [none, none, none, none] [] (jxSH, a, b0)) (jQ_X12_mayGet x1 x2 a0 b0) := by
  intro a hv hf hi0 hst0 hi2 hr
  refine jt_eq (bq_X12_mayGet_54 E d a b0) ?_
  have h78_ := iv_get hv (k := 146) (j := 9) (l := 0) (u := 300) rfl
  have h79_ : a 146 9 = a0 146 9 := hf 146 9 rfl
  have h80_ := iv_get hv0 (k := 146) (j := 9) (l := 0) (u := 300) rfl
  exact jt_rI ⟨hv, hf, rfl, (show (0 ≤ 0 ∧ 0 ≤ 1) from by omega), (by unfold MGR; rw [if_neg hst0.1, if_neg (fun q => q hst0.2), if_pos (by rw [hr]; decide)])⟩
theorem cp_X12_mayGet_92 (E : jxE) (d : Nat) (hd : Nat.ble 7 (d + 1) = true) (x1 x2 : Int) (a0 b0 : Nat → Nat → Int) (hv0 : iv a0) (hp0 : (0 ≤ x1 ∧ x1 ≤ 39)) (hp1 : (0 ≤ x2 ∧ x2 ≤ 39)) (hp2 : WFW a0) (hp3 : WISHR a0) : ∀ (a : Nat → Nat → Int), iv a → jfr jW_X12_mayGet a0 a → (MGR a0 b0 x1 x2 = 1) → jt (jxX E d 248 92 [none, none, none, none] [] (jxSH, a, b0)) (jQ_X12_mayGet x1 x2 a0 b0) := by
  intro a hv hf hmg
  refine jt_eq (bq_X12_mayGet_92 E d a b0) ?_
  exact jt_rI ⟨hv, hf, rfl, (show (0 ≤ 1 ∧ 1 ≤ 1) from by omega), hmg.symm⟩
theorem cp_X12_mayGet_22 (E : jxE) (d : Nat) (hd : Nat.ble 7 (d + 1) = true) (x1 x2 : Int) (a0 b0 : Nat → Nat → Int) (hv0 : iv a0) (hp0 : (0 ≤ x1 ∧ x1 ≤ 39)) (hp1 : (0 ≤ x2 ∧ x2 ≤ 39)) (hp2 : WFW a0) (hp3 : WISHR a0) : ∀ n : Nat, (∀ (y1 y2 y3 : Int) (a : Nat → Nat → Int), (((300 - y3) * 1) + 0).toNat ≤ n → iv a → jfr jW_X12_mayGet a0 a → 0 ≤ y1 → y1 ≤ 39 → 0 ≤ y2 → y2 ≤ 39 → 0 ≤ y3 → y3 ≤ 299 → 1 ≤ a 146 9 → (¬ a0 152 x2.toNat = 0 ∧ f_X12_isKin a0 b0 x1 x2 = 0) → y1 = x1 → y2 = x2 → 0 ≤ y3 → 0 ≤ a 146 9 → y3 < a 146 9 → (RCR a0 b0 x1 x2 (y3.toNat + 1) = 0) → jt (jxX E d 248 56 [some (.inr (.inr (.inl 146))), some (.inl y1), some (.inl y2), some (.inl y3)] [] (jxSH, a, b0)) (jQ_X12_mayGet x1 x2 a0 b0)) ∧ (∀ (y1 y2 y3 : Int) (a : Nat → Nat → Int), (((300 - y3) * 1) + 0).toNat ≤ n → iv a → jfr jW_X12_mayGet a0 a → 0 ≤ y1 → y1 ≤ 39 → 0 ≤ y2 → y2 ≤ 39 → 0 ≤ y3 → y3 ≤ 300 → (¬ a0 152 x2.toNat = 0 ∧ f_X12_isKin a0 b0 x1 x2 = 0) → y1 = x1 → y2 = x2 → 0 ≤ y3 → y3 ≤ a 146 9 → (RCR a0 b0 x1 x2 y3.toNat = 0) → jt (jxX E d 248 22 [some (.inr (.inr (.inl 146))), some (.inl y1), some (.inl y2), some (.inl y3)] [] (jxSH, a, b0)) (jQ_X12_mayGet x1 x2 a0 b0)) := by
  refine jx_ind fun n ih => ?_
  have ih56 : ∀ (y1 y2 y3 : Int) (a : Nat → Nat → Int), (((300 - y3) * 1) + 0).toNat < n → iv a → jfr jW_X12_mayGet a0 a → 0 ≤ y1 → y1 ≤ 39 → 0 ≤ y2 → y2 ≤ 39 → 0 ≤ y3 → y3 ≤ 299 → 1 ≤ a 146 9 → (¬ a0 152 x2.toNat = 0 ∧ f_X12_isKin a0 b0 x1 x2 = 0) → y1 = x1 → y2 = x2 → 0 ≤ y3 → 0 ≤ a 146 9 → y3 < a 146 9 → (RCR a0 b0 x1 x2 (y3.toNat + 1) = 0) → jt (jxX E d 248 56 [some (.inr (.inr (.inl 146))), some (.inl y1), some (.inl y2), some (.inl y3)] [] (jxSH, a, b0)) (jQ_X12_mayGet x1 x2 a0 b0) := fun y1 y2 y3 a hlt i0 i1 i2 i3 i4 i5 i6 i7 i8 i9 i10 i11 i12 i13 i14 i15 => (ih _ hlt).1 y1 y2 y3 a (Nat.le_refl _) i0 i1 i2 i3 i4 i5 i6 i7 i8 i9 i10 i11 i12 i13 i14 i15
  have ih22 : ∀ (y1 y2 y3 : Int) (a : Nat → Nat → Int), (((300 - y3) * 1) + 0).toNat < n → iv a → jfr jW_X12_mayGet a0 a → 0 ≤ y1 → y1 ≤ 39 → 0 ≤ y2 → y2 ≤ 39 → 0 ≤ y3 → y3 ≤ 300 → (¬ a0 152 x2.toNat = 0 ∧ f_X12_isKin a0 b0 x1 x2 = 0) → y1 = x1 → y2 = x2 → 0 ≤ y3 → y3 ≤ a 146 9 → (RCR a0 b0 x1 x2 y3.toNat = 0) → jt (jxX E d 248 22 [some (.inr (.inr (.inl 146))), some (.inl y1), some (.inl y2), some (.inl y3)] [] (jxSH, a, b0)) (jQ_X12_mayGet x1 x2 a0 b0) := fun y1 y2 y3 a hlt i0 i1 i2 i3 i4 i5 i6 i7 i8 i9 i10 i11 i12 i13 => (ih _ hlt).2 y1 y2 y3 a (Nat.le_refl _) i0 i1 i2 i3 i4 i5 i6 i7 i8 i9 i10 i11 i12 i13
  have hc56 : ∀ (y1 y2 y3 : Int) (a : Nat → Nat → Int), (((300 - y3) * 1) + 0).toNat ≤ n → iv a → jfr jW_X12_mayGet a0 a → 0 ≤ y1 → y1 ≤ 39 → 0 ≤ y2 → y2 ≤ 39 → 0 ≤ y3 → y3 ≤ 299 → 1 ≤ a 146 9 → (¬ a0 152 x2.toNat = 0 ∧ f_X12_isKin a0 b0 x1 x2 = 0) → y1 = x1 → y2 = x2 → 0 ≤ y3 → 0 ≤ a 146 9 → y3 < a 146 9 → (RCR a0 b0 x1 x2 (y3.toNat + 1) = 0) → jt (jxX E d 248 56 [some (.inr (.inr (.inl 146))), some (.inl y1), some (.inl y2), some (.inl y3)] [] (jxSH, a, b0)) (jQ_X12_mayGet x1 x2 a0 b0) := by
    intro y1 y2 y3 a hm hv hf hi0 hi1 hi2 hi3 hi4 hi5 hi6 hst0 hi8 hi9 hi10 hi11 hi12 hr
    refine jt_eq (bq_X12_mayGet_56 E d y1 y2 y3 a b0) ?_
    have h81_ := iv_get hv (k := 146) (j := 9) (l := 0) (u := 300) rfl
    have h82_ : a 146 9 = a0 146 9 := hf 146 9 rfl
    have h83_ := iv_get hv0 (k := 146) (j := 9) (l := 0) (u := 300) rfl
    have h84_ : jxw (y3 + 1) = y3 + 1 := jxw_id (by omega) (by omega)
    exact ih22 y1 y2 (jxw (y3 + 1)) a (show (((300 - (jxw (y3 + 1))) * 1) + 0).toNat < n from by omega) hv hf (show 0 ≤ y1 from by omega) (show y1 ≤ 39 from by omega) (show 0 ≤ y2 from by omega) (show y2 ≤ 39 from by omega) (show 0 ≤ jxw (y3 + 1) from by omega) (show jxw (y3 + 1) ≤ 300 from by omega) (by first | exact hst0 | exact ⟨by assumption, by assumption⟩) (show y1 = x1 from by omega) (show y2 = x2 from by omega) (show 0 ≤ jxw (y3 + 1) from by omega) (show jxw (y3 + 1) ≤ a 146 9 from by omega) (by first | rfl | (rw [show (jxw (y3 + 1)).toNat = y3.toNat + 1 from by omega]; exact hr))
  have hc22 : ∀ (y1 y2 y3 : Int) (a : Nat → Nat → Int), (((300 - y3) * 1) + 0).toNat ≤ n → iv a → jfr jW_X12_mayGet a0 a → 0 ≤ y1 → y1 ≤ 39 → 0 ≤ y2 → y2 ≤ 39 → 0 ≤ y3 → y3 ≤ 300 → (¬ a0 152 x2.toNat = 0 ∧ f_X12_isKin a0 b0 x1 x2 = 0) → y1 = x1 → y2 = x2 → 0 ≤ y3 → y3 ≤ a 146 9 → (RCR a0 b0 x1 x2 y3.toNat = 0) → jt (jxX E d 248 22 [some (.inr (.inr (.inl 146))), some (.inl y1), some (.inl y2), some (.inl y3)] [] (jxSH, a, b0)) (jQ_X12_mayGet x1 x2 a0 b0) := by
    intro y1 y2 y3 a hm hv hf hi0 hi1 hi2 hi3 hi4 hi5 hst0 hi7 hi8 hi9 hi10 hr
    refine jt_eq (bq_X12_mayGet_22 E d y1 y2 y3 a b0) ?_
    have h85_ := iv_get hv (k := 146) (j := 9) (l := 0) (u := 300) rfl
    have h86_ : a 146 9 = a0 146 9 := hf 146 9 rfl
    have h87_ := iv_get hv0 (k := 146) (j := 9) (l := 0) (u := 300) rfl
    refine jt_ite (fun c88_ => ?_) (fun c88_ => ?_)
    ·
      refine jt_grd (by omega) ?_
      have h89_ := iv_get hv (k := 155) (j := y3.toNat) (l := 0) (u := 39) rfl
      have h90_ : a 155 (y3.toNat) = a0 155 (y3.toNat) := hf 155 (y3.toNat) rfl
      have h91_ := iv_get hv0 (k := 155) (j := y3.toNat) (l := 0) (u := 39) rfl
      refine jt_ite (fun c92_ => ?_) (fun c92_ => ?_)
      ·
        refine jt_grd (by omega) ?_
        have h93_ := iv_get hv (k := 154) (j := y3.toNat) (l := 0) (u := 39) rfl
        have h94_ : a 154 (y3.toNat) = a0 154 (y3.toNat) := hf 154 (y3.toNat) rfl
        have h95_ := iv_get hv0 (k := 154) (j := y3.toNat) (l := 0) (u := 39) rfl
        refine jt_eI (eq_X12_isKin E d (jd_le hd rfl) (a 154 (y3.toNat)) y1 a b0 (show (0 ≤ a 154 (y3.toNat) ∧ a 154 (y3.toNat) < 40) from by omega) (show (0 ≤ y1 ∧ y1 < 40) from by omega)) ?_
        have h96_ := f_X12_isKin_bool a b0 (a 154 (y3.toNat)) y1
        refine jt_ite (fun c97_ => ?_) (fun c97_ => ?_)
        ·
          exact hc56 y1 y2 y3 a (show (((300 - y3) * 1) + 0).toNat ≤ n from by omega) hv hf (show 0 ≤ y1 from by omega) (show y1 ≤ 39 from by omega) (show 0 ≤ y2 from by omega) (show y2 ≤ 39 from by omega) (show 0 ≤ y3 from by omega) (show y3 ≤ 299 from by omega) (show 1 ≤ a 146 9 from by omega) (by first | exact hst0 | exact ⟨by assumption, by assumption⟩) (show y1 = x1 from by omega) (show y2 = x2 from by omega) (show 0 ≤ y3 from by omega) (show 0 ≤ a 146 9 from by omega) (show y3 < a 146 9 from by omega) (by have hkn : f_X12_isKin a b0 (a 154 (y3.toNat)) y1 = f_X12_isKin a0 b0 (a0 154 y3.toNat) x1 := (by rw [isKin_fr (a := a0) (a1 := a) (funext fun j => hf 150 j rfl), hf 154 _ rfl, show y1 = x1 from by omega]); have h155 := hf 155 y3.toNat rfl; show (if a0 155 y3.toNat = x2 ∧ ¬ f_X12_isKin a0 b0 (a0 154 y3.toNat) x1 = 0 then 1 else RCR a0 b0 x1 x2 y3.toNat) = 0; rw [if_neg (fun q => by first | (have q1 := q.1; omega) | (rw [← hkn] at q; exact q.2 (by assumption)))]; exact hr)
        ·
          exact cp_X12_mayGet_54 E d hd x1 x2 a0 b0 hv0 hp0 hp1 hp2 hp3 a hv hf (show 1 ≤ a 146 9 from by omega) (by first | exact hst0 | exact ⟨by assumption, by assumption⟩) (show 0 ≤ a 146 9 from by omega) (by have hkn : f_X12_isKin a b0 (a 154 (y3.toNat)) y1 = f_X12_isKin a0 b0 (a0 154 y3.toNat) x1 := (by rw [isKin_fr (a := a0) (a1 := a) (funext fun j => hf 150 j rfl), hf 154 _ rfl, show y1 = x1 from by omega]); have h155 := hf 155 y3.toNat rfl; exact RCR_1 (k := y3.toNat) ⟨by omega, by rw [← hkn]; assumption⟩ _ (by have h9 := hf 146 9 rfl; omega))
      ·
        exact hc56 y1 y2 y3 a (show (((300 - y3) * 1) + 0).toNat ≤ n from by omega) hv hf (show 0 ≤ y1 from by omega) (show y1 ≤ 39 from by omega) (show 0 ≤ y2 from by omega) (show y2 ≤ 39 from by omega) (show 0 ≤ y3 from by omega) (show y3 ≤ 299 from by omega) (show 1 ≤ a 146 9 from by omega) (by first | exact hst0 | exact ⟨by assumption, by assumption⟩) (show y1 = x1 from by omega) (show y2 = x2 from by omega) (show 0 ≤ y3 from by omega) (show 0 ≤ a 146 9 from by omega) (show y3 < a 146 9 from by omega) (by have hkn : f_X12_isKin a b0 (a 154 (y3.toNat)) y1 = f_X12_isKin a0 b0 (a0 154 y3.toNat) x1 := (by rw [isKin_fr (a := a0) (a1 := a) (funext fun j => hf 150 j rfl), hf 154 _ rfl, show y1 = x1 from by omega]); have h155 := hf 155 y3.toNat rfl; show (if a0 155 y3.toNat = x2 ∧ ¬ f_X12_isKin a0 b0 (a0 154 y3.toNat) x1 = 0 then 1 else RCR a0 b0 x1 x2 y3.toNat) = 0; rw [if_neg (fun q => by first | (have q1 := q.1; omega) | (rw [← hkn] at q; exact q.2 (by assumption)))]; exact hr)
    ·
      refine jt_bI (sp_X12_owed E d (jd_le hd rfl) y2 a b0 hv (show (0 ≤ y2 ∧ y2 ≤ 39) from by omega)) (fun r98_ a98_ b98_ h98_ => ?_)
      obtain ⟨rfl, rfl, hq98_0⟩ := h98_
      have h99_ : a 171 2 = a0 171 2 := hf 171 2 rfl
      have h100_ := jxw_im (r98_ + (a 171 2))
      have h101_ := jxw_rg (r98_ + (a 171 2))
      refine jt_ite (fun c102_ => ?_) (fun c102_ => ?_)
      ·
        refine jt_bI (sp_X12_unhappy E d (jd_le hd rfl) y1 y2 a b0 hv (show (0 ≤ y1 ∧ y1 ≤ 39) from by omega) (show (0 ≤ y2 ∧ y2 ≤ 39) from by omega) (WFW_fr hp2 hf (fun _ => rfl) (fun _ => rfl)) (WISHR_fr hp3 hf (fun _ => rfl) (fun _ => rfl) (fun _ => rfl) (fun _ => rfl))) (fun r103_ a103_ b103_ h103_ => ?_)
        obtain ⟨hv103_, hf103_, rfl, hq103_0, hq103_1, hq103_2⟩ := h103_
        have h104_ : a103_ 171 4 = a 171 4 := hf103_ 171 4 rfl
        have h105_ : a 171 4 = a0 171 4 := hf 171 4 rfl
        refine jt_ite (fun c106_ => ?_) (fun c106_ => ?_)
        ·
          have hf107_ : jfr jW_X12_mayGet a0 a103_ := jfr_tr hf hf103_ rfl
          exact cp_X12_mayGet_96 E d hd x1 x2 a0 b0 hv0 hp0 hp1 hp2 hp3 a103_ hv103_ hf107_ (by have hr9 : RCR a0 b0 x1 x2 (a0 146 9).toNat = 0 := (by have h9 := hf 146 9 rfl; rw [show (a0 146 9).toNat = y3.toNat from by omega]; exact hr); have qo := hq98_0; rw [show y2 = x2 from by omega] at qo; have eo : r98_ = vOwR a0 x2 := (by rw [qo]; unfold vOwR; rw [show cvR a = cvR a0 from cvR_fr hf rfl, hf 146 0 rfl, hf 153 _ rfl]); have qu := hq103_2; rw [show y1 = x1 from by omega, show y2 = x2 from by omega, UNR_170 hf rfl] at qu; have e4 := hf103_ 171 4 rfl; have e5 := hf 171 4 rfl; unfold MGR; rw [if_neg hst0.1, if_neg (fun q => q hst0.2), if_neg (fun q => q hr9), if_neg (by rw [← eo, ← hf 171 2 rfl]; omega), ← qu]; first | rw [if_pos (by omega)] | rw [if_neg (by omega)])
        ·
          have hf108_ : jfr jW_X12_mayGet a0 a103_ := jfr_tr hf hf103_ rfl
          exact cp_X12_mayGet_92 E d hd x1 x2 a0 b0 hv0 hp0 hp1 hp2 hp3 a103_ hv103_ hf108_ (by have hr9 : RCR a0 b0 x1 x2 (a0 146 9).toNat = 0 := (by have h9 := hf 146 9 rfl; rw [show (a0 146 9).toNat = y3.toNat from by omega]; exact hr); have qo := hq98_0; rw [show y2 = x2 from by omega] at qo; have eo : r98_ = vOwR a0 x2 := (by rw [qo]; unfold vOwR; rw [show cvR a = cvR a0 from cvR_fr hf rfl, hf 146 0 rfl, hf 153 _ rfl]); have qu := hq103_2; rw [show y1 = x1 from by omega, show y2 = x2 from by omega, UNR_170 hf rfl] at qu; have e4 := hf103_ 171 4 rfl; have e5 := hf 171 4 rfl; unfold MGR; rw [if_neg hst0.1, if_neg (fun q => q hst0.2), if_neg (fun q => q hr9), if_neg (by rw [← eo, ← hf 171 2 rfl]; omega), ← qu]; first | rw [if_pos (by omega)] | rw [if_neg (by omega)])
      ·
        exact cp_X12_mayGet_96 E d hd x1 x2 a0 b0 hv0 hp0 hp1 hp2 hp3 a hv hf (by have hr9 : RCR a0 b0 x1 x2 (a0 146 9).toNat = 0 := (by have h9 := hf 146 9 rfl; rw [show (a0 146 9).toNat = y3.toNat from by omega]; exact hr); have qo := hq98_0; rw [show y2 = x2 from by omega] at qo; have eo : r98_ = vOwR a0 x2 := (by rw [qo]; unfold vOwR; rw [show cvR a = cvR a0 from cvR_fr hf rfl, hf 146 0 rfl, hf 153 _ rfl]); unfold MGR; rw [if_neg hst0.1, if_neg (fun q => q hst0.2), if_neg (fun q => q hr9), if_pos (by rw [← eo, ← hf 171 2 rfl]; assumption)])
  exact ⟨hc56, hc22⟩
theorem sp_X12_mayGet (E : jxE) (d : Nat) (hd : Nat.ble 7 d = true) (x1 x2 : Int) (a0 b0 : Nat → Nat → Int) (hv0 : iv a0) (hp0 : (0 ≤ x1 ∧ x1 ≤ 39)) (hp1 : (0 ≤ x2 ∧ x2 ≤ 39)) (hp2 : WFW a0) (hp3 : WISHR a0) : jt (jxC E d 248 [.inr (.inr (.inl 146)), .inl x1, .inl x2] (jxSH, a0, b0)) (jQ_X12_mayGet x1 x2 a0 b0) := by
  obtain ⟨d, rfl⟩ := jd_succ hd
  refine jt_eq (bq_X12_mayGet E d x1 x2 a0 b0) ?_
  refine jt_grd (by omega) ?_
  have h109_ := iv_get hv0 (k := 152) (j := x2.toNat) (l := 0) (u := 1) rfl
  refine jt_ite (fun c110_ => ?_) (fun c110_ => ?_)
  ·
    exact jt_rI ⟨hv0, (jfr_rf _ _), rfl, (show (0 ≤ 0 ∧ 0 ≤ 1) from by omega), (by unfold MGR; first | rw [if_pos (by assumption)] | rw [if_neg (by assumption), if_pos (by assumption)])⟩
  ·
    refine jt_eI (eq_X12_isKin E d (jd_le hd rfl) x1 x2 a0 b0 (show (0 ≤ x1 ∧ x1 < 40) from by omega) (show (0 ≤ x2 ∧ x2 < 40) from by omega)) ?_
    have h111_ := f_X12_isKin_bool a0 b0 x1 x2
    refine jt_ite (fun c112_ => ?_) (fun c112_ => ?_)
    ·
      have h113_ := iv_get hv0 (k := 146) (j := 9) (l := 0) (u := 300) rfl
      exact (cp_X12_mayGet_22 E d hd x1 x2 a0 b0 hv0 hp0 hp1 hp2 hp3 _).2 x1 x2 0 a0 (Nat.le_refl _) hv0 (jfr_rf _ _) (show 0 ≤ x1 from by omega) (show x1 ≤ 39 from by omega) (show 0 ≤ x2 from by omega) (show x2 ≤ 39 from by omega) (show 0 ≤ 0 from by omega) (show 0 ≤ 300 from by omega) (by first | exact hst0 | exact ⟨by assumption, by assumption⟩) (show x1 = x1 from by omega) (show x2 = x2 from by omega) (show 0 ≤ 0 from by omega) (show 0 ≤ a0 146 9 from by omega) (by first | rfl | (rw [show (jxw (y3 + 1)).toNat = y3.toNat + 1 from by omega]; exact hr))
    ·
      exact jt_rI ⟨hv0, (jfr_rf _ _), rfl, (show (0 ≤ 0 ∧ 0 ≤ 1) from by omega), (by unfold MGR; first | rw [if_pos (by assumption)] | rw [if_neg (by assumption), if_pos (by assumption)])⟩
def jW_X12_ask : List (Nat × Nat) := [(146, 9), (146, 39), (146, 40), (146, 41), (154, 9999), (155, 9999), (156, 9999), (157, 9999), (158, 9999), (159, 9999), (160, 9999), (170, 9999)]
abbrev jQ_X12_ask (x1 : Int) (a0 b0 : Nat → Nat → Int) : List jxV → (Nat → Nat → Int) → (Nat → Nat → Int) → Prop := rI (fun r a b => (iv a) ∧ (jfr jW_X12_ask a0 a) ∧ (b0 = b) ∧ (OC a) ∧ ((a0 146 2 = 0 → r = 0 - 1)) ∧ (0 ≤ x1 → x1 < a0 146 2 → a0 146 9 < 300 → ASKR a0 b0 a x1 r) ∧ ((((x1 < 0 ∨ a0 146 2 ≤ x1) ∨ a0 146 9 = 300) → r = 0 - 1)) ∧ ((x1 < 0 ∨ a0 146 2 ≤ x1 ∨ a0 146 9 = 300) → cvR a = cvR a0))
theorem cp_X12_ask_44 (E : jxE) (d : Nat) (hd : Nat.ble 8 (d + 1) = true) (x1 : Int) (a0 b0 : Nat → Nat → Int) (hv0 : iv a0) (hp0 : WFW a0) (hp1 : OC a0) (hp2 : WISHR a0) : ∀ n : Nat, (∀ (y1 y2 y3 y4 y5 y6 y7 y8 y9 s0 : Int) (a : Nat → Nat → Int), (((40 - y6) * 1) + 0).toNat ≤ n → iv a → jfr jW_X12_ask a0 a → 0 ≤ y1 → y1 ≤ 39 → 0 - 1 ≤ y2 → y2 ≤ 39 → 0 ≤ y4 → y4 ≤ 2 → 0 ≤ y6 → y6 ≤ 39 → 0 ≤ y8 → y8 ≤ 2 → 0 ≤ s0 → s0 ≤ 1 → 1 ≤ a 146 2 → a 146 9 ≤ 299 → (y1 = x1) → (0 ≤ x1 ∧ x1 < a 146 2) → a0 146 9 < 300 → (SAM7 a0 a) → (¬ vMay (a0 152 x1.toNat) (SUMN (ohF (cvR a0) (a0 146 0) x1 0) (a0 146 9).toNat) (SUMN (gvF (cvR a0) (a0 146 0) x1) (a0 146 9).toNat) (a0 171 0) (a0 171 1) = 0) → 0 ≤ y6 → y6 < a 146 2 → (s0 = 0 → y2 = BSR a0 b0 x1 (y6.toNat + 1) ∧ (0 ≤ y2 → y3 = vOwR a0 y2 ∧ y4 = UNR a0 b0 x1 y2 ∧ y5 = lstR a0 y2)) → (s0 = 1 → y6 = BSR a0 b0 x1 (y6.toNat + 1) ∧ y7 = vOwR a0 y6 ∧ y8 = UNR a0 b0 x1 y6 ∧ y9 = lstR a0 y6) → (s0 = 0 ∨ s0 = 1) → (OC a) → 1 ≤ a0 146 2 → jt (jxX E d 251 139 [some (.inr (.inr (.inl 146))), some (.inl y1), some (.inl y2), some (.inl y3), some (.inl y4), some (.inl y5), some (.inl y6), some (.inl y7), some (.inl y8), some (.inl y9), none] [.inl s0] (jxSH, a, b0)) (jQ_X12_ask x1 a0 b0)) ∧ (∀ (y1 y2 y3 y4 y5 y6 y7 y8 y9 : Int) (a : Nat → Nat → Int), (((40 - y6) * 1) + 0).toNat ≤ n → iv a → jfr jW_X12_ask a0 a → 0 ≤ y1 → y1 ≤ 39 → 0 - 1 ≤ y2 → y2 ≤ 39 → 0 ≤ y4 → y4 ≤ 2 → 0 ≤ y6 → y6 ≤ 39 → 0 ≤ y8 → y8 ≤ 2 → 1 ≤ a 146 2 → a 146 9 ≤ 299 → (y1 = x1) → (0 ≤ x1 ∧ x1 < a 146 2) → a0 146 9 < 300 → (SAM7 a0 a) → (¬ vMay (a0 152 x1.toNat) (SUMN (ohF (cvR a0) (a0 146 0) x1 0) (a0 146 9).toNat) (SUMN (gvF (cvR a0) (a0 146 0) x1) (a0 146 9).toNat) (a0 171 0) (a0 171 1) = 0) → 0 ≤ y6 → y6 < a 146 2 → (y2 = BSR a0 b0 x1 y6.toNat) → ((0 ≤ y2 → y3 = vOwR a0 y2 ∧ y4 = UNR a0 b0 x1 y2 ∧ y5 = lstR a0 y2)) → (¬ MGR a0 b0 x1 y6 = 0) → (y7 = vOwR a0 y6 ∧ y8 = UNR a0 b0 x1 y6) → (y9 = lstR a0 y6) → ((y2 < 0 ∨ (if ¬ vOwR a0 y6 = vOwR a0 y2 then vOwR a0 y2 < vOwR a0 y6 else if ¬ UNR a0 b0 x1 y6 = UNR a0 b0 x1 y2 then UNR a0 b0 x1 y6 < UNR a0 b0 x1 y2 else lstR a0 y6 < lstR a0 y2))) → (OC a) → 1 ≤ a0 146 2 → jt (jxX E d 251 134 [some (.inr (.inr (.inl 146))), some (.inl y1), some (.inl y2), some (.inl y3), some (.inl y4), some (.inl y5), some (.inl y6), some (.inl y7), some (.inl y8), some (.inl y9), none] [] (jxSH, a, b0)) (jQ_X12_ask x1 a0 b0)) ∧ (∀ (y1 y2 y3 y4 y5 y6 y7 y8 y9 : Int) (a : Nat → Nat → Int), (((40 - y6) * 1) + 0).toNat ≤ n → iv a → jfr jW_X12_ask a0 a → 0 ≤ y1 → y1 ≤ 39 → 0 ≤ y2 → y2 ≤ 39 → 1 ≤ y4 → y4 ≤ 2 → 0 ≤ y6 → y6 ≤ 39 → 0 ≤ y8 → y8 ≤ 1 → 1 ≤ a 146 2 → a 146 9 ≤ 299 → (y1 = x1) → (0 ≤ x1 ∧ x1 < a 146 2) → a0 146 9 < 300 → (SAM7 a0 a) → (¬ vMay (a0 152 x1.toNat) (SUMN (ohF (cvR a0) (a0 146 0) x1 0) (a0 146 9).toNat) (SUMN (gvF (cvR a0) (a0 146 0) x1) (a0 146 9).toNat) (a0 171 0) (a0 171 1) = 0) → 0 ≤ y6 → y6 < a 146 2 → (y2 = BSR a0 b0 x1 y6.toNat) → ((0 ≤ y2 → y3 = vOwR a0 y2 ∧ y4 = UNR a0 b0 x1 y2 ∧ y5 = lstR a0 y2)) → (¬ MGR a0 b0 x1 y6 = 0) → (y7 = vOwR a0 y6 ∧ y8 = UNR a0 b0 x1 y6) → (y9 = lstR a0 y6) → ((y2 < 0 ∨ (if ¬ vOwR a0 y6 = vOwR a0 y2 then vOwR a0 y2 < vOwR a0 y6 else if ¬ UNR a0 b0 x1 y6 = UNR a0 b0 x1 y2 then UNR a0 b0 x1 y6 < UNR a0 b0 x1 y2 else lstR a0 y6 < lstR a0 y2))) → (OC a) → 1 ≤ a0 146 2 → jt (jxX E d 251 124 [some (.inr (.inr (.inl 146))), some (.inl y1), some (.inl y2), some (.inl y3), some (.inl y4), some (.inl y5), some (.inl y6), some (.inl y7), some (.inl y8), some (.inl y9), none] [] (jxSH, a, b0)) (jQ_X12_ask x1 a0 b0)) ∧ (∀ (y1 y2 y3 y4 y5 y6 y7 y8 y9 : Int) (a : Nat → Nat → Int), (((40 - y6) * 1) + 0).toNat ≤ n → iv a → jfr jW_X12_ask a0 a → 0 ≤ y1 → y1 ≤ 39 → 0 ≤ y2 → y2 ≤ 39 → 0 ≤ y4 → y4 ≤ 2 → 0 ≤ y6 → y6 ≤ 39 → 0 ≤ y8 → y8 ≤ 2 → 1 ≤ a 146 2 → a 146 9 ≤ 299 → (y1 = x1) → (0 ≤ x1 ∧ x1 < a 146 2) → a0 146 9 < 300 → (SAM7 a0 a) → (¬ vMay (a0 152 x1.toNat) (SUMN (ohF (cvR a0) (a0 146 0) x1 0) (a0 146 9).toNat) (SUMN (gvF (cvR a0) (a0 146 0) x1) (a0 146 9).toNat) (a0 171 0) (a0 171 1) = 0) → 0 ≤ y6 → y6 < a 146 2 → (y2 = BSR a0 b0 x1 y6.toNat) → ((0 ≤ y2 → y3 = vOwR a0 y2 ∧ y4 = UNR a0 b0 x1 y2 ∧ y5 = lstR a0 y2)) → (¬ MGR a0 b0 x1 y6 = 0) → (y7 = vOwR a0 y6 ∧ y8 = UNR a0 b0 x1 y6) → (y9 = lstR a0 y6) → (¬ (y2 < 0 ∨ (if ¬ vOwR a0 y6 = vOwR a0 y2 then vOwR a0 y2 < vOwR a0 y6 else if ¬ UNR a0 b0 x1 y6 = UNR a0 b0 x1 y2 then UNR a0 b0 x1 y6 < UNR a0 b0 x1 y2 else lstR a0 y6 < lstR a0 y2))) → (OC a) → 1 ≤ a0 146 2 → jt (jxX E d 251 138 [some (.inr (.inr (.inl 146))), some (.inl y1), some (.inl y2), some (.inl y3), some (.inl y4), some (.inl y5), some (.inl y6), some (.inl y7), some (.inl y8), some (.inl y9), none] [] (jxSH, a, b0)) (jQ_X12_ask x1 a0 b0)) ∧ (∀ (y1 y2 y3 y4 y5 y6 y7 y8 : Int) (a : Nat → Nat → Int), (((40 - y6) * 1) + 0).toNat ≤ n → iv a → jfr jW_X12_ask a0 a → 0 ≤ y1 → y1 ≤ 39 → 0 - 1 ≤ y2 → y2 ≤ 39 → 0 ≤ y4 → y4 ≤ 2 → 0 ≤ y6 → y6 ≤ 39 → 0 ≤ y8 → y8 ≤ 2 → 1 ≤ a 146 2 → a 146 9 ≤ 299 → (y1 = x1) → (0 ≤ x1 ∧ x1 < a 146 2) → a0 146 9 < 300 → (SAM7 a0 a) → (¬ vMay (a0 152 x1.toNat) (SUMN (ohF (cvR a0) (a0 146 0) x1 0) (a0 146 9).toNat) (SUMN (gvF (cvR a0) (a0 146 0) x1) (a0 146 9).toNat) (a0 171 0) (a0 171 1) = 0) → 0 ≤ y6 → y6 < a 146 2 → (y2 = BSR a0 b0 x1 y6.toNat) → ((0 ≤ y2 → y3 = vOwR a0 y2 ∧ y4 = UNR a0 b0 x1 y2 ∧ y5 = lstR a0 y2)) → (¬ MGR a0 b0 x1 y6 = 0) → (y7 = vOwR a0 y6 ∧ y8 = UNR a0 b0 x1 y6) → (OC a) → 1 ≤ a0 146 2 → jt (jxX E d 251 83 [some (.inr (.inr (.inl 146))), some (.inl y1), some (.inl y2), some (.inl y3), some (.inl y4), some (.inl y5), some (.inl y6), some (.inl y7), some (.inl y8), none, none] [] (jxSH, a, b0)) (jQ_X12_ask x1 a0 b0)) ∧ (∀ (y1 y2 y3 y4 y5 y6 : Int) (a : Nat → Nat → Int), (((40 - y6) * 1) + 0).toNat ≤ n → iv a → jfr jW_X12_ask a0 a → 0 ≤ y1 → y1 ≤ 39 → 0 - 1 ≤ y2 → y2 ≤ 39 → 0 ≤ y4 → y4 ≤ 2 → 0 ≤ y6 → y6 ≤ 40 → a 146 9 ≤ 299 → (y1 = x1) → (0 ≤ x1 ∧ x1 < a 146 2) → a0 146 9 < 300 → (SAM7 a0 a) → (¬ vMay (a0 152 x1.toNat) (SUMN (ohF (cvR a0) (a0 146 0) x1 0) (a0 146 9).toNat) (SUMN (gvF (cvR a0) (a0 146 0) x1) (a0 146 9).toNat) (a0 171 0) (a0 171 1) = 0) → 0 ≤ y6 → y6 ≤ a 146 2 → (y2 = BSR a0 b0 x1 y6.toNat) → ((0 ≤ y2 → y3 = vOwR a0 y2 ∧ y4 = UNR a0 b0 x1 y2 ∧ y5 = lstR a0 y2)) → (OC a) → 1 ≤ a0 146 2 → jt (jxX E d 251 44 [some (.inr (.inr (.inl 146))), some (.inl y1), some (.inl y2), some (.inl y3), some (.inl y4), some (.inl y5), some (.inl y6), none, none, none, none] [] (jxSH, a, b0)) (jQ_X12_ask x1 a0 b0)) := by
  refine jx_ind fun n ih => ?_
  have ih139 : ∀ (y1 y2 y3 y4 y5 y6 y7 y8 y9 s0 : Int) (a : Nat → Nat → Int), (((40 - y6) * 1) + 0).toNat < n → iv a → jfr jW_X12_ask a0 a → 0 ≤ y1 → y1 ≤ 39 → 0 - 1 ≤ y2 → y2 ≤ 39 → 0 ≤ y4 → y4 ≤ 2 → 0 ≤ y6 → y6 ≤ 39 → 0 ≤ y8 → y8 ≤ 2 → 0 ≤ s0 → s0 ≤ 1 → 1 ≤ a 146 2 → a 146 9 ≤ 299 → (y1 = x1) → (0 ≤ x1 ∧ x1 < a 146 2) → a0 146 9 < 300 → (SAM7 a0 a) → (¬ vMay (a0 152 x1.toNat) (SUMN (ohF (cvR a0) (a0 146 0) x1 0) (a0 146 9).toNat) (SUMN (gvF (cvR a0) (a0 146 0) x1) (a0 146 9).toNat) (a0 171 0) (a0 171 1) = 0) → 0 ≤ y6 → y6 < a 146 2 → (s0 = 0 → y2 = BSR a0 b0 x1 (y6.toNat + 1) ∧ (0 ≤ y2 → y3 = vOwR a0 y2 ∧ y4 = UNR a0 b0 x1 y2 ∧ y5 = lstR a0 y2)) → (s0 = 1 → y6 = BSR a0 b0 x1 (y6.toNat + 1) ∧ y7 = vOwR a0 y6 ∧ y8 = UNR a0 b0 x1 y6 ∧ y9 = lstR a0 y6) → (s0 = 0 ∨ s0 = 1) → (OC a) → 1 ≤ a0 146 2 → jt (jxX E d 251 139 [some (.inr (.inr (.inl 146))), some (.inl y1), some (.inl y2), some (.inl y3), some (.inl y4), some (.inl y5), some (.inl y6), some (.inl y7), some (.inl y8), some (.inl y9), none] [.inl s0] (jxSH, a, b0)) (jQ_X12_ask x1 a0 b0) := fun y1 y2 y3 y4 y5 y6 y7 y8 y9 s0 a hlt i0 i1 i2 i3 i4 i5 i6 i7 i8 i9 i10 i11 i12 i13 i14 i15 i16 i17 i18 i19 i20 i21 i22 i23 i24 i25 i26 i27 => (ih _ hlt).1 y1 y2 y3 y4 y5 y6 y7 y8 y9 s0 a (Nat.le_refl _) i0 i1 i2 i3 i4 i5 i6 i7 i8 i9 i10 i11 i12 i13 i14 i15 i16 i17 i18 i19 i20 i21 i22 i23 i24 i25 i26 i27
  have ih134 : ∀ (y1 y2 y3 y4 y5 y6 y7 y8 y9 : Int) (a : Nat → Nat → Int), (((40 - y6) * 1) + 0).toNat < n → iv a → jfr jW_X12_ask a0 a → 0 ≤ y1 → y1 ≤ 39 → 0 - 1 ≤ y2 → y2 ≤ 39 → 0 ≤ y4 → y4 ≤ 2 → 0 ≤ y6 → y6 ≤ 39 → 0 ≤ y8 → y8 ≤ 2 → 1 ≤ a 146 2 → a 146 9 ≤ 299 → (y1 = x1) → (0 ≤ x1 ∧ x1 < a 146 2) → a0 146 9 < 300 → (SAM7 a0 a) → (¬ vMay (a0 152 x1.toNat) (SUMN (ohF (cvR a0) (a0 146 0) x1 0) (a0 146 9).toNat) (SUMN (gvF (cvR a0) (a0 146 0) x1) (a0 146 9).toNat) (a0 171 0) (a0 171 1) = 0) → 0 ≤ y6 → y6 < a 146 2 → (y2 = BSR a0 b0 x1 y6.toNat) → ((0 ≤ y2 → y3 = vOwR a0 y2 ∧ y4 = UNR a0 b0 x1 y2 ∧ y5 = lstR a0 y2)) → (¬ MGR a0 b0 x1 y6 = 0) → (y7 = vOwR a0 y6 ∧ y8 = UNR a0 b0 x1 y6) → (y9 = lstR a0 y6) → ((y2 < 0 ∨ (if ¬ vOwR a0 y6 = vOwR a0 y2 then vOwR a0 y2 < vOwR a0 y6 else if ¬ UNR a0 b0 x1 y6 = UNR a0 b0 x1 y2 then UNR a0 b0 x1 y6 < UNR a0 b0 x1 y2 else lstR a0 y6 < lstR a0 y2))) → (OC a) → 1 ≤ a0 146 2 → jt (jxX E d 251 134 [some (.inr (.inr (.inl 146))), some (.inl y1), some (.inl y2), some (.inl y3), some (.inl y4), some (.inl y5), some (.inl y6), some (.inl y7), some (.inl y8), some (.inl y9), none] [] (jxSH, a, b0)) (jQ_X12_ask x1 a0 b0) := fun y1 y2 y3 y4 y5 y6 y7 y8 y9 a hlt i0 i1 i2 i3 i4 i5 i6 i7 i8 i9 i10 i11 i12 i13 i14 i15 i16 i17 i18 i19 i20 i21 i22 i23 i24 i25 i26 i27 i28 => (ih _ hlt).2.1 y1 y2 y3 y4 y5 y6 y7 y8 y9 a (Nat.le_refl _) i0 i1 i2 i3 i4 i5 i6 i7 i8 i9 i10 i11 i12 i13 i14 i15 i16 i17 i18 i19 i20 i21 i22 i23 i24 i25 i26 i27 i28
  have ih124 : ∀ (y1 y2 y3 y4 y5 y6 y7 y8 y9 : Int) (a : Nat → Nat → Int), (((40 - y6) * 1) + 0).toNat < n → iv a → jfr jW_X12_ask a0 a → 0 ≤ y1 → y1 ≤ 39 → 0 ≤ y2 → y2 ≤ 39 → 1 ≤ y4 → y4 ≤ 2 → 0 ≤ y6 → y6 ≤ 39 → 0 ≤ y8 → y8 ≤ 1 → 1 ≤ a 146 2 → a 146 9 ≤ 299 → (y1 = x1) → (0 ≤ x1 ∧ x1 < a 146 2) → a0 146 9 < 300 → (SAM7 a0 a) → (¬ vMay (a0 152 x1.toNat) (SUMN (ohF (cvR a0) (a0 146 0) x1 0) (a0 146 9).toNat) (SUMN (gvF (cvR a0) (a0 146 0) x1) (a0 146 9).toNat) (a0 171 0) (a0 171 1) = 0) → 0 ≤ y6 → y6 < a 146 2 → (y2 = BSR a0 b0 x1 y6.toNat) → ((0 ≤ y2 → y3 = vOwR a0 y2 ∧ y4 = UNR a0 b0 x1 y2 ∧ y5 = lstR a0 y2)) → (¬ MGR a0 b0 x1 y6 = 0) → (y7 = vOwR a0 y6 ∧ y8 = UNR a0 b0 x1 y6) → (y9 = lstR a0 y6) → ((y2 < 0 ∨ (if ¬ vOwR a0 y6 = vOwR a0 y2 then vOwR a0 y2 < vOwR a0 y6 else if ¬ UNR a0 b0 x1 y6 = UNR a0 b0 x1 y2 then UNR a0 b0 x1 y6 < UNR a0 b0 x1 y2 else lstR a0 y6 < lstR a0 y2))) → (OC a) → 1 ≤ a0 146 2 → jt (jxX E d 251 124 [some (.inr (.inr (.inl 146))), some (.inl y1), some (.inl y2), some (.inl y3), some (.inl y4), some (.inl y5), some (.inl y6), some (.inl y7), some (.inl y8), some (.inl y9), none] [] (jxSH, a, b0)) (jQ_X12_ask x1 a0 b0) := fun y1 y2 y3 y4 y5 y6 y7 y8 y9 a hlt i0 i1 i2 i3 i4 i5 i6 i7 i8 i9 i10 i11 i12 i13 i14 i15 i16 i17 i18 i19 i20 i21 i22 i23 i24 i25 i26 i27 i28 => (ih _ hlt).2.2.1 y1 y2 y3 y4 y5 y6 y7 y8 y9 a (Nat.le_refl _) i0 i1 i2 i3 i4 i5 i6 i7 i8 i9 i10 i11 i12 i13 i14 i15 i16 i17 i18 i19 i20 i21 i22 i23 i24 i25 i26 i27 i28
  have ih138 : ∀ (y1 y2 y3 y4 y5 y6 y7 y8 y9 : Int) (a : Nat → Nat → Int), (((40 - y6) * 1) + 0).toNat < n → iv a → jfr jW_X12_ask a0 a → 0 ≤ y1 → y1 ≤ 39 → 0 ≤ y2 → y2 ≤ 39 → 0 ≤ y4 → y4 ≤ 2 → 0 ≤ y6 → y6 ≤ 39 → 0 ≤ y8 → y8 ≤ 2 → 1 ≤ a 146 2 → a 146 9 ≤ 299 → (y1 = x1) → (0 ≤ x1 ∧ x1 < a 146 2) → a0 146 9 < 300 → (SAM7 a0 a) → (¬ vMay (a0 152 x1.toNat) (SUMN (ohF (cvR a0) (a0 146 0) x1 0) (a0 146 9).toNat) (SUMN (gvF (cvR a0) (a0 146 0) x1) (a0 146 9).toNat) (a0 171 0) (a0 171 1) = 0) → 0 ≤ y6 → y6 < a 146 2 → (y2 = BSR a0 b0 x1 y6.toNat) → ((0 ≤ y2 → y3 = vOwR a0 y2 ∧ y4 = UNR a0 b0 x1 y2 ∧ y5 = lstR a0 y2)) → (¬ MGR a0 b0 x1 y6 = 0) → (y7 = vOwR a0 y6 ∧ y8 = UNR a0 b0 x1 y6) → (y9 = lstR a0 y6) → (¬ (y2 < 0 ∨ (if ¬ vOwR a0 y6 = vOwR a0 y2 then vOwR a0 y2 < vOwR a0 y6 else if ¬ UNR a0 b0 x1 y6 = UNR a0 b0 x1 y2 then UNR a0 b0 x1 y6 < UNR a0 b0 x1 y2 else lstR a0 y6 < lstR a0 y2))) → (OC a) → 1 ≤ a0 146 2 → jt (jxX E d 251 138 [some (.inr (.inr (.inl 146))), some (.inl y1), some (.inl y2), some (.inl y3), some (.inl y4), some (.inl y5), some (.inl y6), some (.inl y7), some (.inl y8), some (.inl y9), none] [] (jxSH, a, b0)) (jQ_X12_ask x1 a0 b0) := fun y1 y2 y3 y4 y5 y6 y7 y8 y9 a hlt i0 i1 i2 i3 i4 i5 i6 i7 i8 i9 i10 i11 i12 i13 i14 i15 i16 i17 i18 i19 i20 i21 i22 i23 i24 i25 i26 i27 i28 => (ih _ hlt).2.2.2.1 y1 y2 y3 y4 y5 y6 y7 y8 y9 a (Nat.le_refl _) i0 i1 i2 i3 i4 i5 i6 i7 i8 i9 i10 i11 i12 i13 i14 i15 i16 i17 i18 i19 i20 i21 i22 i23 i24 i25 i26 i27 i28
  have ih83 : ∀ (y1 y2 y3 y4 y5 y6 y7 y8 : Int) (a : Nat → Nat → Int), (((40 - y6) * 1) + 0).toNat < n → iv a → jfr jW_X12_ask a0 a → 0 ≤ y1 → y1 ≤ 39 → 0 - 1 ≤ y2 → y2 ≤ 39 → 0 ≤ y4 → y4 ≤ 2 → 0 ≤ y6 → y6 ≤ 39 → 0 ≤ y8 → y8 ≤ 2 → 1 ≤ a 146 2 → a 146 9 ≤ 299 → (y1 = x1) → (0 ≤ x1 ∧ x1 < a 146 2) → a0 146 9 < 300 → (SAM7 a0 a) → (¬ vMay (a0 152 x1.toNat) (SUMN (ohF (cvR a0) (a0 146 0) x1 0) (a0 146 9).toNat) (SUMN (gvF (cvR a0) (a0 146 0) x1) (a0 146 9).toNat) (a0 171 0) (a0 171 1) = 0) → 0 ≤ y6 → y6 < a 146 2 → (y2 = BSR a0 b0 x1 y6.toNat) → ((0 ≤ y2 → y3 = vOwR a0 y2 ∧ y4 = UNR a0 b0 x1 y2 ∧ y5 = lstR a0 y2)) → (¬ MGR a0 b0 x1 y6 = 0) → (y7 = vOwR a0 y6 ∧ y8 = UNR a0 b0 x1 y6) → (OC a) → 1 ≤ a0 146 2 → jt (jxX E d 251 83 [some (.inr (.inr (.inl 146))), some (.inl y1), some (.inl y2), some (.inl y3), some (.inl y4), some (.inl y5), some (.inl y6), some (.inl y7), some (.inl y8), none, none] [] (jxSH, a, b0)) (jQ_X12_ask x1 a0 b0) := fun y1 y2 y3 y4 y5 y6 y7 y8 a hlt i0 i1 i2 i3 i4 i5 i6 i7 i8 i9 i10 i11 i12 i13 i14 i15 i16 i17 i18 i19 i20 i21 i22 i23 i24 i25 i26 => (ih _ hlt).2.2.2.2.1 y1 y2 y3 y4 y5 y6 y7 y8 a (Nat.le_refl _) i0 i1 i2 i3 i4 i5 i6 i7 i8 i9 i10 i11 i12 i13 i14 i15 i16 i17 i18 i19 i20 i21 i22 i23 i24 i25 i26
  have ih44 : ∀ (y1 y2 y3 y4 y5 y6 : Int) (a : Nat → Nat → Int), (((40 - y6) * 1) + 0).toNat < n → iv a → jfr jW_X12_ask a0 a → 0 ≤ y1 → y1 ≤ 39 → 0 - 1 ≤ y2 → y2 ≤ 39 → 0 ≤ y4 → y4 ≤ 2 → 0 ≤ y6 → y6 ≤ 40 → a 146 9 ≤ 299 → (y1 = x1) → (0 ≤ x1 ∧ x1 < a 146 2) → a0 146 9 < 300 → (SAM7 a0 a) → (¬ vMay (a0 152 x1.toNat) (SUMN (ohF (cvR a0) (a0 146 0) x1 0) (a0 146 9).toNat) (SUMN (gvF (cvR a0) (a0 146 0) x1) (a0 146 9).toNat) (a0 171 0) (a0 171 1) = 0) → 0 ≤ y6 → y6 ≤ a 146 2 → (y2 = BSR a0 b0 x1 y6.toNat) → ((0 ≤ y2 → y3 = vOwR a0 y2 ∧ y4 = UNR a0 b0 x1 y2 ∧ y5 = lstR a0 y2)) → (OC a) → 1 ≤ a0 146 2 → jt (jxX E d 251 44 [some (.inr (.inr (.inl 146))), some (.inl y1), some (.inl y2), some (.inl y3), some (.inl y4), some (.inl y5), some (.inl y6), none, none, none, none] [] (jxSH, a, b0)) (jQ_X12_ask x1 a0 b0) := fun y1 y2 y3 y4 y5 y6 a hlt i0 i1 i2 i3 i4 i5 i6 i7 i8 i9 i10 i11 i12 i13 i14 i15 i16 i17 i18 i19 i20 i21 => (ih _ hlt).2.2.2.2.2 y1 y2 y3 y4 y5 y6 a (Nat.le_refl _) i0 i1 i2 i3 i4 i5 i6 i7 i8 i9 i10 i11 i12 i13 i14 i15 i16 i17 i18 i19 i20 i21
  have hc139 : ∀ (y1 y2 y3 y4 y5 y6 y7 y8 y9 s0 : Int) (a : Nat → Nat → Int), (((40 - y6) * 1) + 0).toNat ≤ n → iv a → jfr jW_X12_ask a0 a → 0 ≤ y1 → y1 ≤ 39 → 0 - 1 ≤ y2 → y2 ≤ 39 → 0 ≤ y4 → y4 ≤ 2 → 0 ≤ y6 → y6 ≤ 39 → 0 ≤ y8 → y8 ≤ 2 → 0 ≤ s0 → s0 ≤ 1 → 1 ≤ a 146 2 → a 146 9 ≤ 299 → (y1 = x1) → (0 ≤ x1 ∧ x1 < a 146 2) → a0 146 9 < 300 → (SAM7 a0 a) → (¬ vMay (a0 152 x1.toNat) (SUMN (ohF (cvR a0) (a0 146 0) x1 0) (a0 146 9).toNat) (SUMN (gvF (cvR a0) (a0 146 0) x1) (a0 146 9).toNat) (a0 171 0) (a0 171 1) = 0) → 0 ≤ y6 → y6 < a 146 2 → (s0 = 0 → y2 = BSR a0 b0 x1 (y6.toNat + 1) ∧ (0 ≤ y2 → y3 = vOwR a0 y2 ∧ y4 = UNR a0 b0 x1 y2 ∧ y5 = lstR a0 y2)) → (s0 = 1 → y6 = BSR a0 b0 x1 (y6.toNat + 1) ∧ y7 = vOwR a0 y6 ∧ y8 = UNR a0 b0 x1 y6 ∧ y9 = lstR a0 y6) → (s0 = 0 ∨ s0 = 1) → (OC a) → 1 ≤ a0 146 2 → jt (jxX E d 251 139 [some (.inr (.inr (.inl 146))), some (.inl y1), some (.inl y2), some (.inl y3), some (.inl y4), some (.inl y5), some (.inl y6), some (.inl y7), some (.inl y8), some (.inl y9), none] [.inl s0] (jxSH, a, b0)) (jQ_X12_ask x1 a0 b0) := by
    intro y1 y2 y3 y4 y5 y6 y7 y8 y9 s0 a hm hv hf hi0 hi1 hi2 hi3 hi4 hi5 hi6 hi7 hi8 hi9 hi10 hi11 hi12 hi13 hy1 hi15 hi16 hsm hmy hi19 hi20 hn0 hn1 hi23 hi24 hi25
    refine jt_eq (bq_X12_ask_139 E d y1 y2 y3 y4 y5 y6 y7 y8 y9 s0 a b0) ?_
    have h114_ := iv_get hv (k := 146) (j := 2) (l := 0) (u := 40) rfl
    have h115_ : a 146 2 = a0 146 2 := hf 146 2 rfl
    have h116_ := iv_get hv0 (k := 146) (j := 2) (l := 0) (u := 40) rfl
    have h117_ := iv_get hv (k := 146) (j := 9) (l := 0) (u := 300) rfl
    have h118_ := iv_get hv0 (k := 146) (j := 9) (l := 0) (u := 300) rfl
    have hst : BSR a0 b0 x1 (y6.toNat + 1) = if MGR a0 b0 x1 ((y6.toNat : Nat) : Int) = 0 then BSR a0 b0 x1 y6.toNat else if BSR a0 b0 x1 y6.toNat < 0 ∨ (if ¬ vOwR a0 ((y6.toNat : Nat) : Int) = vOwR a0 (BSR a0 b0 x1 y6.toNat) then vOwR a0 (BSR a0 b0 x1 y6.toNat) < vOwR a0 ((y6.toNat : Nat) : Int) else if ¬ UNR a0 b0 x1 ((y6.toNat : Nat) : Int) = UNR a0 b0 x1 (BSR a0 b0 x1 y6.toNat) then UNR a0 b0 x1 ((y6.toNat : Nat) : Int) < UNR a0 b0 x1 (BSR a0 b0 x1 y6.toNat) else lstR a0 ((y6.toNat : Nat) : Int) < lstR a0 (BSR a0 b0 x1 y6.toNat)) then ((y6.toNat : Nat) : Int) else BSR a0 b0 x1 y6.toNat := rfl
    rw [show ((y6.toNat : Nat) : Int) = y6 from by omega] at hst
    refine jt_ite (fun c119_ => ?_) (fun c119_ => ?_)
    ·
      have h120_ : jxw (y6 + 1) = y6 + 1 := jxw_id (by omega) (by omega)
      exact ih44 y1 y2 y3 y4 y5 (jxw (y6 + 1)) a (show (((40 - (jxw (y6 + 1))) * 1) + 0).toNat < n from by omega) hv hf (show 0 ≤ y1 from by omega) (show y1 ≤ 39 from by omega) (show 0 - 1 ≤ y2 from by omega) (show y2 ≤ 39 from by omega) (show 0 ≤ y4 from by omega) (show y4 ≤ 2 from by omega) (show 0 ≤ jxw (y6 + 1) from by omega) (show jxw (y6 + 1) ≤ 40 from by omega) (show a 146 9 ≤ 299 from by omega) (by first | rfl | assumption) (show (0 ≤ x1 ∧ x1 < a 146 2) from by omega) (show a0 146 9 < 300 from by omega) hsm hmy (show 0 ≤ jxw (y6 + 1) from by omega) (show jxw (y6 + 1) ≤ a 146 2 from by omega) (by rw [show (jxw (y6 + 1)).toNat = y6.toNat + 1 from by omega]; exact (hn0 (by omega)).1) ((hn0 (by omega)).2) hi24 (show 1 ≤ a0 146 2 from by omega)
    ·
      have h121_ : jxw (y6 + 1) = y6 + 1 := jxw_id (by omega) (by omega)
      exact ih44 y1 y6 y7 y8 y9 (jxw (y6 + 1)) a (show (((40 - (jxw (y6 + 1))) * 1) + 0).toNat < n from by omega) hv hf (show 0 ≤ y1 from by omega) (show y1 ≤ 39 from by omega) (show 0 - 1 ≤ y6 from by omega) (show y6 ≤ 39 from by omega) (show 0 ≤ y8 from by omega) (show y8 ≤ 2 from by omega) (show 0 ≤ jxw (y6 + 1) from by omega) (show jxw (y6 + 1) ≤ 40 from by omega) (show a 146 9 ≤ 299 from by omega) (by first | rfl | assumption) (show (0 ≤ x1 ∧ x1 < a 146 2) from by omega) (show a0 146 9 < 300 from by omega) hsm hmy (show 0 ≤ jxw (y6 + 1) from by omega) (show jxw (y6 + 1) ≤ a 146 2 from by omega) (by rw [show (jxw (y6 + 1)).toNat = y6.toNat + 1 from by omega]; exact (hn1 (by omega)).1) (fun _ => (hn1 (by omega)).2) hi24 (show 1 ≤ a0 146 2 from by omega)
  have hc134 : ∀ (y1 y2 y3 y4 y5 y6 y7 y8 y9 : Int) (a : Nat → Nat → Int), (((40 - y6) * 1) + 0).toNat ≤ n → iv a → jfr jW_X12_ask a0 a → 0 ≤ y1 → y1 ≤ 39 → 0 - 1 ≤ y2 → y2 ≤ 39 → 0 ≤ y4 → y4 ≤ 2 → 0 ≤ y6 → y6 ≤ 39 → 0 ≤ y8 → y8 ≤ 2 → 1 ≤ a 146 2 → a 146 9 ≤ 299 → (y1 = x1) → (0 ≤ x1 ∧ x1 < a 146 2) → a0 146 9 < 300 → (SAM7 a0 a) → (¬ vMay (a0 152 x1.toNat) (SUMN (ohF (cvR a0) (a0 146 0) x1 0) (a0 146 9).toNat) (SUMN (gvF (cvR a0) (a0 146 0) x1) (a0 146 9).toNat) (a0 171 0) (a0 171 1) = 0) → 0 ≤ y6 → y6 < a 146 2 → (y2 = BSR a0 b0 x1 y6.toNat) → ((0 ≤ y2 → y3 = vOwR a0 y2 ∧ y4 = UNR a0 b0 x1 y2 ∧ y5 = lstR a0 y2)) → (¬ MGR a0 b0 x1 y6 = 0) → (y7 = vOwR a0 y6 ∧ y8 = UNR a0 b0 x1 y6) → (y9 = lstR a0 y6) → ((y2 < 0 ∨ (if ¬ vOwR a0 y6 = vOwR a0 y2 then vOwR a0 y2 < vOwR a0 y6 else if ¬ UNR a0 b0 x1 y6 = UNR a0 b0 x1 y2 then UNR a0 b0 x1 y6 < UNR a0 b0 x1 y2 else lstR a0 y6 < lstR a0 y2))) → (OC a) → 1 ≤ a0 146 2 → jt (jxX E d 251 134 [some (.inr (.inr (.inl 146))), some (.inl y1), some (.inl y2), some (.inl y3), some (.inl y4), some (.inl y5), some (.inl y6), some (.inl y7), some (.inl y8), some (.inl y9), none] [] (jxSH, a, b0)) (jQ_X12_ask x1 a0 b0) := by
    intro y1 y2 y3 y4 y5 y6 y7 y8 y9 a hm hv hf hi0 hi1 hi2 hi3 hi4 hi5 hi6 hi7 hi8 hi9 hi10 hi11 hy1 hi13 hi14 hsm hmy hi17 hi18 hb1 hb2 hmg hb3 hb4 hah hi25 hi26
    refine jt_eq (bq_X12_ask_134 E d y1 y2 y3 y4 y5 y6 y7 y8 y9 a b0) ?_
    have h122_ := iv_get hv (k := 146) (j := 2) (l := 0) (u := 40) rfl
    have h123_ : a 146 2 = a0 146 2 := hf 146 2 rfl
    have h124_ := iv_get hv0 (k := 146) (j := 2) (l := 0) (u := 40) rfl
    have h125_ := iv_get hv (k := 146) (j := 9) (l := 0) (u := 300) rfl
    have h126_ := iv_get hv0 (k := 146) (j := 9) (l := 0) (u := 300) rfl
    have hst : BSR a0 b0 x1 (y6.toNat + 1) = if MGR a0 b0 x1 ((y6.toNat : Nat) : Int) = 0 then BSR a0 b0 x1 y6.toNat else if BSR a0 b0 x1 y6.toNat < 0 ∨ (if ¬ vOwR a0 ((y6.toNat : Nat) : Int) = vOwR a0 (BSR a0 b0 x1 y6.toNat) then vOwR a0 (BSR a0 b0 x1 y6.toNat) < vOwR a0 ((y6.toNat : Nat) : Int) else if ¬ UNR a0 b0 x1 ((y6.toNat : Nat) : Int) = UNR a0 b0 x1 (BSR a0 b0 x1 y6.toNat) then UNR a0 b0 x1 ((y6.toNat : Nat) : Int) < UNR a0 b0 x1 (BSR a0 b0 x1 y6.toNat) else lstR a0 ((y6.toNat : Nat) : Int) < lstR a0 (BSR a0 b0 x1 y6.toNat)) then ((y6.toNat : Nat) : Int) else BSR a0 b0 x1 y6.toNat := rfl
    rw [show ((y6.toNat : Nat) : Int) = y6 from by omega] at hst
    exact hc139 y1 y2 y3 y4 y5 y6 y7 y8 y9 1 a (show (((40 - y6) * 1) + 0).toNat ≤ n from by omega) hv hf (show 0 ≤ y1 from by omega) (show y1 ≤ 39 from by omega) (show 0 - 1 ≤ y2 from by omega) (show y2 ≤ 39 from by omega) (show 0 ≤ y4 from by omega) (show y4 ≤ 2 from by omega) (show 0 ≤ y6 from by omega) (show y6 ≤ 39 from by omega) (show 0 ≤ y8 from by omega) (show y8 ≤ 2 from by omega) (show 0 ≤ 1 from by omega) (show 1 ≤ 1 from by omega) (show 1 ≤ a 146 2 from by omega) (show a 146 9 ≤ 299 from by omega) (by first | rfl | assumption) (show (0 ≤ x1 ∧ x1 < a 146 2) from by omega) (show a0 146 9 < 300 from by omega) hsm hmy (show 0 ≤ y6 from by omega) (show y6 < a 146 2 from by omega) (fun h => absurd h (by decide)) (fun _ => ⟨by rw [hst, if_neg hmg, if_pos (by rw [← hb1]; exact hah)], hb3.1, hb3.2, hb4⟩) (show (1 = 0 ∨ 1 = 1) from by omega) hi25 (show 1 ≤ a0 146 2 from by omega)
  have hc124 : ∀ (y1 y2 y3 y4 y5 y6 y7 y8 y9 : Int) (a : Nat → Nat → Int), (((40 - y6) * 1) + 0).toNat ≤ n → iv a → jfr jW_X12_ask a0 a → 0 ≤ y1 → y1 ≤ 39 → 0 ≤ y2 → y2 ≤ 39 → 1 ≤ y4 → y4 ≤ 2 → 0 ≤ y6 → y6 ≤ 39 → 0 ≤ y8 → y8 ≤ 1 → 1 ≤ a 146 2 → a 146 9 ≤ 299 → (y1 = x1) → (0 ≤ x1 ∧ x1 < a 146 2) → a0 146 9 < 300 → (SAM7 a0 a) → (¬ vMay (a0 152 x1.toNat) (SUMN (ohF (cvR a0) (a0 146 0) x1 0) (a0 146 9).toNat) (SUMN (gvF (cvR a0) (a0 146 0) x1) (a0 146 9).toNat) (a0 171 0) (a0 171 1) = 0) → 0 ≤ y6 → y6 < a 146 2 → (y2 = BSR a0 b0 x1 y6.toNat) → ((0 ≤ y2 → y3 = vOwR a0 y2 ∧ y4 = UNR a0 b0 x1 y2 ∧ y5 = lstR a0 y2)) → (¬ MGR a0 b0 x1 y6 = 0) → (y7 = vOwR a0 y6 ∧ y8 = UNR a0 b0 x1 y6) → (y9 = lstR a0 y6) → ((y2 < 0 ∨ (if ¬ vOwR a0 y6 = vOwR a0 y2 then vOwR a0 y2 < vOwR a0 y6 else if ¬ UNR a0 b0 x1 y6 = UNR a0 b0 x1 y2 then UNR a0 b0 x1 y6 < UNR a0 b0 x1 y2 else lstR a0 y6 < lstR a0 y2))) → (OC a) → 1 ≤ a0 146 2 → jt (jxX E d 251 124 [some (.inr (.inr (.inl 146))), some (.inl y1), some (.inl y2), some (.inl y3), some (.inl y4), some (.inl y5), some (.inl y6), some (.inl y7), some (.inl y8), some (.inl y9), none] [] (jxSH, a, b0)) (jQ_X12_ask x1 a0 b0) := by
    intro y1 y2 y3 y4 y5 y6 y7 y8 y9 a hm hv hf hi0 hi1 hi2 hi3 hi4 hi5 hi6 hi7 hi8 hi9 hi10 hi11 hy1 hi13 hi14 hsm hmy hi17 hi18 hb1 hb2 hmg hb3 hb4 hah hi25 hi26
    refine jt_eq (bq_X12_ask_124 E d y1 y2 y3 y4 y5 y6 y7 y8 y9 a b0) ?_
    have h127_ := iv_get hv (k := 146) (j := 2) (l := 0) (u := 40) rfl
    have h128_ : a 146 2 = a0 146 2 := hf 146 2 rfl
    have h129_ := iv_get hv0 (k := 146) (j := 2) (l := 0) (u := 40) rfl
    have h130_ := iv_get hv (k := 146) (j := 9) (l := 0) (u := 300) rfl
    have h131_ := iv_get hv0 (k := 146) (j := 9) (l := 0) (u := 300) rfl
    exact hc134 y1 y2 y3 y4 y5 y6 y7 y8 y9 a (show (((40 - y6) * 1) + 0).toNat ≤ n from by omega) hv hf (show 0 ≤ y1 from by omega) (show y1 ≤ 39 from by omega) (show 0 - 1 ≤ y2 from by omega) (show y2 ≤ 39 from by omega) (show 0 ≤ y4 from by omega) (show y4 ≤ 2 from by omega) (show 0 ≤ y6 from by omega) (show y6 ≤ 39 from by omega) (show 0 ≤ y8 from by omega) (show y8 ≤ 2 from by omega) (show 1 ≤ a 146 2 from by omega) (show a 146 9 ≤ 299 from by omega) (by first | rfl | assumption) (show (0 ≤ x1 ∧ x1 < a 146 2) from by omega) (show a0 146 9 < 300 from by omega) hsm hmy (show 0 ≤ y6 from by omega) (show y6 < a 146 2 from by omega) hb1 hb2 hmg hb3 hb4 hah hi25 (show 1 ≤ a0 146 2 from by omega)
  have hc138 : ∀ (y1 y2 y3 y4 y5 y6 y7 y8 y9 : Int) (a : Nat → Nat → Int), (((40 - y6) * 1) + 0).toNat ≤ n → iv a → jfr jW_X12_ask a0 a → 0 ≤ y1 → y1 ≤ 39 → 0 ≤ y2 → y2 ≤ 39 → 0 ≤ y4 → y4 ≤ 2 → 0 ≤ y6 → y6 ≤ 39 → 0 ≤ y8 → y8 ≤ 2 → 1 ≤ a 146 2 → a 146 9 ≤ 299 → (y1 = x1) → (0 ≤ x1 ∧ x1 < a 146 2) → a0 146 9 < 300 → (SAM7 a0 a) → (¬ vMay (a0 152 x1.toNat) (SUMN (ohF (cvR a0) (a0 146 0) x1 0) (a0 146 9).toNat) (SUMN (gvF (cvR a0) (a0 146 0) x1) (a0 146 9).toNat) (a0 171 0) (a0 171 1) = 0) → 0 ≤ y6 → y6 < a 146 2 → (y2 = BSR a0 b0 x1 y6.toNat) → ((0 ≤ y2 → y3 = vOwR a0 y2 ∧ y4 = UNR a0 b0 x1 y2 ∧ y5 = lstR a0 y2)) → (¬ MGR a0 b0 x1 y6 = 0) → (y7 = vOwR a0 y6 ∧ y8 = UNR a0 b0 x1 y6) → (y9 = lstR a0 y6) → (¬ (y2 < 0 ∨ (if ¬ vOwR a0 y6 = vOwR a0 y2 then vOwR a0 y2 < vOwR a0 y6 else if ¬ UNR a0 b0 x1 y6 = UNR a0 b0 x1 y2 then UNR a0 b0 x1 y6 < UNR a0 b0 x1 y2 else lstR a0 y6 < lstR a0 y2))) → (OC a) → 1 ≤ a0 146 2 → jt (jxX E d 251 138 [some (.inr (.inr (.inl 146))), some (.inl y1), some (.inl y2), some (.inl y3), some (.inl y4), some (.inl y5), some (.inl y6), some (.inl y7), some (.inl y8), some (.inl y9), none] [] (jxSH, a, b0)) (jQ_X12_ask x1 a0 b0) := by
    intro y1 y2 y3 y4 y5 y6 y7 y8 y9 a hm hv hf hi0 hi1 hi2 hi3 hi4 hi5 hi6 hi7 hi8 hi9 hi10 hi11 hy1 hi13 hi14 hsm hmy hi17 hi18 hb1 hb2 hmg hb3 hb4 hah hi25 hi26
    refine jt_eq (bq_X12_ask_138 E d y1 y2 y3 y4 y5 y6 y7 y8 y9 a b0) ?_
    have h132_ := iv_get hv (k := 146) (j := 2) (l := 0) (u := 40) rfl
    have h133_ : a 146 2 = a0 146 2 := hf 146 2 rfl
    have h134_ := iv_get hv0 (k := 146) (j := 2) (l := 0) (u := 40) rfl
    have h135_ := iv_get hv (k := 146) (j := 9) (l := 0) (u := 300) rfl
    have h136_ := iv_get hv0 (k := 146) (j := 9) (l := 0) (u := 300) rfl
    have hst : BSR a0 b0 x1 (y6.toNat + 1) = if MGR a0 b0 x1 ((y6.toNat : Nat) : Int) = 0 then BSR a0 b0 x1 y6.toNat else if BSR a0 b0 x1 y6.toNat < 0 ∨ (if ¬ vOwR a0 ((y6.toNat : Nat) : Int) = vOwR a0 (BSR a0 b0 x1 y6.toNat) then vOwR a0 (BSR a0 b0 x1 y6.toNat) < vOwR a0 ((y6.toNat : Nat) : Int) else if ¬ UNR a0 b0 x1 ((y6.toNat : Nat) : Int) = UNR a0 b0 x1 (BSR a0 b0 x1 y6.toNat) then UNR a0 b0 x1 ((y6.toNat : Nat) : Int) < UNR a0 b0 x1 (BSR a0 b0 x1 y6.toNat) else lstR a0 ((y6.toNat : Nat) : Int) < lstR a0 (BSR a0 b0 x1 y6.toNat)) then ((y6.toNat : Nat) : Int) else BSR a0 b0 x1 y6.toNat := rfl
    rw [show ((y6.toNat : Nat) : Int) = y6 from by omega] at hst
    exact hc139 y1 y2 y3 y4 y5 y6 y7 y8 y9 0 a (show (((40 - y6) * 1) + 0).toNat ≤ n from by omega) hv hf (show 0 ≤ y1 from by omega) (show y1 ≤ 39 from by omega) (show 0 - 1 ≤ y2 from by omega) (show y2 ≤ 39 from by omega) (show 0 ≤ y4 from by omega) (show y4 ≤ 2 from by omega) (show 0 ≤ y6 from by omega) (show y6 ≤ 39 from by omega) (show 0 ≤ y8 from by omega) (show y8 ≤ 2 from by omega) (show 0 ≤ 0 from by omega) (show 0 ≤ 1 from by omega) (show 1 ≤ a 146 2 from by omega) (show a 146 9 ≤ 299 from by omega) (by first | rfl | assumption) (show (0 ≤ x1 ∧ x1 < a 146 2) from by omega) (show a0 146 9 < 300 from by omega) hsm hmy (show 0 ≤ y6 from by omega) (show y6 < a 146 2 from by omega) (fun _ => ⟨by rw [hst, if_neg hmg, if_neg (by rw [← hb1]; exact hah)]; exact hb1, hb2⟩) (fun h => absurd h (by decide)) (show (0 = 0 ∨ 0 = 1) from by omega) hi25 (show 1 ≤ a0 146 2 from by omega)
  have hc83 : ∀ (y1 y2 y3 y4 y5 y6 y7 y8 : Int) (a : Nat → Nat → Int), (((40 - y6) * 1) + 0).toNat ≤ n → iv a → jfr jW_X12_ask a0 a → 0 ≤ y1 → y1 ≤ 39 → 0 - 1 ≤ y2 → y2 ≤ 39 → 0 ≤ y4 → y4 ≤ 2 → 0 ≤ y6 → y6 ≤ 39 → 0 ≤ y8 → y8 ≤ 2 → 1 ≤ a 146 2 → a 146 9 ≤ 299 → (y1 = x1) → (0 ≤ x1 ∧ x1 < a 146 2) → a0 146 9 < 300 → (SAM7 a0 a) → (¬ vMay (a0 152 x1.toNat) (SUMN (ohF (cvR a0) (a0 146 0) x1 0) (a0 146 9).toNat) (SUMN (gvF (cvR a0) (a0 146 0) x1) (a0 146 9).toNat) (a0 171 0) (a0 171 1) = 0) → 0 ≤ y6 → y6 < a 146 2 → (y2 = BSR a0 b0 x1 y6.toNat) → ((0 ≤ y2 → y3 = vOwR a0 y2 ∧ y4 = UNR a0 b0 x1 y2 ∧ y5 = lstR a0 y2)) → (¬ MGR a0 b0 x1 y6 = 0) → (y7 = vOwR a0 y6 ∧ y8 = UNR a0 b0 x1 y6) → (OC a) → 1 ≤ a0 146 2 → jt (jxX E d 251 83 [some (.inr (.inr (.inl 146))), some (.inl y1), some (.inl y2), some (.inl y3), some (.inl y4), some (.inl y5), some (.inl y6), some (.inl y7), some (.inl y8), none, none] [] (jxSH, a, b0)) (jQ_X12_ask x1 a0 b0) := by
    intro y1 y2 y3 y4 y5 y6 y7 y8 a hm hv hf hi0 hi1 hi2 hi3 hi4 hi5 hi6 hi7 hi8 hi9 hi10 hi11 hy1 hi13 hi14 hsm hmy hi17 hi18 hb1 hb2 hmg hb3 hi23 hi24
    refine jt_eq (bq_X12_ask_83 E d y1 y2 y3 y4 y5 y6 y7 y8 a b0) ?_
    have h137_ := iv_get hv (k := 146) (j := 2) (l := 0) (u := 40) rfl
    have h138_ : a 146 2 = a0 146 2 := hf 146 2 rfl
    have h139_ := iv_get hv0 (k := 146) (j := 2) (l := 0) (u := 40) rfl
    have h140_ := iv_get hv (k := 146) (j := 9) (l := 0) (u := 300) rfl
    have h141_ := iv_get hv0 (k := 146) (j := 9) (l := 0) (u := 300) rfl
    have hst : BSR a0 b0 x1 (y6.toNat + 1) = if MGR a0 b0 x1 ((y6.toNat : Nat) : Int) = 0 then BSR a0 b0 x1 y6.toNat else if BSR a0 b0 x1 y6.toNat < 0 ∨ (if ¬ vOwR a0 ((y6.toNat : Nat) : Int) = vOwR a0 (BSR a0 b0 x1 y6.toNat) then vOwR a0 (BSR a0 b0 x1 y6.toNat) < vOwR a0 ((y6.toNat : Nat) : Int) else if ¬ UNR a0 b0 x1 ((y6.toNat : Nat) : Int) = UNR a0 b0 x1 (BSR a0 b0 x1 y6.toNat) then UNR a0 b0 x1 ((y6.toNat : Nat) : Int) < UNR a0 b0 x1 (BSR a0 b0 x1 y6.toNat) else lstR a0 ((y6.toNat : Nat) : Int) < lstR a0 (BSR a0 b0 x1 y6.toNat)) then ((y6.toNat : Nat) : Int) else BSR a0 b0 x1 y6.toNat := rfl
    rw [show ((y6.toNat : Nat) : Int) = y6 from by omega] at hst
    refine jt_bI (sp_X12_lastSentTo E d (jd_le hd rfl) y6 a b0 hv) (fun r142_ a142_ b142_ h142_ => ?_)
    obtain ⟨rfl, rfl, hq142_0⟩ := h142_
    refine jt_ite (fun c143_ => ?_) (fun c143_ => ?_)
    ·
      exact hc134 y1 y2 y3 y4 y5 y6 y7 y8 r142_ a (show (((40 - y6) * 1) + 0).toNat ≤ n from by omega) hv hf (show 0 ≤ y1 from by omega) (show y1 ≤ 39 from by omega) (show 0 - 1 ≤ y2 from by omega) (show y2 ≤ 39 from by omega) (show 0 ≤ y4 from by omega) (show y4 ≤ 2 from by omega) (show 0 ≤ y6 from by omega) (show y6 ≤ 39 from by omega) (show 0 ≤ y8 from by omega) (show y8 ≤ 2 from by omega) (show 1 ≤ a 146 2 from by omega) (show a 146 9 ≤ 299 from by omega) (by first | rfl | assumption) (show (0 ≤ x1 ∧ x1 < a 146 2) from by omega) (show a0 146 9 < 300 from by omega) hsm hmy (show 0 ≤ y6 from by omega) (show y6 < a 146 2 from by omega) hb1 hb2 hmg hb3 (by rw [← SAM7_ls hsm]; exact hq142_0) (by have q4 : r142_ = lstR a0 y6 := (by rw [← SAM7_ls hsm]; exact hq142_0); by_cases c : y2 < 0 <;> first | exact Or.inl c | (obtain ⟨k1, k2, k3⟩ := hb2 (by omega); right; rw [← hb3.1, ← hb3.2, ← k1, ← k2, ← k3, ← q4]; first | (rw [if_pos (by omega)]; omega) | (rw [if_neg (by omega), if_pos (by omega)]; omega) | (rw [if_neg (by omega), if_neg (by omega)]; omega))) hi23 (show 1 ≤ a0 146 2 from by omega)
    ·
      refine jt_ite (fun c144_ => ?_) (fun c144_ => ?_)
      ·
        refine jt_ite (fun c145_ => ?_) (fun c145_ => ?_)
        ·
          refine jt_ite (fun c146_ => ?_) (fun c146_ => ?_)
          ·
            exact hc134 y1 y2 y3 y4 y5 y6 y7 y8 r142_ a (show (((40 - y6) * 1) + 0).toNat ≤ n from by omega) hv hf (show 0 ≤ y1 from by omega) (show y1 ≤ 39 from by omega) (show 0 - 1 ≤ y2 from by omega) (show y2 ≤ 39 from by omega) (show 0 ≤ y4 from by omega) (show y4 ≤ 2 from by omega) (show 0 ≤ y6 from by omega) (show y6 ≤ 39 from by omega) (show 0 ≤ y8 from by omega) (show y8 ≤ 2 from by omega) (show 1 ≤ a 146 2 from by omega) (show a 146 9 ≤ 299 from by omega) (by first | rfl | assumption) (show (0 ≤ x1 ∧ x1 < a 146 2) from by omega) (show a0 146 9 < 300 from by omega) hsm hmy (show 0 ≤ y6 from by omega) (show y6 < a 146 2 from by omega) hb1 hb2 hmg hb3 (by rw [← SAM7_ls hsm]; exact hq142_0) (by have q4 : r142_ = lstR a0 y6 := (by rw [← SAM7_ls hsm]; exact hq142_0); by_cases c : y2 < 0 <;> first | exact Or.inl c | (obtain ⟨k1, k2, k3⟩ := hb2 (by omega); right; rw [← hb3.1, ← hb3.2, ← k1, ← k2, ← k3, ← q4]; first | (rw [if_pos (by omega)]; omega) | (rw [if_neg (by omega), if_pos (by omega)]; omega) | (rw [if_neg (by omega), if_neg (by omega)]; omega))) hi23 (show 1 ≤ a0 146 2 from by omega)
          ·
            exact hc138 y1 y2 y3 y4 y5 y6 y7 y8 r142_ a (show (((40 - y6) * 1) + 0).toNat ≤ n from by omega) hv hf (show 0 ≤ y1 from by omega) (show y1 ≤ 39 from by omega) (show 0 ≤ y2 from by omega) (show y2 ≤ 39 from by omega) (show 0 ≤ y4 from by omega) (show y4 ≤ 2 from by omega) (show 0 ≤ y6 from by omega) (show y6 ≤ 39 from by omega) (show 0 ≤ y8 from by omega) (show y8 ≤ 2 from by omega) (show 1 ≤ a 146 2 from by omega) (show a 146 9 ≤ 299 from by omega) (by first | rfl | assumption) (show (0 ≤ x1 ∧ x1 < a 146 2) from by omega) (show a0 146 9 < 300 from by omega) hsm hmy (show 0 ≤ y6 from by omega) (show y6 < a 146 2 from by omega) hb1 hb2 hmg hb3 (by rw [← SAM7_ls hsm]; exact hq142_0) (by have q4 : r142_ = lstR a0 y6 := (by rw [← SAM7_ls hsm]; exact hq142_0); obtain ⟨k1, k2, k3⟩ := hb2 (by omega); rintro (c | c) <;> first | omega | (rw [← hb3.1, ← hb3.2, ← k1, ← k2, ← k3, ← q4] at c; first | (rw [if_pos (by omega)] at c; omega) | (rw [if_neg (by omega), if_pos (by omega)] at c; omega) | (rw [if_neg (by omega), if_neg (by omega)] at c; omega))) hi23 (show 1 ≤ a0 146 2 from by omega)
        ·
          refine jt_ite (fun c147_ => ?_) (fun c147_ => ?_)
          ·
            exact hc124 y1 y2 y3 y4 y5 y6 y7 y8 r142_ a (show (((40 - y6) * 1) + 0).toNat ≤ n from by omega) hv hf (show 0 ≤ y1 from by omega) (show y1 ≤ 39 from by omega) (show 0 ≤ y2 from by omega) (show y2 ≤ 39 from by omega) (show 1 ≤ y4 from by omega) (show y4 ≤ 2 from by omega) (show 0 ≤ y6 from by omega) (show y6 ≤ 39 from by omega) (show 0 ≤ y8 from by omega) (show y8 ≤ 1 from by omega) (show 1 ≤ a 146 2 from by omega) (show a 146 9 ≤ 299 from by omega) (by first | rfl | assumption) (show (0 ≤ x1 ∧ x1 < a 146 2) from by omega) (show a0 146 9 < 300 from by omega) hsm hmy (show 0 ≤ y6 from by omega) (show y6 < a 146 2 from by omega) hb1 hb2 hmg hb3 (by rw [← SAM7_ls hsm]; exact hq142_0) (by have q4 : r142_ = lstR a0 y6 := (by rw [← SAM7_ls hsm]; exact hq142_0); by_cases c : y2 < 0 <;> first | exact Or.inl c | (obtain ⟨k1, k2, k3⟩ := hb2 (by omega); right; rw [← hb3.1, ← hb3.2, ← k1, ← k2, ← k3, ← q4]; first | (rw [if_pos (by omega)]; omega) | (rw [if_neg (by omega), if_pos (by omega)]; omega) | (rw [if_neg (by omega), if_neg (by omega)]; omega))) hi23 (show 1 ≤ a0 146 2 from by omega)
          ·
            exact hc138 y1 y2 y3 y4 y5 y6 y7 y8 r142_ a (show (((40 - y6) * 1) + 0).toNat ≤ n from by omega) hv hf (show 0 ≤ y1 from by omega) (show y1 ≤ 39 from by omega) (show 0 ≤ y2 from by omega) (show y2 ≤ 39 from by omega) (show 0 ≤ y4 from by omega) (show y4 ≤ 2 from by omega) (show 0 ≤ y6 from by omega) (show y6 ≤ 39 from by omega) (show 0 ≤ y8 from by omega) (show y8 ≤ 2 from by omega) (show 1 ≤ a 146 2 from by omega) (show a 146 9 ≤ 299 from by omega) (by first | rfl | assumption) (show (0 ≤ x1 ∧ x1 < a 146 2) from by omega) (show a0 146 9 < 300 from by omega) hsm hmy (show 0 ≤ y6 from by omega) (show y6 < a 146 2 from by omega) hb1 hb2 hmg hb3 (by rw [← SAM7_ls hsm]; exact hq142_0) (by have q4 : r142_ = lstR a0 y6 := (by rw [← SAM7_ls hsm]; exact hq142_0); obtain ⟨k1, k2, k3⟩ := hb2 (by omega); rintro (c | c) <;> first | omega | (rw [← hb3.1, ← hb3.2, ← k1, ← k2, ← k3, ← q4] at c; first | (rw [if_pos (by omega)] at c; omega) | (rw [if_neg (by omega), if_pos (by omega)] at c; omega) | (rw [if_neg (by omega), if_neg (by omega)] at c; omega))) hi23 (show 1 ≤ a0 146 2 from by omega)
      ·
        refine jt_ite (fun c148_ => ?_) (fun c148_ => ?_)
        ·
          exact hc134 y1 y2 y3 y4 y5 y6 y7 y8 r142_ a (show (((40 - y6) * 1) + 0).toNat ≤ n from by omega) hv hf (show 0 ≤ y1 from by omega) (show y1 ≤ 39 from by omega) (show 0 - 1 ≤ y2 from by omega) (show y2 ≤ 39 from by omega) (show 0 ≤ y4 from by omega) (show y4 ≤ 2 from by omega) (show 0 ≤ y6 from by omega) (show y6 ≤ 39 from by omega) (show 0 ≤ y8 from by omega) (show y8 ≤ 2 from by omega) (show 1 ≤ a 146 2 from by omega) (show a 146 9 ≤ 299 from by omega) (by first | rfl | assumption) (show (0 ≤ x1 ∧ x1 < a 146 2) from by omega) (show a0 146 9 < 300 from by omega) hsm hmy (show 0 ≤ y6 from by omega) (show y6 < a 146 2 from by omega) hb1 hb2 hmg hb3 (by rw [← SAM7_ls hsm]; exact hq142_0) (by have q4 : r142_ = lstR a0 y6 := (by rw [← SAM7_ls hsm]; exact hq142_0); by_cases c : y2 < 0 <;> first | exact Or.inl c | (obtain ⟨k1, k2, k3⟩ := hb2 (by omega); right; rw [← hb3.1, ← hb3.2, ← k1, ← k2, ← k3, ← q4]; first | (rw [if_pos (by omega)]; omega) | (rw [if_neg (by omega), if_pos (by omega)]; omega) | (rw [if_neg (by omega), if_neg (by omega)]; omega))) hi23 (show 1 ≤ a0 146 2 from by omega)
        ·
          exact hc138 y1 y2 y3 y4 y5 y6 y7 y8 r142_ a (show (((40 - y6) * 1) + 0).toNat ≤ n from by omega) hv hf (show 0 ≤ y1 from by omega) (show y1 ≤ 39 from by omega) (show 0 ≤ y2 from by omega) (show y2 ≤ 39 from by omega) (show 0 ≤ y4 from by omega) (show y4 ≤ 2 from by omega) (show 0 ≤ y6 from by omega) (show y6 ≤ 39 from by omega) (show 0 ≤ y8 from by omega) (show y8 ≤ 2 from by omega) (show 1 ≤ a 146 2 from by omega) (show a 146 9 ≤ 299 from by omega) (by first | rfl | assumption) (show (0 ≤ x1 ∧ x1 < a 146 2) from by omega) (show a0 146 9 < 300 from by omega) hsm hmy (show 0 ≤ y6 from by omega) (show y6 < a 146 2 from by omega) hb1 hb2 hmg hb3 (by rw [← SAM7_ls hsm]; exact hq142_0) (by have q4 : r142_ = lstR a0 y6 := (by rw [← SAM7_ls hsm]; exact hq142_0); obtain ⟨k1, k2, k3⟩ := hb2 (by omega); rintro (c | c) <;> first | omega | (rw [← hb3.1, ← hb3.2, ← k1, ← k2, ← k3, ← q4] at c; first | (rw [if_pos (by omega)] at c; omega) | (rw [if_neg (by omega), if_pos (by omega)] at c; omega) | (rw [if_neg (by omega), if_neg (by omega)] at c; omega))) hi23 (show 1 ≤ a0 146 2 from by omega)
  have hc44 : ∀ (y1 y2 y3 y4 y5 y6 : Int) (a : Nat → Nat → Int), (((40 - y6) * 1) + 0).toNat ≤ n → iv a → jfr jW_X12_ask a0 a → 0 ≤ y1 → y1 ≤ 39 → 0 - 1 ≤ y2 → y2 ≤ 39 → 0 ≤ y4 → y4 ≤ 2 → 0 ≤ y6 → y6 ≤ 40 → a 146 9 ≤ 299 → (y1 = x1) → (0 ≤ x1 ∧ x1 < a 146 2) → a0 146 9 < 300 → (SAM7 a0 a) → (¬ vMay (a0 152 x1.toNat) (SUMN (ohF (cvR a0) (a0 146 0) x1 0) (a0 146 9).toNat) (SUMN (gvF (cvR a0) (a0 146 0) x1) (a0 146 9).toNat) (a0 171 0) (a0 171 1) = 0) → 0 ≤ y6 → y6 ≤ a 146 2 → (y2 = BSR a0 b0 x1 y6.toNat) → ((0 ≤ y2 → y3 = vOwR a0 y2 ∧ y4 = UNR a0 b0 x1 y2 ∧ y5 = lstR a0 y2)) → (OC a) → 1 ≤ a0 146 2 → jt (jxX E d 251 44 [some (.inr (.inr (.inl 146))), some (.inl y1), some (.inl y2), some (.inl y3), some (.inl y4), some (.inl y5), some (.inl y6), none, none, none, none] [] (jxSH, a, b0)) (jQ_X12_ask x1 a0 b0) := by
    intro y1 y2 y3 y4 y5 y6 a hm hv hf hi0 hi1 hi2 hi3 hi4 hi5 hi6 hi7 hi8 hy1 hi10 hi11 hsm hmy hi14 hi15 hb1 hb2 hi18 hi19
    refine jt_eq (bq_X12_ask_44 E d y1 y2 y3 y4 y5 y6 a b0) ?_
    have h149_ := iv_get hv (k := 146) (j := 9) (l := 0) (u := 300) rfl
    have h150_ := iv_get hv (k := 146) (j := 2) (l := 0) (u := 40) rfl
    have h151_ : a 146 2 = a0 146 2 := hf 146 2 rfl
    have h152_ := iv_get hv0 (k := 146) (j := 2) (l := 0) (u := 40) rfl
    have h153_ := iv_get hv0 (k := 146) (j := 9) (l := 0) (u := 300) rfl
    have hst : BSR a0 b0 x1 (y6.toNat + 1) = if MGR a0 b0 x1 ((y6.toNat : Nat) : Int) = 0 then BSR a0 b0 x1 y6.toNat else if BSR a0 b0 x1 y6.toNat < 0 ∨ (if ¬ vOwR a0 ((y6.toNat : Nat) : Int) = vOwR a0 (BSR a0 b0 x1 y6.toNat) then vOwR a0 (BSR a0 b0 x1 y6.toNat) < vOwR a0 ((y6.toNat : Nat) : Int) else if ¬ UNR a0 b0 x1 ((y6.toNat : Nat) : Int) = UNR a0 b0 x1 (BSR a0 b0 x1 y6.toNat) then UNR a0 b0 x1 ((y6.toNat : Nat) : Int) < UNR a0 b0 x1 (BSR a0 b0 x1 y6.toNat) else lstR a0 ((y6.toNat : Nat) : Int) < lstR a0 (BSR a0 b0 x1 y6.toNat)) then ((y6.toNat : Nat) : Int) else BSR a0 b0 x1 y6.toNat := rfl
    rw [show ((y6.toNat : Nat) : Int) = y6 from by omega] at hst
    refine jt_ite (fun c154_ => ?_) (fun c154_ => ?_)
    ·
      refine jt_bI (sp_X12_mayGet E d (jd_le hd rfl) y1 y6 a b0 hv (show (0 ≤ y1 ∧ y1 ≤ 39) from by omega) (show (0 ≤ y6 ∧ y6 ≤ 39) from by omega) (WFW_fr hp0 hf (fun _ => rfl) (fun _ => rfl)) (WISHR_fr hp2 hf (fun _ => rfl) (fun _ => rfl) (fun _ => rfl) (fun _ => rfl))) (fun r155_ a155_ b155_ h155_ => ?_)
      obtain ⟨hv155_, hf155_, rfl, hq155_0, hq155_1⟩ := h155_
      have hqmg_ := hq155_1
      have hsm155 := SAM7_tr hsm (SAM7_fr hf155_ rfl)
      refine jt_ite (fun c156_ => ?_) (fun c156_ => ?_)
      ·
        have hf157_ : jfr jW_X12_ask a0 a155_ := jfr_tr hf hf155_ rfl
        have h158_ : jxw (y6 + 1) = y6 + 1 := jxw_id (by omega) (by omega)
        have h159_ := iv_get hv155_ (k := 146) (j := 9) (l := 0) (u := 300) rfl
        have h160_ : a155_ 146 9 = a 146 9 := hf155_ 146 9 rfl
        have h161_ := iv_get hv155_ (k := 146) (j := 2) (l := 0) (u := 40) rfl
        have h162_ : a155_ 146 2 = a 146 2 := hf155_ 146 2 rfl
        exact ih44 y1 y2 y3 y4 y5 (jxw (y6 + 1)) a155_ (show (((40 - (jxw (y6 + 1))) * 1) + 0).toNat < n from by omega) hv155_ hf157_ (show 0 ≤ y1 from by omega) (show y1 ≤ 39 from by omega) (show 0 - 1 ≤ y2 from by omega) (show y2 ≤ 39 from by omega) (show 0 ≤ y4 from by omega) (show y4 ≤ 2 from by omega) (show 0 ≤ jxw (y6 + 1) from by omega) (show jxw (y6 + 1) ≤ 40 from by omega) (show a155_ 146 9 ≤ 299 from by omega) (by first | rfl | assumption) (show (0 ≤ x1 ∧ x1 < a155_ 146 2) from by omega) (show a0 146 9 < 300 from by omega) (SAM7_tr hsm (SAM7_fr hf155_ rfl)) hmy (show 0 ≤ jxw (y6 + 1) from by omega) (show jxw (y6 + 1) ≤ a155_ 146 2 from by omega) (by rw [show (jxw (y6 + 1)).toNat = y6.toNat + 1 from by omega]; have qm := hq155_1; rw [hy1, SAM7_mg hsm] at qm; rw [hst, if_pos (by omega)]; exact hb1) hb2 (OC_fr hi18 hf155_ rfl rfl (fun _ => rfl) (fun _ => rfl) (fun _ => rfl) (fun _ => rfl) (fun _ => rfl)) (show 1 ≤ a0 146 2 from by omega)
      ·
        refine jt_bI (sp_X12_owed E d (jd_le hd rfl) y6 a155_ b0 hv155_ (show (0 ≤ y6 ∧ y6 ≤ 39) from by omega)) (fun r163_ a163_ b163_ h163_ => ?_)
        obtain ⟨rfl, rfl, hq163_0⟩ := h163_
        have hqow_ := hq163_0
        have hsmo_ := hsm155
        refine jt_bI (sp_X12_unhappy E d (jd_le hd rfl) y1 y6 a155_ b0 hv155_ (show (0 ≤ y1 ∧ y1 ≤ 39) from by omega) (show (0 ≤ y6 ∧ y6 ≤ 39) from by omega) (WFW_fr (WFW_fr hp0 hf (fun _ => rfl) (fun _ => rfl)) hf155_ (fun _ => rfl) (fun _ => rfl)) (WISHR_fr (WISHR_fr hp2 hf (fun _ => rfl) (fun _ => rfl) (fun _ => rfl) (fun _ => rfl)) hf155_ (fun _ => rfl) (fun _ => rfl) (fun _ => rfl) (fun _ => rfl))) (fun r164_ a164_ b164_ h164_ => ?_)
        obtain ⟨hv164_, hf164_, rfl, hq164_0, hq164_1, hq164_2⟩ := h164_
        have hqun_ := hq164_2
        have hf165_ : jfr jW_X12_ask a0 a155_ := jfr_tr hf hf155_ rfl
        have hf166_ : jfr jW_X12_ask a0 a164_ := jfr_tr hf165_ hf164_ rfl
        have h167_ := iv_get hv164_ (k := 146) (j := 2) (l := 0) (u := 40) rfl
        have h168_ : a164_ 146 2 = a155_ 146 2 := hf164_ 146 2 rfl
        have h169_ := iv_get hv155_ (k := 146) (j := 2) (l := 0) (u := 40) rfl
        have h170_ : a155_ 146 2 = a 146 2 := hf155_ 146 2 rfl
        have h171_ := iv_get hv164_ (k := 146) (j := 9) (l := 0) (u := 300) rfl
        have h172_ : a164_ 146 9 = a155_ 146 9 := hf164_ 146 9 rfl
        have h173_ := iv_get hv155_ (k := 146) (j := 9) (l := 0) (u := 300) rfl
        have h174_ : a155_ 146 9 = a 146 9 := hf155_ 146 9 rfl
        exact hc83 y1 y2 y3 y4 y5 y6 r163_ r164_ a164_ (show (((40 - y6) * 1) + 0).toNat ≤ n from by omega) hv164_ hf166_ (show 0 ≤ y1 from by omega) (show y1 ≤ 39 from by omega) (show 0 - 1 ≤ y2 from by omega) (show y2 ≤ 39 from by omega) (show 0 ≤ y4 from by omega) (show y4 ≤ 2 from by omega) (show 0 ≤ y6 from by omega) (show y6 ≤ 39 from by omega) (show 0 ≤ r164_ from by omega) (show r164_ ≤ 2 from by omega) (show 1 ≤ a164_ 146 2 from by omega) (show a164_ 146 9 ≤ 299 from by omega) (by first | rfl | assumption) (show (0 ≤ x1 ∧ x1 < a164_ 146 2) from by omega) (show a0 146 9 < 300 from by omega) (SAM7_tr (SAM7_tr hsm (SAM7_fr hf155_ rfl)) (SAM7_fr hf164_ rfl)) hmy (show 0 ≤ y6 from by omega) (show y6 < a164_ 146 2 from by omega) hb1 hb2 (by rw [← SAM7_mg hsm, ← hy1, ← hqmg_]; assumption) (by rw [hy1] at hqun_; exact ⟨by rw [hqow_]; exact SAM7_ow hsmo_ _, by rw [hqun_]; exact SAM7_un hsmo_ _ _ _⟩) (OC_fr (OC_fr hi18 hf155_ rfl rfl (fun _ => rfl) (fun _ => rfl) (fun _ => rfl) (fun _ => rfl) (fun _ => rfl)) hf164_ rfl rfl (fun _ => rfl) (fun _ => rfl) (fun _ => rfl) (fun _ => rfl) (fun _ => rfl)) (show 1 ≤ a0 146 2 from by omega)
    ·
      refine jt_ite (fun c175_ => ?_) (fun c175_ => ?_)
      ·
        exact jt_rI ⟨hv, hf, rfl, hi18, (show (a0 146 2 = 0 → (-3) = 0 - 1) from by omega), (fun h1 h2 h3 => by have hb9 : BSR a0 b0 x1 (a0 146 2).toNat = y2 := (by have h2 := hsm.2.2.2.1; rw [show (a0 146 2).toNat = y6.toNat from by omega]; exact hb1.symm); exact Or.inr ⟨hmy, Or.inl ⟨by rw [hb9]; assumption, rfl, hsm.1⟩⟩), (show (((x1 < 0 ∨ a0 146 2 ≤ x1) ∨ a0 146 9 = 300) → (-3) = 0 - 1) from by omega), (fun h => absurd (by omega : False) id)⟩
      ·
        refine jt_bI (sp_X12_sends E d (jd_le hd rfl) y1 y2 (-1) a b0 hv (show (0 ≤ y1 ∧ y1 ≤ 39) from by omega) (show (0 ≤ y2 ∧ y2 ≤ 39) from by omega) (show a 146 9 ≤ 299 from by omega)) (fun r176_ a176_ b176_ h176_ => ?_)
        obtain ⟨hv176_, hf176_, rfl, hq176_0, hq176_1, hq176_2, hq176_3, hq176_4⟩ := h176_
        have h177_ := iv_get hv176_ (k := 146) (j := 9) (l := 0) (u := 300) rfl
        have hf178_ : jfr jW_X12_ask a0 a176_ := jfr_tr hf hf176_ rfl
        exact jt_rI ⟨hv176_, hf178_, rfl, (OC_card hi18 hq176_0 (hf176_ 146 49 rfl) (fun c hc => hq176_2 c hc) (fun j => hf176_ 178 j rfl) (fun j => hf176_ 181 j rfl) (fun j => hf176_ 182 j rfl)), (show (a0 146 2 = 0 → r176_ = 0 - 1) from by omega), (fun h1 h2 h3 => by have hb9 : BSR a0 b0 x1 (a0 146 2).toNat = y2 := (by have h2 := hsm.2.2.2.1; rw [show (a0 146 2).toNat = y6.toNat from by omega]; exact hb1.symm); have q1 := hq176_3; rw [hy1, hsm.1, hsm.2.1, BNR_fr hsm, hsm.2.2.2.2 148 (by decide)] at q1; have h9 := hsm.2.2.1; exact Or.inr ⟨hmy, Or.inr ⟨by rw [hb9]; omega, by omega, by rw [hb9]; exact q1⟩⟩), (show (((x1 < 0 ∨ a0 146 2 ≤ x1) ∨ a0 146 9 = 300) → r176_ = 0 - 1) from by omega), (fun h => absurd (by omega : False) id)⟩
  exact ⟨hc139, hc134, hc124, hc138, hc83, hc44⟩
theorem cp_X12_ask_33 (E : jxE) (d : Nat) (hd : Nat.ble 8 (d + 1) = true) (x1 : Int) (a0 b0 : Nat → Nat → Int) (hv0 : iv a0) (hp0 : WFW a0) (hp1 : OC a0) (hp2 : WISHR a0) : ∀ (y1 y2 : Int) (a : Nat → Nat → Int), iv a → jfr jW_X12_ask a0 a → 0 ≤ y1 → y1 ≤ 39 → 0 - 1 ≤ y2 → y2 ≤ 0 - 1 → a 146 9 ≤ 299 → (y1 = x1) → (0 ≤ x1 ∧ x1 < a 146 2) → a0 146 9 < 300 → (SAM7 a0 a) → (¬ vMay (a0 152 x1.toNat) (SUMN (ohF (cvR a0) (a0 146 0) x1 0) (a0 146 9).toNat) (SUMN (gvF (cvR a0) (a0 146 0) x1) (a0 146 9).toNat) (a0 171 0) (a0 171 1) = 0) → (y2 = -1) → (OC a) → 1 ≤ a0 146 2 → jt (jxX E d 251 33 [some (.inr (.inr (.inl 146))), some (.inl y1), some (.inl y2), none, none, none, none, none, none, none, none] [] (jxSH, a, b0)) (jQ_X12_ask x1 a0 b0) := by
  intro y1 y2 a hv hf hi0 hi1 hi2 hi3 hi4 hy1 hi6 hi7 hsm hmy hy2 hi11 hi12
  refine jt_eq (bq_X12_ask_33 E d y1 y2 a b0) ?_
  have h179_ := iv_get hv (k := 146) (j := 9) (l := 0) (u := 300) rfl
  have h180_ := iv_get hv (k := 146) (j := 2) (l := 0) (u := 40) rfl
  have h181_ : a 146 2 = a0 146 2 := hf 146 2 rfl
  have h182_ := iv_get hv0 (k := 146) (j := 2) (l := 0) (u := 40) rfl
  have h183_ := iv_get hv0 (k := 146) (j := 9) (l := 0) (u := 300) rfl
  exact (cp_X12_ask_44 E d hd x1 a0 b0 hv0 hp0 hp1 hp2 _).2.2.2.2.2 y1 y2 0 0 0 0 a (Nat.le_refl _) hv hf (show 0 ≤ y1 from by omega) (show y1 ≤ 39 from by omega) (show 0 - 1 ≤ y2 from by omega) (show y2 ≤ 39 from by omega) (show 0 ≤ 0 from by omega) (show 0 ≤ 2 from by omega) (show 0 ≤ 0 from by omega) (show 0 ≤ 40 from by omega) (show a 146 9 ≤ 299 from by omega) (by first | rfl | assumption) (show (0 ≤ x1 ∧ x1 < a 146 2) from by omega) (show a0 146 9 < 300 from by omega) hsm hmy (show 0 ≤ 0 from by omega) (show 0 ≤ a 146 2 from by omega) (by rw [hy2]; rfl) (fun h => absurd h (by omega)) hi11 (show 1 ≤ a0 146 2 from by omega)
theorem sp_X12_ask (E : jxE) (d : Nat) (hd : Nat.ble 8 d = true) (x1 : Int) (a0 b0 : Nat → Nat → Int) (hv0 : iv a0) (hp0 : WFW a0) (hp1 : OC a0) (hp2 : WISHR a0) : jt (jxC E d 251 [.inr (.inr (.inl 146)), .inl x1] (jxSH, a0, b0)) (jQ_X12_ask x1 a0 b0) := by
  obtain ⟨d, rfl⟩ := jd_succ hd
  refine jt_eq (bq_X12_ask E d x1 a0 b0) ?_
  refine jt_eI (eq_X12_isMember E d (jd_le hd rfl) x1 a0 b0) ?_
  have h184_ := f_X12_isMember_eq a0 b0 x1
  have h185_ := iv_get hv0 (k := 146) (j := 2) (l := 0) (u := 40) rfl
  have h186_ : jxw ((a0 146 2) - 1) = (a0 146 2) - 1 := jxw_id (by omega) (by omega)
  have h187_ := f_X12_in_eq a0 b0 x1 0 (jxw ((a0 146 2) - 1))
  refine jt_ite (fun c188_ => ?_) (fun c188_ => ?_)
  ·
    have h189_ := iv_get hv0 (k := 146) (j := 9) (l := 0) (u := 300) rfl
    exact jt_rI ⟨hv0, (jfr_rf _ _), rfl, hp1, (show (a0 146 2 = 0 → (-1) = 0 - 1) from by omega), (fun h1 h2 h3 => absurd (by omega : False) id), (show (((x1 < 0 ∨ a0 146 2 ≤ x1) ∨ a0 146 9 = 300) → (-1) = 0 - 1) from by omega), (fun _ => rfl)⟩
  ·
    have h190_ := iv_get hv0 (k := 146) (j := 9) (l := 0) (u := 300) rfl
    refine jt_ite (fun c191_ => ?_) (fun c191_ => ?_)
    ·
      exact jt_rI ⟨hv0, (jfr_rf _ _), rfl, hp1, (show (a0 146 2 = 0 → (-1) = 0 - 1) from by omega), (fun h1 h2 h3 => absurd (by omega : False) id), (show (((x1 < 0 ∨ a0 146 2 ≤ x1) ∨ a0 146 9 = 300) → (-1) = 0 - 1) from by omega), (fun _ => rfl)⟩
    ·
      refine jt_bI (sp_X12_mayAsk E d (jd_le hd rfl) x1 a0 b0 hv0 (show (0 ≤ x1 ∧ x1 ≤ 39) from by omega)) (fun r192_ a192_ b192_ h192_ => ?_)
      obtain ⟨rfl, rfl, hq192_0, hq192_1⟩ := h192_
      refine jt_ite (fun c193_ => ?_) (fun c193_ => ?_)
      ·
        exact jt_rI ⟨hv0, (jfr_rf _ _), rfl, hp1, (show (a0 146 2 = 0 → (-2) = 0 - 1) from by omega), (fun h1 h2 h3 => Or.inl ⟨by rw [← hq192_1]; omega, rfl, rfl⟩), (show (((x1 < 0 ∨ a0 146 2 ≤ x1) ∨ a0 146 9 = 300) → (-2) = 0 - 1) from by omega), (fun h => absurd (by omega : False) id)⟩
      ·
        exact cp_X12_ask_33 E d hd x1 a0 b0 hv0 hp0 hp1 hp2 x1 (-1) a0 hv0 (jfr_rf _ _) (show 0 ≤ x1 from by omega) (show x1 ≤ 39 from by omega) (show 0 - 1 ≤ (-1) from by omega) (show (-1) ≤ 0 - 1 from by omega) (show a0 146 9 ≤ 299 from by omega) (by first | rfl | assumption) (show (0 ≤ x1 ∧ x1 < a0 146 2) from by omega) (show a0 146 9 < 300 from by omega) (SAM7_rf _) (by rw [← hq192_1]; assumption) rfl hp1 (show 1 ≤ a0 146 2 from by omega)
def jW_X12_away : List (Nat × Nat) := [(181, 9999)]
abbrev jQ_X12_away (x1 : Int) (a0 b0 : Nat → Nat → Int) : List jxV → (Nat → Nat → Int) → (Nat → Nat → Int) → Prop := rI (fun r a b => (iv a) ∧ (jfr jW_X12_away a0 a) ∧ (b0 = b) ∧ ((0 ≤ r ∧ r ≤ 1)) ∧ (OC a) ∧ ((a0 146 49 = 0 → r = 0)))
theorem cp_X12_away_32 (E : jxE) (d : Nat) (hd : Nat.ble 2 (d + 1) = true) (x1 : Int) (a0 b0 : Nat → Nat → Int) (hv0 : iv a0) (hp0 : OC a0) : ∀ (a : Nat → Nat → Int), iv a → jfr jW_X12_away a0 a → 1 ≤ a0 146 49 → (OC a) → jt (jxX E d 263 32 [none, none] [] (jxSH, a, b0)) (jQ_X12_away x1 a0 b0) := by
  intro a hv hf hi0 hi1
  refine jt_eq (bq_X12_away_32 E d a b0) ?_
  have h194_ := iv_get hv0 (k := 146) (j := 49) (l := 0) (u := 20) rfl
  exact jt_rI ⟨hv, hf, rfl, (show (0 ≤ 1 ∧ 1 ≤ 1) from by omega), hi1, (show (a0 146 49 = 0 → 1 = 0) from by omega)⟩
theorem sp_X12_away (E : jxE) (d : Nat) (hd : Nat.ble 2 d = true) (x1 : Int) (a0 b0 : Nat → Nat → Int) (hv0 : iv a0) (hp0 : OC a0) : jt (jxC E d 263 [.inr (.inr (.inl 146)), .inl x1] (jxSH, a0, b0)) (jQ_X12_away x1 a0 b0) := by
  obtain ⟨d, rfl⟩ := jd_succ hd
  refine jt_eq (bq_X12_away E d x1 a0 b0) ?_
  refine jt_eI (eq_X12_in E d (jd_le hd rfl) x1 0 (jxw ((a0 146 49) - 1)) a0 b0) ?_
  have h195_ := iv_get hv0 (k := 146) (j := 49) (l := 0) (u := 20) rfl
  have h196_ : jxw ((a0 146 49) - 1) = (a0 146 49) - 1 := jxw_id (by omega) (by omega)
  have h197_ := f_X12_in_eq a0 b0 x1 0 (jxw ((a0 146 49) - 1))
  refine jt_ite (fun c198_ => ?_) (fun c198_ => ?_)
  ·
    exact jt_rI ⟨hv0, (jfr_rf _ _), rfl, (show (0 ≤ 0 ∧ 0 ≤ 1) from by omega), hp0, (show (a0 146 49 = 0 → 0 = 0) from by omega)⟩
  ·
    refine jt_grd (by omega) ?_
    have h199_ := iv_get hv0 (k := 181) (j := x1.toNat) (l := 0) (u := 2) rfl
    refine jt_ite (fun c200_ => ?_) (fun c200_ => ?_)
    ·
      refine jt_grd (by omega) ?_
      have hv201_ : iv (jxu a0 181 (x1.toNat) 2) := iv_put hv0 (l := 0) (u := 2) rfl (by omega) (by omega)
      have hf202_ : jfr jW_X12_away a0 (jxu a0 181 (x1.toNat) 2) := jfr_put (jfr_rf _ _) rfl
      have hg203_ : OC (jxu a0 181 (x1.toNat) 2) := (OC_put2 hp0 (by decide) (by omega))
      exact cp_X12_away_32 E d hd x1 a0 b0 hv0 hp0 (jxu a0 181 (x1.toNat) 2) hv201_ hf202_ (show 1 ≤ a0 146 49 from by omega) hg203_
    ·
      exact jt_rI ⟨hv0, (jfr_rf _ _), rfl, (show (0 ≤ 0 ∧ 0 ≤ 1) from by omega), hp0, (show (a0 146 49 = 0 → 0 = 0) from by omega)⟩
def jW_X12_drops : List (Nat × Nat) := [(153, 9999), (159, 9999), (181, 9999)]
abbrev jQ_X12_drops (x1 x2 : Int) (a0 b0 : Nat → Nat → Int) : List jxV → (Nat → Nat → Int) → (Nat → Nat → Int) → Prop := rI (fun r a b => (iv a) ∧ (jfr jW_X12_drops a0 a) ∧ (b0 = b) ∧ ((0 ≤ r ∧ r ≤ 1)) ∧ (OC a))
theorem cp_X12_drops_27 (E : jxE) (d : Nat) (hd : Nat.ble 4 (d + 1) = true) (x1 x2 : Int) (a0 b0 : Nat → Nat → Int) (hv0 : iv a0) (hp0 : (0 ≤ x2 ∧ x2 ≤ 19)) (hp1 : x2 < a0 146 49) (hp2 : a0 181 (x2.toNat) = 1) (hp3 : x1 = a0 182 (x2.toNat)) (hp4 : OC a0) : ∀ (a : Nat → Nat → Int), iv a → jfr jW_X12_drops a0 a → (OC a) → jt (jxX E d 277 27 [none, none, none, none] [] (jxSH, a, b0)) (jQ_X12_drops x1 x2 a0 b0) := by
  intro a hv hf hi0
  refine jt_eq (bq_X12_drops_27 E d a b0) ?_
  exact jt_rI ⟨hv, hf, rfl, (show (0 ≤ 0 ∧ 0 ≤ 1) from by omega), hi0⟩
theorem cp_X12_drops_68 (E : jxE) (d : Nat) (hd : Nat.ble 4 (d + 1) = true) (x1 x2 : Int) (a0 b0 : Nat → Nat → Int) (hv0 : iv a0) (hp0 : (0 ≤ x2 ∧ x2 ≤ 19)) (hp1 : x2 < a0 146 49) (hp2 : a0 181 (x2.toNat) = 1) (hp3 : x1 = a0 182 (x2.toNat)) (hp4 : OC a0) : ∀ (a : Nat → Nat → Int), iv a → jfr jW_X12_drops a0 a → (OC a) → jt (jxX E d 277 68 [none, none, none, none] [] (jxSH, a, b0)) (jQ_X12_drops x1 x2 a0 b0) := by
  intro a hv hf hi0
  refine jt_eq (bq_X12_drops_68 E d a b0) ?_
  exact jt_rI ⟨hv, hf, rfl, (show (0 ≤ 1 ∧ 1 ≤ 1) from by omega), hi0⟩
theorem cp_X12_drops_53 (E : jxE) (d : Nat) (hd : Nat.ble 4 (d + 1) = true) (x1 x2 : Int) (a0 b0 : Nat → Nat → Int) (hv0 : iv a0) (hp0 : (0 ≤ x2 ∧ x2 ≤ 19)) (hp1 : x2 < a0 146 49) (hp2 : a0 181 (x2.toNat) = 1) (hp3 : x1 = a0 182 (x2.toNat)) (hp4 : OC a0) : ∀ (y3 : Int) (a : Nat → Nat → Int), iv a → jfr jW_X12_drops a0 a → 0 ≤ y3 → y3 ≤ 299 → 0 ≤ y3 → (OC a) → jt (jxX E d 277 53 [some (.inr (.inr (.inl 146))), none, none, some (.inl y3)] [] (jxSH, a, b0)) (jQ_X12_drops x1 x2 a0 b0) := by
  intro y3 a hv hf hi0 hi1 hi2 hi3
  refine jt_eq (bq_X12_drops_53 E d y3 a b0) ?_
  refine jt_grd (by omega) ?_
  have h204_ := iv_get hv (k := 155) (j := y3.toNat) (l := 0) (u := 39) rfl
  have h205_ : a 155 (y3.toNat) = a0 155 (y3.toNat) := hf 155 (y3.toNat) rfl
  have h206_ := iv_get hv0 (k := 155) (j := y3.toNat) (l := 0) (u := 39) rfl
  refine jt_grd (by omega) ?_
  refine jt_grd (by omega) ?_
  have hv207_ : iv (jxu a 153 ((a 155 (y3.toNat)).toNat) (jxw ((a 153 ((a 155 (y3.toNat)).toNat)) + 1))) := iv_putf hv rfl
  have hf208_ : jfr jW_X12_drops a0 (jxu a 153 ((a 155 (y3.toNat)).toNat) (jxw ((a 153 ((a 155 (y3.toNat)).toNat)) + 1))) := jfr_put hf rfl
  have hg209_ : OC (jxu a 153 ((a 155 (y3.toNat)).toNat) (jxw ((a 153 ((a 155 (y3.toNat)).toNat)) + 1))) := (OC_fr hi3 (jfr_1 a 153 ((a 155 (y3.toNat)).toNat) (jxw ((a 153 ((a 155 (y3.toNat)).toNat)) + 1))) rfl rfl (fun _ => rfl) (fun _ => rfl) (fun _ => rfl) (fun _ => rfl) (fun _ => rfl))
  exact cp_X12_drops_68 E d hd x1 x2 a0 b0 hv0 hp0 hp1 hp2 hp3 hp4 (jxu a 153 ((a 155 (y3.toNat)).toNat) (jxw ((a 153 ((a 155 (y3.toNat)).toNat)) + 1))) hv207_ hf208_ hg209_
theorem cp_X12_drops_29 (E : jxE) (d : Nat) (hd : Nat.ble 4 (d + 1) = true) (x1 x2 : Int) (a0 b0 : Nat → Nat → Int) (hv0 : iv a0) (hp0 : (0 ≤ x2 ∧ x2 ≤ 19)) (hp1 : x2 < a0 146 49) (hp2 : a0 181 (x2.toNat) = 1) (hp3 : x1 = a0 182 (x2.toNat)) (hp4 : OC a0) : ∀ (y3 : Int) (a : Nat → Nat → Int), iv a → jfr jW_X12_drops a0 a → 0 - 1 ≤ y3 → y3 ≤ 299 → 0 ≤ y3 → (OC a) → jt (jxX E d 277 29 [some (.inr (.inr (.inl 146))), none, none, some (.inl y3)] [] (jxSH, a, b0)) (jQ_X12_drops x1 x2 a0 b0) := by
  intro y3 a hv hf hi0 hi1 hi2 hi3
  refine jt_eq (bq_X12_drops_29 E d y3 a b0) ?_
  refine jt_grd (by omega) ?_
  refine jt_grd (by omega) ?_
  have h210_ := iv_get hv (k := 155) (j := y3.toNat) (l := 0) (u := 39) rfl
  have h211_ : a 155 (y3.toNat) = a0 155 (y3.toNat) := hf 155 (y3.toNat) rfl
  have h212_ := iv_get hv0 (k := 155) (j := y3.toNat) (l := 0) (u := 39) rfl
  refine jt_grd (by omega) ?_
  have h213_ := iv_get hv (k := 152) (j := (a 155 (y3.toNat)).toNat) (l := 0) (u := 1) rfl
  have h214_ : a 152 ((a 155 (y3.toNat)).toNat) = a0 152 ((a 155 (y3.toNat)).toNat) := hf 152 ((a 155 (y3.toNat)).toNat) rfl
  have h215_ := iv_get hv0 (k := 152) (j := (a 155 (y3.toNat)).toNat) (l := 0) (u := 1) rfl
  refine jt_ite (fun c216_ => ?_) (fun c216_ => ?_)
  ·
    have hv217_ : iv (jxu a 159 (y3.toNat) (a 146 0)) := iv_putf hv rfl
    have hf218_ : jfr jW_X12_drops a0 (jxu a 159 (y3.toNat) (a 146 0)) := jfr_put hf rfl
    have hg219_ : OC (jxu a 159 (y3.toNat) (a 146 0)) := (OC_fr hi3 (jfr_1 a 159 (y3.toNat) (a 146 0)) rfl rfl (fun _ => rfl) (fun _ => rfl) (fun _ => rfl) (fun _ => rfl) (fun _ => rfl))
    exact cp_X12_drops_68 E d hd x1 x2 a0 b0 hv0 hp0 hp1 hp2 hp3 hp4 (jxu a 159 (y3.toNat) (a 146 0)) hv217_ hf218_ hg219_
  ·
    have hv220_ : iv (jxu a 159 (y3.toNat) (a 146 0)) := iv_putf hv rfl
    have hf221_ : jfr jW_X12_drops a0 (jxu a 159 (y3.toNat) (a 146 0)) := jfr_put hf rfl
    have hg222_ : OC (jxu a 159 (y3.toNat) (a 146 0)) := (OC_fr hi3 (jfr_1 a 159 (y3.toNat) (a 146 0)) rfl rfl (fun _ => rfl) (fun _ => rfl) (fun _ => rfl) (fun _ => rfl) (fun _ => rfl))
    exact cp_X12_drops_53 E d hd x1 x2 a0 b0 hv0 hp0 hp1 hp2 hp3 hp4 y3 (jxu a 159 (y3.toNat) (a 146 0)) hv220_ hf221_ (show 0 ≤ y3 from by omega) (show y3 ≤ 299 from by omega) (show 0 ≤ y3 from by omega) hg222_
theorem sp_X12_drops (E : jxE) (d : Nat) (hd : Nat.ble 4 d = true) (x1 x2 : Int) (a0 b0 : Nat → Nat → Int) (hv0 : iv a0) (hp0 : (0 ≤ x2 ∧ x2 ≤ 19)) (hp1 : x2 < a0 146 49) (hp2 : a0 181 (x2.toNat) = 1) (hp3 : x1 = a0 182 (x2.toNat)) (hp4 : OC a0) : jt (jxC E d 277 [.inr (.inr (.inl 146)), .inl x1, .inl x2] (jxSH, a0, b0)) (jQ_X12_drops x1 x2 a0 b0) := by
  obtain ⟨d, rfl⟩ := jd_succ hd
  refine jt_eq (bq_X12_drops E d x1 x2 a0 b0) ?_
  have h223_ := iv_get hv0 (k := 146) (j := 49) (l := 0) (u := 20) rfl
  have h224_ := iv_get hv0 (k := 181) (j := x2.toNat) (l := 0) (u := 2) rfl
  obtain ⟨oc, hoc1, hoc2, hoc3⟩ := hp4.1 x2.toNat (by omega) (by omega)
  refine jt_grd (by omega) ?_
  refine jt_bI (sp_X12_cardOf E d (jd_le hd rfl) x1 (a0 178 (x2.toNat)) a0 b0 hv0) (fun r225_ a225_ b225_ h225_ => ?_)
  obtain ⟨rfl, rfl, hq225_0, hq225_1, hq225_2, hq225_3⟩ := h225_
  have h226_ := iv_get hv0 (k := 146) (j := 9) (l := 0) (u := 300) rfl
  have hr225_ : 0 ≤ r225_ := hq225_3 ⟨oc, hoc1, (by omega), (by omega)⟩
  refine jt_grd (by omega) ?_
  have hv227_ : iv (jxu a0 181 (x2.toNat) 2) := iv_put hv0 (l := 0) (u := 2) rfl (by omega) (by omega)
  refine jt_bI (sp_X12_stateNow E d (jd_le hd rfl) r225_ (jxu a0 181 (x2.toNat) 2) b0 hv227_ (show (0 ≤ r225_ ∧ r225_ ≤ 299) from by omega)) (fun r228_ a228_ b228_ h228_ => ?_)
  obtain ⟨he228_, rfl, hq228_0, hq228_1, hq228_2⟩ := h228_
  have hv228_ : iv a228_ := he228_ ▸ hv227_
  have hf228_ : jfr [] (jxu a0 181 (x2.toNat) 2) a228_ := jfr_eq he228_
  have h229_ : 0 ≤ r228_ := hq228_0
  have h230_ : r228_ ≤ 4 := hq228_1
  refine jt_ite (fun c231_ => ?_) (fun c231_ => ?_)
  ·
    have hf232_ : jfr jW_X12_drops a0 (jxu a0 181 (x2.toNat) 2) := jfr_put (jfr_rf _ _) rfl
    have hf233_ : jfr jW_X12_drops a0 a228_ := jfr_tr hf232_ hf228_ rfl
    have hg234_ : OC (jxu a0 181 (x2.toNat) 2) := (OC_put2 hp4 (by decide) (by omega))
    exact cp_X12_drops_29 E d hd x1 x2 a0 b0 hv0 hp0 hp1 hp2 hp3 hp4 r225_ a228_ hv228_ hf233_ (show 0 - 1 ≤ r225_ from by omega) (show r225_ ≤ 299 from by omega) (show 0 ≤ r225_ from by omega) (OC_fr hg234_ hf228_ rfl rfl (fun _ => rfl) (fun _ => rfl) (fun _ => rfl) (fun _ => rfl) (fun _ => rfl))
  ·
    have hf235_ : jfr jW_X12_drops a0 (jxu a0 181 (x2.toNat) 2) := jfr_put (jfr_rf _ _) rfl
    have hf236_ : jfr jW_X12_drops a0 a228_ := jfr_tr hf235_ hf228_ rfl
    have hg237_ : OC (jxu a0 181 (x2.toNat) 2) := (OC_put2 hp4 (by decide) (by omega))
    exact cp_X12_drops_27 E d hd x1 x2 a0 b0 hv0 hp0 hp1 hp2 hp3 hp4 a228_ hv228_ hf236_ (OC_fr hg237_ hf228_ rfl rfl (fun _ => rfl) (fun _ => rfl) (fun _ => rfl) (fun _ => rfl) (fun _ => rfl))
def jW_X12_drop : List (Nat × Nat) := [(153, 9999), (159, 9999), (181, 9999)]
abbrev jQ_X12_drop (x1 x2 : Int) (a0 b0 : Nat → Nat → Int) : List jxV → (Nat → Nat → Int) → (Nat → Nat → Int) → Prop := rI (fun r a b => (iv a) ∧ (jfr jW_X12_drop a0 a) ∧ (b0 = b) ∧ (OC a) ∧ ((a0 146 55 = 0 → r = 0 - 1)))
theorem cp_X12_drop_31 (E : jxE) (d : Nat) (hd : Nat.ble 5 (d + 1) = true) (x1 x2 : Int) (a0 b0 : Nat → Nat → Int) (hv0 : iv a0) (hp0 : OC a0) : ∀ (y1 y3 : Int) (a : Nat → Nat → Int), iv a → jfr jW_X12_drop a0 a → 0 ≤ y1 → 0 - 1 ≤ y3 → y3 ≤ 19 → (0 ≤ y3 → (a 181 (y3.toNat) = 1 ∧ a 182 (y3.toNat) = y1)) → y3 < a 146 49 → ¬ a0 146 55 = 0 → (OC a) → jt (jxX E d 278 31 [some (.inr (.inr (.inl 146))), some (.inl y1), none, some (.inl y3)] [] (jxSH, a, b0)) (jQ_X12_drop x1 x2 a0 b0) := by
  intro y1 y3 a hv hf hi0 hi1 hi2 hi3 hi4 hi5 hi6
  refine jt_eq (bq_X12_drop_31 E d y1 y3 a b0) ?_
  have h238_ := iv_get hv (k := 181) (j := y3.toNat) (l := 0) (u := 2) rfl
  have h239_ : a 182 (y3.toNat) = a0 182 (y3.toNat) := hf 182 (y3.toNat) rfl
  have h240_ := iv_get hv (k := 146) (j := 49) (l := 0) (u := 20) rfl
  have h241_ : a 146 49 = a0 146 49 := hf 146 49 rfl
  have h242_ := iv_get hv0 (k := 146) (j := 49) (l := 0) (u := 20) rfl
  refine jt_ite (fun c243_ => ?_) (fun c243_ => ?_)
  ·
    exact jt_rI ⟨hv, hf, rfl, hi6, (show (a0 146 55 = 0 → (-1) = 0 - 1) from by omega)⟩
  ·
    refine jt_bI (sp_X12_drops E d (jd_le hd rfl) y1 y3 a b0 hv (show (0 ≤ y3 ∧ y3 ≤ 19) from by omega) (show y3 < a 146 49 from by omega) (show a 181 (y3.toNat) = 1 from by omega) (show y1 = a 182 (y3.toNat) from by omega) hi6) (fun r244_ a244_ b244_ h244_ => ?_)
    obtain ⟨hv244_, hf244_, rfl, hq244_0, hq244_1⟩ := h244_
    have hf245_ : jfr jW_X12_drop a0 a244_ := jfr_tr hf hf244_ rfl
    exact jt_rI ⟨hv244_, hf245_, rfl, hq244_1, (show (a0 146 55 = 0 → r244_ = 0 - 1) from by omega)⟩
theorem sp_X12_drop (E : jxE) (d : Nat) (hd : Nat.ble 5 d = true) (x1 x2 : Int) (a0 b0 : Nat → Nat → Int) (hv0 : iv a0) (hp0 : OC a0) : jt (jxC E d 278 [.inr (.inr (.inl 146)), .inl x1, .inl x2] (jxSH, a0, b0)) (jQ_X12_drop x1 x2 a0 b0) := by
  obtain ⟨d, rfl⟩ := jd_succ hd
  refine jt_eq (bq_X12_drop E d x1 x2 a0 b0) ?_
  refine jt_eI (eq_X12_in E d (jd_le hd rfl) x1 0 (jxw ((a0 146 55) - 1)) a0 b0) ?_
  have h246_ := jxw_im ((a0 146 55) - 1)
  have h247_ := jxw_rg ((a0 146 55) - 1)
  have h248_ := f_X12_in_eq a0 b0 x1 0 (jxw ((a0 146 55) - 1))
  refine jt_ite (fun c249_ => ?_) (fun c249_ => ?_)
  ·
    exact jt_rI ⟨hv0, (jfr_rf _ _), rfl, hp0, (show (a0 146 55 = 0 → (-1) = 0 - 1) from by omega)⟩
  ·
    refine jt_eI (eq_X12_isMember E d (jd_le hd rfl) x2 a0 b0) ?_
    have h250_ := f_X12_isMember_eq a0 b0 x2
    have h251_ := iv_get hv0 (k := 146) (j := 2) (l := 0) (u := 40) rfl
    have h252_ : jxw ((a0 146 2) - 1) = (a0 146 2) - 1 := jxw_id (by omega) (by omega)
    have h253_ := f_X12_in_eq a0 b0 x2 0 (jxw ((a0 146 2) - 1))
    refine jt_ite (fun c254_ => ?_) (fun c254_ => ?_)
    ·
      exact jt_rI ⟨hv0, (jfr_rf _ _), rfl, hp0, (show (a0 146 55 = 0 → (-1) = 0 - 1) from by omega)⟩
    ·
      refine jt_bI (sp_X12_offerIn E d (jd_le hd rfl) x1 x2 a0 b0 hv0) (fun r255_ a255_ b255_ h255_ => ?_)
      obtain ⟨rfl, rfl, hq255_0, hq255_1, hq255_2, hq255_3⟩ := h255_
      have h256_ := iv_get hv0 (k := 146) (j := 49) (l := 0) (u := 20) rfl
      have h257_ := iv_get hv0 (k := 181) (j := r255_.toNat) (l := 0) (u := 2) rfl
      exact cp_X12_drop_31 E d hd x1 x2 a0 b0 hv0 hp0 x1 r255_ a0 hv0 (jfr_rf _ _) (show 0 ≤ x1 from by omega) (show 0 - 1 ≤ r255_ from by omega) (show r255_ ≤ 19 from by omega) (show (0 ≤ r255_ → (a0 181 (r255_.toNat) = 1 ∧ a0 182 (r255_.toNat) = x1)) from by omega) (show r255_ < a0 146 49 from by omega) (show ¬ a0 146 55 = 0 from by omega) hp0
abbrev jQ_X12_leastOf (x0 : Int) (a0 b0 : Nat → Nat → Int) : List jxV → (Nat → Nat → Int) → (Nat → Nat → Int) → Prop := rI (fun r a b => (a0 = a) ∧ (b0 = b) ∧ (0 ≤ r) ∧ (r ≤ 11) ∧ (¬ jxand (jxshr x0 r) 1 = 0))
theorem cp_X12_leastOf_2 (E : jxE) (d : Nat) (hd : Nat.ble 1 (d + 1) = true) (x0 : Int) (a0 b0 : Nat → Nat → Int) (hv0 : iv a0) (hp0 : 1 ≤ x0) (hp1 : x0 ≤ 4095) : ∀ n : Nat, (∀ (y0 y1 : Int), (((11 - y1) * 1) + 0).toNat ≤ n → 1 ≤ y0 → y0 ≤ 4095 → (y0 = x0) → 0 ≤ y1 → y1 ≤ 11 → (¬ jxshr x0 y1 = 0) → jt (jxX E d 269 2 [some (.inl y0), some (.inl y1)] [] (jxSH, a0, b0)) (jQ_X12_leastOf x0 a0 b0)) := by
  refine jx_ind fun n ih => ?_
  have ih2 : ∀ (y0 y1 : Int), (((11 - y1) * 1) + 0).toNat < n → 1 ≤ y0 → y0 ≤ 4095 → (y0 = x0) → 0 ≤ y1 → y1 ≤ 11 → (¬ jxshr x0 y1 = 0) → jt (jxX E d 269 2 [some (.inl y0), some (.inl y1)] [] (jxSH, a0, b0)) (jQ_X12_leastOf x0 a0 b0) := fun y0 y1 hlt i0 i1 i2 i3 i4 i5 => (ih _ hlt) y0 y1 (Nat.le_refl _) i0 i1 i2 i3 i4 i5
  have hc2 : ∀ (y0 y1 : Int), (((11 - y1) * 1) + 0).toNat ≤ n → 1 ≤ y0 → y0 ≤ 4095 → (y0 = x0) → 0 ≤ y1 → y1 ≤ 11 → (¬ jxshr x0 y1 = 0) → jt (jxX E d 269 2 [some (.inl y0), some (.inl y1)] [] (jxSH, a0, b0)) (jQ_X12_leastOf x0 a0 b0) := by
    intro y0 y1 hm hi0 hi1 hy0 hi3 hi4 hi5
    refine jt_eq (bq_X12_leastOf_2 E d y0 y1 a0 b0) ?_
    have hls : jxand (jxshr y0 y1) 1 = 0 → y1 + 1 ≤ 11 ∧ ¬ jxshr x0 (y1 + 1) = 0 := fun h => by rw [hy0] at h; exact least_step (by omega) (by omega) (by omega) (by omega) (by assumption) h
    have h258_ := jxshr_b y0 y1
    have h259_ := jxand_r (jxshr y0 y1) 1 (by decide) (by decide)
    refine jt_ite (fun c260_ => ?_) (fun c260_ => ?_)
    ·
      have h261_ : jxw (y1 + 1) = y1 + 1 := jxw_id (by omega) (by omega)
      exact ih2 y0 (jxw (y1 + 1)) (show (((11 - (jxw (y1 + 1))) * 1) + 0).toNat < n from by omega) (show 1 ≤ y0 from by omega) (show y0 ≤ 4095 from by omega) (by first | rfl | assumption) (show 0 ≤ jxw (y1 + 1) from by omega) (show jxw (y1 + 1) ≤ 11 from by omega) (by first | exact least0 hp0 hp1 | (rw [jxw_id (by omega) (by omega)]; exact (hls (by assumption)).2))
    ·
      exact jt_rI ⟨rfl, rfl, (show 0 ≤ y1 from by omega), (show y1 ≤ 11 from by omega), (by rw [← hy0]; assumption)⟩
  exact hc2
theorem sp_X12_leastOf (E : jxE) (d : Nat) (hd : Nat.ble 1 d = true) (x0 : Int) (a0 b0 : Nat → Nat → Int) (hv0 : iv a0) (hp0 : 1 ≤ x0) (hp1 : x0 ≤ 4095) : jt (jxC E d 269 [.inl x0] (jxSH, a0, b0)) (jQ_X12_leastOf x0 a0 b0) := by
  obtain ⟨d, rfl⟩ := jd_succ hd
  refine jt_eq (bq_X12_leastOf E d x0 a0 b0) ?_
  exact (cp_X12_leastOf_2 E d hd x0 a0 b0 hv0 hp0 hp1 _) x0 0 (Nat.le_refl _) (show 1 ≤ x0 from by omega) (show x0 ≤ 4095 from by omega) (by first | rfl | assumption) (show 0 ≤ 0 from by omega) (show 0 ≤ 11 from by omega) (by first | exact least0 hp0 hp1 | (rw [jxw_id (by omega) (by omega)]; exact (hls (by assumption)).2))
def jW_X12_weighs : List (Nat × Nat) := [(146, 44), (170, 9999), (174, 9999)]
abbrev jQ_X12_weighs (a0 b0 : Nat → Nat → Int) : List jxV → (Nat → Nat → Int) → (Nat → Nat → Int) → Prop := rV (fun a b => (iv a) ∧ (jfr jW_X12_weighs a0 a) ∧ (a 146 44 ≤ a 146 42))
theorem cp_X12_weighs_64 (E : jxE) (d : Nat) (hd : Nat.ble 8 (d + 1) = true) (a0 b0 : Nat → Nat → Int) (hv0 : iv a0) (hp0 : WFW a0) (hp1 : WISHR a0) : ∀ n : Nat, (∀ (y1 y2 : Int) (a b : Nat → Nat → Int), (((((8 - y1) * 43) + 0) + ((40 - y2) * 1)) + 0).toNat ≤ n → iv a → jfr jW_X12_weighs a0 a → 0 ≤ y1 → y1 ≤ 7 → 0 ≤ y2 → y2 ≤ 39 → 1 ≤ a 146 2 → 1 ≤ a 146 44 → a 146 44 ≤ a 146 42 → jt (jxX E d 254 142 [some (.inr (.inr (.inl 146))), some (.inl y1), some (.inl y2), none] [] (jxSH, a, b)) (jQ_X12_weighs a0 b0)) ∧ (∀ (y1 y2 : Int) (a b : Nat → Nat → Int), (((((8 - y1) * 43) + 0) + ((40 - y2) * 1)) + 0).toNat ≤ n → iv a → jfr jW_X12_weighs a0 a → 0 ≤ y1 → y1 ≤ 7 → 0 ≤ y2 → y2 ≤ 40 → 1 ≤ a 146 44 → a 146 44 ≤ a 146 42 → jt (jxX E d 254 74 [some (.inr (.inr (.inl 146))), some (.inl y1), some (.inl y2), none] [] (jxSH, a, b)) (jQ_X12_weighs a0 b0)) ∧ (∀ (y1 : Int) (a b : Nat → Nat → Int), (((8 - y1) * 43) + 42).toNat ≤ n → iv a → jfr jW_X12_weighs a0 a → 0 ≤ y1 → y1 ≤ 8 → a 146 44 ≤ a 146 42 → jt (jxX E d 254 64 [some (.inr (.inr (.inl 146))), some (.inl y1), none, none] [] (jxSH, a, b)) (jQ_X12_weighs a0 b0)) := by
  refine jx_ind fun n ih => ?_
  have ih142 : ∀ (y1 y2 : Int) (a b : Nat → Nat → Int), (((((8 - y1) * 43) + 0) + ((40 - y2) * 1)) + 0).toNat < n → iv a → jfr jW_X12_weighs a0 a → 0 ≤ y1 → y1 ≤ 7 → 0 ≤ y2 → y2 ≤ 39 → 1 ≤ a 146 2 → 1 ≤ a 146 44 → a 146 44 ≤ a 146 42 → jt (jxX E d 254 142 [some (.inr (.inr (.inl 146))), some (.inl y1), some (.inl y2), none] [] (jxSH, a, b)) (jQ_X12_weighs a0 b0) := fun y1 y2 a b hlt i0 i1 i2 i3 i4 i5 i6 i7 i8 => (ih _ hlt).1 y1 y2 a b (Nat.le_refl _) i0 i1 i2 i3 i4 i5 i6 i7 i8
  have ih74 : ∀ (y1 y2 : Int) (a b : Nat → Nat → Int), (((((8 - y1) * 43) + 0) + ((40 - y2) * 1)) + 0).toNat < n → iv a → jfr jW_X12_weighs a0 a → 0 ≤ y1 → y1 ≤ 7 → 0 ≤ y2 → y2 ≤ 40 → 1 ≤ a 146 44 → a 146 44 ≤ a 146 42 → jt (jxX E d 254 74 [some (.inr (.inr (.inl 146))), some (.inl y1), some (.inl y2), none] [] (jxSH, a, b)) (jQ_X12_weighs a0 b0) := fun y1 y2 a b hlt i0 i1 i2 i3 i4 i5 i6 i7 => (ih _ hlt).2.1 y1 y2 a b (Nat.le_refl _) i0 i1 i2 i3 i4 i5 i6 i7
  have ih64 : ∀ (y1 : Int) (a b : Nat → Nat → Int), (((8 - y1) * 43) + 42).toNat < n → iv a → jfr jW_X12_weighs a0 a → 0 ≤ y1 → y1 ≤ 8 → a 146 44 ≤ a 146 42 → jt (jxX E d 254 64 [some (.inr (.inr (.inl 146))), some (.inl y1), none, none] [] (jxSH, a, b)) (jQ_X12_weighs a0 b0) := fun y1 a b hlt i0 i1 i2 i3 i4 => (ih _ hlt).2.2 y1 a b (Nat.le_refl _) i0 i1 i2 i3 i4
  have hc142 : ∀ (y1 y2 : Int) (a b : Nat → Nat → Int), (((((8 - y1) * 43) + 0) + ((40 - y2) * 1)) + 0).toNat ≤ n → iv a → jfr jW_X12_weighs a0 a → 0 ≤ y1 → y1 ≤ 7 → 0 ≤ y2 → y2 ≤ 39 → 1 ≤ a 146 2 → 1 ≤ a 146 44 → a 146 44 ≤ a 146 42 → jt (jxX E d 254 142 [some (.inr (.inr (.inl 146))), some (.inl y1), some (.inl y2), none] [] (jxSH, a, b)) (jQ_X12_weighs a0 b0) := by
    intro y1 y2 a b hm hv hf hi0 hi1 hi2 hi3 hi4 hi5 hi6
    refine jt_eq (bq_X12_weighs_142 E d y1 y2 a b) ?_
    have h262_ := iv_get hv (k := 146) (j := 2) (l := 0) (u := 40) rfl
    have h263_ : a 146 2 = a0 146 2 := hf 146 2 rfl
    have h264_ := iv_get hv0 (k := 146) (j := 2) (l := 0) (u := 40) rfl
    have h265_ := iv_get hv (k := 146) (j := 44) (l := 0) (u := 8) rfl
    have h266_ := iv_get hv (k := 146) (j := 42) (l := 0) (u := 8) rfl
    have h267_ : a 146 42 = a0 146 42 := hf 146 42 rfl
    have h268_ := iv_get hv0 (k := 146) (j := 42) (l := 0) (u := 8) rfl
    have h269_ : jxw (y2 + 1) = y2 + 1 := jxw_id (by omega) (by omega)
    exact ih74 y1 (jxw (y2 + 1)) a b (show (((((8 - y1) * 43) + 0) + ((40 - (jxw (y2 + 1))) * 1)) + 0).toNat < n from by omega) hv hf (show 0 ≤ y1 from by omega) (show y1 ≤ 7 from by omega) (show 0 ≤ jxw (y2 + 1) from by omega) (show jxw (y2 + 1) ≤ 40 from by omega) (show 1 ≤ a 146 44 from by omega) (show a 146 44 ≤ a 146 42 from by omega)
  have hc74 : ∀ (y1 y2 : Int) (a b : Nat → Nat → Int), (((((8 - y1) * 43) + 0) + ((40 - y2) * 1)) + 0).toNat ≤ n → iv a → jfr jW_X12_weighs a0 a → 0 ≤ y1 → y1 ≤ 7 → 0 ≤ y2 → y2 ≤ 40 → 1 ≤ a 146 44 → a 146 44 ≤ a 146 42 → jt (jxX E d 254 74 [some (.inr (.inr (.inl 146))), some (.inl y1), some (.inl y2), none] [] (jxSH, a, b)) (jQ_X12_weighs a0 b0) := by
    intro y1 y2 a b hm hv hf hi0 hi1 hi2 hi3 hi4 hi5
    refine jt_eq (bq_X12_weighs_74 E d y1 y2 a b) ?_
    have h270_ := iv_get hv (k := 146) (j := 44) (l := 0) (u := 8) rfl
    have h271_ := iv_get hv (k := 146) (j := 42) (l := 0) (u := 8) rfl
    have h272_ : a 146 42 = a0 146 42 := hf 146 42 rfl
    have h273_ := iv_get hv0 (k := 146) (j := 42) (l := 0) (u := 8) rfl
    have h274_ := iv_get hv (k := 146) (j := 2) (l := 0) (u := 40) rfl
    have h275_ : a 146 2 = a0 146 2 := hf 146 2 rfl
    have h276_ := iv_get hv0 (k := 146) (j := 2) (l := 0) (u := 40) rfl
    refine jt_ite (fun c277_ => ?_) (fun c277_ => ?_)
    ·
      refine jt_grd (by omega) ?_
      have h278_ := iv_get hv (k := 174) (j := y1.toNat) (l := 0) (u := 39) rfl
      refine jt_bI (sp_X12_mayGet E d (jd_le hd rfl) (a 174 (y1.toNat)) y2 a b hv (show (0 ≤ a 174 (y1.toNat) ∧ a 174 (y1.toNat) ≤ 39) from by omega) (show (0 ≤ y2 ∧ y2 ≤ 39) from by omega) (WFW_fr hp0 hf (fun _ => rfl) (fun _ => rfl)) (WISHR_fr hp1 hf (fun _ => rfl) (fun _ => rfl) (fun _ => rfl) (fun _ => rfl))) (fun r279_ a279_ b279_ h279_ => ?_)
      obtain ⟨hv279_, hf279_, rfl, hq279_0, hq279_1⟩ := h279_
      refine jt_ite (fun c280_ => ?_) (fun c280_ => ?_)
      ·
        have h281_ : jxw (40 * y1) = 40 * y1 := jxw_id (by omega) (by omega)
        have h282_ : jxw ((jxw (40 * y1)) + y2) = (jxw (40 * y1)) + y2 := jxw_id (by omega) (by omega)
        refine jt_grd (by omega) ?_
        have hf283_ : jfr jW_X12_weighs a0 a279_ := jfr_tr hf hf279_ rfl
        have h284_ := iv_get hv279_ (k := 146) (j := 2) (l := 0) (u := 40) rfl
        have h285_ : a279_ 146 2 = a 146 2 := hf279_ 146 2 rfl
        have h286_ := iv_get hv279_ (k := 146) (j := 44) (l := 0) (u := 8) rfl
        have h287_ : a279_ 146 44 = a 146 44 := hf279_ 146 44 rfl
        have h288_ := iv_get hv279_ (k := 146) (j := 42) (l := 0) (u := 8) rfl
        have h289_ : a279_ 146 42 = a 146 42 := hf279_ 146 42 rfl
        exact hc142 y1 y2 a279_ (jxu b 175 ((jxw ((jxw (40 * y1)) + y2)).toNat) (-4000000000000000000)) (show (((((8 - y1) * 43) + 0) + ((40 - y2) * 1)) + 0).toNat ≤ n from by omega) hv279_ hf283_ (show 0 ≤ y1 from by omega) (show y1 ≤ 7 from by omega) (show 0 ≤ y2 from by omega) (show y2 ≤ 39 from by omega) (show 1 ≤ a279_ 146 2 from by omega) (show 1 ≤ a279_ 146 44 from by omega) (show a279_ 146 44 ≤ a279_ 146 42 from by omega)
      ·
        refine jt_grd (by omega) ?_
        have h290_ := iv_get hv279_ (k := 174) (j := y1.toNat) (l := 0) (u := 39) rfl
        have h291_ : a279_ 174 (y1.toNat) = a 174 (y1.toNat) := hf279_ 174 (y1.toNat) rfl
        refine jt_bI (sp_X12_unhappy E d (jd_le hd rfl) (a279_ 174 (y1.toNat)) y2 a279_ b hv279_ (show (0 ≤ a279_ 174 (y1.toNat) ∧ a279_ 174 (y1.toNat) ≤ 39) from by omega) (show (0 ≤ y2 ∧ y2 ≤ 39) from by omega) (WFW_fr (WFW_fr hp0 hf (fun _ => rfl) (fun _ => rfl)) hf279_ (fun _ => rfl) (fun _ => rfl)) (WISHR_fr (WISHR_fr hp1 hf (fun _ => rfl) (fun _ => rfl) (fun _ => rfl) (fun _ => rfl)) hf279_ (fun _ => rfl) (fun _ => rfl) (fun _ => rfl) (fun _ => rfl))) (fun r292_ a292_ b292_ h292_ => ?_)
        obtain ⟨hv292_, hf292_, rfl, hq292_0, hq292_1, hq292_2⟩ := h292_
        refine jt_bI (sp_X12_owed E d (jd_le hd rfl) y2 a292_ b hv292_ (show (0 ≤ y2 ∧ y2 ≤ 39) from by omega)) (fun r293_ a293_ b293_ h293_ => ?_)
        obtain ⟨rfl, rfl, hq293_0⟩ := h293_
        have h294_ : jxw (40 * y1) = 40 * y1 := jxw_id (by omega) (by omega)
        have h295_ : jxw ((jxw (40 * y1)) + y2) = (jxw (40 * y1)) + y2 := jxw_id (by omega) (by omega)
        refine jt_grd (by omega) ?_
        have hf296_ : jfr jW_X12_weighs a0 a279_ := jfr_tr hf hf279_ rfl
        have hf297_ : jfr jW_X12_weighs a0 a292_ := jfr_tr hf296_ hf292_ rfl
        have h298_ := iv_get hv292_ (k := 146) (j := 2) (l := 0) (u := 40) rfl
        have h299_ : a292_ 146 2 = a279_ 146 2 := hf292_ 146 2 rfl
        have h300_ := iv_get hv279_ (k := 146) (j := 2) (l := 0) (u := 40) rfl
        have h301_ : a279_ 146 2 = a 146 2 := hf279_ 146 2 rfl
        have h302_ := iv_get hv292_ (k := 146) (j := 44) (l := 0) (u := 8) rfl
        have h303_ : a292_ 146 44 = a279_ 146 44 := hf292_ 146 44 rfl
        have h304_ := iv_get hv279_ (k := 146) (j := 44) (l := 0) (u := 8) rfl
        have h305_ : a279_ 146 44 = a 146 44 := hf279_ 146 44 rfl
        have h306_ := iv_get hv292_ (k := 146) (j := 42) (l := 0) (u := 8) rfl
        have h307_ : a292_ 146 42 = a279_ 146 42 := hf292_ 146 42 rfl
        have h308_ := iv_get hv279_ (k := 146) (j := 42) (l := 0) (u := 8) rfl
        have h309_ : a279_ 146 42 = a 146 42 := hf279_ 146 42 rfl
        exact hc142 y1 y2 a292_ (jxu b 175 ((jxw ((jxw (40 * y1)) + y2)).toNat) (jxwl ((jxwl (1000000000 - (jxwl (1000000 * r292_)))) + r293_))) (show (((((8 - y1) * 43) + 0) + ((40 - y2) * 1)) + 0).toNat ≤ n from by omega) hv292_ hf297_ (show 0 ≤ y1 from by omega) (show y1 ≤ 7 from by omega) (show 0 ≤ y2 from by omega) (show y2 ≤ 39 from by omega) (show 1 ≤ a292_ 146 2 from by omega) (show 1 ≤ a292_ 146 44 from by omega) (show a292_ 146 44 ≤ a292_ 146 42 from by omega)
    ·
      have h310_ : jxw (y1 + 1) = y1 + 1 := jxw_id (by omega) (by omega)
      exact ih64 (jxw (y1 + 1)) a b (show (((8 - (jxw (y1 + 1))) * 43) + 42).toNat < n from by omega) hv hf (show 0 ≤ jxw (y1 + 1) from by omega) (show jxw (y1 + 1) ≤ 8 from by omega) (show a 146 44 ≤ a 146 42 from by omega)
  have hc64 : ∀ (y1 : Int) (a b : Nat → Nat → Int), (((8 - y1) * 43) + 42).toNat ≤ n → iv a → jfr jW_X12_weighs a0 a → 0 ≤ y1 → y1 ≤ 8 → a 146 44 ≤ a 146 42 → jt (jxX E d 254 64 [some (.inr (.inr (.inl 146))), some (.inl y1), none, none] [] (jxSH, a, b)) (jQ_X12_weighs a0 b0) := by
    intro y1 a b hm hv hf hi0 hi1 hi2
    refine jt_eq (bq_X12_weighs_64 E d y1 a b) ?_
    have h311_ := iv_get hv (k := 146) (j := 44) (l := 0) (u := 8) rfl
    have h312_ := iv_get hv (k := 146) (j := 42) (l := 0) (u := 8) rfl
    have h313_ : a 146 42 = a0 146 42 := hf 146 42 rfl
    have h314_ := iv_get hv0 (k := 146) (j := 42) (l := 0) (u := 8) rfl
    refine jt_ite (fun c315_ => ?_) (fun c315_ => ?_)
    ·
      exact hc74 y1 0 a b (show (((((8 - y1) * 43) + 0) + ((40 - 0) * 1)) + 0).toNat ≤ n from by omega) hv hf (show 0 ≤ y1 from by omega) (show y1 ≤ 7 from by omega) (show 0 ≤ 0 from by omega) (show 0 ≤ 40 from by omega) (show 1 ≤ a 146 44 from by omega) (show a 146 44 ≤ a 146 42 from by omega)
    ·
      exact jt_rV ⟨hv, hf, (show a 146 44 ≤ a 146 42 from by omega)⟩
  exact ⟨hc142, hc74, hc64⟩
theorem cp_X12_weighs_7 (E : jxE) (d : Nat) (hd : Nat.ble 8 (d + 1) = true) (a0 b0 : Nat → Nat → Int) (hv0 : iv a0) (hp0 : WFW a0) (hp1 : WISHR a0) : ∀ n : Nat, (∀ (y1 : Int) (a b : Nat → Nat → Int), (((8 - y1) * 1) + 0).toNat ≤ n → iv a → jfr jW_X12_weighs a0 a → 0 ≤ y1 → y1 ≤ 7 → 1 ≤ a 146 42 → a 146 44 ≤ 7 → a 146 44 ≤ y1 → y1 < a 146 42 → a 146 44 ≤ a 146 42 → jt (jxX E d 254 46 [some (.inr (.inr (.inl 146))), some (.inl y1), none, none] [] (jxSH, a, b)) (jQ_X12_weighs a0 b0)) ∧ (∀ (y1 : Int) (a b : Nat → Nat → Int), (((8 - y1) * 1) + 0).toNat ≤ n → iv a → jfr jW_X12_weighs a0 a → 0 ≤ y1 → y1 ≤ 8 → a 146 44 ≤ y1 → a 146 44 ≤ a 146 42 → jt (jxX E d 254 7 [some (.inr (.inr (.inl 146))), some (.inl y1), none, none] [] (jxSH, a, b)) (jQ_X12_weighs a0 b0)) := by
  refine jx_ind fun n ih => ?_
  have ih46 : ∀ (y1 : Int) (a b : Nat → Nat → Int), (((8 - y1) * 1) + 0).toNat < n → iv a → jfr jW_X12_weighs a0 a → 0 ≤ y1 → y1 ≤ 7 → 1 ≤ a 146 42 → a 146 44 ≤ 7 → a 146 44 ≤ y1 → y1 < a 146 42 → a 146 44 ≤ a 146 42 → jt (jxX E d 254 46 [some (.inr (.inr (.inl 146))), some (.inl y1), none, none] [] (jxSH, a, b)) (jQ_X12_weighs a0 b0) := fun y1 a b hlt i0 i1 i2 i3 i4 i5 i6 i7 i8 => (ih _ hlt).1 y1 a b (Nat.le_refl _) i0 i1 i2 i3 i4 i5 i6 i7 i8
  have ih7 : ∀ (y1 : Int) (a b : Nat → Nat → Int), (((8 - y1) * 1) + 0).toNat < n → iv a → jfr jW_X12_weighs a0 a → 0 ≤ y1 → y1 ≤ 8 → a 146 44 ≤ y1 → a 146 44 ≤ a 146 42 → jt (jxX E d 254 7 [some (.inr (.inr (.inl 146))), some (.inl y1), none, none] [] (jxSH, a, b)) (jQ_X12_weighs a0 b0) := fun y1 a b hlt i0 i1 i2 i3 i4 i5 => (ih _ hlt).2 y1 a b (Nat.le_refl _) i0 i1 i2 i3 i4 i5
  have hc46 : ∀ (y1 : Int) (a b : Nat → Nat → Int), (((8 - y1) * 1) + 0).toNat ≤ n → iv a → jfr jW_X12_weighs a0 a → 0 ≤ y1 → y1 ≤ 7 → 1 ≤ a 146 42 → a 146 44 ≤ 7 → a 146 44 ≤ y1 → y1 < a 146 42 → a 146 44 ≤ a 146 42 → jt (jxX E d 254 46 [some (.inr (.inr (.inl 146))), some (.inl y1), none, none] [] (jxSH, a, b)) (jQ_X12_weighs a0 b0) := by
    intro y1 a b hm hv hf hi0 hi1 hi2 hi3 hi4 hi5 hi6
    refine jt_eq (bq_X12_weighs_46 E d y1 a b) ?_
    have h316_ := iv_get hv (k := 146) (j := 42) (l := 0) (u := 8) rfl
    have h317_ : a 146 42 = a0 146 42 := hf 146 42 rfl
    have h318_ := iv_get hv0 (k := 146) (j := 42) (l := 0) (u := 8) rfl
    have h319_ := iv_get hv (k := 146) (j := 44) (l := 0) (u := 8) rfl
    have h321_ : jxw ((a 146 44) + 1) = (a 146 44) + 1 := jxw_id (by omega) (by omega)
    have hv320_ : iv (jxu a 146 44 (jxw ((a 146 44) + 1))) := iv_put hv (l := 0) (u := 8) rfl (by omega) (by omega)
    have hf322_ : jfr jW_X12_weighs a0 (jxu a 146 44 (jxw ((a 146 44) + 1))) := jfr_put hf rfl
    have h323_ : jxw (y1 + 1) = y1 + 1 := jxw_id (by omega) (by omega)
    exact ih7 (jxw (y1 + 1)) (jxu a 146 44 (jxw ((a 146 44) + 1))) b (show (((8 - (jxw (y1 + 1))) * 1) + 0).toNat < n from by omega) hv320_ hf322_ (show 0 ≤ jxw (y1 + 1) from by omega) (show jxw (y1 + 1) ≤ 8 from by omega) (show jxw ((a 146 44) + 1) ≤ jxw (y1 + 1) from by omega) (show jxw ((a 146 44) + 1) ≤ a 146 42 from by omega)
  have hc7 : ∀ (y1 : Int) (a b : Nat → Nat → Int), (((8 - y1) * 1) + 0).toNat ≤ n → iv a → jfr jW_X12_weighs a0 a → 0 ≤ y1 → y1 ≤ 8 → a 146 44 ≤ y1 → a 146 44 ≤ a 146 42 → jt (jxX E d 254 7 [some (.inr (.inr (.inl 146))), some (.inl y1), none, none] [] (jxSH, a, b)) (jQ_X12_weighs a0 b0) := by
    intro y1 a b hm hv hf hi0 hi1 hi2 hi3
    refine jt_eq (bq_X12_weighs_7 E d y1 a b) ?_
    have h324_ := iv_get hv (k := 146) (j := 44) (l := 0) (u := 8) rfl
    have h325_ := iv_get hv (k := 146) (j := 42) (l := 0) (u := 8) rfl
    have h326_ : a 146 42 = a0 146 42 := hf 146 42 rfl
    have h327_ := iv_get hv0 (k := 146) (j := 42) (l := 0) (u := 8) rfl
    refine jt_ite (fun c328_ => ?_) (fun c328_ => ?_)
    ·
      refine jt_grd (by omega) ?_
      have h329_ := iv_get hv (k := 173) (j := y1.toNat) (l := 0) (u := 39) rfl
      have h330_ : a 173 (y1.toNat) = a0 173 (y1.toNat) := hf 173 (y1.toNat) rfl
      have h331_ := iv_get hv0 (k := 173) (j := y1.toNat) (l := 0) (u := 39) rfl
      refine jt_bI (sp_X12_mayAsk E d (jd_le hd rfl) (a 173 (y1.toNat)) a b hv (show (0 ≤ a 173 (y1.toNat) ∧ a 173 (y1.toNat) ≤ 39) from by omega)) (fun r332_ a332_ b332_ h332_ => ?_)
      obtain ⟨rfl, rfl, hq332_0, hq332_1⟩ := h332_
      refine jt_ite (fun c333_ => ?_) (fun c333_ => ?_)
      ·
        have h334_ : jxw (y1 + 1) = y1 + 1 := jxw_id (by omega) (by omega)
        exact ih7 (jxw (y1 + 1)) a b (show (((8 - (jxw (y1 + 1))) * 1) + 0).toNat < n from by omega) hv hf (show 0 ≤ jxw (y1 + 1) from by omega) (show jxw (y1 + 1) ≤ 8 from by omega) (show a 146 44 ≤ jxw (y1 + 1) from by omega) (show a 146 44 ≤ a 146 42 from by omega)
      ·
        refine jt_grd (by omega) ?_
        refine jt_grd (by omega) ?_
        have hv335_ : iv (jxu a 174 ((a 146 44).toNat) (a 173 (y1.toNat))) := iv_put hv (l := 0) (u := 39) rfl (by omega) (by omega)
        have hf336_ : jfr jW_X12_weighs a0 (jxu a 174 ((a 146 44).toNat) (a 173 (y1.toNat))) := jfr_put hf rfl
        exact hc46 y1 (jxu a 174 ((a 146 44).toNat) (a 173 (y1.toNat))) b (show (((8 - y1) * 1) + 0).toNat ≤ n from by omega) hv335_ hf336_ (show 0 ≤ y1 from by omega) (show y1 ≤ 7 from by omega) (show 1 ≤ a 146 42 from by omega) (show a 146 44 ≤ 7 from by omega) (show a 146 44 ≤ y1 from by omega) (show y1 < a 146 42 from by omega) (show a 146 44 ≤ a 146 42 from by omega)
    ·
      exact (cp_X12_weighs_64 E d hd a0 b0 hv0 hp0 hp1 _).2.2 0 a b (Nat.le_refl _) hv hf (show 0 ≤ 0 from by omega) (show 0 ≤ 8 from by omega) (show a 146 44 ≤ a 146 42 from by omega)
  exact ⟨hc46, hc7⟩
theorem sp_X12_weighs (E : jxE) (d : Nat) (hd : Nat.ble 8 d = true) (a0 b0 : Nat → Nat → Int) (hv0 : iv a0) (hp0 : WFW a0) (hp1 : WISHR a0) : jt (jxC E d 254 [.inr (.inr (.inl 146))] (jxSH, a0, b0)) (jQ_X12_weighs a0 b0) := by
  obtain ⟨d, rfl⟩ := jd_succ hd
  refine jt_eq (bq_X12_weighs E d a0 b0) ?_
  have hv337_ : iv (jxu a0 146 44 0) := iv_put hv0 (l := 0) (u := 8) rfl (by omega) (by omega)
  have hf338_ : jfr jW_X12_weighs a0 (jxu a0 146 44 0) := jfr_put (jfr_rf _ _) rfl
  have h339_ := iv_get hv0 (k := 146) (j := 42) (l := 0) (u := 8) rfl
  exact (cp_X12_weighs_7 E d hd a0 b0 hv0 hp0 hp1 _).2 0 (jxu a0 146 44 0) b0 (Nat.le_refl _) hv337_ hf338_ (show 0 ≤ 0 from by omega) (show 0 ≤ 8 from by omega) (show 0 ≤ 0 from by omega) (show 0 ≤ a0 146 42 from by omega)
def jW_X12_give : List (Nat × Nat) := [(146, 9), (146, 39), (146, 40), (146, 41), (146, 42), (146, 44), (154, 9999), (155, 9999), (156, 9999), (157, 9999), (158, 9999), (159, 9999), (160, 9999), (170, 9999), (174, 9999), (176, 9999)]
abbrev jQ_X12_give (a0 b0 : Nat → Nat → Int) : List jxV → (Nat → Nat → Int) → (Nat → Nat → Int) → Prop := rI (fun r a b => (iv a) ∧ (jfr jW_X12_give a0 a) ∧ (OC a) ∧ ((a0 146 42 = 0 → r = 0)))
theorem cp_X12_give_215 (E : jxE) (d : Nat) (hd : Nat.ble 9 (d + 1) = true) (a0 b0 : Nat → Nat → Int) (hv0 : iv a0) (hp0 : WFW a0) (hp1 : OC a0) (hp2 : WISHR a0) : ∀ n : Nat, (∀ (y6 y7 : Int) (a b : Nat → Nat → Int), (((8 - y7) * 1) + 0).toNat ≤ n → iv a → jfr jW_X12_give a0 a → 0 ≤ y7 → y7 ≤ 7 → a 146 42 ≤ 0 → 1 ≤ a 146 44 → ((a 146 9) + (a 146 44)) - y7 ≤ 301 → (a0 146 42 = 0 → y6 = 0) → (OC a) → (a0 146 42 = 0 → a 146 44 = 0) → jt (jxX E d 255 258 [some (.inr (.inr (.inl 146))), none, none, none, none, none, some (.inl y6), some (.inl y7)] [] (jxSH, a, b)) (jQ_X12_give a0 b0)) ∧ (∀ (y6 y7 : Int) (a b : Nat → Nat → Int), (((8 - y7) * 1) + 0).toNat ≤ n → iv a → jfr jW_X12_give a0 a → 0 ≤ y7 → y7 ≤ 8 → a 146 42 ≤ 0 → ((a 146 9) + (a 146 44)) - y7 ≤ 300 → (a0 146 42 = 0 → y6 = 0) → (OC a) → (a0 146 42 = 0 → a 146 44 = 0) → jt (jxX E d 255 215 [some (.inr (.inr (.inl 146))), none, none, none, none, none, some (.inl y6), some (.inl y7)] [] (jxSH, a, b)) (jQ_X12_give a0 b0)) := by
  refine jx_ind fun n ih => ?_
  have ih258 : ∀ (y6 y7 : Int) (a b : Nat → Nat → Int), (((8 - y7) * 1) + 0).toNat < n → iv a → jfr jW_X12_give a0 a → 0 ≤ y7 → y7 ≤ 7 → a 146 42 ≤ 0 → 1 ≤ a 146 44 → ((a 146 9) + (a 146 44)) - y7 ≤ 301 → (a0 146 42 = 0 → y6 = 0) → (OC a) → (a0 146 42 = 0 → a 146 44 = 0) → jt (jxX E d 255 258 [some (.inr (.inr (.inl 146))), none, none, none, none, none, some (.inl y6), some (.inl y7)] [] (jxSH, a, b)) (jQ_X12_give a0 b0) := fun y6 y7 a b hlt i0 i1 i2 i3 i4 i5 i6 i7 i8 i9 => (ih _ hlt).1 y6 y7 a b (Nat.le_refl _) i0 i1 i2 i3 i4 i5 i6 i7 i8 i9
  have ih215 : ∀ (y6 y7 : Int) (a b : Nat → Nat → Int), (((8 - y7) * 1) + 0).toNat < n → iv a → jfr jW_X12_give a0 a → 0 ≤ y7 → y7 ≤ 8 → a 146 42 ≤ 0 → ((a 146 9) + (a 146 44)) - y7 ≤ 300 → (a0 146 42 = 0 → y6 = 0) → (OC a) → (a0 146 42 = 0 → a 146 44 = 0) → jt (jxX E d 255 215 [some (.inr (.inr (.inl 146))), none, none, none, none, none, some (.inl y6), some (.inl y7)] [] (jxSH, a, b)) (jQ_X12_give a0 b0) := fun y6 y7 a b hlt i0 i1 i2 i3 i4 i5 i6 i7 i8 => (ih _ hlt).2 y6 y7 a b (Nat.le_refl _) i0 i1 i2 i3 i4 i5 i6 i7 i8
  have hc258 : ∀ (y6 y7 : Int) (a b : Nat → Nat → Int), (((8 - y7) * 1) + 0).toNat ≤ n → iv a → jfr jW_X12_give a0 a → 0 ≤ y7 → y7 ≤ 7 → a 146 42 ≤ 0 → 1 ≤ a 146 44 → ((a 146 9) + (a 146 44)) - y7 ≤ 301 → (a0 146 42 = 0 → y6 = 0) → (OC a) → (a0 146 42 = 0 → a 146 44 = 0) → jt (jxX E d 255 258 [some (.inr (.inr (.inl 146))), none, none, none, none, none, some (.inl y6), some (.inl y7)] [] (jxSH, a, b)) (jQ_X12_give a0 b0) := by
    intro y6 y7 a b hm hv hf hi0 hi1 hi2 hi3 hi4 hi5 hi6 hi7
    refine jt_eq (bq_X12_give_258 E d y6 y7 a b) ?_
    have h340_ := iv_get hv (k := 146) (j := 42) (l := 0) (u := 8) rfl
    have h341_ := iv_get hv (k := 146) (j := 44) (l := 0) (u := 8) rfl
    have h342_ := iv_get hv (k := 146) (j := 9) (l := 0) (u := 300) rfl
    have h343_ := iv_get hv0 (k := 146) (j := 42) (l := 0) (u := 8) rfl
    have h344_ : jxw (y7 + 1) = y7 + 1 := jxw_id (by omega) (by omega)
    have h345_ := jxw_im (y6 + 1)
    have h346_ := jxw_rg (y6 + 1)
    exact ih215 (jxw (y6 + 1)) (jxw (y7 + 1)) a b (show (((8 - (jxw (y7 + 1))) * 1) + 0).toNat < n from by omega) hv hf (show 0 ≤ jxw (y7 + 1) from by omega) (show jxw (y7 + 1) ≤ 8 from by omega) (show a 146 42 ≤ 0 from by omega) (show ((a 146 9) + (a 146 44)) - (jxw (y7 + 1)) ≤ 300 from by omega) (show (a0 146 42 = 0 → jxw (y6 + 1) = 0) from by omega) hi6 (show (a0 146 42 = 0 → a 146 44 = 0) from by omega)
  have hc215 : ∀ (y6 y7 : Int) (a b : Nat → Nat → Int), (((8 - y7) * 1) + 0).toNat ≤ n → iv a → jfr jW_X12_give a0 a → 0 ≤ y7 → y7 ≤ 8 → a 146 42 ≤ 0 → ((a 146 9) + (a 146 44)) - y7 ≤ 300 → (a0 146 42 = 0 → y6 = 0) → (OC a) → (a0 146 42 = 0 → a 146 44 = 0) → jt (jxX E d 255 215 [some (.inr (.inr (.inl 146))), none, none, none, none, none, some (.inl y6), some (.inl y7)] [] (jxSH, a, b)) (jQ_X12_give a0 b0) := by
    intro y6 y7 a b hm hv hf hi0 hi1 hi2 hi3 hi4 hi5 hi6
    refine jt_eq (bq_X12_give_215 E d y6 y7 a b) ?_
    have h347_ := iv_get hv (k := 146) (j := 42) (l := 0) (u := 8) rfl
    have h348_ := iv_get hv (k := 146) (j := 9) (l := 0) (u := 300) rfl
    have h349_ := iv_get hv (k := 146) (j := 44) (l := 0) (u := 8) rfl
    have h350_ := iv_get hv0 (k := 146) (j := 42) (l := 0) (u := 8) rfl
    refine jt_ite (fun c351_ => ?_) (fun c351_ => ?_)
    ·
      refine jt_grd (by omega) ?_
      have h352_ := iv_get hv (k := 176) (j := y7.toNat) (l := (-1)) (u := 39) rfl
      refine jt_ite (fun c353_ => ?_) (fun c353_ => ?_)
      ·
        have h354_ : jxw (y7 + 1) = y7 + 1 := jxw_id (by omega) (by omega)
        exact ih215 y6 (jxw (y7 + 1)) a b (show (((8 - (jxw (y7 + 1))) * 1) + 0).toNat < n from by omega) hv hf (show 0 ≤ jxw (y7 + 1) from by omega) (show jxw (y7 + 1) ≤ 8 from by omega) (show a 146 42 ≤ 0 from by omega) (show ((a 146 9) + (a 146 44)) - (jxw (y7 + 1)) ≤ 300 from by omega) (show (a0 146 42 = 0 → y6 = 0) from by omega) hi5 (show (a0 146 42 = 0 → a 146 44 = 0) from by omega)
      ·
        refine jt_grd (by omega) ?_
        refine jt_grd (by omega) ?_
        have h355_ := iv_get hv (k := 174) (j := y7.toNat) (l := 0) (u := 39) rfl
        refine jt_bI (sp_X12_sends E d (jd_le hd rfl) (a 174 (y7.toNat)) (a 176 (y7.toNat)) (-1) a b hv (show (0 ≤ a 174 (y7.toNat) ∧ a 174 (y7.toNat) ≤ 39) from by omega) (show (0 ≤ a 176 (y7.toNat) ∧ a 176 (y7.toNat) ≤ 39) from by omega) (show a 146 9 ≤ 299 from by omega)) (fun r356_ a356_ b356_ h356_ => ?_)
        obtain ⟨hv356_, hf356_, rfl, hq356_0, hq356_1, hq356_2, hq356_3, hq356_4⟩ := h356_
        have h357_ := iv_get hv356_ (k := 146) (j := 9) (l := 0) (u := 300) rfl
        have hf358_ : jfr jW_X12_give a0 a356_ := jfr_tr hf hf356_ rfl
        have h359_ := iv_get hv356_ (k := 146) (j := 42) (l := 0) (u := 8) rfl
        have h360_ : a356_ 146 42 = a 146 42 := hf356_ 146 42 rfl
        have h361_ := iv_get hv356_ (k := 146) (j := 44) (l := 0) (u := 8) rfl
        have h362_ : a356_ 146 44 = a 146 44 := hf356_ 146 44 rfl
        exact hc258 y6 y7 a356_ b (show (((8 - y7) * 1) + 0).toNat ≤ n from by omega) hv356_ hf358_ (show 0 ≤ y7 from by omega) (show y7 ≤ 7 from by omega) (show a356_ 146 42 ≤ 0 from by omega) (show 1 ≤ a356_ 146 44 from by omega) (show ((a356_ 146 9) + (a356_ 146 44)) - y7 ≤ 301 from by omega) (show (a0 146 42 = 0 → y6 = 0) from by omega) (OC_card hi5 hq356_0 (hf356_ 146 49 rfl) (fun c hc => hq356_2 c hc) (fun j => hf356_ 178 j rfl) (fun j => hf356_ 181 j rfl) (fun j => hf356_ 182 j rfl)) (show (a0 146 42 = 0 → a356_ 146 44 = 0) from by omega)
    ·
      exact jt_rI ⟨hv, hf, hi5, (show (a0 146 42 = 0 → y6 = 0) from by omega)⟩
  exact ⟨hc258, hc215⟩
theorem cp_X12_give_48 (E : jxE) (d : Nat) (hd : Nat.ble 9 (d + 1) = true) (a0 b0 : Nat → Nat → Int) (hv0 : iv a0) (hp0 : WFW a0) (hp1 : OC a0) (hp2 : WISHR a0) : ∀ n : Nat, (∀ (y1 y2 y4 y6 y7 : Int) (a b : Nat → Nat → Int), (((((8 - y6) * 43) + 0) + ((40 - y7) * 1)) + 0).toNat ≤ n → iv a → jfr jW_X12_give a0 a → 0 ≤ y1 → y1 ≤ 255 → 0 ≤ y6 → y6 ≤ 7 → 0 ≤ y7 → y7 ≤ 39 → 1 ≤ a 146 2 → a 146 42 ≤ 0 → 1 ≤ a 146 44 → (a 146 9) + (a 146 44) ≤ 300 → (OC a) → (a0 146 42 = 0 → a 146 44 = 0) → jt (jxX E d 255 197 [some (.inr (.inr (.inl 146))), some (.inl y1), some (.inr (.inl y2)), none, some (.inr (.inl y4)), none, some (.inl y6), some (.inl y7)] [] (jxSH, a, b)) (jQ_X12_give a0 b0)) ∧ (∀ (y1 y2 y4 y6 y7 : Int) (a b : Nat → Nat → Int), (((((8 - y6) * 43) + 0) + ((40 - y7) * 1)) + 0).toNat ≤ n → iv a → jfr jW_X12_give a0 a → 0 ≤ y1 → y1 ≤ 255 → 0 ≤ y6 → y6 ≤ 7 → 0 ≤ y7 → y7 ≤ 39 → 1 ≤ a 146 2 → a 146 42 ≤ 0 → 1 ≤ a 146 44 → (a 146 9) + (a 146 44) ≤ 300 → (OC a) → (a0 146 42 = 0 → a 146 44 = 0) → jt (jxX E d 255 160 [some (.inr (.inr (.inl 146))), some (.inl y1), some (.inr (.inl y2)), none, some (.inr (.inl y4)), none, some (.inl y6), some (.inl y7)] [] (jxSH, a, b)) (jQ_X12_give a0 b0)) ∧ (∀ (y1 y2 y4 y6 y7 : Int) (a b : Nat → Nat → Int), (((((8 - y6) * 43) + 0) + ((40 - y7) * 1)) + 0).toNat ≤ n → iv a → jfr jW_X12_give a0 a → 0 ≤ y1 → y1 ≤ 255 → 0 ≤ y6 → y6 ≤ 7 → 0 ≤ y7 → y7 ≤ 39 → 1 ≤ a 146 2 → a 146 42 ≤ 0 → 1 ≤ a 146 44 → (a 146 9) + (a 146 44) ≤ 300 → (OC a) → (a0 146 42 = 0 → a 146 44 = 0) → jt (jxX E d 255 163 [some (.inr (.inr (.inl 146))), some (.inl y1), some (.inr (.inl y2)), none, some (.inr (.inl y4)), none, some (.inl y6), some (.inl y7)] [] (jxSH, a, b)) (jQ_X12_give a0 b0)) ∧ (∀ (y1 y2 y4 y6 y7 : Int) (a b : Nat → Nat → Int), (((((8 - y6) * 43) + 0) + ((40 - y7) * 1)) + 0).toNat ≤ n → iv a → jfr jW_X12_give a0 a → 0 ≤ y1 → y1 ≤ 255 → 0 ≤ y6 → y6 ≤ 7 → 0 ≤ y7 → y7 ≤ 39 → 1 ≤ a 146 2 → a 146 42 ≤ 0 → 1 ≤ a 146 44 → (a 146 9) + (a 146 44) ≤ 300 → (OC a) → (a0 146 42 = 0 → a 146 44 = 0) → jt (jxX E d 255 106 [some (.inr (.inr (.inl 146))), some (.inl y1), some (.inr (.inl y2)), none, some (.inr (.inl y4)), none, some (.inl y6), some (.inl y7)] [] (jxSH, a, b)) (jQ_X12_give a0 b0)) ∧ (∀ (y1 y2 y4 y6 y7 : Int) (a b : Nat → Nat → Int), (((((8 - y6) * 43) + 0) + ((40 - y7) * 1)) + 0).toNat ≤ n → iv a → jfr jW_X12_give a0 a → 0 ≤ y1 → y1 ≤ 255 → 0 ≤ y6 → y6 ≤ 7 → 0 ≤ y7 → y7 ≤ 40 → a 146 42 ≤ 0 → 1 ≤ a 146 44 → (a 146 9) + (a 146 44) ≤ 300 → (OC a) → (a0 146 42 = 0 → a 146 44 = 0) → jt (jxX E d 255 75 [some (.inr (.inr (.inl 146))), some (.inl y1), some (.inr (.inl y2)), none, some (.inr (.inl y4)), none, some (.inl y6), some (.inl y7)] [] (jxSH, a, b)) (jQ_X12_give a0 b0)) ∧ (∀ (y1 y2 y4 y6 : Int) (a b : Nat → Nat → Int), (((8 - y6) * 43) + 42).toNat ≤ n → iv a → jfr jW_X12_give a0 a → 0 ≤ y1 → y1 ≤ 255 → 0 ≤ y6 → y6 ≤ 7 → a 146 42 ≤ 0 → 1 ≤ a 146 44 → (a 146 9) + (a 146 44) ≤ 300 → (OC a) → (a0 146 42 = 0 → a 146 44 = 0) → jt (jxX E d 255 72 [some (.inr (.inr (.inl 146))), some (.inl y1), some (.inr (.inl y2)), none, some (.inr (.inl y4)), none, some (.inl y6), none] [] (jxSH, a, b)) (jQ_X12_give a0 b0)) ∧ (∀ (y1 y2 y4 y6 : Int) (a b : Nat → Nat → Int), (((8 - y6) * 43) + 42).toNat ≤ n → iv a → jfr jW_X12_give a0 a → 0 ≤ y1 → y1 ≤ 255 → 0 ≤ y6 → y6 ≤ 8 → a 146 42 ≤ 0 → (a 146 9) + (a 146 44) ≤ 300 → (OC a) → (a0 146 42 = 0 → a 146 44 = 0) → jt (jxX E d 255 48 [some (.inr (.inr (.inl 146))), some (.inl y1), some (.inr (.inl y2)), none, some (.inr (.inl y4)), none, some (.inl y6), none] [] (jxSH, a, b)) (jQ_X12_give a0 b0)) := by
  refine jx_ind fun n ih => ?_
  have ih197 : ∀ (y1 y2 y4 y6 y7 : Int) (a b : Nat → Nat → Int), (((((8 - y6) * 43) + 0) + ((40 - y7) * 1)) + 0).toNat < n → iv a → jfr jW_X12_give a0 a → 0 ≤ y1 → y1 ≤ 255 → 0 ≤ y6 → y6 ≤ 7 → 0 ≤ y7 → y7 ≤ 39 → 1 ≤ a 146 2 → a 146 42 ≤ 0 → 1 ≤ a 146 44 → (a 146 9) + (a 146 44) ≤ 300 → (OC a) → (a0 146 42 = 0 → a 146 44 = 0) → jt (jxX E d 255 197 [some (.inr (.inr (.inl 146))), some (.inl y1), some (.inr (.inl y2)), none, some (.inr (.inl y4)), none, some (.inl y6), some (.inl y7)] [] (jxSH, a, b)) (jQ_X12_give a0 b0) := fun y1 y2 y4 y6 y7 a b hlt i0 i1 i2 i3 i4 i5 i6 i7 i8 i9 i10 i11 i12 i13 => (ih _ hlt).1 y1 y2 y4 y6 y7 a b (Nat.le_refl _) i0 i1 i2 i3 i4 i5 i6 i7 i8 i9 i10 i11 i12 i13
  have ih160 : ∀ (y1 y2 y4 y6 y7 : Int) (a b : Nat → Nat → Int), (((((8 - y6) * 43) + 0) + ((40 - y7) * 1)) + 0).toNat < n → iv a → jfr jW_X12_give a0 a → 0 ≤ y1 → y1 ≤ 255 → 0 ≤ y6 → y6 ≤ 7 → 0 ≤ y7 → y7 ≤ 39 → 1 ≤ a 146 2 → a 146 42 ≤ 0 → 1 ≤ a 146 44 → (a 146 9) + (a 146 44) ≤ 300 → (OC a) → (a0 146 42 = 0 → a 146 44 = 0) → jt (jxX E d 255 160 [some (.inr (.inr (.inl 146))), some (.inl y1), some (.inr (.inl y2)), none, some (.inr (.inl y4)), none, some (.inl y6), some (.inl y7)] [] (jxSH, a, b)) (jQ_X12_give a0 b0) := fun y1 y2 y4 y6 y7 a b hlt i0 i1 i2 i3 i4 i5 i6 i7 i8 i9 i10 i11 i12 i13 => (ih _ hlt).2.1 y1 y2 y4 y6 y7 a b (Nat.le_refl _) i0 i1 i2 i3 i4 i5 i6 i7 i8 i9 i10 i11 i12 i13
  have ih163 : ∀ (y1 y2 y4 y6 y7 : Int) (a b : Nat → Nat → Int), (((((8 - y6) * 43) + 0) + ((40 - y7) * 1)) + 0).toNat < n → iv a → jfr jW_X12_give a0 a → 0 ≤ y1 → y1 ≤ 255 → 0 ≤ y6 → y6 ≤ 7 → 0 ≤ y7 → y7 ≤ 39 → 1 ≤ a 146 2 → a 146 42 ≤ 0 → 1 ≤ a 146 44 → (a 146 9) + (a 146 44) ≤ 300 → (OC a) → (a0 146 42 = 0 → a 146 44 = 0) → jt (jxX E d 255 163 [some (.inr (.inr (.inl 146))), some (.inl y1), some (.inr (.inl y2)), none, some (.inr (.inl y4)), none, some (.inl y6), some (.inl y7)] [] (jxSH, a, b)) (jQ_X12_give a0 b0) := fun y1 y2 y4 y6 y7 a b hlt i0 i1 i2 i3 i4 i5 i6 i7 i8 i9 i10 i11 i12 i13 => (ih _ hlt).2.2.1 y1 y2 y4 y6 y7 a b (Nat.le_refl _) i0 i1 i2 i3 i4 i5 i6 i7 i8 i9 i10 i11 i12 i13
  have ih106 : ∀ (y1 y2 y4 y6 y7 : Int) (a b : Nat → Nat → Int), (((((8 - y6) * 43) + 0) + ((40 - y7) * 1)) + 0).toNat < n → iv a → jfr jW_X12_give a0 a → 0 ≤ y1 → y1 ≤ 255 → 0 ≤ y6 → y6 ≤ 7 → 0 ≤ y7 → y7 ≤ 39 → 1 ≤ a 146 2 → a 146 42 ≤ 0 → 1 ≤ a 146 44 → (a 146 9) + (a 146 44) ≤ 300 → (OC a) → (a0 146 42 = 0 → a 146 44 = 0) → jt (jxX E d 255 106 [some (.inr (.inr (.inl 146))), some (.inl y1), some (.inr (.inl y2)), none, some (.inr (.inl y4)), none, some (.inl y6), some (.inl y7)] [] (jxSH, a, b)) (jQ_X12_give a0 b0) := fun y1 y2 y4 y6 y7 a b hlt i0 i1 i2 i3 i4 i5 i6 i7 i8 i9 i10 i11 i12 i13 => (ih _ hlt).2.2.2.1 y1 y2 y4 y6 y7 a b (Nat.le_refl _) i0 i1 i2 i3 i4 i5 i6 i7 i8 i9 i10 i11 i12 i13
  have ih75 : ∀ (y1 y2 y4 y6 y7 : Int) (a b : Nat → Nat → Int), (((((8 - y6) * 43) + 0) + ((40 - y7) * 1)) + 0).toNat < n → iv a → jfr jW_X12_give a0 a → 0 ≤ y1 → y1 ≤ 255 → 0 ≤ y6 → y6 ≤ 7 → 0 ≤ y7 → y7 ≤ 40 → a 146 42 ≤ 0 → 1 ≤ a 146 44 → (a 146 9) + (a 146 44) ≤ 300 → (OC a) → (a0 146 42 = 0 → a 146 44 = 0) → jt (jxX E d 255 75 [some (.inr (.inr (.inl 146))), some (.inl y1), some (.inr (.inl y2)), none, some (.inr (.inl y4)), none, some (.inl y6), some (.inl y7)] [] (jxSH, a, b)) (jQ_X12_give a0 b0) := fun y1 y2 y4 y6 y7 a b hlt i0 i1 i2 i3 i4 i5 i6 i7 i8 i9 i10 i11 i12 => (ih _ hlt).2.2.2.2.1 y1 y2 y4 y6 y7 a b (Nat.le_refl _) i0 i1 i2 i3 i4 i5 i6 i7 i8 i9 i10 i11 i12
  have ih72 : ∀ (y1 y2 y4 y6 : Int) (a b : Nat → Nat → Int), (((8 - y6) * 43) + 42).toNat < n → iv a → jfr jW_X12_give a0 a → 0 ≤ y1 → y1 ≤ 255 → 0 ≤ y6 → y6 ≤ 7 → a 146 42 ≤ 0 → 1 ≤ a 146 44 → (a 146 9) + (a 146 44) ≤ 300 → (OC a) → (a0 146 42 = 0 → a 146 44 = 0) → jt (jxX E d 255 72 [some (.inr (.inr (.inl 146))), some (.inl y1), some (.inr (.inl y2)), none, some (.inr (.inl y4)), none, some (.inl y6), none] [] (jxSH, a, b)) (jQ_X12_give a0 b0) := fun y1 y2 y4 y6 a b hlt i0 i1 i2 i3 i4 i5 i6 i7 i8 i9 i10 => (ih _ hlt).2.2.2.2.2.1 y1 y2 y4 y6 a b (Nat.le_refl _) i0 i1 i2 i3 i4 i5 i6 i7 i8 i9 i10
  have ih48 : ∀ (y1 y2 y4 y6 : Int) (a b : Nat → Nat → Int), (((8 - y6) * 43) + 42).toNat < n → iv a → jfr jW_X12_give a0 a → 0 ≤ y1 → y1 ≤ 255 → 0 ≤ y6 → y6 ≤ 8 → a 146 42 ≤ 0 → (a 146 9) + (a 146 44) ≤ 300 → (OC a) → (a0 146 42 = 0 → a 146 44 = 0) → jt (jxX E d 255 48 [some (.inr (.inr (.inl 146))), some (.inl y1), some (.inr (.inl y2)), none, some (.inr (.inl y4)), none, some (.inl y6), none] [] (jxSH, a, b)) (jQ_X12_give a0 b0) := fun y1 y2 y4 y6 a b hlt i0 i1 i2 i3 i4 i5 i6 i7 i8 i9 => (ih _ hlt).2.2.2.2.2.2 y1 y2 y4 y6 a b (Nat.le_refl _) i0 i1 i2 i3 i4 i5 i6 i7 i8 i9
  have hc197 : ∀ (y1 y2 y4 y6 y7 : Int) (a b : Nat → Nat → Int), (((((8 - y6) * 43) + 0) + ((40 - y7) * 1)) + 0).toNat ≤ n → iv a → jfr jW_X12_give a0 a → 0 ≤ y1 → y1 ≤ 255 → 0 ≤ y6 → y6 ≤ 7 → 0 ≤ y7 → y7 ≤ 39 → 1 ≤ a 146 2 → a 146 42 ≤ 0 → 1 ≤ a 146 44 → (a 146 9) + (a 146 44) ≤ 300 → (OC a) → (a0 146 42 = 0 → a 146 44 = 0) → jt (jxX E d 255 197 [some (.inr (.inr (.inl 146))), some (.inl y1), some (.inr (.inl y2)), none, some (.inr (.inl y4)), none, some (.inl y6), some (.inl y7)] [] (jxSH, a, b)) (jQ_X12_give a0 b0) := by
    intro y1 y2 y4 y6 y7 a b hm hv hf hi0 hi1 hi2 hi3 hi4 hi5 hi6 hi7 hi8 hi9 hi10 hi11
    refine jt_eq (bq_X12_give_197 E d y1 y2 y4 y6 y7 a b) ?_
    have h363_ := iv_get hv (k := 146) (j := 2) (l := 0) (u := 40) rfl
    have h364_ : a 146 2 = a0 146 2 := hf 146 2 rfl
    have h365_ := iv_get hv0 (k := 146) (j := 2) (l := 0) (u := 40) rfl
    have h366_ := iv_get hv (k := 146) (j := 42) (l := 0) (u := 8) rfl
    have h367_ := iv_get hv (k := 146) (j := 44) (l := 0) (u := 8) rfl
    have h368_ := iv_get hv (k := 146) (j := 9) (l := 0) (u := 300) rfl
    have h369_ := iv_get hv0 (k := 146) (j := 42) (l := 0) (u := 8) rfl
    have h370_ : jxw (y7 + 1) = y7 + 1 := jxw_id (by omega) (by omega)
    exact ih75 y1 y2 y4 y6 (jxw (y7 + 1)) a b (show (((((8 - y6) * 43) + 0) + ((40 - (jxw (y7 + 1))) * 1)) + 0).toNat < n from by omega) hv hf (show 0 ≤ y1 from by omega) (show y1 ≤ 255 from by omega) (show 0 ≤ y6 from by omega) (show y6 ≤ 7 from by omega) (show 0 ≤ jxw (y7 + 1) from by omega) (show jxw (y7 + 1) ≤ 40 from by omega) (show a 146 42 ≤ 0 from by omega) (show 1 ≤ a 146 44 from by omega) (show (a 146 9) + (a 146 44) ≤ 300 from by omega) hi10 (show (a0 146 42 = 0 → a 146 44 = 0) from by omega)
  have hc160 : ∀ (y1 y2 y4 y6 y7 : Int) (a b : Nat → Nat → Int), (((((8 - y6) * 43) + 0) + ((40 - y7) * 1)) + 0).toNat ≤ n → iv a → jfr jW_X12_give a0 a → 0 ≤ y1 → y1 ≤ 255 → 0 ≤ y6 → y6 ≤ 7 → 0 ≤ y7 → y7 ≤ 39 → 1 ≤ a 146 2 → a 146 42 ≤ 0 → 1 ≤ a 146 44 → (a 146 9) + (a 146 44) ≤ 300 → (OC a) → (a0 146 42 = 0 → a 146 44 = 0) → jt (jxX E d 255 160 [some (.inr (.inr (.inl 146))), some (.inl y1), some (.inr (.inl y2)), none, some (.inr (.inl y4)), none, some (.inl y6), some (.inl y7)] [] (jxSH, a, b)) (jQ_X12_give a0 b0) := by
    intro y1 y2 y4 y6 y7 a b hm hv hf hi0 hi1 hi2 hi3 hi4 hi5 hi6 hi7 hi8 hi9 hi10 hi11
    refine jt_eq (bq_X12_give_160 E d y1 y2 y4 y6 y7 a b) ?_
    have h371_ := iv_get hv (k := 146) (j := 2) (l := 0) (u := 40) rfl
    have h372_ : a 146 2 = a0 146 2 := hf 146 2 rfl
    have h373_ := iv_get hv0 (k := 146) (j := 2) (l := 0) (u := 40) rfl
    have h374_ := iv_get hv (k := 146) (j := 42) (l := 0) (u := 8) rfl
    have h375_ := iv_get hv (k := 146) (j := 44) (l := 0) (u := 8) rfl
    have h376_ := iv_get hv (k := 146) (j := 9) (l := 0) (u := 300) rfl
    have h377_ := iv_get hv0 (k := 146) (j := 42) (l := 0) (u := 8) rfl
    exact hc197 y1 y2 y4 y6 y7 a b (show (((((8 - y6) * 43) + 0) + ((40 - y7) * 1)) + 0).toNat ≤ n from by omega) hv hf (show 0 ≤ y1 from by omega) (show y1 ≤ 255 from by omega) (show 0 ≤ y6 from by omega) (show y6 ≤ 7 from by omega) (show 0 ≤ y7 from by omega) (show y7 ≤ 39 from by omega) (show 1 ≤ a 146 2 from by omega) (show a 146 42 ≤ 0 from by omega) (show 1 ≤ a 146 44 from by omega) (show (a 146 9) + (a 146 44) ≤ 300 from by omega) hi10 (show (a0 146 42 = 0 → a 146 44 = 0) from by omega)
  have hc163 : ∀ (y1 y2 y4 y6 y7 : Int) (a b : Nat → Nat → Int), (((((8 - y6) * 43) + 0) + ((40 - y7) * 1)) + 0).toNat ≤ n → iv a → jfr jW_X12_give a0 a → 0 ≤ y1 → y1 ≤ 255 → 0 ≤ y6 → y6 ≤ 7 → 0 ≤ y7 → y7 ≤ 39 → 1 ≤ a 146 2 → a 146 42 ≤ 0 → 1 ≤ a 146 44 → (a 146 9) + (a 146 44) ≤ 300 → (OC a) → (a0 146 42 = 0 → a 146 44 = 0) → jt (jxX E d 255 163 [some (.inr (.inr (.inl 146))), some (.inl y1), some (.inr (.inl y2)), none, some (.inr (.inl y4)), none, some (.inl y6), some (.inl y7)] [] (jxSH, a, b)) (jQ_X12_give a0 b0) := by
    intro y1 y2 y4 y6 y7 a b hm hv hf hi0 hi1 hi2 hi3 hi4 hi5 hi6 hi7 hi8 hi9 hi10 hi11
    refine jt_eq (bq_X12_give_163 E d y1 y2 y4 y6 y7 a b) ?_
    have h378_ := iv_get hv (k := 146) (j := 2) (l := 0) (u := 40) rfl
    have h379_ : a 146 2 = a0 146 2 := hf 146 2 rfl
    have h380_ := iv_get hv0 (k := 146) (j := 2) (l := 0) (u := 40) rfl
    have h381_ := iv_get hv (k := 146) (j := 42) (l := 0) (u := 8) rfl
    have h382_ := iv_get hv (k := 146) (j := 44) (l := 0) (u := 8) rfl
    have h383_ := iv_get hv (k := 146) (j := 9) (l := 0) (u := 300) rfl
    have h384_ := iv_get hv0 (k := 146) (j := 42) (l := 0) (u := 8) rfl
    refine jt_grd (by omega) ?_
    have h385_ : jxw (40 * y6) = 40 * y6 := jxw_id (by omega) (by omega)
    have h386_ : jxw ((jxw (40 * y6)) + y7) = (jxw (40 * y6)) + y7 := jxw_id (by omega) (by omega)
    refine jt_grd (by omega) ?_
    have hv387_ : iv (jxu a 176 (y6.toNat) y7) := iv_put hv (l := (-1)) (u := 39) rfl (by omega) (by omega)
    have hf388_ : jfr jW_X12_give a0 (jxu a 176 (y6.toNat) y7) := jfr_put hf rfl
    have hg389_ : OC (jxu a 176 (y6.toNat) y7) := (OC_fr hi10 (jfr_1 a 176 (y6.toNat) y7) rfl rfl (fun _ => rfl) (fun _ => rfl) (fun _ => rfl) (fun _ => rfl) (fun _ => rfl))
    exact hc197 y1 (jxorl y2 (jxshll 1 y7)) (jxwl (y4 - (b 175 ((jxw ((jxw (40 * y6)) + y7)).toNat)))) y6 y7 (jxu a 176 (y6.toNat) y7) b (show (((((8 - y6) * 43) + 0) + ((40 - y7) * 1)) + 0).toNat ≤ n from by omega) hv387_ hf388_ (show 0 ≤ y1 from by omega) (show y1 ≤ 255 from by omega) (show 0 ≤ y6 from by omega) (show y6 ≤ 7 from by omega) (show 0 ≤ y7 from by omega) (show y7 ≤ 39 from by omega) (show 1 ≤ a 146 2 from by omega) (show a 146 42 ≤ 0 from by omega) (show 1 ≤ a 146 44 from by omega) (show (a 146 9) + (a 146 44) ≤ 300 from by omega) hg389_ (show (a0 146 42 = 0 → a 146 44 = 0) from by omega)
  have hc106 : ∀ (y1 y2 y4 y6 y7 : Int) (a b : Nat → Nat → Int), (((((8 - y6) * 43) + 0) + ((40 - y7) * 1)) + 0).toNat ≤ n → iv a → jfr jW_X12_give a0 a → 0 ≤ y1 → y1 ≤ 255 → 0 ≤ y6 → y6 ≤ 7 → 0 ≤ y7 → y7 ≤ 39 → 1 ≤ a 146 2 → a 146 42 ≤ 0 → 1 ≤ a 146 44 → (a 146 9) + (a 146 44) ≤ 300 → (OC a) → (a0 146 42 = 0 → a 146 44 = 0) → jt (jxX E d 255 106 [some (.inr (.inr (.inl 146))), some (.inl y1), some (.inr (.inl y2)), none, some (.inr (.inl y4)), none, some (.inl y6), some (.inl y7)] [] (jxSH, a, b)) (jQ_X12_give a0 b0) := by
    intro y1 y2 y4 y6 y7 a b hm hv hf hi0 hi1 hi2 hi3 hi4 hi5 hi6 hi7 hi8 hi9 hi10 hi11
    refine jt_eq (bq_X12_give_106 E d y1 y2 y4 y6 y7 a b) ?_
    have h390_ := iv_get hv (k := 146) (j := 2) (l := 0) (u := 40) rfl
    have h391_ : a 146 2 = a0 146 2 := hf 146 2 rfl
    have h392_ := iv_get hv0 (k := 146) (j := 2) (l := 0) (u := 40) rfl
    have h393_ := iv_get hv (k := 146) (j := 42) (l := 0) (u := 8) rfl
    have h394_ := iv_get hv (k := 146) (j := 44) (l := 0) (u := 8) rfl
    have h395_ := iv_get hv (k := 146) (j := 9) (l := 0) (u := 300) rfl
    have h396_ := iv_get hv0 (k := 146) (j := 42) (l := 0) (u := 8) rfl
    have h397_ : jxw (40 * y6) = 40 * y6 := jxw_id (by omega) (by omega)
    have h398_ : jxw ((jxw (40 * y6)) + y7) = (jxw (40 * y6)) + y7 := jxw_id (by omega) (by omega)
    refine jt_grd (by omega) ?_
    have h399_ := jxlcmp_b (b 175 ((jxw ((jxw (40 * y6)) + y7)).toNat)) (-4000000000000000000)
    refine jt_ite (fun c400_ => ?_) (fun c400_ => ?_)
    ·
      exact hc197 y1 y2 y4 y6 y7 a b (show (((((8 - y6) * 43) + 0) + ((40 - y7) * 1)) + 0).toNat ≤ n from by omega) hv hf (show 0 ≤ y1 from by omega) (show y1 ≤ 255 from by omega) (show 0 ≤ y6 from by omega) (show y6 ≤ 7 from by omega) (show 0 ≤ y7 from by omega) (show y7 ≤ 39 from by omega) (show 1 ≤ a 146 2 from by omega) (show a 146 42 ≤ 0 from by omega) (show 1 ≤ a 146 44 from by omega) (show (a 146 9) + (a 146 44) ≤ 300 from by omega) hi10 (show (a0 146 42 = 0 → a 146 44 = 0) from by omega)
    ·
      refine jt_grd (by omega) ?_
      refine jt_bJ (sp_X12_best E d (jd_le hd rfl) y1 (jxorl y2 (jxshll 1 y7)) a b hv (show (0 ≤ y1 ∧ y1 ≤ 255) from by omega)) (fun r401_ a401_ b401_ h401_ => ?_)
      subst h401_
      have h402_ := jxlcmp_b (jxwl ((b 175 ((jxw ((jxw (40 * y6)) + y7)).toNat)) + r401_)) y4
      refine jt_ite (fun c403_ => ?_) (fun c403_ => ?_)
      ·
        exact hc163 y1 y2 y4 y6 y7 a b401_ (show (((((8 - y6) * 43) + 0) + ((40 - y7) * 1)) + 0).toNat ≤ n from by omega) hv hf (show 0 ≤ y1 from by omega) (show y1 ≤ 255 from by omega) (show 0 ≤ y6 from by omega) (show y6 ≤ 7 from by omega) (show 0 ≤ y7 from by omega) (show y7 ≤ 39 from by omega) (show 1 ≤ a 146 2 from by omega) (show a 146 42 ≤ 0 from by omega) (show 1 ≤ a 146 44 from by omega) (show (a 146 9) + (a 146 44) ≤ 300 from by omega) hi10 (show (a0 146 42 = 0 → a 146 44 = 0) from by omega)
      ·
        exact hc160 y1 y2 y4 y6 y7 a b401_ (show (((((8 - y6) * 43) + 0) + ((40 - y7) * 1)) + 0).toNat ≤ n from by omega) hv hf (show 0 ≤ y1 from by omega) (show y1 ≤ 255 from by omega) (show 0 ≤ y6 from by omega) (show y6 ≤ 7 from by omega) (show 0 ≤ y7 from by omega) (show y7 ≤ 39 from by omega) (show 1 ≤ a 146 2 from by omega) (show a 146 42 ≤ 0 from by omega) (show 1 ≤ a 146 44 from by omega) (show (a 146 9) + (a 146 44) ≤ 300 from by omega) hi10 (show (a0 146 42 = 0 → a 146 44 = 0) from by omega)
  have hc75 : ∀ (y1 y2 y4 y6 y7 : Int) (a b : Nat → Nat → Int), (((((8 - y6) * 43) + 0) + ((40 - y7) * 1)) + 0).toNat ≤ n → iv a → jfr jW_X12_give a0 a → 0 ≤ y1 → y1 ≤ 255 → 0 ≤ y6 → y6 ≤ 7 → 0 ≤ y7 → y7 ≤ 40 → a 146 42 ≤ 0 → 1 ≤ a 146 44 → (a 146 9) + (a 146 44) ≤ 300 → (OC a) → (a0 146 42 = 0 → a 146 44 = 0) → jt (jxX E d 255 75 [some (.inr (.inr (.inl 146))), some (.inl y1), some (.inr (.inl y2)), none, some (.inr (.inl y4)), none, some (.inl y6), some (.inl y7)] [] (jxSH, a, b)) (jQ_X12_give a0 b0) := by
    intro y1 y2 y4 y6 y7 a b hm hv hf hi0 hi1 hi2 hi3 hi4 hi5 hi6 hi7 hi8 hi9 hi10
    refine jt_eq (bq_X12_give_75 E d y1 y2 y4 y6 y7 a b) ?_
    have h404_ := iv_get hv (k := 146) (j := 42) (l := 0) (u := 8) rfl
    have h405_ := iv_get hv (k := 146) (j := 44) (l := 0) (u := 8) rfl
    have h406_ := iv_get hv (k := 146) (j := 9) (l := 0) (u := 300) rfl
    have h407_ := iv_get hv0 (k := 146) (j := 42) (l := 0) (u := 8) rfl
    have h408_ := iv_get hv (k := 146) (j := 2) (l := 0) (u := 40) rfl
    have h409_ : a 146 2 = a0 146 2 := hf 146 2 rfl
    have h410_ := iv_get hv0 (k := 146) (j := 2) (l := 0) (u := 40) rfl
    refine jt_ite (fun c411_ => ?_) (fun c411_ => ?_)
    ·
      refine jt_grd (by omega) ?_
      have h412_ := iv_get hv (k := 176) (j := y6.toNat) (l := (-1)) (u := 39) rfl
      refine jt_ite (fun c413_ => ?_) (fun c413_ => ?_)
      ·
        have h414_ := jxlcmp_b (jxandl (jxshrl y2 y7) 1) 1
        refine jt_ite (fun c415_ => ?_) (fun c415_ => ?_)
        ·
          exact hc197 y1 y2 y4 y6 y7 a b (show (((((8 - y6) * 43) + 0) + ((40 - y7) * 1)) + 0).toNat ≤ n from by omega) hv hf (show 0 ≤ y1 from by omega) (show y1 ≤ 255 from by omega) (show 0 ≤ y6 from by omega) (show y6 ≤ 7 from by omega) (show 0 ≤ y7 from by omega) (show y7 ≤ 39 from by omega) (show 1 ≤ a 146 2 from by omega) (show a 146 42 ≤ 0 from by omega) (show 1 ≤ a 146 44 from by omega) (show (a 146 9) + (a 146 44) ≤ 300 from by omega) hi9 (show (a0 146 42 = 0 → a 146 44 = 0) from by omega)
        ·
          exact hc106 y1 y2 y4 y6 y7 a b (show (((((8 - y6) * 43) + 0) + ((40 - y7) * 1)) + 0).toNat ≤ n from by omega) hv hf (show 0 ≤ y1 from by omega) (show y1 ≤ 255 from by omega) (show 0 ≤ y6 from by omega) (show y6 ≤ 7 from by omega) (show 0 ≤ y7 from by omega) (show y7 ≤ 39 from by omega) (show 1 ≤ a 146 2 from by omega) (show a 146 42 ≤ 0 from by omega) (show 1 ≤ a 146 44 from by omega) (show (a 146 9) + (a 146 44) ≤ 300 from by omega) hi9 (show (a0 146 42 = 0 → a 146 44 = 0) from by omega)
      ·
        have h416_ : jxw (y6 + 1) = y6 + 1 := jxw_id (by omega) (by omega)
        exact ih48 y1 y2 y4 (jxw (y6 + 1)) a b (show (((8 - (jxw (y6 + 1))) * 43) + 42).toNat < n from by omega) hv hf (show 0 ≤ y1 from by omega) (show y1 ≤ 255 from by omega) (show 0 ≤ jxw (y6 + 1) from by omega) (show jxw (y6 + 1) ≤ 8 from by omega) (show a 146 42 ≤ 0 from by omega) (show (a 146 9) + (a 146 44) ≤ 300 from by omega) hi9 (show (a0 146 42 = 0 → a 146 44 = 0) from by omega)
    ·
      have h417_ : jxw (y6 + 1) = y6 + 1 := jxw_id (by omega) (by omega)
      exact ih48 y1 y2 y4 (jxw (y6 + 1)) a b (show (((8 - (jxw (y6 + 1))) * 43) + 42).toNat < n from by omega) hv hf (show 0 ≤ y1 from by omega) (show y1 ≤ 255 from by omega) (show 0 ≤ jxw (y6 + 1) from by omega) (show jxw (y6 + 1) ≤ 8 from by omega) (show a 146 42 ≤ 0 from by omega) (show (a 146 9) + (a 146 44) ≤ 300 from by omega) hi9 (show (a0 146 42 = 0 → a 146 44 = 0) from by omega)
  have hc72 : ∀ (y1 y2 y4 y6 : Int) (a b : Nat → Nat → Int), (((8 - y6) * 43) + 42).toNat ≤ n → iv a → jfr jW_X12_give a0 a → 0 ≤ y1 → y1 ≤ 255 → 0 ≤ y6 → y6 ≤ 7 → a 146 42 ≤ 0 → 1 ≤ a 146 44 → (a 146 9) + (a 146 44) ≤ 300 → (OC a) → (a0 146 42 = 0 → a 146 44 = 0) → jt (jxX E d 255 72 [some (.inr (.inr (.inl 146))), some (.inl y1), some (.inr (.inl y2)), none, some (.inr (.inl y4)), none, some (.inl y6), none] [] (jxSH, a, b)) (jQ_X12_give a0 b0) := by
    intro y1 y2 y4 y6 a b hm hv hf hi0 hi1 hi2 hi3 hi4 hi5 hi6 hi7 hi8
    refine jt_eq (bq_X12_give_72 E d y1 y2 y4 y6 a b) ?_
    have h418_ := iv_get hv (k := 146) (j := 42) (l := 0) (u := 8) rfl
    have h419_ := iv_get hv (k := 146) (j := 44) (l := 0) (u := 8) rfl
    have h420_ := iv_get hv (k := 146) (j := 9) (l := 0) (u := 300) rfl
    have h421_ := iv_get hv0 (k := 146) (j := 42) (l := 0) (u := 8) rfl
    exact hc75 y1 y2 y4 y6 0 a b (show (((((8 - y6) * 43) + 0) + ((40 - 0) * 1)) + 0).toNat ≤ n from by omega) hv hf (show 0 ≤ y1 from by omega) (show y1 ≤ 255 from by omega) (show 0 ≤ y6 from by omega) (show y6 ≤ 7 from by omega) (show 0 ≤ 0 from by omega) (show 0 ≤ 40 from by omega) (show a 146 42 ≤ 0 from by omega) (show 1 ≤ a 146 44 from by omega) (show (a 146 9) + (a 146 44) ≤ 300 from by omega) hi7 (show (a0 146 42 = 0 → a 146 44 = 0) from by omega)
  have hc48 : ∀ (y1 y2 y4 y6 : Int) (a b : Nat → Nat → Int), (((8 - y6) * 43) + 42).toNat ≤ n → iv a → jfr jW_X12_give a0 a → 0 ≤ y1 → y1 ≤ 255 → 0 ≤ y6 → y6 ≤ 8 → a 146 42 ≤ 0 → (a 146 9) + (a 146 44) ≤ 300 → (OC a) → (a0 146 42 = 0 → a 146 44 = 0) → jt (jxX E d 255 48 [some (.inr (.inr (.inl 146))), some (.inl y1), some (.inr (.inl y2)), none, some (.inr (.inl y4)), none, some (.inl y6), none] [] (jxSH, a, b)) (jQ_X12_give a0 b0) := by
    intro y1 y2 y4 y6 a b hm hv hf hi0 hi1 hi2 hi3 hi4 hi5 hi6 hi7
    refine jt_eq (bq_X12_give_48 E d y1 y2 y4 y6 a b) ?_
    have h422_ := iv_get hv (k := 146) (j := 42) (l := 0) (u := 8) rfl
    have h423_ := iv_get hv (k := 146) (j := 9) (l := 0) (u := 300) rfl
    have h424_ := iv_get hv (k := 146) (j := 44) (l := 0) (u := 8) rfl
    have h425_ := iv_get hv0 (k := 146) (j := 42) (l := 0) (u := 8) rfl
    refine jt_ite (fun c426_ => ?_) (fun c426_ => ?_)
    ·
      refine jt_grd (by omega) ?_
      have hv427_ : iv (jxu a 176 (y6.toNat) (-1)) := iv_put hv (l := (-1)) (u := 39) rfl (by omega) (by omega)
      have hf428_ : jfr jW_X12_give a0 (jxu a 176 (y6.toNat) (-1)) := jfr_put hf rfl
      have h429_ := jxshl1_b y6
      have h430_ := jxxor_b y1 (jxshl 1 y6)
      have hg431_ : OC (jxu a 176 (y6.toNat) (-1)) := (OC_fr hi6 (jfr_1 a 176 (y6.toNat) (-1)) rfl rfl (fun _ => rfl) (fun _ => rfl) (fun _ => rfl) (fun _ => rfl) (fun _ => rfl))
      exact hc72 (jxxor y1 (jxshl 1 y6)) y2 y4 y6 (jxu a 176 (y6.toNat) (-1)) b (show (((8 - y6) * 43) + 42).toNat ≤ n from by omega) hv427_ hf428_ (show 0 ≤ jxxor y1 (jxshl 1 y6) from by omega) (show jxxor y1 (jxshl 1 y6) ≤ 255 from by omega) (show 0 ≤ y6 from by omega) (show y6 ≤ 7 from by omega) (show a 146 42 ≤ 0 from by omega) (show 1 ≤ a 146 44 from by omega) (show (a 146 9) + (a 146 44) ≤ 300 from by omega) hg431_ (show (a0 146 42 = 0 → a 146 44 = 0) from by omega)
    ·
      exact (cp_X12_give_215 E d hd a0 b0 hv0 hp0 hp1 hp2 _).2 0 0 a b (Nat.le_refl _) hv hf (show 0 ≤ 0 from by omega) (show 0 ≤ 8 from by omega) (show a 146 42 ≤ 0 from by omega) (show ((a 146 9) + (a 146 44)) - 0 ≤ 300 from by omega) (show (a0 146 42 = 0 → 0 = 0) from by omega) hi6 (show (a0 146 42 = 0 → a 146 44 = 0) from by omega)
  exact ⟨hc197, hc160, hc163, hc106, hc75, hc72, hc48⟩
theorem cp_X12_give_35 (E : jxE) (d : Nat) (hd : Nat.ble 9 (d + 1) = true) (a0 b0 : Nat → Nat → Int) (hv0 : iv a0) (hp0 : WFW a0) (hp1 : OC a0) (hp2 : WISHR a0) : ∀ (y1 : Int) (a b : Nat → Nat → Int), iv a → jfr jW_X12_give a0 a → 0 ≤ y1 → y1 ≤ 255 → a 146 42 ≤ 0 → (a 146 9) + (a 146 44) ≤ 300 → (OC a) → (a0 146 42 = 0 → a 146 44 = 0) → jt (jxX E d 255 35 [some (.inr (.inr (.inl 146))), some (.inl y1), none, none, none, none, none, none] [] (jxSH, a, b)) (jQ_X12_give a0 b0) := by
  intro y1 a b hv hf hi0 hi1 hi2 hi3 hi4 hi5
  refine jt_eq (bq_X12_give_35 E d y1 a b) ?_
  have h432_ := iv_get hv (k := 146) (j := 42) (l := 0) (u := 8) rfl
  have h433_ := iv_get hv (k := 146) (j := 9) (l := 0) (u := 300) rfl
  have h434_ := iv_get hv (k := 146) (j := 44) (l := 0) (u := 8) rfl
  have h435_ := iv_get hv0 (k := 146) (j := 42) (l := 0) (u := 8) rfl
  refine jt_bJ (sp_X12_best E d (jd_le hd rfl) y1 0 a b hv (show (0 ≤ y1 ∧ y1 ≤ 255) from by omega)) (fun r436_ a436_ b436_ h436_ => ?_)
  subst h436_
  exact (cp_X12_give_48 E d hd a0 b0 hv0 hp0 hp1 hp2 _).2.2.2.2.2.2 y1 0 r436_ 0 a b436_ (Nat.le_refl _) hv hf (show 0 ≤ y1 from by omega) (show y1 ≤ 255 from by omega) (show 0 ≤ 0 from by omega) (show 0 ≤ 8 from by omega) (show a 146 42 ≤ 0 from by omega) (show (a 146 9) + (a 146 44) ≤ 300 from by omega) hi4 (show (a0 146 42 = 0 → a 146 44 = 0) from by omega)
theorem sp_X12_give (E : jxE) (d : Nat) (hd : Nat.ble 9 d = true) (a0 b0 : Nat → Nat → Int) (hv0 : iv a0) (hp0 : WFW a0) (hp1 : OC a0) (hp2 : WISHR a0) : jt (jxC E d 255 [.inr (.inr (.inl 146))] (jxSH, a0, b0)) (jQ_X12_give a0 b0) := by
  obtain ⟨d, rfl⟩ := jd_succ hd
  refine jt_eq (bq_X12_give E d a0 b0) ?_
  have h437_ := iv_get hv0 (k := 146) (j := 9) (l := 0) (u := 300) rfl
  have h438_ := iv_get hv0 (k := 146) (j := 42) (l := 0) (u := 8) rfl
  have h439_ : jxw ((a0 146 9) + (a0 146 42)) = (a0 146 9) + (a0 146 42) := jxw_id (by omega) (by omega)
  refine jt_ite (fun c440_ => ?_) (fun c440_ => ?_)
  ·
    exact jt_rI ⟨hv0, (jfr_rf _ _), hp1, (show (a0 146 42 = 0 → (-1) = 0) from by omega)⟩
  ·
    refine jt_bV (sp_X12_weighs E d (jd_le hd rfl) a0 b0 hv0 hp0 hp2) (fun a441_ b441_ h441_ => ?_)
    obtain ⟨hv441_, hf441_, hq441_0⟩ := h441_
    have h442_ := iv_get hv441_ (k := 146) (j := 44) (l := 0) (u := 8) rfl
    have h443_ := iv_get hv441_ (k := 146) (j := 42) (l := 0) (u := 8) rfl
    have h444_ : a441_ 146 42 = a0 146 42 := hf441_ 146 42 rfl
    have hv445_ : iv (jxu a441_ 146 42 0) := iv_put hv441_ (l := 0) (u := 8) rfl (by omega) (by omega)
    have hf446_ : jfr jW_X12_give a0 a441_ := jfr_tr (jfr_rf _ _) hf441_ rfl
    have hf447_ : jfr jW_X12_give a0 (jxu a441_ 146 42 0) := jfr_put hf446_ rfl
    have h448_ := jxshl1_b (a441_ 146 44)
    have h449_ : jxw ((jxshl 1 (a441_ 146 44)) - 1) = (jxshl 1 (a441_ 146 44)) - 1 := jxw_id (by omega) (by omega)
    have h450_ := iv_get hv441_ (k := 146) (j := 9) (l := 0) (u := 300) rfl
    have h451_ : a441_ 146 9 = a0 146 9 := hf441_ 146 9 rfl
    have hg452_ : OC (jxu a441_ 146 42 0) := (OC_fr (OC_fr hp1 hf441_ rfl rfl (fun _ => rfl) (fun _ => rfl) (fun _ => rfl) (fun _ => rfl) (fun _ => rfl)) (jfr_1s a441_ 146 42 0) rfl rfl (fun _ => rfl) (fun _ => rfl) (fun _ => rfl) (fun _ => rfl) (fun _ => rfl))
    exact cp_X12_give_35 E d hd a0 b0 hv0 hp0 hp1 hp2 (jxw ((jxshl 1 (a441_ 146 44)) - 1)) (jxu a441_ 146 42 0) b441_ hv445_ hf447_ (show 0 ≤ jxw ((jxshl 1 (a441_ 146 44)) - 1) from by omega) (show jxw ((jxshl 1 (a441_ 146 44)) - 1) ≤ 255 from by omega) (show 0 ≤ 0 from by omega) (show (a441_ 146 9) + (a441_ 146 44) ≤ 300 from by omega) hg452_ (show (a0 146 42 = 0 → a441_ 146 44 = 0) from by omega)
def jW_X12_leave : List (Nat × Nat) := [(152, 9999), (153, 9999), (159, 9999), (181, 9999)]
abbrev jQ_X12_leave (x1 : Int) (a0 b0 : Nat → Nat → Int) : List jxV → (Nat → Nat → Int) → (Nat → Nat → Int) → Prop := rI (fun r a b => (iv a) ∧ (jfr jW_X12_leave a0 a) ∧ (b0 = b) ∧ (OC a) ∧ ((a0 146 2 = 0 → r = 0 - 1)) ∧ (0 ≤ x1 ∧ x1 < a0 146 2 ∧ ¬ a0 152 x1.toNat = 0 → UP (a0 152) (a 152) x1.toNat 0) ∧ (x1 < 0 ∨ a0 146 2 ≤ x1 ∨ a0 152 x1.toNat = 0 → ∀ j, a 152 j = a0 152 j))
theorem cp_X12_leave_95 (E : jxE) (d : Nat) (hd : Nat.ble 5 (d + 1) = true) (x1 : Int) (a0 b0 : Nat → Nat → Int) (hv0 : iv a0) (hp0 : OC a0) : ∀ n : Nat, (∀ (y1 y2 y3 : Int) (a : Nat → Nat → Int), (((20 - y3) * 1) + 0).toNat ≤ n → iv a → jfr jW_X12_leave a0 a → 0 ≤ y1 → y1 ≤ 39 → 0 ≤ y3 → y3 ≤ 19 → 1 ≤ a 146 49 → y3 < a 146 49 → (UP (a0 152) (a 152) x1.toNat 0) → (OC a) → 1 ≤ a0 146 2 → ((0 ≤ x1 ∧ x1 < a0 146 2) ∧ ¬ a0 152 (x1.toNat) = 0) → jt (jxX E d 279 140 [some (.inr (.inr (.inl 146))), some (.inl y1), some (.inl y2), some (.inl y3)] [] (jxSH, a, b0)) (jQ_X12_leave x1 a0 b0)) ∧ (∀ (y1 y2 y3 : Int) (a : Nat → Nat → Int), (((20 - y3) * 1) + 0).toNat ≤ n → iv a → jfr jW_X12_leave a0 a → 0 ≤ y1 → y1 ≤ 39 → 0 ≤ y3 → y3 ≤ 19 → 1 ≤ a 146 49 → a 181 (y3.toNat) = 1 → y3 < a 146 49 → (UP (a0 152) (a 152) x1.toNat 0) → (OC a) → 1 ≤ a0 146 2 → ((0 ≤ x1 ∧ x1 < a0 146 2) ∧ ¬ a0 152 (x1.toNat) = 0) → jt (jxX E d 279 126 [some (.inr (.inr (.inl 146))), some (.inl y1), some (.inl y2), some (.inl y3)] [] (jxSH, a, b0)) (jQ_X12_leave x1 a0 b0)) ∧ (∀ (y1 y2 y3 : Int) (a : Nat → Nat → Int), (((20 - y3) * 1) + 0).toNat ≤ n → iv a → jfr jW_X12_leave a0 a → 0 ≤ y1 → y1 ≤ 39 → 0 ≤ y3 → y3 ≤ 20 → (UP (a0 152) (a 152) x1.toNat 0) → (OC a) → 1 ≤ a0 146 2 → ((0 ≤ x1 ∧ x1 < a0 146 2) ∧ ¬ a0 152 (x1.toNat) = 0) → jt (jxX E d 279 95 [some (.inr (.inr (.inl 146))), some (.inl y1), some (.inl y2), some (.inl y3)] [] (jxSH, a, b0)) (jQ_X12_leave x1 a0 b0)) := by
  refine jx_ind fun n ih => ?_
  have ih140 : ∀ (y1 y2 y3 : Int) (a : Nat → Nat → Int), (((20 - y3) * 1) + 0).toNat < n → iv a → jfr jW_X12_leave a0 a → 0 ≤ y1 → y1 ≤ 39 → 0 ≤ y3 → y3 ≤ 19 → 1 ≤ a 146 49 → y3 < a 146 49 → (UP (a0 152) (a 152) x1.toNat 0) → (OC a) → 1 ≤ a0 146 2 → ((0 ≤ x1 ∧ x1 < a0 146 2) ∧ ¬ a0 152 (x1.toNat) = 0) → jt (jxX E d 279 140 [some (.inr (.inr (.inl 146))), some (.inl y1), some (.inl y2), some (.inl y3)] [] (jxSH, a, b0)) (jQ_X12_leave x1 a0 b0) := fun y1 y2 y3 a hlt i0 i1 i2 i3 i4 i5 i6 i7 i8 i9 i10 i11 => (ih _ hlt).1 y1 y2 y3 a (Nat.le_refl _) i0 i1 i2 i3 i4 i5 i6 i7 i8 i9 i10 i11
  have ih126 : ∀ (y1 y2 y3 : Int) (a : Nat → Nat → Int), (((20 - y3) * 1) + 0).toNat < n → iv a → jfr jW_X12_leave a0 a → 0 ≤ y1 → y1 ≤ 39 → 0 ≤ y3 → y3 ≤ 19 → 1 ≤ a 146 49 → a 181 (y3.toNat) = 1 → y3 < a 146 49 → (UP (a0 152) (a 152) x1.toNat 0) → (OC a) → 1 ≤ a0 146 2 → ((0 ≤ x1 ∧ x1 < a0 146 2) ∧ ¬ a0 152 (x1.toNat) = 0) → jt (jxX E d 279 126 [some (.inr (.inr (.inl 146))), some (.inl y1), some (.inl y2), some (.inl y3)] [] (jxSH, a, b0)) (jQ_X12_leave x1 a0 b0) := fun y1 y2 y3 a hlt i0 i1 i2 i3 i4 i5 i6 i7 i8 i9 i10 i11 i12 => (ih _ hlt).2.1 y1 y2 y3 a (Nat.le_refl _) i0 i1 i2 i3 i4 i5 i6 i7 i8 i9 i10 i11 i12
  have ih95 : ∀ (y1 y2 y3 : Int) (a : Nat → Nat → Int), (((20 - y3) * 1) + 0).toNat < n → iv a → jfr jW_X12_leave a0 a → 0 ≤ y1 → y1 ≤ 39 → 0 ≤ y3 → y3 ≤ 20 → (UP (a0 152) (a 152) x1.toNat 0) → (OC a) → 1 ≤ a0 146 2 → ((0 ≤ x1 ∧ x1 < a0 146 2) ∧ ¬ a0 152 (x1.toNat) = 0) → jt (jxX E d 279 95 [some (.inr (.inr (.inl 146))), some (.inl y1), some (.inl y2), some (.inl y3)] [] (jxSH, a, b0)) (jQ_X12_leave x1 a0 b0) := fun y1 y2 y3 a hlt i0 i1 i2 i3 i4 i5 i6 i7 i8 i9 => (ih _ hlt).2.2 y1 y2 y3 a (Nat.le_refl _) i0 i1 i2 i3 i4 i5 i6 i7 i8 i9
  have hc140 : ∀ (y1 y2 y3 : Int) (a : Nat → Nat → Int), (((20 - y3) * 1) + 0).toNat ≤ n → iv a → jfr jW_X12_leave a0 a → 0 ≤ y1 → y1 ≤ 39 → 0 ≤ y3 → y3 ≤ 19 → 1 ≤ a 146 49 → y3 < a 146 49 → (UP (a0 152) (a 152) x1.toNat 0) → (OC a) → 1 ≤ a0 146 2 → ((0 ≤ x1 ∧ x1 < a0 146 2) ∧ ¬ a0 152 (x1.toNat) = 0) → jt (jxX E d 279 140 [some (.inr (.inr (.inl 146))), some (.inl y1), some (.inl y2), some (.inl y3)] [] (jxSH, a, b0)) (jQ_X12_leave x1 a0 b0) := by
    intro y1 y2 y3 a hm hv hf hi0 hi1 hi2 hi3 hi4 hi5 hu152 hi7 hi8 hi9
    refine jt_eq (bq_X12_leave_140 E d y1 y2 y3 a b0) ?_
    have h453_ := iv_get hv (k := 146) (j := 49) (l := 0) (u := 20) rfl
    have h454_ : a 146 49 = a0 146 49 := hf 146 49 rfl
    have h455_ := iv_get hv0 (k := 146) (j := 49) (l := 0) (u := 20) rfl
    have h456_ := iv_get hv0 (k := 146) (j := 2) (l := 0) (u := 40) rfl
    have h457_ := iv_get hv0 (k := 152) (j := x1.toNat) (l := 0) (u := 1) rfl
    refine jt_grd (by omega) ?_
    have hv458_ : iv (jxu a 181 (y3.toNat) 2) := iv_put hv (l := 0) (u := 2) rfl (by omega) (by omega)
    have hf459_ : jfr jW_X12_leave a0 (jxu a 181 (y3.toNat) 2) := jfr_put hf rfl
    have h460_ : jxw (y3 + 1) = y3 + 1 := jxw_id (by omega) (by omega)
    have hg461_ : OC (jxu a 181 (y3.toNat) 2) := (OC_put2 hi7 (by decide) (by omega))
    exact ih95 y1 y2 (jxw (y3 + 1)) (jxu a 181 (y3.toNat) 2) (show (((20 - (jxw (y3 + 1))) * 1) + 0).toNat < n from by omega) hv458_ hf459_ (show 0 ≤ y1 from by omega) (show y1 ≤ 39 from by omega) (show 0 ≤ jxw (y3 + 1) from by omega) (show jxw (y3 + 1) ≤ 20 from by omega) (UP_cr hu152 (fun j => rfl)) hg461_ (show 1 ≤ a0 146 2 from by omega) (show ((0 ≤ x1 ∧ x1 < a0 146 2) ∧ ¬ a0 152 (x1.toNat) = 0) from by omega)
  have hc126 : ∀ (y1 y2 y3 : Int) (a : Nat → Nat → Int), (((20 - y3) * 1) + 0).toNat ≤ n → iv a → jfr jW_X12_leave a0 a → 0 ≤ y1 → y1 ≤ 39 → 0 ≤ y3 → y3 ≤ 19 → 1 ≤ a 146 49 → a 181 (y3.toNat) = 1 → y3 < a 146 49 → (UP (a0 152) (a 152) x1.toNat 0) → (OC a) → 1 ≤ a0 146 2 → ((0 ≤ x1 ∧ x1 < a0 146 2) ∧ ¬ a0 152 (x1.toNat) = 0) → jt (jxX E d 279 126 [some (.inr (.inr (.inl 146))), some (.inl y1), some (.inl y2), some (.inl y3)] [] (jxSH, a, b0)) (jQ_X12_leave x1 a0 b0) := by
    intro y1 y2 y3 a hm hv hf hi0 hi1 hi2 hi3 hi4 hi5 hi6 hu152 hi8 hi9 hi10
    refine jt_eq (bq_X12_leave_126 E d y1 y2 y3 a b0) ?_
    have h462_ := iv_get hv (k := 146) (j := 49) (l := 0) (u := 20) rfl
    have h463_ : a 146 49 = a0 146 49 := hf 146 49 rfl
    have h464_ := iv_get hv0 (k := 146) (j := 49) (l := 0) (u := 20) rfl
    have h465_ := iv_get hv (k := 181) (j := y3.toNat) (l := 0) (u := 2) rfl
    have h466_ := iv_get hv0 (k := 146) (j := 2) (l := 0) (u := 40) rfl
    have h467_ := iv_get hv0 (k := 152) (j := x1.toNat) (l := 0) (u := 1) rfl
    refine jt_grd (by omega) ?_
    have h468_ : a 182 (y3.toNat) = a0 182 (y3.toNat) := hf 182 (y3.toNat) rfl
    refine jt_bI (sp_X12_drops E d (jd_le hd rfl) (a 182 (y3.toNat)) y3 a b0 hv (show (0 ≤ y3 ∧ y3 ≤ 19) from by omega) (show y3 < a 146 49 from by omega) (show a 181 (y3.toNat) = 1 from by omega) (show a 182 (y3.toNat) = a 182 (y3.toNat) from by omega) hi8) (fun r469_ a469_ b469_ h469_ => ?_)
    obtain ⟨hv469_, hf469_, rfl, hq469_0, hq469_1⟩ := h469_
    have hf470_ : jfr jW_X12_leave a0 a469_ := jfr_tr hf hf469_ rfl
    have h471_ := iv_get hv469_ (k := 146) (j := 49) (l := 0) (u := 20) rfl
    have h472_ : a469_ 146 49 = a 146 49 := hf469_ 146 49 rfl
    exact hc140 y1 (jxw (y2 + r469_)) y3 a469_ (show (((20 - y3) * 1) + 0).toNat ≤ n from by omega) hv469_ hf470_ (show 0 ≤ y1 from by omega) (show y1 ≤ 39 from by omega) (show 0 ≤ y3 from by omega) (show y3 ≤ 19 from by omega) (show 1 ≤ a469_ 146 49 from by omega) (show y3 < a469_ 146 49 from by omega) (UP_cr hu152 (fun j => (hf469_ 152 j rfl))) hq469_1 (show 1 ≤ a0 146 2 from by omega) (show ((0 ≤ x1 ∧ x1 < a0 146 2) ∧ ¬ a0 152 (x1.toNat) = 0) from by omega)
  have hc95 : ∀ (y1 y2 y3 : Int) (a : Nat → Nat → Int), (((20 - y3) * 1) + 0).toNat ≤ n → iv a → jfr jW_X12_leave a0 a → 0 ≤ y1 → y1 ≤ 39 → 0 ≤ y3 → y3 ≤ 20 → (UP (a0 152) (a 152) x1.toNat 0) → (OC a) → 1 ≤ a0 146 2 → ((0 ≤ x1 ∧ x1 < a0 146 2) ∧ ¬ a0 152 (x1.toNat) = 0) → jt (jxX E d 279 95 [some (.inr (.inr (.inl 146))), some (.inl y1), some (.inl y2), some (.inl y3)] [] (jxSH, a, b0)) (jQ_X12_leave x1 a0 b0) := by
    intro y1 y2 y3 a hm hv hf hi0 hi1 hi2 hi3 hu152 hi5 hi6 hi7
    refine jt_eq (bq_X12_leave_95 E d y1 y2 y3 a b0) ?_
    have h473_ := iv_get hv0 (k := 146) (j := 2) (l := 0) (u := 40) rfl
    have h474_ := iv_get hv0 (k := 152) (j := x1.toNat) (l := 0) (u := 1) rfl
    have h475_ := iv_get hv (k := 146) (j := 49) (l := 0) (u := 20) rfl
    have h476_ : a 146 49 = a0 146 49 := hf 146 49 rfl
    have h477_ := iv_get hv0 (k := 146) (j := 49) (l := 0) (u := 20) rfl
    refine jt_ite (fun c478_ => ?_) (fun c478_ => ?_)
    ·
      refine jt_grd (by omega) ?_
      have h479_ := iv_get hv (k := 178) (j := y3.toNat) (l := 0) (u := 39) rfl
      have h480_ : a 178 (y3.toNat) = a0 178 (y3.toNat) := hf 178 (y3.toNat) rfl
      have h481_ := iv_get hv0 (k := 178) (j := y3.toNat) (l := 0) (u := 39) rfl
      refine jt_ite (fun c482_ => ?_) (fun c482_ => ?_)
      ·
        refine jt_grd (by omega) ?_
        have h483_ := iv_get hv (k := 181) (j := y3.toNat) (l := 0) (u := 2) rfl
        refine jt_ite (fun c484_ => ?_) (fun c484_ => ?_)
        ·
          exact hc126 y1 y2 y3 a (show (((20 - y3) * 1) + 0).toNat ≤ n from by omega) hv hf (show 0 ≤ y1 from by omega) (show y1 ≤ 39 from by omega) (show 0 ≤ y3 from by omega) (show y3 ≤ 19 from by omega) (show 1 ≤ a 146 49 from by omega) (show a 181 (y3.toNat) = 1 from by omega) (show y3 < a 146 49 from by omega) (UP_cr hu152 (fun j => rfl)) hi5 (show 1 ≤ a0 146 2 from by omega) (show ((0 ≤ x1 ∧ x1 < a0 146 2) ∧ ¬ a0 152 (x1.toNat) = 0) from by omega)
        ·
          exact hc140 y1 y2 y3 a (show (((20 - y3) * 1) + 0).toNat ≤ n from by omega) hv hf (show 0 ≤ y1 from by omega) (show y1 ≤ 39 from by omega) (show 0 ≤ y3 from by omega) (show y3 ≤ 19 from by omega) (show 1 ≤ a 146 49 from by omega) (show y3 < a 146 49 from by omega) (UP_cr hu152 (fun j => rfl)) hi5 (show 1 ≤ a0 146 2 from by omega) (show ((0 ≤ x1 ∧ x1 < a0 146 2) ∧ ¬ a0 152 (x1.toNat) = 0) from by omega)
      ·
        have h485_ : jxw (y3 + 1) = y3 + 1 := jxw_id (by omega) (by omega)
        exact ih95 y1 y2 (jxw (y3 + 1)) a (show (((20 - (jxw (y3 + 1))) * 1) + 0).toNat < n from by omega) hv hf (show 0 ≤ y1 from by omega) (show y1 ≤ 39 from by omega) (show 0 ≤ jxw (y3 + 1) from by omega) (show jxw (y3 + 1) ≤ 20 from by omega) (UP_cr hu152 (fun j => rfl)) hi5 (show 1 ≤ a0 146 2 from by omega) (show ((0 ≤ x1 ∧ x1 < a0 146 2) ∧ ¬ a0 152 (x1.toNat) = 0) from by omega)
    ·
      exact jt_rI ⟨hv, hf, rfl, hi5, (show (a0 146 2 = 0 → y2 = 0 - 1) from by omega), (fun _ => (UP_cr hu152 (fun j => rfl))), (fun h => absurd h (by omega))⟩
  exact ⟨hc140, hc126, hc95⟩
theorem cp_X12_leave_30 (E : jxE) (d : Nat) (hd : Nat.ble 5 (d + 1) = true) (x1 : Int) (a0 b0 : Nat → Nat → Int) (hv0 : iv a0) (hp0 : OC a0) : ∀ n : Nat, (∀ (y1 y2 y3 : Int) (a : Nat → Nat → Int), (((300 - y3) * 1) + 0).toNat ≤ n → iv a → jfr jW_X12_leave a0 a → 0 ≤ y1 → y1 ≤ 39 → 0 ≤ y3 → y3 ≤ 299 → 1 ≤ a 146 9 → (UP (a0 152) (a 152) x1.toNat 0) → (OC a) → 1 ≤ a0 146 2 → ((0 ≤ x1 ∧ x1 < a0 146 2) ∧ ¬ a0 152 (x1.toNat) = 0) → jt (jxX E d 279 56 [some (.inr (.inr (.inl 146))), some (.inl y1), some (.inl y2), some (.inl y3)] [] (jxSH, a, b0)) (jQ_X12_leave x1 a0 b0)) ∧ (∀ (y1 y2 y3 : Int) (a : Nat → Nat → Int), (((300 - y3) * 1) + 0).toNat ≤ n → iv a → jfr jW_X12_leave a0 a → 0 ≤ y1 → y1 ≤ 39 → 0 ≤ y3 → y3 ≤ 299 → 1 ≤ a 146 9 → (UP (a0 152) (a 152) x1.toNat 0) → (OC a) → 1 ≤ a0 146 2 → ((0 ≤ x1 ∧ x1 < a0 146 2) ∧ ¬ a0 152 (x1.toNat) = 0) → jt (jxX E d 279 84 [some (.inr (.inr (.inl 146))), some (.inl y1), some (.inl y2), some (.inl y3)] [] (jxSH, a, b0)) (jQ_X12_leave x1 a0 b0)) ∧ (∀ (y1 y2 y3 : Int) (a : Nat → Nat → Int), (((300 - y3) * 1) + 0).toNat ≤ n → iv a → jfr jW_X12_leave a0 a → 0 ≤ y1 → y1 ≤ 39 → 0 ≤ y3 → y3 ≤ 299 → 1 ≤ a 146 9 → (UP (a0 152) (a 152) x1.toNat 0) → (OC a) → 1 ≤ a0 146 2 → ((0 ≤ x1 ∧ x1 < a0 146 2) ∧ ¬ a0 152 (x1.toNat) = 0) → jt (jxX E d 279 59 [some (.inr (.inr (.inl 146))), some (.inl y1), some (.inl y2), some (.inl y3)] [] (jxSH, a, b0)) (jQ_X12_leave x1 a0 b0)) ∧ (∀ (y1 y2 y3 : Int) (a : Nat → Nat → Int), (((300 - y3) * 1) + 0).toNat ≤ n → iv a → jfr jW_X12_leave a0 a → 0 ≤ y1 → y1 ≤ 39 → 0 ≤ y3 → y3 ≤ 300 → (UP (a0 152) (a 152) x1.toNat 0) → (OC a) → 1 ≤ a0 146 2 → ((0 ≤ x1 ∧ x1 < a0 146 2) ∧ ¬ a0 152 (x1.toNat) = 0) → jt (jxX E d 279 30 [some (.inr (.inr (.inl 146))), some (.inl y1), some (.inl y2), some (.inl y3)] [] (jxSH, a, b0)) (jQ_X12_leave x1 a0 b0)) := by
  refine jx_ind fun n ih => ?_
  have ih56 : ∀ (y1 y2 y3 : Int) (a : Nat → Nat → Int), (((300 - y3) * 1) + 0).toNat < n → iv a → jfr jW_X12_leave a0 a → 0 ≤ y1 → y1 ≤ 39 → 0 ≤ y3 → y3 ≤ 299 → 1 ≤ a 146 9 → (UP (a0 152) (a 152) x1.toNat 0) → (OC a) → 1 ≤ a0 146 2 → ((0 ≤ x1 ∧ x1 < a0 146 2) ∧ ¬ a0 152 (x1.toNat) = 0) → jt (jxX E d 279 56 [some (.inr (.inr (.inl 146))), some (.inl y1), some (.inl y2), some (.inl y3)] [] (jxSH, a, b0)) (jQ_X12_leave x1 a0 b0) := fun y1 y2 y3 a hlt i0 i1 i2 i3 i4 i5 i6 i7 i8 i9 i10 => (ih _ hlt).1 y1 y2 y3 a (Nat.le_refl _) i0 i1 i2 i3 i4 i5 i6 i7 i8 i9 i10
  have ih84 : ∀ (y1 y2 y3 : Int) (a : Nat → Nat → Int), (((300 - y3) * 1) + 0).toNat < n → iv a → jfr jW_X12_leave a0 a → 0 ≤ y1 → y1 ≤ 39 → 0 ≤ y3 → y3 ≤ 299 → 1 ≤ a 146 9 → (UP (a0 152) (a 152) x1.toNat 0) → (OC a) → 1 ≤ a0 146 2 → ((0 ≤ x1 ∧ x1 < a0 146 2) ∧ ¬ a0 152 (x1.toNat) = 0) → jt (jxX E d 279 84 [some (.inr (.inr (.inl 146))), some (.inl y1), some (.inl y2), some (.inl y3)] [] (jxSH, a, b0)) (jQ_X12_leave x1 a0 b0) := fun y1 y2 y3 a hlt i0 i1 i2 i3 i4 i5 i6 i7 i8 i9 i10 => (ih _ hlt).2.1 y1 y2 y3 a (Nat.le_refl _) i0 i1 i2 i3 i4 i5 i6 i7 i8 i9 i10
  have ih59 : ∀ (y1 y2 y3 : Int) (a : Nat → Nat → Int), (((300 - y3) * 1) + 0).toNat < n → iv a → jfr jW_X12_leave a0 a → 0 ≤ y1 → y1 ≤ 39 → 0 ≤ y3 → y3 ≤ 299 → 1 ≤ a 146 9 → (UP (a0 152) (a 152) x1.toNat 0) → (OC a) → 1 ≤ a0 146 2 → ((0 ≤ x1 ∧ x1 < a0 146 2) ∧ ¬ a0 152 (x1.toNat) = 0) → jt (jxX E d 279 59 [some (.inr (.inr (.inl 146))), some (.inl y1), some (.inl y2), some (.inl y3)] [] (jxSH, a, b0)) (jQ_X12_leave x1 a0 b0) := fun y1 y2 y3 a hlt i0 i1 i2 i3 i4 i5 i6 i7 i8 i9 i10 => (ih _ hlt).2.2.1 y1 y2 y3 a (Nat.le_refl _) i0 i1 i2 i3 i4 i5 i6 i7 i8 i9 i10
  have ih30 : ∀ (y1 y2 y3 : Int) (a : Nat → Nat → Int), (((300 - y3) * 1) + 0).toNat < n → iv a → jfr jW_X12_leave a0 a → 0 ≤ y1 → y1 ≤ 39 → 0 ≤ y3 → y3 ≤ 300 → (UP (a0 152) (a 152) x1.toNat 0) → (OC a) → 1 ≤ a0 146 2 → ((0 ≤ x1 ∧ x1 < a0 146 2) ∧ ¬ a0 152 (x1.toNat) = 0) → jt (jxX E d 279 30 [some (.inr (.inr (.inl 146))), some (.inl y1), some (.inl y2), some (.inl y3)] [] (jxSH, a, b0)) (jQ_X12_leave x1 a0 b0) := fun y1 y2 y3 a hlt i0 i1 i2 i3 i4 i5 i6 i7 i8 i9 => (ih _ hlt).2.2.2 y1 y2 y3 a (Nat.le_refl _) i0 i1 i2 i3 i4 i5 i6 i7 i8 i9
  have hc56 : ∀ (y1 y2 y3 : Int) (a : Nat → Nat → Int), (((300 - y3) * 1) + 0).toNat ≤ n → iv a → jfr jW_X12_leave a0 a → 0 ≤ y1 → y1 ≤ 39 → 0 ≤ y3 → y3 ≤ 299 → 1 ≤ a 146 9 → (UP (a0 152) (a 152) x1.toNat 0) → (OC a) → 1 ≤ a0 146 2 → ((0 ≤ x1 ∧ x1 < a0 146 2) ∧ ¬ a0 152 (x1.toNat) = 0) → jt (jxX E d 279 56 [some (.inr (.inr (.inl 146))), some (.inl y1), some (.inl y2), some (.inl y3)] [] (jxSH, a, b0)) (jQ_X12_leave x1 a0 b0) := by
    intro y1 y2 y3 a hm hv hf hi0 hi1 hi2 hi3 hi4 hu152 hi6 hi7 hi8
    refine jt_eq (bq_X12_leave_56 E d y1 y2 y3 a b0) ?_
    have h486_ := iv_get hv (k := 146) (j := 9) (l := 0) (u := 300) rfl
    have h487_ : a 146 9 = a0 146 9 := hf 146 9 rfl
    have h488_ := iv_get hv0 (k := 146) (j := 9) (l := 0) (u := 300) rfl
    have h489_ := iv_get hv0 (k := 146) (j := 2) (l := 0) (u := 40) rfl
    have h490_ := iv_get hv0 (k := 152) (j := x1.toNat) (l := 0) (u := 1) rfl
    have h491_ : jxw (y3 + 1) = y3 + 1 := jxw_id (by omega) (by omega)
    exact ih30 y1 y2 (jxw (y3 + 1)) a (show (((300 - (jxw (y3 + 1))) * 1) + 0).toNat < n from by omega) hv hf (show 0 ≤ y1 from by omega) (show y1 ≤ 39 from by omega) (show 0 ≤ jxw (y3 + 1) from by omega) (show jxw (y3 + 1) ≤ 300 from by omega) (UP_cr hu152 (fun j => rfl)) hi6 (show 1 ≤ a0 146 2 from by omega) (show ((0 ≤ x1 ∧ x1 < a0 146 2) ∧ ¬ a0 152 (x1.toNat) = 0) from by omega)
  have hc84 : ∀ (y1 y2 y3 : Int) (a : Nat → Nat → Int), (((300 - y3) * 1) + 0).toNat ≤ n → iv a → jfr jW_X12_leave a0 a → 0 ≤ y1 → y1 ≤ 39 → 0 ≤ y3 → y3 ≤ 299 → 1 ≤ a 146 9 → (UP (a0 152) (a 152) x1.toNat 0) → (OC a) → 1 ≤ a0 146 2 → ((0 ≤ x1 ∧ x1 < a0 146 2) ∧ ¬ a0 152 (x1.toNat) = 0) → jt (jxX E d 279 84 [some (.inr (.inr (.inl 146))), some (.inl y1), some (.inl y2), some (.inl y3)] [] (jxSH, a, b0)) (jQ_X12_leave x1 a0 b0) := by
    intro y1 y2 y3 a hm hv hf hi0 hi1 hi2 hi3 hi4 hu152 hi6 hi7 hi8
    refine jt_eq (bq_X12_leave_84 E d y1 y2 y3 a b0) ?_
    have h492_ := iv_get hv (k := 146) (j := 9) (l := 0) (u := 300) rfl
    have h493_ : a 146 9 = a0 146 9 := hf 146 9 rfl
    have h494_ := iv_get hv0 (k := 146) (j := 9) (l := 0) (u := 300) rfl
    have h495_ := iv_get hv0 (k := 146) (j := 2) (l := 0) (u := 40) rfl
    have h496_ := iv_get hv0 (k := 152) (j := x1.toNat) (l := 0) (u := 1) rfl
    have h497_ : jxw (y3 + 1) = y3 + 1 := jxw_id (by omega) (by omega)
    exact ih30 y1 (jxw (y2 + 1)) (jxw (y3 + 1)) a (show (((300 - (jxw (y3 + 1))) * 1) + 0).toNat < n from by omega) hv hf (show 0 ≤ y1 from by omega) (show y1 ≤ 39 from by omega) (show 0 ≤ jxw (y3 + 1) from by omega) (show jxw (y3 + 1) ≤ 300 from by omega) (UP_cr hu152 (fun j => rfl)) hi6 (show 1 ≤ a0 146 2 from by omega) (show ((0 ≤ x1 ∧ x1 < a0 146 2) ∧ ¬ a0 152 (x1.toNat) = 0) from by omega)
  have hc59 : ∀ (y1 y2 y3 : Int) (a : Nat → Nat → Int), (((300 - y3) * 1) + 0).toNat ≤ n → iv a → jfr jW_X12_leave a0 a → 0 ≤ y1 → y1 ≤ 39 → 0 ≤ y3 → y3 ≤ 299 → 1 ≤ a 146 9 → (UP (a0 152) (a 152) x1.toNat 0) → (OC a) → 1 ≤ a0 146 2 → ((0 ≤ x1 ∧ x1 < a0 146 2) ∧ ¬ a0 152 (x1.toNat) = 0) → jt (jxX E d 279 59 [some (.inr (.inr (.inl 146))), some (.inl y1), some (.inl y2), some (.inl y3)] [] (jxSH, a, b0)) (jQ_X12_leave x1 a0 b0) := by
    intro y1 y2 y3 a hm hv hf hi0 hi1 hi2 hi3 hi4 hu152 hi6 hi7 hi8
    refine jt_eq (bq_X12_leave_59 E d y1 y2 y3 a b0) ?_
    have h498_ := iv_get hv (k := 146) (j := 9) (l := 0) (u := 300) rfl
    have h499_ : a 146 9 = a0 146 9 := hf 146 9 rfl
    have h500_ := iv_get hv0 (k := 146) (j := 9) (l := 0) (u := 300) rfl
    have h501_ := iv_get hv0 (k := 146) (j := 2) (l := 0) (u := 40) rfl
    have h502_ := iv_get hv0 (k := 152) (j := x1.toNat) (l := 0) (u := 1) rfl
    refine jt_grd (by omega) ?_
    refine jt_grd (by omega) ?_
    have h503_ := iv_get hv (k := 154) (j := y3.toNat) (l := 0) (u := 39) rfl
    have h504_ : a 154 (y3.toNat) = a0 154 (y3.toNat) := hf 154 (y3.toNat) rfl
    have h505_ := iv_get hv0 (k := 154) (j := y3.toNat) (l := 0) (u := 39) rfl
    refine jt_grd (by omega) ?_
    refine jt_grd (by omega) ?_
    have hv506_ : iv (jxu a 159 (y3.toNat) (a 146 0)) := iv_putf hv rfl
    have hv507_ : iv (jxu (jxu a 159 (y3.toNat) (a 146 0)) 153 ((a 154 (y3.toNat)).toNat) (jxw ((a 153 ((a 154 (y3.toNat)).toNat)) + 1))) := iv_putf hv506_ rfl
    have hf508_ : jfr jW_X12_leave a0 (jxu a 159 (y3.toNat) (a 146 0)) := jfr_put hf rfl
    have hf509_ : jfr jW_X12_leave a0 (jxu (jxu a 159 (y3.toNat) (a 146 0)) 153 ((a 154 (y3.toNat)).toNat) (jxw ((a 153 ((a 154 (y3.toNat)).toNat)) + 1))) := jfr_put hf508_ rfl
    have hg510_ : OC (jxu a 159 (y3.toNat) (a 146 0)) := (OC_fr hi6 (jfr_1 a 159 (y3.toNat) (a 146 0)) rfl rfl (fun _ => rfl) (fun _ => rfl) (fun _ => rfl) (fun _ => rfl) (fun _ => rfl))
    have hg511_ : OC (jxu (jxu a 159 (y3.toNat) (a 146 0)) 153 ((a 154 (y3.toNat)).toNat) (jxw ((a 153 ((a 154 (y3.toNat)).toNat)) + 1))) := (OC_fr hg510_ (jfr_1 (jxu a 159 (y3.toNat) (a 146 0)) 153 ((a 154 (y3.toNat)).toNat) (jxw ((a 153 ((a 154 (y3.toNat)).toNat)) + 1))) rfl rfl (fun _ => rfl) (fun _ => rfl) (fun _ => rfl) (fun _ => rfl) (fun _ => rfl))
    exact hc84 y1 y2 y3 (jxu (jxu a 159 (y3.toNat) (a 146 0)) 153 ((a 154 (y3.toNat)).toNat) (jxw ((a 153 ((a 154 (y3.toNat)).toNat)) + 1))) (show (((300 - y3) * 1) + 0).toNat ≤ n from by omega) hv507_ hf509_ (show 0 ≤ y1 from by omega) (show y1 ≤ 39 from by omega) (show 0 ≤ y3 from by omega) (show y3 ≤ 299 from by omega) (show 1 ≤ a 146 9 from by omega) (UP_cr hu152 (fun j => rfl)) hg511_ (show 1 ≤ a0 146 2 from by omega) (show ((0 ≤ x1 ∧ x1 < a0 146 2) ∧ ¬ a0 152 (x1.toNat) = 0) from by omega)
  have hc30 : ∀ (y1 y2 y3 : Int) (a : Nat → Nat → Int), (((300 - y3) * 1) + 0).toNat ≤ n → iv a → jfr jW_X12_leave a0 a → 0 ≤ y1 → y1 ≤ 39 → 0 ≤ y3 → y3 ≤ 300 → (UP (a0 152) (a 152) x1.toNat 0) → (OC a) → 1 ≤ a0 146 2 → ((0 ≤ x1 ∧ x1 < a0 146 2) ∧ ¬ a0 152 (x1.toNat) = 0) → jt (jxX E d 279 30 [some (.inr (.inr (.inl 146))), some (.inl y1), some (.inl y2), some (.inl y3)] [] (jxSH, a, b0)) (jQ_X12_leave x1 a0 b0) := by
    intro y1 y2 y3 a hm hv hf hi0 hi1 hi2 hi3 hu152 hi5 hi6 hi7
    refine jt_eq (bq_X12_leave_30 E d y1 y2 y3 a b0) ?_
    have h512_ := iv_get hv0 (k := 146) (j := 2) (l := 0) (u := 40) rfl
    have h513_ := iv_get hv0 (k := 152) (j := x1.toNat) (l := 0) (u := 1) rfl
    have h514_ := iv_get hv (k := 146) (j := 9) (l := 0) (u := 300) rfl
    have h515_ : a 146 9 = a0 146 9 := hf 146 9 rfl
    have h516_ := iv_get hv0 (k := 146) (j := 9) (l := 0) (u := 300) rfl
    refine jt_ite (fun c517_ => ?_) (fun c517_ => ?_)
    ·
      refine jt_grd (by omega) ?_
      have h518_ := iv_get hv (k := 155) (j := y3.toNat) (l := 0) (u := 39) rfl
      have h519_ : a 155 (y3.toNat) = a0 155 (y3.toNat) := hf 155 (y3.toNat) rfl
      have h520_ := iv_get hv0 (k := 155) (j := y3.toNat) (l := 0) (u := 39) rfl
      refine jt_ite (fun c521_ => ?_) (fun c521_ => ?_)
      ·
        refine jt_bI (sp_X12_stateNow E d (jd_le hd rfl) y3 a b0 hv (show (0 ≤ y3 ∧ y3 ≤ 299) from by omega)) (fun r522_ a522_ b522_ h522_ => ?_)
        obtain ⟨rfl, rfl, hq522_0, hq522_1, hq522_2⟩ := h522_
        refine jt_ite (fun c523_ => ?_) (fun c523_ => ?_)
        ·
          exact hc59 y1 y2 y3 a (show (((300 - y3) * 1) + 0).toNat ≤ n from by omega) hv hf (show 0 ≤ y1 from by omega) (show y1 ≤ 39 from by omega) (show 0 ≤ y3 from by omega) (show y3 ≤ 299 from by omega) (show 1 ≤ a 146 9 from by omega) (UP_cr hu152 (fun j => rfl)) hi5 (show 1 ≤ a0 146 2 from by omega) (show ((0 ≤ x1 ∧ x1 < a0 146 2) ∧ ¬ a0 152 (x1.toNat) = 0) from by omega)
        ·
          exact hc56 y1 y2 y3 a (show (((300 - y3) * 1) + 0).toNat ≤ n from by omega) hv hf (show 0 ≤ y1 from by omega) (show y1 ≤ 39 from by omega) (show 0 ≤ y3 from by omega) (show y3 ≤ 299 from by omega) (show 1 ≤ a 146 9 from by omega) (UP_cr hu152 (fun j => rfl)) hi5 (show 1 ≤ a0 146 2 from by omega) (show ((0 ≤ x1 ∧ x1 < a0 146 2) ∧ ¬ a0 152 (x1.toNat) = 0) from by omega)
      ·
        have h524_ : jxw (y3 + 1) = y3 + 1 := jxw_id (by omega) (by omega)
        exact ih30 y1 y2 (jxw (y3 + 1)) a (show (((300 - (jxw (y3 + 1))) * 1) + 0).toNat < n from by omega) hv hf (show 0 ≤ y1 from by omega) (show y1 ≤ 39 from by omega) (show 0 ≤ jxw (y3 + 1) from by omega) (show jxw (y3 + 1) ≤ 300 from by omega) (UP_cr hu152 (fun j => rfl)) hi5 (show 1 ≤ a0 146 2 from by omega) (show ((0 ≤ x1 ∧ x1 < a0 146 2) ∧ ¬ a0 152 (x1.toNat) = 0) from by omega)
    ·
      exact (cp_X12_leave_95 E d hd x1 a0 b0 hv0 hp0 _).2.2 y1 y2 0 a (Nat.le_refl _) hv hf (show 0 ≤ y1 from by omega) (show y1 ≤ 39 from by omega) (show 0 ≤ 0 from by omega) (show 0 ≤ 20 from by omega) (UP_cr hu152 (fun j => rfl)) hi5 (show 1 ≤ a0 146 2 from by omega) (show ((0 ≤ x1 ∧ x1 < a0 146 2) ∧ ¬ a0 152 (x1.toNat) = 0) from by omega)
  exact ⟨hc56, hc84, hc59, hc30⟩
theorem cp_X12_leave_26 (E : jxE) (d : Nat) (hd : Nat.ble 5 (d + 1) = true) (x1 : Int) (a0 b0 : Nat → Nat → Int) (hv0 : iv a0) (hp0 : OC a0) : ∀ (y1 : Int) (a : Nat → Nat → Int), iv a → jfr jW_X12_leave a0 a → 0 ≤ y1 → y1 ≤ 39 → (UP (a0 152) (a 152) x1.toNat 0) → (OC a) → 1 ≤ a0 146 2 → ((0 ≤ x1 ∧ x1 < a0 146 2) ∧ ¬ a0 152 (x1.toNat) = 0) → jt (jxX E d 279 26 [some (.inr (.inr (.inl 146))), some (.inl y1), none, none] [] (jxSH, a, b0)) (jQ_X12_leave x1 a0 b0) := by
  intro y1 a hv hf hi0 hi1 hu152 hi3 hi4 hi5
  refine jt_eq (bq_X12_leave_26 E d y1 a b0) ?_
  have h525_ := iv_get hv0 (k := 146) (j := 2) (l := 0) (u := 40) rfl
  have h526_ := iv_get hv0 (k := 152) (j := x1.toNat) (l := 0) (u := 1) rfl
  exact (cp_X12_leave_30 E d hd x1 a0 b0 hv0 hp0 _).2.2.2 y1 0 0 a (Nat.le_refl _) hv hf (show 0 ≤ y1 from by omega) (show y1 ≤ 39 from by omega) (show 0 ≤ 0 from by omega) (show 0 ≤ 300 from by omega) (UP_cr hu152 (fun j => rfl)) hi3 (show 1 ≤ a0 146 2 from by omega) (show ((0 ≤ x1 ∧ x1 < a0 146 2) ∧ ¬ a0 152 (x1.toNat) = 0) from by omega)
theorem sp_X12_leave (E : jxE) (d : Nat) (hd : Nat.ble 5 d = true) (x1 : Int) (a0 b0 : Nat → Nat → Int) (hv0 : iv a0) (hp0 : OC a0) : jt (jxC E d 279 [.inr (.inr (.inl 146)), .inl x1] (jxSH, a0, b0)) (jQ_X12_leave x1 a0 b0) := by
  obtain ⟨d, rfl⟩ := jd_succ hd
  refine jt_eq (bq_X12_leave E d x1 a0 b0) ?_
  refine jt_eI (eq_X12_isMember E d (jd_le hd rfl) x1 a0 b0) ?_
  have h527_ := f_X12_isMember_eq a0 b0 x1
  have h528_ := iv_get hv0 (k := 146) (j := 2) (l := 0) (u := 40) rfl
  have h529_ : jxw ((a0 146 2) - 1) = (a0 146 2) - 1 := jxw_id (by omega) (by omega)
  have h530_ := f_X12_in_eq a0 b0 x1 0 (jxw ((a0 146 2) - 1))
  refine jt_ite (fun c531_ => ?_) (fun c531_ => ?_)
  ·
    exact jt_rI ⟨hv0, (jfr_rf _ _), rfl, hp0, (show (a0 146 2 = 0 → (-1) = 0 - 1) from by omega), (fun h => absurd h (by omega)), (fun _ j => rfl)⟩
  ·
    refine jt_grd (by omega) ?_
    have h532_ := iv_get hv0 (k := 152) (j := x1.toNat) (l := 0) (u := 1) rfl
    refine jt_ite (fun c533_ => ?_) (fun c533_ => ?_)
    ·
      exact jt_rI ⟨hv0, (jfr_rf _ _), rfl, hp0, (show (a0 146 2 = 0 → (-1) = 0 - 1) from by omega), (fun h => absurd h (by omega)), (fun _ j => rfl)⟩
    ·
      refine jt_grd (by omega) ?_
      have hv534_ : iv (jxu a0 152 (x1.toNat) 0) := iv_put hv0 (l := 0) (u := 1) rfl (by omega) (by omega)
      have hf535_ : jfr jW_X12_leave a0 (jxu a0 152 (x1.toNat) 0) := jfr_put (jfr_rf _ _) rfl
      have hg536_ : OC (jxu a0 152 (x1.toNat) 0) := (OC_fr hp0 (jfr_1 a0 152 (x1.toNat) 0) rfl rfl (fun _ => rfl) (fun _ => rfl) (fun _ => rfl) (fun _ => rfl) (fun _ => rfl))
      exact cp_X12_leave_26 E d hd x1 a0 b0 hv0 hp0 x1 (jxu a0 152 (x1.toNat) 0) hv534_ hf535_ (show 0 ≤ x1 from by omega) (show x1 ≤ 39 from by omega) (UP_cr (UP_put (fun _ => rfl)) (fun j => rfl)) hg536_ (show 1 ≤ a0 146 2 from by omega) (show ((0 ≤ x1 ∧ x1 < a0 146 2) ∧ ¬ a0 152 (x1.toNat) = 0) from by omega)
def jW_X12_makes : List (Nat × Nat) := [(199, 9999)]
abbrev jQ_X12_makes (a0 b0 : Nat → Nat → Int) : List jxV → (Nat → Nat → Int) → (Nat → Nat → Int) → Prop := rV (fun a b => (iv a) ∧ (jfr jW_X12_makes a0 a) ∧ (b0 = b))
theorem cp_X12_makes_39 (E : jxE) (d : Nat) (hd : Nat.ble 1 (d + 1) = true) (a0 b0 : Nat → Nat → Int) (hv0 : iv a0) (hp0 : SV a0) : ∀ n : Nat, (∀ (y1 y2 y3 y4 y5 : Int) (a : Nat → Nat → Int), (((((((y1 + 1) * 75709) + 0) + ((1400 - y2) * 54)) + 0) + ((51 - y4) * 1)) + 0).toNat ≤ n → iv a → jfr jW_X12_makes a0 a → 0 ≤ y1 → y1 ≤ 7 → 0 ≤ y2 → y2 ≤ 1399 → y3 ≤ 1000000 → 0 ≤ y4 → y4 ≤ 50 → jt (jxX E d 286 112 [some (.inr (.inr (.inl 146))), some (.inl y1), some (.inl y2), some (.inl y3), some (.inl y4), some (.inl y5)] [] (jxSH, a, b0)) (jQ_X12_makes a0 b0)) ∧ (∀ (y1 y2 y3 y4 : Int) (a : Nat → Nat → Int), (((((((y1 + 1) * 75709) + 0) + ((1400 - y2) * 54)) + 0) + ((51 - y4) * 1)) + 0).toNat ≤ n → iv a → jfr jW_X12_makes a0 a → 0 ≤ y1 → y1 ≤ 7 → 0 ≤ y2 → y2 ≤ 1399 → y3 ≤ 1000000 → 0 ≤ y4 → y4 ≤ 50 → y4 ≤ a 197 (y1.toNat) → y4 * (a 196 (y1.toNat)) ≤ y2 → 0 ≤ y4 → jt (jxX E d 286 83 [some (.inr (.inr (.inl 146))), some (.inl y1), some (.inl y2), some (.inl y3), some (.inl y4), none] [] (jxSH, a, b0)) (jQ_X12_makes a0 b0)) ∧ (∀ (y1 y2 y3 : Int) (a : Nat → Nat → Int), (((((y1 + 1) * 75709) + 0) + ((1400 - y2) * 54)) + 0).toNat ≤ n → iv a → jfr jW_X12_makes a0 a → 0 ≤ y1 → y1 ≤ 7 → 0 ≤ y2 → y2 ≤ 1399 → y3 ≤ 1000000 → jt (jxX E d 286 131 [some (.inr (.inr (.inl 146))), some (.inl y1), some (.inl y2), some (.inl y3), none, none] [] (jxSH, a, b0)) (jQ_X12_makes a0 b0)) ∧ (∀ (y1 y2 y3 y4 : Int) (a : Nat → Nat → Int), (((((((y1 + 1) * 75709) + 0) + ((1400 - y2) * 54)) + 0) + ((51 - y4) * 1)) + 0).toNat ≤ n → iv a → jfr jW_X12_makes a0 a → 0 ≤ y1 → y1 ≤ 7 → 0 ≤ y2 → y2 ≤ 1399 → y3 ≤ 1000000 → 0 ≤ y4 → y4 ≤ 51 → 0 ≤ y4 → jt (jxX E d 286 59 [some (.inr (.inr (.inl 146))), some (.inl y1), some (.inl y2), some (.inl y3), some (.inl y4), none] [] (jxSH, a, b0)) (jQ_X12_makes a0 b0)) ∧ (∀ (y1 y2 : Int) (a : Nat → Nat → Int), (((((y1 + 1) * 75709) + 0) + ((1400 - y2) * 54)) + 53).toNat ≤ n → iv a → jfr jW_X12_makes a0 a → 0 ≤ y1 → y1 ≤ 7 → 0 ≤ y2 → y2 ≤ 1400 → jt (jxX E d 286 45 [some (.inr (.inr (.inl 146))), some (.inl y1), some (.inl y2), none, none, none] [] (jxSH, a, b0)) (jQ_X12_makes a0 b0)) ∧ (∀ (y1 : Int) (a : Nat → Nat → Int), (((y1 + 1) * 75709) + 75708).toNat ≤ n → iv a → jfr jW_X12_makes a0 a → 0 - 1 ≤ y1 → y1 ≤ 7 → jt (jxX E d 286 39 [some (.inr (.inr (.inl 146))), some (.inl y1), none, none, none, none] [] (jxSH, a, b0)) (jQ_X12_makes a0 b0)) := by
  refine jx_ind fun n ih => ?_
  have ih112 : ∀ (y1 y2 y3 y4 y5 : Int) (a : Nat → Nat → Int), (((((((y1 + 1) * 75709) + 0) + ((1400 - y2) * 54)) + 0) + ((51 - y4) * 1)) + 0).toNat < n → iv a → jfr jW_X12_makes a0 a → 0 ≤ y1 → y1 ≤ 7 → 0 ≤ y2 → y2 ≤ 1399 → y3 ≤ 1000000 → 0 ≤ y4 → y4 ≤ 50 → jt (jxX E d 286 112 [some (.inr (.inr (.inl 146))), some (.inl y1), some (.inl y2), some (.inl y3), some (.inl y4), some (.inl y5)] [] (jxSH, a, b0)) (jQ_X12_makes a0 b0) := fun y1 y2 y3 y4 y5 a hlt i0 i1 i2 i3 i4 i5 i6 i7 i8 => (ih _ hlt).1 y1 y2 y3 y4 y5 a (Nat.le_refl _) i0 i1 i2 i3 i4 i5 i6 i7 i8
  have ih83 : ∀ (y1 y2 y3 y4 : Int) (a : Nat → Nat → Int), (((((((y1 + 1) * 75709) + 0) + ((1400 - y2) * 54)) + 0) + ((51 - y4) * 1)) + 0).toNat < n → iv a → jfr jW_X12_makes a0 a → 0 ≤ y1 → y1 ≤ 7 → 0 ≤ y2 → y2 ≤ 1399 → y3 ≤ 1000000 → 0 ≤ y4 → y4 ≤ 50 → y4 ≤ a 197 (y1.toNat) → y4 * (a 196 (y1.toNat)) ≤ y2 → 0 ≤ y4 → jt (jxX E d 286 83 [some (.inr (.inr (.inl 146))), some (.inl y1), some (.inl y2), some (.inl y3), some (.inl y4), none] [] (jxSH, a, b0)) (jQ_X12_makes a0 b0) := fun y1 y2 y3 y4 a hlt i0 i1 i2 i3 i4 i5 i6 i7 i8 i9 i10 i11 => (ih _ hlt).2.1 y1 y2 y3 y4 a (Nat.le_refl _) i0 i1 i2 i3 i4 i5 i6 i7 i8 i9 i10 i11
  have ih131 : ∀ (y1 y2 y3 : Int) (a : Nat → Nat → Int), (((((y1 + 1) * 75709) + 0) + ((1400 - y2) * 54)) + 0).toNat < n → iv a → jfr jW_X12_makes a0 a → 0 ≤ y1 → y1 ≤ 7 → 0 ≤ y2 → y2 ≤ 1399 → y3 ≤ 1000000 → jt (jxX E d 286 131 [some (.inr (.inr (.inl 146))), some (.inl y1), some (.inl y2), some (.inl y3), none, none] [] (jxSH, a, b0)) (jQ_X12_makes a0 b0) := fun y1 y2 y3 a hlt i0 i1 i2 i3 i4 i5 i6 => (ih _ hlt).2.2.1 y1 y2 y3 a (Nat.le_refl _) i0 i1 i2 i3 i4 i5 i6
  have ih59 : ∀ (y1 y2 y3 y4 : Int) (a : Nat → Nat → Int), (((((((y1 + 1) * 75709) + 0) + ((1400 - y2) * 54)) + 0) + ((51 - y4) * 1)) + 0).toNat < n → iv a → jfr jW_X12_makes a0 a → 0 ≤ y1 → y1 ≤ 7 → 0 ≤ y2 → y2 ≤ 1399 → y3 ≤ 1000000 → 0 ≤ y4 → y4 ≤ 51 → 0 ≤ y4 → jt (jxX E d 286 59 [some (.inr (.inr (.inl 146))), some (.inl y1), some (.inl y2), some (.inl y3), some (.inl y4), none] [] (jxSH, a, b0)) (jQ_X12_makes a0 b0) := fun y1 y2 y3 y4 a hlt i0 i1 i2 i3 i4 i5 i6 i7 i8 i9 => (ih _ hlt).2.2.2.1 y1 y2 y3 y4 a (Nat.le_refl _) i0 i1 i2 i3 i4 i5 i6 i7 i8 i9
  have ih45 : ∀ (y1 y2 : Int) (a : Nat → Nat → Int), (((((y1 + 1) * 75709) + 0) + ((1400 - y2) * 54)) + 53).toNat < n → iv a → jfr jW_X12_makes a0 a → 0 ≤ y1 → y1 ≤ 7 → 0 ≤ y2 → y2 ≤ 1400 → jt (jxX E d 286 45 [some (.inr (.inr (.inl 146))), some (.inl y1), some (.inl y2), none, none, none] [] (jxSH, a, b0)) (jQ_X12_makes a0 b0) := fun y1 y2 a hlt i0 i1 i2 i3 i4 i5 => (ih _ hlt).2.2.2.2.1 y1 y2 a (Nat.le_refl _) i0 i1 i2 i3 i4 i5
  have ih39 : ∀ (y1 : Int) (a : Nat → Nat → Int), (((y1 + 1) * 75709) + 75708).toNat < n → iv a → jfr jW_X12_makes a0 a → 0 - 1 ≤ y1 → y1 ≤ 7 → jt (jxX E d 286 39 [some (.inr (.inr (.inl 146))), some (.inl y1), none, none, none, none] [] (jxSH, a, b0)) (jQ_X12_makes a0 b0) := fun y1 a hlt i0 i1 i2 i3 => (ih _ hlt).2.2.2.2.2 y1 a (Nat.le_refl _) i0 i1 i2 i3
  have hc112 : ∀ (y1 y2 y3 y4 y5 : Int) (a : Nat → Nat → Int), (((((((y1 + 1) * 75709) + 0) + ((1400 - y2) * 54)) + 0) + ((51 - y4) * 1)) + 0).toNat ≤ n → iv a → jfr jW_X12_makes a0 a → 0 ≤ y1 → y1 ≤ 7 → 0 ≤ y2 → y2 ≤ 1399 → y3 ≤ 1000000 → 0 ≤ y4 → y4 ≤ 50 → jt (jxX E d 286 112 [some (.inr (.inr (.inl 146))), some (.inl y1), some (.inl y2), some (.inl y3), some (.inl y4), some (.inl y5)] [] (jxSH, a, b0)) (jQ_X12_makes a0 b0) := by
    intro y1 y2 y3 y4 y5 a hm hv hf hi0 hi1 hi2 hi3 hi4 hi5 hi6
    refine jt_eq (bq_X12_makes_112 E d y1 y2 y3 y4 y5 a b0) ?_
    refine jt_ite (fun c537_ => ?_) (fun c537_ => ?_)
    ·
      have h538_ : jxw (y4 + 1) = y4 + 1 := jxw_id (by omega) (by omega)
      exact ih59 y1 y2 y5 (jxw (y4 + 1)) a (show (((((((y1 + 1) * 75709) + 0) + ((1400 - y2) * 54)) + 0) + ((51 - (jxw (y4 + 1))) * 1)) + 0).toNat < n from by omega) hv hf (show 0 ≤ y1 from by omega) (show y1 ≤ 7 from by omega) (show 0 ≤ y2 from by omega) (show y2 ≤ 1399 from by omega) (show y5 ≤ 1000000 from by omega) (show 0 ≤ jxw (y4 + 1) from by omega) (show jxw (y4 + 1) ≤ 51 from by omega) (show 0 ≤ jxw (y4 + 1) from by omega)
    ·
      have h539_ : jxw (y4 + 1) = y4 + 1 := jxw_id (by omega) (by omega)
      exact ih59 y1 y2 y3 (jxw (y4 + 1)) a (show (((((((y1 + 1) * 75709) + 0) + ((1400 - y2) * 54)) + 0) + ((51 - (jxw (y4 + 1))) * 1)) + 0).toNat < n from by omega) hv hf (show 0 ≤ y1 from by omega) (show y1 ≤ 7 from by omega) (show 0 ≤ y2 from by omega) (show y2 ≤ 1399 from by omega) (show y3 ≤ 1000000 from by omega) (show 0 ≤ jxw (y4 + 1) from by omega) (show jxw (y4 + 1) ≤ 51 from by omega) (show 0 ≤ jxw (y4 + 1) from by omega)
  have hc83 : ∀ (y1 y2 y3 y4 : Int) (a : Nat → Nat → Int), (((((((y1 + 1) * 75709) + 0) + ((1400 - y2) * 54)) + 0) + ((51 - y4) * 1)) + 0).toNat ≤ n → iv a → jfr jW_X12_makes a0 a → 0 ≤ y1 → y1 ≤ 7 → 0 ≤ y2 → y2 ≤ 1399 → y3 ≤ 1000000 → 0 ≤ y4 → y4 ≤ 50 → y4 ≤ a 197 (y1.toNat) → y4 * (a 196 (y1.toNat)) ≤ y2 → 0 ≤ y4 → jt (jxX E d 286 83 [some (.inr (.inr (.inl 146))), some (.inl y1), some (.inl y2), some (.inl y3), some (.inl y4), none] [] (jxSH, a, b0)) (jQ_X12_makes a0 b0) := by
    intro y1 y2 y3 y4 a hm hv hf hi0 hi1 hi2 hi3 hi4 hi5 hi6 hi7 hi8 hi9
    refine jt_eq (bq_X12_makes_83 E d y1 y2 y3 y4 a b0) ?_
    have h540_ := iv_get hv (k := 197) (j := y1.toNat) (l := 0) (u := 50) rfl
    have h541_ : a 197 (y1.toNat) = a0 197 (y1.toNat) := hf 197 (y1.toNat) rfl
    have h542_ := iv_get hv0 (k := 197) (j := y1.toNat) (l := 0) (u := 50) rfl
    have h543_ := iv_get hv (k := 196) (j := y1.toNat) (l := (-1)) (u := 500) rfl
    have h544_ : a 196 (y1.toNat) = a0 196 (y1.toNat) := hf 196 (y1.toNat) rfl
    have h545_ := iv_get hv0 (k := 196) (j := y1.toNat) (l := (-1)) (u := 500) rfl
    have hsv := SV_fr hp0 hf (fun _ => rfl) (fun _ => rfl) y1.toNat (by omega)
    have i196 := iv_get hv (k := 196) (j := y1.toNat) (l := (-1)) (u := 500) rfl
    have i197 := iv_get hv (k := 197) (j := y1.toNat) (l := 0) (u := 50) rfl
    have hmul : y4 ≤ a 197 (y1.toNat) → 0 ≤ y4 * (a 196 (y1.toNat)) ∧ y4 * (a 196 (y1.toNat)) ≤ 25500 := fun h => mul_bd (by omega) (by omega) (by omega) (by omega)
    refine jt_grd (by omega) ?_
    have h546_ : jxw (y1 + 1) = y1 + 1 := jxw_id (by omega) (by omega)
    have h547_ : jxw (1400 * (jxw (y1 + 1))) = 1400 * (jxw (y1 + 1)) := jxw_id (by omega) (by omega)
    have h548_ : jxw ((jxw (1400 * (jxw (y1 + 1)))) + y2) = (jxw (1400 * (jxw (y1 + 1)))) + y2 := jxw_id (by omega) (by omega)
    have h549_ : jxw (y4 * (a 196 (y1.toNat))) = y4 * (a 196 (y1.toNat)) := jxw_id (by omega) (by omega)
    have h550_ : jxw ((jxw ((jxw (1400 * (jxw (y1 + 1)))) + y2)) - (jxw (y4 * (a 196 (y1.toNat))))) = (jxw ((jxw (1400 * (jxw (y1 + 1)))) + y2)) - (jxw (y4 * (a 196 (y1.toNat)))) := jxw_id (by omega) (by omega)
    refine jt_grd (by omega) ?_
    exact hc112 y1 y2 y3 y4 (jxw (y4 + (a 199 ((jxw ((jxw ((jxw (1400 * (jxw (y1 + 1)))) + y2)) - (jxw (y4 * (a 196 (y1.toNat)))))).toNat)))) a (show (((((((y1 + 1) * 75709) + 0) + ((1400 - y2) * 54)) + 0) + ((51 - y4) * 1)) + 0).toNat ≤ n from by omega) hv hf (show 0 ≤ y1 from by omega) (show y1 ≤ 7 from by omega) (show 0 ≤ y2 from by omega) (show y2 ≤ 1399 from by omega) (show y3 ≤ 1000000 from by omega) (show 0 ≤ y4 from by omega) (show y4 ≤ 50 from by omega)
  have hc131 : ∀ (y1 y2 y3 : Int) (a : Nat → Nat → Int), (((((y1 + 1) * 75709) + 0) + ((1400 - y2) * 54)) + 0).toNat ≤ n → iv a → jfr jW_X12_makes a0 a → 0 ≤ y1 → y1 ≤ 7 → 0 ≤ y2 → y2 ≤ 1399 → y3 ≤ 1000000 → jt (jxX E d 286 131 [some (.inr (.inr (.inl 146))), some (.inl y1), some (.inl y2), some (.inl y3), none, none] [] (jxSH, a, b0)) (jQ_X12_makes a0 b0) := by
    intro y1 y2 y3 a hm hv hf hi0 hi1 hi2 hi3 hi4
    refine jt_eq (bq_X12_makes_131 E d y1 y2 y3 a b0) ?_
    have h551_ : jxw (1400 * y1) = 1400 * y1 := jxw_id (by omega) (by omega)
    have h552_ : jxw ((jxw (1400 * y1)) + y2) = (jxw (1400 * y1)) + y2 := jxw_id (by omega) (by omega)
    refine jt_grd (by omega) ?_
    have hv553_ : iv (jxu a 199 ((jxw ((jxw (1400 * y1)) + y2)).toNat) y3) := iv_putf hv rfl
    have hf554_ : jfr jW_X12_makes a0 (jxu a 199 ((jxw ((jxw (1400 * y1)) + y2)).toNat) y3) := jfr_put hf rfl
    have h555_ : jxw (y2 + 1) = y2 + 1 := jxw_id (by omega) (by omega)
    exact ih45 y1 (jxw (y2 + 1)) (jxu a 199 ((jxw ((jxw (1400 * y1)) + y2)).toNat) y3) (show (((((y1 + 1) * 75709) + 0) + ((1400 - (jxw (y2 + 1))) * 54)) + 53).toNat < n from by omega) hv553_ hf554_ (show 0 ≤ y1 from by omega) (show y1 ≤ 7 from by omega) (show 0 ≤ jxw (y2 + 1) from by omega) (show jxw (y2 + 1) ≤ 1400 from by omega)
  have hc59 : ∀ (y1 y2 y3 y4 : Int) (a : Nat → Nat → Int), (((((((y1 + 1) * 75709) + 0) + ((1400 - y2) * 54)) + 0) + ((51 - y4) * 1)) + 0).toNat ≤ n → iv a → jfr jW_X12_makes a0 a → 0 ≤ y1 → y1 ≤ 7 → 0 ≤ y2 → y2 ≤ 1399 → y3 ≤ 1000000 → 0 ≤ y4 → y4 ≤ 51 → 0 ≤ y4 → jt (jxX E d 286 59 [some (.inr (.inr (.inl 146))), some (.inl y1), some (.inl y2), some (.inl y3), some (.inl y4), none] [] (jxSH, a, b0)) (jQ_X12_makes a0 b0) := by
    intro y1 y2 y3 y4 a hm hv hf hi0 hi1 hi2 hi3 hi4 hi5 hi6 hi7
    refine jt_eq (bq_X12_makes_59 E d y1 y2 y3 y4 a b0) ?_
    have hsv := SV_fr hp0 hf (fun _ => rfl) (fun _ => rfl) y1.toNat (by omega)
    have i196 := iv_get hv (k := 196) (j := y1.toNat) (l := (-1)) (u := 500) rfl
    have i197 := iv_get hv (k := 197) (j := y1.toNat) (l := 0) (u := 50) rfl
    have hmul : y4 ≤ a 197 (y1.toNat) → 0 ≤ y4 * (a 196 (y1.toNat)) ∧ y4 * (a 196 (y1.toNat)) ≤ 25500 := fun h => mul_bd (by omega) (by omega) (by omega) (by omega)
    refine jt_grd (by omega) ?_
    have h556_ := iv_get hv (k := 197) (j := y1.toNat) (l := 0) (u := 50) rfl
    have h557_ : a 197 (y1.toNat) = a0 197 (y1.toNat) := hf 197 (y1.toNat) rfl
    have h558_ := iv_get hv0 (k := 197) (j := y1.toNat) (l := 0) (u := 50) rfl
    refine jt_ite (fun c559_ => ?_) (fun c559_ => ?_)
    ·
      exact hc131 y1 y2 y3 a (show (((((y1 + 1) * 75709) + 0) + ((1400 - y2) * 54)) + 0).toNat ≤ n from by omega) hv hf (show 0 ≤ y1 from by omega) (show y1 ≤ 7 from by omega) (show 0 ≤ y2 from by omega) (show y2 ≤ 1399 from by omega) (show y3 ≤ 1000000 from by omega)
    ·
      refine jt_grd (by omega) ?_
      have h560_ := iv_get hv (k := 196) (j := y1.toNat) (l := (-1)) (u := 500) rfl
      have h561_ : a 196 (y1.toNat) = a0 196 (y1.toNat) := hf 196 (y1.toNat) rfl
      have h562_ := iv_get hv0 (k := 196) (j := y1.toNat) (l := (-1)) (u := 500) rfl
      have h563_ : jxw (y4 * (a 196 (y1.toNat))) = y4 * (a 196 (y1.toNat)) := jxw_id (by omega) (by omega)
      refine jt_ite (fun c564_ => ?_) (fun c564_ => ?_)
      ·
        exact hc131 y1 y2 y3 a (show (((((y1 + 1) * 75709) + 0) + ((1400 - y2) * 54)) + 0).toNat ≤ n from by omega) hv hf (show 0 ≤ y1 from by omega) (show y1 ≤ 7 from by omega) (show 0 ≤ y2 from by omega) (show y2 ≤ 1399 from by omega) (show y3 ≤ 1000000 from by omega)
      ·
        exact hc83 y1 y2 y3 y4 a (show (((((((y1 + 1) * 75709) + 0) + ((1400 - y2) * 54)) + 0) + ((51 - y4) * 1)) + 0).toNat ≤ n from by omega) hv hf (show 0 ≤ y1 from by omega) (show y1 ≤ 7 from by omega) (show 0 ≤ y2 from by omega) (show y2 ≤ 1399 from by omega) (show y3 ≤ 1000000 from by omega) (show 0 ≤ y4 from by omega) (show y4 ≤ 50 from by omega) (show y4 ≤ a 197 (y1.toNat) from by omega) (show y4 * (a 196 (y1.toNat)) ≤ y2 from by omega) (show 0 ≤ y4 from by omega)
  have hc45 : ∀ (y1 y2 : Int) (a : Nat → Nat → Int), (((((y1 + 1) * 75709) + 0) + ((1400 - y2) * 54)) + 53).toNat ≤ n → iv a → jfr jW_X12_makes a0 a → 0 ≤ y1 → y1 ≤ 7 → 0 ≤ y2 → y2 ≤ 1400 → jt (jxX E d 286 45 [some (.inr (.inr (.inl 146))), some (.inl y1), some (.inl y2), none, none, none] [] (jxSH, a, b0)) (jQ_X12_makes a0 b0) := by
    intro y1 y2 a hm hv hf hi0 hi1 hi2 hi3
    refine jt_eq (bq_X12_makes_45 E d y1 y2 a b0) ?_
    refine jt_ite (fun c565_ => ?_) (fun c565_ => ?_)
    ·
      exact hc59 y1 y2 1000000 0 a (show (((((((y1 + 1) * 75709) + 0) + ((1400 - y2) * 54)) + 0) + ((51 - 0) * 1)) + 0).toNat ≤ n from by omega) hv hf (show 0 ≤ y1 from by omega) (show y1 ≤ 7 from by omega) (show 0 ≤ y2 from by omega) (show y2 ≤ 1399 from by omega) (show 1000000 ≤ 1000000 from by omega) (show 0 ≤ 0 from by omega) (show 0 ≤ 51 from by omega) (show 0 ≤ 0 from by omega)
    ·
      have h566_ : jxw (y1 + (-1)) = y1 + (-1) := jxw_id (by omega) (by omega)
      exact ih39 (jxw (y1 + (-1))) a (show ((((jxw (y1 + (-1))) + 1) * 75709) + 75708).toNat < n from by omega) hv hf (show 0 - 1 ≤ jxw (y1 + (-1)) from by omega) (show jxw (y1 + (-1)) ≤ 7 from by omega)
  have hc39 : ∀ (y1 : Int) (a : Nat → Nat → Int), (((y1 + 1) * 75709) + 75708).toNat ≤ n → iv a → jfr jW_X12_makes a0 a → 0 - 1 ≤ y1 → y1 ≤ 7 → jt (jxX E d 286 39 [some (.inr (.inr (.inl 146))), some (.inl y1), none, none, none, none] [] (jxSH, a, b0)) (jQ_X12_makes a0 b0) := by
    intro y1 a hm hv hf hi0 hi1
    refine jt_eq (bq_X12_makes_39 E d y1 a b0) ?_
    refine jt_ite (fun c567_ => ?_) (fun c567_ => ?_)
    ·
      exact jt_rV ⟨hv, hf, rfl⟩
    ·
      exact hc45 y1 0 a (show (((((y1 + 1) * 75709) + 0) + ((1400 - 0) * 54)) + 53).toNat ≤ n from by omega) hv hf (show 0 ≤ y1 from by omega) (show y1 ≤ 7 from by omega) (show 0 ≤ 0 from by omega) (show 0 ≤ 1400 from by omega)
  exact ⟨hc112, hc83, hc131, hc59, hc45, hc39⟩
theorem cp_X12_makes_2 (E : jxE) (d : Nat) (hd : Nat.ble 1 (d + 1) = true) (a0 b0 : Nat → Nat → Int) (hv0 : iv a0) (hp0 : SV a0) : ∀ n : Nat, (∀ (y1 : Int) (a : Nat → Nat → Int), (((1400 - y1) * 2) + 1).toNat ≤ n → iv a → jfr jW_X12_makes a0 a → 1 ≤ y1 → y1 ≤ 1400 → jt (jxX E d 286 33 [some (.inr (.inr (.inl 146))), some (.inl y1), none, none, none, none] [] (jxSH, a, b0)) (jQ_X12_makes a0 b0)) ∧ (∀ (y1 : Int) (a : Nat → Nat → Int), (((1400 - y1) * 2) + 0).toNat ≤ n → iv a → jfr jW_X12_makes a0 a → 0 ≤ y1 → y1 ≤ 1400 → jt (jxX E d 286 2 [some (.inr (.inr (.inl 146))), some (.inl y1), none, none, none, none] [] (jxSH, a, b0)) (jQ_X12_makes a0 b0)) := by
  refine jx_ind fun n ih => ?_
  have ih33 : ∀ (y1 : Int) (a : Nat → Nat → Int), (((1400 - y1) * 2) + 1).toNat < n → iv a → jfr jW_X12_makes a0 a → 1 ≤ y1 → y1 ≤ 1400 → jt (jxX E d 286 33 [some (.inr (.inr (.inl 146))), some (.inl y1), none, none, none, none] [] (jxSH, a, b0)) (jQ_X12_makes a0 b0) := fun y1 a hlt i0 i1 i2 i3 => (ih _ hlt).1 y1 a (Nat.le_refl _) i0 i1 i2 i3
  have ih2 : ∀ (y1 : Int) (a : Nat → Nat → Int), (((1400 - y1) * 2) + 0).toNat < n → iv a → jfr jW_X12_makes a0 a → 0 ≤ y1 → y1 ≤ 1400 → jt (jxX E d 286 2 [some (.inr (.inr (.inl 146))), some (.inl y1), none, none, none, none] [] (jxSH, a, b0)) (jQ_X12_makes a0 b0) := fun y1 a hlt i0 i1 i2 i3 => (ih _ hlt).2 y1 a (Nat.le_refl _) i0 i1 i2 i3
  have hc33 : ∀ (y1 : Int) (a : Nat → Nat → Int), (((1400 - y1) * 2) + 1).toNat ≤ n → iv a → jfr jW_X12_makes a0 a → 1 ≤ y1 → y1 ≤ 1400 → jt (jxX E d 286 33 [some (.inr (.inr (.inl 146))), some (.inl y1), none, none, none, none] [] (jxSH, a, b0)) (jQ_X12_makes a0 b0) := by
    intro y1 a hm hv hf hi0 hi1
    refine jt_eq (bq_X12_makes_33 E d y1 a b0) ?_
    exact ih2 y1 a (show (((1400 - y1) * 2) + 0).toNat < n from by omega) hv hf (show 0 ≤ y1 from by omega) (show y1 ≤ 1400 from by omega)
  have hc2 : ∀ (y1 : Int) (a : Nat → Nat → Int), (((1400 - y1) * 2) + 0).toNat ≤ n → iv a → jfr jW_X12_makes a0 a → 0 ≤ y1 → y1 ≤ 1400 → jt (jxX E d 286 2 [some (.inr (.inr (.inl 146))), some (.inl y1), none, none, none, none] [] (jxSH, a, b0)) (jQ_X12_makes a0 b0) := by
    intro y1 a hm hv hf hi0 hi1
    refine jt_eq (bq_X12_makes_2 E d y1 a b0) ?_
    refine jt_ite (fun c568_ => ?_) (fun c568_ => ?_)
    ·
      refine jt_ite (fun c569_ => ?_) (fun c569_ => ?_)
      ·
        have h570_ : jxw (11200 + y1) = 11200 + y1 := jxw_id (by omega) (by omega)
        refine jt_grd (by omega) ?_
        have hv571_ : iv (jxu a 199 ((jxw (11200 + y1)).toNat) 0) := iv_putf hv rfl
        have hf572_ : jfr jW_X12_makes a0 (jxu a 199 ((jxw (11200 + y1)).toNat) 0) := jfr_put hf rfl
        have h573_ : jxw (y1 + 1) = y1 + 1 := jxw_id (by omega) (by omega)
        exact hc33 (jxw (y1 + 1)) (jxu a 199 ((jxw (11200 + y1)).toNat) 0) (show (((1400 - (jxw (y1 + 1))) * 2) + 1).toNat ≤ n from by omega) hv571_ hf572_ (show 1 ≤ jxw (y1 + 1) from by omega) (show jxw (y1 + 1) ≤ 1400 from by omega)
      ·
        have h574_ : jxw (11200 + y1) = 11200 + y1 := jxw_id (by omega) (by omega)
        refine jt_grd (by omega) ?_
        have hv575_ : iv (jxu a 199 ((jxw (11200 + y1)).toNat) 1000000) := iv_putf hv rfl
        have hf576_ : jfr jW_X12_makes a0 (jxu a 199 ((jxw (11200 + y1)).toNat) 1000000) := jfr_put hf rfl
        have h577_ : jxw (y1 + 1) = y1 + 1 := jxw_id (by omega) (by omega)
        exact hc33 (jxw (y1 + 1)) (jxu a 199 ((jxw (11200 + y1)).toNat) 1000000) (show (((1400 - (jxw (y1 + 1))) * 2) + 1).toNat ≤ n from by omega) hv575_ hf576_ (show 1 ≤ jxw (y1 + 1) from by omega) (show jxw (y1 + 1) ≤ 1400 from by omega)
    ·
      exact (cp_X12_makes_39 E d hd a0 b0 hv0 hp0 _).2.2.2.2.2 7 a (Nat.le_refl _) hv hf (show 0 - 1 ≤ 7 from by omega) (show 7 ≤ 7 from by omega)
  exact ⟨hc33, hc2⟩
theorem sp_X12_makes (E : jxE) (d : Nat) (hd : Nat.ble 1 d = true) (a0 b0 : Nat → Nat → Int) (hv0 : iv a0) (hp0 : SV a0) : jt (jxC E d 286 [.inr (.inr (.inl 146))] (jxSH, a0, b0)) (jQ_X12_makes a0 b0) := by
  obtain ⟨d, rfl⟩ := jd_succ hd
  refine jt_eq (bq_X12_makes E d a0 b0) ?_
  exact (cp_X12_makes_2 E d hd a0 b0 hv0 hp0 _).2 0 a0 (Nat.le_refl _) hv0 (jfr_rf _ _) (show 0 ≤ 0 from by omega) (show 0 ≤ 1400 from by omega)
def jW_X12_may : List (Nat × Nat) := [(170, 9999)]
abbrev jQ_X12_may (x1 x2 : Int) (a0 b0 : Nat → Nat → Int) : List jxV → (Nat → Nat → Int) → (Nat → Nat → Int) → Prop := rI (fun r a b => (iv a) ∧ (jfr jW_X12_may a0 a) ∧ (b0 = b) ∧ ((a0 146 2 = 0 → r = 0 - 1)) ∧ (0 ≤ x1 → x1 < a0 146 2 → 0 ≤ x2 → x2 < a0 146 2 → r = MGR a0 b0 x1 x2) ∧ (((((x1 < 0 ∨ a0 146 2 ≤ x1) ∨ x2 < 0) ∨ a0 146 2 ≤ x2) → r = 0 - 1)))
theorem sp_X12_may (E : jxE) (d : Nat) (hd : Nat.ble 8 d = true) (x1 x2 : Int) (a0 b0 : Nat → Nat → Int) (hv0 : iv a0) (hp0 : WFW a0) (hp1 : WISHR a0) : jt (jxC E d 249 [.inr (.inr (.inl 146)), .inl x1, .inl x2] (jxSH, a0, b0)) (jQ_X12_may x1 x2 a0 b0) := by
  obtain ⟨d, rfl⟩ := jd_succ hd
  refine jt_eq (bq_X12_may E d x1 x2 a0 b0) ?_
  refine jt_eI (eq_X12_isMember E d (jd_le hd rfl) x1 a0 b0) ?_
  have h578_ := f_X12_isMember_eq a0 b0 x1
  have h579_ := iv_get hv0 (k := 146) (j := 2) (l := 0) (u := 40) rfl
  have h580_ : jxw ((a0 146 2) - 1) = (a0 146 2) - 1 := jxw_id (by omega) (by omega)
  have h581_ := f_X12_in_eq a0 b0 x1 0 (jxw ((a0 146 2) - 1))
  refine jt_ite (fun c582_ => ?_) (fun c582_ => ?_)
  ·
    exact jt_rI ⟨hv0, (jfr_rf _ _), rfl, (show (a0 146 2 = 0 → (-1) = 0 - 1) from by omega), (fun h1 h2 h3 h4 => absurd (by omega : False) id), (show ((((x1 < 0 ∨ a0 146 2 ≤ x1) ∨ x2 < 0) ∨ a0 146 2 ≤ x2) → (-1) = 0 - 1) from by omega)⟩
  ·
    refine jt_eI (eq_X12_isMember E d (jd_le hd rfl) x2 a0 b0) ?_
    have h583_ := f_X12_isMember_eq a0 b0 x2
    have h584_ := f_X12_in_eq a0 b0 x2 0 (jxw ((a0 146 2) - 1))
    refine jt_ite (fun c585_ => ?_) (fun c585_ => ?_)
    ·
      exact jt_rI ⟨hv0, (jfr_rf _ _), rfl, (show (a0 146 2 = 0 → (-1) = 0 - 1) from by omega), (fun h1 h2 h3 h4 => absurd (by omega : False) id), (show ((((x1 < 0 ∨ a0 146 2 ≤ x1) ∨ x2 < 0) ∨ a0 146 2 ≤ x2) → (-1) = 0 - 1) from by omega)⟩
    ·
      refine jt_bI (sp_X12_mayGet E d (jd_le hd rfl) x1 x2 a0 b0 hv0 (show (0 ≤ x1 ∧ x1 ≤ 39) from by omega) (show (0 ≤ x2 ∧ x2 ≤ 39) from by omega) hp0 hp1) (fun r586_ a586_ b586_ h586_ => ?_)
      obtain ⟨hv586_, hf586_, rfl, hq586_0, hq586_1⟩ := h586_
      refine jt_ite (fun c587_ => ?_) (fun c587_ => ?_)
      ·
        have hf588_ : jfr jW_X12_may a0 a586_ := jfr_tr (jfr_rf _ _) hf586_ rfl
        exact jt_rI ⟨hv586_, hf588_, rfl, (show (a0 146 2 = 0 → 0 = 0 - 1) from by omega), (fun _ _ _ _ => by have q := hq586_1; omega), (show ((((x1 < 0 ∨ a0 146 2 ≤ x1) ∨ x2 < 0) ∨ a0 146 2 ≤ x2) → 0 = 0 - 1) from by omega)⟩
      ·
        have hf589_ : jfr jW_X12_may a0 a586_ := jfr_tr (jfr_rf _ _) hf586_ rfl
        exact jt_rI ⟨hv586_, hf589_, rfl, (show (a0 146 2 = 0 → 1 = 0 - 1) from by omega), (fun _ _ _ _ => by have q := hq586_1; omega), (show ((((x1 < 0 ∨ a0 146 2 ≤ x1) ∨ x2 < 0) ∨ a0 146 2 ≤ x2) → 1 = 0 - 1) from by omega)⟩
def jW_X12_meets : List (Nat × Nat) := [(170, 9999)]
abbrev jQ_X12_meets (x1 x2 : Int) (a0 b0 : Nat → Nat → Int) : List jxV → (Nat → Nat → Int) → (Nat → Nat → Int) → Prop := rI (fun r a b => (iv a) ∧ (jfr jW_X12_meets a0 a) ∧ (b0 = b) ∧ ((a0 146 2 = 0 → r = 0 - 1)) ∧ (0 ≤ x1 → x1 < a0 146 2 → 0 ≤ x2 → x2 < a0 146 2 → ¬ x1 = x2 → r = METR a0 b0 x1 x2) ∧ ((((((x1 < 0 ∨ a0 146 2 ≤ x1) ∨ x2 < 0) ∨ a0 146 2 ≤ x2) ∨ x1 = x2) → r = 0 - 1)))
theorem cp_X12_meets_34 (E : jxE) (d : Nat) (hd : Nat.ble 3 (d + 1) = true) (x1 x2 : Int) (a0 b0 : Nat → Nat → Int) (hv0 : iv a0) (hp0 : WFW a0) (hp1 : WISHR a0) : ∀ (a : Nat → Nat → Int), iv a → jfr jW_X12_meets a0 a → ((((0 ≤ x1 ∧ x1 < a 146 2) ∧ 0 ≤ x2) ∧ x2 < a 146 2) ∧ ¬ x1 = x2) → (METR a0 b0 x1 x2 = 1) → 1 ≤ a0 146 2 → jt (jxX E d 228 34 [none, none, none] [] (jxSH, a, b0)) (jQ_X12_meets x1 x2 a0 b0) := by
  intro a hv hf hi0 hmx hi2
  refine jt_eq (bq_X12_meets_34 E d a b0) ?_
  have h590_ := iv_get hv (k := 146) (j := 2) (l := 0) (u := 40) rfl
  have h591_ : a 146 2 = a0 146 2 := hf 146 2 rfl
  have h592_ := iv_get hv0 (k := 146) (j := 2) (l := 0) (u := 40) rfl
  exact jt_rI ⟨hv, hf, rfl, (show (a0 146 2 = 0 → 1 = 0 - 1) from by omega), (fun _ _ _ _ _ => hmx.symm), (show (((((x1 < 0 ∨ a0 146 2 ≤ x1) ∨ x2 < 0) ∨ a0 146 2 ≤ x2) ∨ x1 = x2) → 1 = 0 - 1) from by omega)⟩
theorem cp_X12_meets_38 (E : jxE) (d : Nat) (hd : Nat.ble 3 (d + 1) = true) (x1 x2 : Int) (a0 b0 : Nat → Nat → Int) (hv0 : iv a0) (hp0 : WFW a0) (hp1 : WISHR a0) : ∀ (a : Nat → Nat → Int), iv a → jfr jW_X12_meets a0 a → ((((0 ≤ x1 ∧ x1 < a 146 2) ∧ 0 ≤ x2) ∧ x2 < a 146 2) ∧ ¬ x1 = x2) → (METR a0 b0 x1 x2 = 0) → 1 ≤ a0 146 2 → jt (jxX E d 228 38 [none, none, none] [] (jxSH, a, b0)) (jQ_X12_meets x1 x2 a0 b0) := by
  intro a hv hf hi0 hmx hi2
  refine jt_eq (bq_X12_meets_38 E d a b0) ?_
  have h593_ := iv_get hv (k := 146) (j := 2) (l := 0) (u := 40) rfl
  have h594_ : a 146 2 = a0 146 2 := hf 146 2 rfl
  have h595_ := iv_get hv0 (k := 146) (j := 2) (l := 0) (u := 40) rfl
  exact jt_rI ⟨hv, hf, rfl, (show (a0 146 2 = 0 → 0 = 0 - 1) from by omega), (fun _ _ _ _ _ => hmx.symm), (show (((((x1 < 0 ∨ a0 146 2 ≤ x1) ∨ x2 < 0) ∨ a0 146 2 ≤ x2) ∨ x1 = x2) → 0 = 0 - 1) from by omega)⟩
theorem sp_X12_meets (E : jxE) (d : Nat) (hd : Nat.ble 3 d = true) (x1 x2 : Int) (a0 b0 : Nat → Nat → Int) (hv0 : iv a0) (hp0 : WFW a0) (hp1 : WISHR a0) : jt (jxC E d 228 [.inr (.inr (.inl 146)), .inl x1, .inl x2] (jxSH, a0, b0)) (jQ_X12_meets x1 x2 a0 b0) := by
  obtain ⟨d, rfl⟩ := jd_succ hd
  refine jt_eq (bq_X12_meets E d x1 x2 a0 b0) ?_
  refine jt_eI (eq_X12_isMember E d (jd_le hd rfl) x1 a0 b0) ?_
  have h596_ := f_X12_isMember_eq a0 b0 x1
  have h597_ := iv_get hv0 (k := 146) (j := 2) (l := 0) (u := 40) rfl
  have h598_ : jxw ((a0 146 2) - 1) = (a0 146 2) - 1 := jxw_id (by omega) (by omega)
  have h599_ := f_X12_in_eq a0 b0 x1 0 (jxw ((a0 146 2) - 1))
  refine jt_ite (fun c600_ => ?_) (fun c600_ => ?_)
  ·
    exact jt_rI ⟨hv0, (jfr_rf _ _), rfl, (show (a0 146 2 = 0 → (-1) = 0 - 1) from by omega), (fun h1 h2 h3 h4 h5 => by omega), (show (((((x1 < 0 ∨ a0 146 2 ≤ x1) ∨ x2 < 0) ∨ a0 146 2 ≤ x2) ∨ x1 = x2) → (-1) = 0 - 1) from by omega)⟩
  ·
    refine jt_eI (eq_X12_isMember E d (jd_le hd rfl) x2 a0 b0) ?_
    have h601_ := f_X12_isMember_eq a0 b0 x2
    have h602_ := f_X12_in_eq a0 b0 x2 0 (jxw ((a0 146 2) - 1))
    refine jt_ite (fun c603_ => ?_) (fun c603_ => ?_)
    ·
      exact jt_rI ⟨hv0, (jfr_rf _ _), rfl, (show (a0 146 2 = 0 → (-1) = 0 - 1) from by omega), (fun h1 h2 h3 h4 h5 => by omega), (show (((((x1 < 0 ∨ a0 146 2 ≤ x1) ∨ x2 < 0) ∨ a0 146 2 ≤ x2) ∨ x1 = x2) → (-1) = 0 - 1) from by omega)⟩
    ·
      refine jt_ite (fun c604_ => ?_) (fun c604_ => ?_)
      ·
        exact jt_rI ⟨hv0, (jfr_rf _ _), rfl, (show (a0 146 2 = 0 → (-1) = 0 - 1) from by omega), (fun h1 h2 h3 h4 h5 => by omega), (show (((((x1 < 0 ∨ a0 146 2 ≤ x1) ∨ x2 < 0) ∨ a0 146 2 ≤ x2) ∨ x1 = x2) → (-1) = 0 - 1) from by omega)⟩
      ·
        refine jt_bI (sp_X12_isMet E d (jd_le hd rfl) x1 x2 a0 b0 hv0 (show (0 ≤ x1 ∧ x1 ≤ 39) from by omega) (show (0 ≤ x2 ∧ x2 ≤ 39) from by omega) hp0 hp1) (fun r605_ a605_ b605_ h605_ => ?_)
        obtain ⟨hv605_, hf605_, rfl, hq605_0, hq605_1⟩ := h605_
        refine jt_ite (fun c606_ => ?_) (fun c606_ => ?_)
        ·
          have hf607_ : jfr jW_X12_meets a0 a605_ := jfr_tr (jfr_rf _ _) hf605_ rfl
          have h608_ := iv_get hv605_ (k := 146) (j := 2) (l := 0) (u := 40) rfl
          have h609_ : a605_ 146 2 = a0 146 2 := hf605_ 146 2 rfl
          exact cp_X12_meets_38 E d hd x1 x2 a0 b0 hv0 hp0 hp1 a605_ hv605_ hf607_ (show ((((0 ≤ x1 ∧ x1 < a605_ 146 2) ∧ 0 ≤ x2) ∧ x2 < a605_ 146 2) ∧ ¬ x1 = x2) from by omega) (by have q := hq605_1; omega) (show 1 ≤ a0 146 2 from by omega)
        ·
          have hf610_ : jfr jW_X12_meets a0 a605_ := jfr_tr (jfr_rf _ _) hf605_ rfl
          have h611_ := iv_get hv605_ (k := 146) (j := 2) (l := 0) (u := 40) rfl
          have h612_ : a605_ 146 2 = a0 146 2 := hf605_ 146 2 rfl
          exact cp_X12_meets_34 E d hd x1 x2 a0 b0 hv0 hp0 hp1 a605_ hv605_ hf610_ (show ((((0 ≤ x1 ∧ x1 < a605_ 146 2) ∧ 0 ≤ x2) ∧ x2 < a605_ 146 2) ∧ ¬ x1 = x2) from by omega) (by have q := hq605_1; omega) (show 1 ≤ a0 146 2 from by omega)
def jW_X12_offer : List (Nat × Nat) := [(146, 49), (178, 9999), (179, 9999), (180, 9999), (182, 9999)]
abbrev jQ_X12_offer (x1 x2 x3 : Int) (a0 b0 : Nat → Nat → Int) : List jxV → (Nat → Nat → Int) → (Nat → Nat → Int) → Prop := rI (fun r a b => (iv a) ∧ (jfr jW_X12_offer a0 a) ∧ (b0 = b) ∧ (OC a) ∧ (FO a) ∧ (FW a) ∧ ((a0 146 2 = 0 → r = 0 - 1)) ∧ (((((((((0 ≤ x1 ∧ x1 < a0 146 2) ∧ ¬ a0 152 (x1.toNat) = 0) ∧ 0 ≤ x2) ∧ x2 ≤ 31) ∧ a0 146 49 < 20) ∧ r = a0 146 49) ∧ a 146 49 = (a0 146 49) + 1) ∨ (((((((x1 < 0 ∨ a0 146 2 ≤ x1) ∨ a0 152 (x1.toNat) = 0) ∨ x2 < 0) ∨ 31 < x2) ∨ 20 ≤ a0 146 49) ∧ r = 0 - 1) ∧ a 146 49 = a0 146 49))))
theorem cp_X12_offer_36 (E : jxE) (d : Nat) (hd : Nat.ble 3 (d + 1) = true) (x1 x2 x3 : Int) (a0 b0 : Nat → Nat → Int) (hv0 : iv a0) (hp0 : OC a0) (hp1 : FO a0) (hp2 : FW a0) : ∀ (a : Nat → Nat → Int), iv a → jfr jW_X12_offer a0 a → (((((x1 < 0 ∨ a0 146 2 ≤ x1) ∨ a0 152 (x1.toNat) = 0) ∨ x2 < 0) ∨ 31 < x2) ∨ 20 ≤ a0 146 49) → a 146 49 = a0 146 49 → (OC a) → (FO a) → (FW a) → jt (jxX E d 262 36 [none, none, none, none] [] (jxSH, a, b0)) (jQ_X12_offer x1 x2 x3 a0 b0) := by
  intro a hv hf hi0 hi1 hi2 hi3 hi4
  refine jt_eq (bq_X12_offer_36 E d a b0) ?_
  have h613_ := iv_get hv0 (k := 146) (j := 2) (l := 0) (u := 40) rfl
  have h614_ := iv_get hv0 (k := 152) (j := x1.toNat) (l := 0) (u := 1) rfl
  have h615_ := iv_get hv0 (k := 146) (j := 49) (l := 0) (u := 20) rfl
  have h616_ := iv_get hv (k := 146) (j := 49) (l := 0) (u := 20) rfl
  exact jt_rI ⟨hv, hf, rfl, hi2, hi3, hi4, (show (a0 146 2 = 0 → (-1) = 0 - 1) from by omega), (show ((((((((0 ≤ x1 ∧ x1 < a0 146 2) ∧ ¬ a0 152 (x1.toNat) = 0) ∧ 0 ≤ x2) ∧ x2 ≤ 31) ∧ a0 146 49 < 20) ∧ (-1) = a0 146 49) ∧ a 146 49 = (a0 146 49) + 1) ∨ (((((((x1 < 0 ∨ a0 146 2 ≤ x1) ∨ a0 152 (x1.toNat) = 0) ∨ x2 < 0) ∨ 31 < x2) ∨ 20 ≤ a0 146 49) ∧ (-1) = 0 - 1) ∧ a 146 49 = a0 146 49)) from by omega)⟩
theorem cp_X12_offer_68 (E : jxE) (d : Nat) (hd : Nat.ble 3 (d + 1) = true) (x1 x2 x3 : Int) (a0 b0 : Nat → Nat → Int) (hv0 : iv a0) (hp0 : OC a0) (hp1 : FO a0) (hp2 : FW a0) : ∀ (a : Nat → Nat → Int), iv a → jfr jW_X12_offer a0 a → a 146 49 ≤ 19 → 1 ≤ a0 146 2 → (((((0 ≤ x1 ∧ x1 < a0 146 2) ∧ ¬ a0 152 (x1.toNat) = 0) ∧ 0 ≤ x2) ∧ x2 ≤ 31) ∧ a0 146 49 < 20) → a 146 49 = a0 146 49 → (OC a) → (FO a) → (FW a) → jt (jxX E d 262 68 [some (.inr (.inr (.inl 146))), none, none, none] [] (jxSH, a, b0)) (jQ_X12_offer x1 x2 x3 a0 b0) := by
  intro a hv hf hi0 hi1 hi2 hi3 hi4 hi5 hi6
  refine jt_eq (bq_X12_offer_68 E d a b0) ?_
  have h617_ := iv_get hv (k := 146) (j := 49) (l := 0) (u := 20) rfl
  have h618_ := iv_get hv0 (k := 146) (j := 2) (l := 0) (u := 40) rfl
  have h619_ := iv_get hv0 (k := 152) (j := x1.toNat) (l := 0) (u := 1) rfl
  have h620_ := iv_get hv0 (k := 146) (j := 49) (l := 0) (u := 20) rfl
  refine jt_grd (by omega) ?_
  have hv621_ : iv (jxu a 182 ((a 146 49).toNat) (-1)) := iv_putf hv rfl
  have h623_ : jxw ((a 146 49) + 1) = (a 146 49) + 1 := jxw_id (by omega) (by omega)
  have hv622_ : iv (jxu (jxu a 182 ((a 146 49).toNat) (-1)) 146 49 (jxw ((a 146 49) + 1))) := iv_put hv621_ (l := 0) (u := 20) rfl (by omega) (by omega)
  have hf624_ : jfr jW_X12_offer a0 (jxu a 182 ((a 146 49).toNat) (-1)) := jfr_put hf rfl
  have hf625_ : jfr jW_X12_offer a0 (jxu (jxu a 182 ((a 146 49).toNat) (-1)) 146 49 (jxw ((a 146 49) + 1))) := jfr_put hf624_ rfl
  have hg626_ : OC (jxu a 182 ((a 146 49).toNat) (-1)) := (OC_putx hi4 (by decide) (show a 146 49 ≤ ((((a 146 49).toNat) : Nat) : Int) from by omega))
  have hg627_ : OC (jxu (jxu a 182 ((a 146 49).toNat) (-1)) 146 49 (jxw ((a 146 49) + 1))) := (OC_put49 hg626_ (show 0 ≤ a 146 49 from by omega) (show jxw ((a 146 49) + 1) = a 146 49 + 1 from by omega))
  have hg628_ : FO (jxu a 182 ((a 146 49).toNat) (-1)) := (FO_fr hi5 (jfr_1 a 182 ((a 146 49).toNat) (-1)) rfl rfl (fun _ => rfl))
  have hg629_ : FO (jxu (jxu a 182 ((a 146 49).toNat) (-1)) 146 49 (jxw ((a 146 49) + 1))) := (FO_put49 hg628_ (show a 146 49 ≤ jxw ((a 146 49) + 1) from by omega))
  have hg630_ : FW (jxu a 182 ((a 146 49).toNat) (-1)) := (FW_fr hi6 (jfr_1 a 182 ((a 146 49).toNat) (-1)) rfl (fun _ => rfl))
  have hg631_ : FW (jxu (jxu a 182 ((a 146 49).toNat) (-1)) 146 49 (jxw ((a 146 49) + 1))) := (FW_put49 hg630_ (show a 146 49 ≤ jxw ((a 146 49) + 1) from by omega))
  have h632_ : jxw ((jxw ((a 146 49) + 1)) - 1) = (jxw ((a 146 49) + 1)) - 1 := jxw_id (by omega) (by omega)
  exact jt_rI ⟨hv622_, hf625_, rfl, hg627_, hg629_, hg631_, (show (a0 146 2 = 0 → jxw ((jxw ((a 146 49) + 1)) - 1) = 0 - 1) from by omega), (show ((((((((0 ≤ x1 ∧ x1 < a0 146 2) ∧ ¬ a0 152 (x1.toNat) = 0) ∧ 0 ≤ x2) ∧ x2 ≤ 31) ∧ a0 146 49 < 20) ∧ jxw ((jxw ((a 146 49) + 1)) - 1) = a0 146 49) ∧ jxw ((a 146 49) + 1) = (a0 146 49) + 1) ∨ (((((((x1 < 0 ∨ a0 146 2 ≤ x1) ∨ a0 152 (x1.toNat) = 0) ∨ x2 < 0) ∨ 31 < x2) ∨ 20 ≤ a0 146 49) ∧ jxw ((jxw ((a 146 49) + 1)) - 1) = 0 - 1) ∧ jxw ((a 146 49) + 1) = a0 146 49)) from by omega)⟩
theorem cp_X12_offer_38 (E : jxE) (d : Nat) (hd : Nat.ble 3 (d + 1) = true) (x1 x2 x3 : Int) (a0 b0 : Nat → Nat → Int) (hv0 : iv a0) (hp0 : OC a0) (hp1 : FO a0) (hp2 : FW a0) : ∀ (y1 y2 y3 : Int) (a : Nat → Nat → Int), iv a → jfr jW_X12_offer a0 a → 0 ≤ y1 → y1 ≤ 39 → 0 ≤ y2 → y2 ≤ 31 → a 146 49 ≤ 19 → 1 ≤ a0 146 2 → (((((0 ≤ x1 ∧ x1 < a0 146 2) ∧ ¬ a0 152 (x1.toNat) = 0) ∧ 0 ≤ x2) ∧ x2 ≤ 31) ∧ a0 146 49 < 20) → a 146 49 = a0 146 49 → (OC a) → (FO a) → (FW a) → jt (jxX E d 262 38 [some (.inr (.inr (.inl 146))), some (.inl y1), some (.inl y2), some (.inl y3)] [] (jxSH, a, b0)) (jQ_X12_offer x1 x2 x3 a0 b0) := by
  intro y1 y2 y3 a hv hf hi0 hi1 hi2 hi3 hi4 hi5 hi6 hi7 hi8 hi9 hi10
  refine jt_eq (bq_X12_offer_38 E d y1 y2 y3 a b0) ?_
  have h633_ := iv_get hv (k := 146) (j := 49) (l := 0) (u := 20) rfl
  have h634_ := iv_get hv0 (k := 146) (j := 2) (l := 0) (u := 40) rfl
  have h635_ := iv_get hv0 (k := 152) (j := x1.toNat) (l := 0) (u := 1) rfl
  have h636_ := iv_get hv0 (k := 146) (j := 49) (l := 0) (u := 20) rfl
  refine jt_grd (by omega) ?_
  refine jt_grd (by omega) ?_
  refine jt_grd (by omega) ?_
  have hv637_ : iv (jxu a 178 ((a 146 49).toNat) y1) := iv_put hv (l := 0) (u := 39) rfl (by omega) (by omega)
  have hv638_ : iv (jxu (jxu a 178 ((a 146 49).toNat) y1) 179 ((a 146 49).toNat) y2) := iv_put hv637_ (l := 0) (u := 31) rfl (by omega) (by omega)
  have hv639_ : iv (jxu (jxu (jxu a 178 ((a 146 49).toNat) y1) 179 ((a 146 49).toNat) y2) 180 ((a 146 49).toNat) y3) := iv_putf hv638_ rfl
  have hf640_ : jfr jW_X12_offer a0 (jxu a 178 ((a 146 49).toNat) y1) := jfr_put hf rfl
  have hf641_ : jfr jW_X12_offer a0 (jxu (jxu a 178 ((a 146 49).toNat) y1) 179 ((a 146 49).toNat) y2) := jfr_put hf640_ rfl
  have hf642_ : jfr jW_X12_offer a0 (jxu (jxu (jxu a 178 ((a 146 49).toNat) y1) 179 ((a 146 49).toNat) y2) 180 ((a 146 49).toNat) y3) := jfr_put hf641_ rfl
  have hg643_ : OC (jxu a 178 ((a 146 49).toNat) y1) := (OC_putx hi8 (by decide) (show a 146 49 ≤ ((((a 146 49).toNat) : Nat) : Int) from by omega))
  have hg644_ : OC (jxu (jxu a 178 ((a 146 49).toNat) y1) 179 ((a 146 49).toNat) y2) := (OC_fr hg643_ (jfr_1 (jxu a 178 ((a 146 49).toNat) y1) 179 ((a 146 49).toNat) y2) rfl rfl (fun _ => rfl) (fun _ => rfl) (fun _ => rfl) (fun _ => rfl) (fun _ => rfl))
  have hg645_ : OC (jxu (jxu (jxu a 178 ((a 146 49).toNat) y1) 179 ((a 146 49).toNat) y2) 180 ((a 146 49).toNat) y3) := (OC_fr hg644_ (jfr_1 (jxu (jxu a 178 ((a 146 49).toNat) y1) 179 ((a 146 49).toNat) y2) 180 ((a 146 49).toNat) y3) rfl rfl (fun _ => rfl) (fun _ => rfl) (fun _ => rfl) (fun _ => rfl) (fun _ => rfl))
  have hg646_ : FO (jxu a 178 ((a 146 49).toNat) y1) := (FO_fr hi9 (jfr_1 a 178 ((a 146 49).toNat) y1) rfl rfl (fun _ => rfl))
  have hg647_ : FO (jxu (jxu a 178 ((a 146 49).toNat) y1) 179 ((a 146 49).toNat) y2) := (FO_fr hg646_ (jfr_1 (jxu a 178 ((a 146 49).toNat) y1) 179 ((a 146 49).toNat) y2) rfl rfl (fun _ => rfl))
  have hg648_ : FO (jxu (jxu (jxu a 178 ((a 146 49).toNat) y1) 179 ((a 146 49).toNat) y2) 180 ((a 146 49).toNat) y3) := (FO_fr hg647_ (jfr_1 (jxu (jxu a 178 ((a 146 49).toNat) y1) 179 ((a 146 49).toNat) y2) 180 ((a 146 49).toNat) y3) rfl rfl (fun _ => rfl))
  have hg649_ : FW (jxu a 178 ((a 146 49).toNat) y1) := (FW_fr hi10 (jfr_1 a 178 ((a 146 49).toNat) y1) rfl (fun _ => rfl))
  have hg650_ : FW (jxu (jxu a 178 ((a 146 49).toNat) y1) 179 ((a 146 49).toNat) y2) := (FW_fr hg649_ (jfr_1 (jxu a 178 ((a 146 49).toNat) y1) 179 ((a 146 49).toNat) y2) rfl (fun _ => rfl))
  have hg651_ : FW (jxu (jxu (jxu a 178 ((a 146 49).toNat) y1) 179 ((a 146 49).toNat) y2) 180 ((a 146 49).toNat) y3) := (FW_fr hg650_ (jfr_1 (jxu (jxu a 178 ((a 146 49).toNat) y1) 179 ((a 146 49).toNat) y2) 180 ((a 146 49).toNat) y3) rfl (fun _ => rfl))
  exact cp_X12_offer_68 E d hd x1 x2 x3 a0 b0 hv0 hp0 hp1 hp2 (jxu (jxu (jxu a 178 ((a 146 49).toNat) y1) 179 ((a 146 49).toNat) y2) 180 ((a 146 49).toNat) y3) hv639_ hf642_ (show a 146 49 ≤ 19 from by omega) (show 1 ≤ a0 146 2 from by omega) (show (((((0 ≤ x1 ∧ x1 < a0 146 2) ∧ ¬ a0 152 (x1.toNat) = 0) ∧ 0 ≤ x2) ∧ x2 ≤ 31) ∧ a0 146 49 < 20) from by omega) (show a 146 49 = a0 146 49 from by omega) hg645_ hg648_ hg651_
theorem sp_X12_offer (E : jxE) (d : Nat) (hd : Nat.ble 3 d = true) (x1 x2 x3 : Int) (a0 b0 : Nat → Nat → Int) (hv0 : iv a0) (hp0 : OC a0) (hp1 : FO a0) (hp2 : FW a0) : jt (jxC E d 262 [.inr (.inr (.inl 146)), .inl x1, .inl x2, .inl x3] (jxSH, a0, b0)) (jQ_X12_offer x1 x2 x3 a0 b0) := by
  obtain ⟨d, rfl⟩ := jd_succ hd
  refine jt_eq (bq_X12_offer E d x1 x2 x3 a0 b0) ?_
  have h652_ := iv_get hv0 (k := 146) (j := 49) (l := 0) (u := 20) rfl
  refine jt_ite (fun c653_ => ?_) (fun c653_ => ?_)
  ·
    have h654_ := iv_get hv0 (k := 146) (j := 2) (l := 0) (u := 40) rfl
    have h655_ := iv_get hv0 (k := 152) (j := x1.toNat) (l := 0) (u := 1) rfl
    exact cp_X12_offer_36 E d hd x1 x2 x3 a0 b0 hv0 hp0 hp1 hp2 a0 hv0 (jfr_rf _ _) (show (((((x1 < 0 ∨ a0 146 2 ≤ x1) ∨ a0 152 (x1.toNat) = 0) ∨ x2 < 0) ∨ 31 < x2) ∨ 20 ≤ a0 146 49) from by omega) (show a0 146 49 = a0 146 49 from by omega) hp0 hp1 hp2
  ·
    refine jt_eI (eq_X12_isMember E d (jd_le hd rfl) x1 a0 b0) ?_
    have h656_ := f_X12_isMember_eq a0 b0 x1
    have h657_ := iv_get hv0 (k := 146) (j := 2) (l := 0) (u := 40) rfl
    have h658_ : jxw ((a0 146 2) - 1) = (a0 146 2) - 1 := jxw_id (by omega) (by omega)
    have h659_ := f_X12_in_eq a0 b0 x1 0 (jxw ((a0 146 2) - 1))
    refine jt_ite (fun c660_ => ?_) (fun c660_ => ?_)
    ·
      have h661_ := iv_get hv0 (k := 152) (j := x1.toNat) (l := 0) (u := 1) rfl
      exact cp_X12_offer_36 E d hd x1 x2 x3 a0 b0 hv0 hp0 hp1 hp2 a0 hv0 (jfr_rf _ _) (show (((((x1 < 0 ∨ a0 146 2 ≤ x1) ∨ a0 152 (x1.toNat) = 0) ∨ x2 < 0) ∨ 31 < x2) ∨ 20 ≤ a0 146 49) from by omega) (show a0 146 49 = a0 146 49 from by omega) hp0 hp1 hp2
    ·
      refine jt_grd (by omega) ?_
      have h662_ := iv_get hv0 (k := 152) (j := x1.toNat) (l := 0) (u := 1) rfl
      refine jt_ite (fun c663_ => ?_) (fun c663_ => ?_)
      ·
        exact cp_X12_offer_36 E d hd x1 x2 x3 a0 b0 hv0 hp0 hp1 hp2 a0 hv0 (jfr_rf _ _) (show (((((x1 < 0 ∨ a0 146 2 ≤ x1) ∨ a0 152 (x1.toNat) = 0) ∨ x2 < 0) ∨ 31 < x2) ∨ 20 ≤ a0 146 49) from by omega) (show a0 146 49 = a0 146 49 from by omega) hp0 hp1 hp2
      ·
        refine jt_eI (eq_X12_in E d (jd_le hd rfl) x2 0 31 a0 b0) ?_
        have h664_ := f_X12_in_eq a0 b0 x2 0 31
        refine jt_ite (fun c665_ => ?_) (fun c665_ => ?_)
        ·
          exact cp_X12_offer_36 E d hd x1 x2 x3 a0 b0 hv0 hp0 hp1 hp2 a0 hv0 (jfr_rf _ _) (show (((((x1 < 0 ∨ a0 146 2 ≤ x1) ∨ a0 152 (x1.toNat) = 0) ∨ x2 < 0) ∨ 31 < x2) ∨ 20 ≤ a0 146 49) from by omega) (show a0 146 49 = a0 146 49 from by omega) hp0 hp1 hp2
        ·
          exact cp_X12_offer_38 E d hd x1 x2 x3 a0 b0 hv0 hp0 hp1 hp2 x1 x2 x3 a0 hv0 (jfr_rf _ _) (show 0 ≤ x1 from by omega) (show x1 ≤ 39 from by omega) (show 0 ≤ x2 from by omega) (show x2 ≤ 31 from by omega) (show a0 146 49 ≤ 19 from by omega) (show 1 ≤ a0 146 2 from by omega) (show (((((0 ≤ x1 ∧ x1 < a0 146 2) ∧ ¬ a0 152 (x1.toNat) = 0) ∧ 0 ≤ x2) ∧ x2 ≤ 31) ∧ a0 146 49 < 20) from by omega) (show a0 146 49 = a0 146 49 from by omega) hp0 hp1 hp2
def jW_X12_pay : List (Nat × Nat) := [(146, 75), (197, 9999), (198, 9999), (199, 9999)]
abbrev jQ_X12_pay (x1 x2 : Int) (a0 b0 : Nat → Nat → Int) : List jxV → (Nat → Nat → Int) → (Nat → Nat → Int) → Prop := rI (fun r a b => (iv a) ∧ (jfr jW_X12_pay a0 a) ∧ (b0 = b) ∧ (SV a) ∧ ((a0 146 9 = 0 → r = 0 - 1)))
theorem cp_X12_pay_118 (E : jxE) (d : Nat) (hd : Nat.ble 2 (d + 1) = true) (x1 x2 : Int) (a0 b0 : Nat → Nat → Int) (hv0 : iv a0) (hp0 : SV a0) : ∀ n : Nat, (∀ (y4 y5 y6 y7 : Int) (a : Nat → Nat → Int), (((((8 - y6) * 53) + 0) + ((y7 + 0) * 1)) + 0).toNat ≤ n → iv a → jfr jW_X12_pay a0 a → 0 ≤ y4 → y4 ≤ 1399 → 0 ≤ y5 → y5 ≤ 1399 → 0 ≤ y6 → y6 ≤ 7 → 1 ≤ y7 → y7 ≤ 50 → 0 ≤ y5 → y5 ≤ 1399 → 0 ≤ y7 → y7 ≤ a 197 (y6.toNat) → 1 ≤ y7 → (SV a) → 1 ≤ a0 146 9 → jt (jxX E d 287 201 [some (.inr (.inr (.inl 146))), none, none, none, some (.inl y4), some (.inl y5), some (.inl y6), some (.inl y7)] [] (jxSH, a, b0)) (jQ_X12_pay x1 x2 a0 b0)) ∧ (∀ (y4 y5 y6 : Int) (a : Nat → Nat → Int), (((8 - y6) * 53) + 0).toNat ≤ n → iv a → jfr jW_X12_pay a0 a → 0 ≤ y4 → y4 ≤ 1399 → 0 ≤ y5 → y5 ≤ 1399 → 0 ≤ y6 → y6 ≤ 7 → 0 ≤ y5 → y5 ≤ 1399 → (SV a) → 1 ≤ a0 146 9 → jt (jxX E d 287 243 [some (.inr (.inr (.inl 146))), none, none, none, some (.inl y4), some (.inl y5), some (.inl y6), none] [] (jxSH, a, b0)) (jQ_X12_pay x1 x2 a0 b0)) ∧ (∀ (y4 y5 y6 y7 : Int) (a : Nat → Nat → Int), (((8 - y6) * 53) + 0).toNat ≤ n → iv a → jfr jW_X12_pay a0 a → 0 ≤ y4 → y4 ≤ 1399 → 0 ≤ y5 → y5 ≤ 1399 → 0 ≤ y6 → y6 ≤ 7 → 0 ≤ y7 → y7 ≤ 50 → 0 ≤ y5 → y5 ≤ 1399 → 0 ≤ y7 → y7 ≤ a 197 (y6.toNat) → y7 * (a 196 (y6.toNat)) ≤ y5 → (SV a) → 1 ≤ a0 146 9 → jt (jxX E d 287 207 [some (.inr (.inr (.inl 146))), none, none, none, some (.inl y4), some (.inl y5), some (.inl y6), some (.inl y7)] [] (jxSH, a, b0)) (jQ_X12_pay x1 x2 a0 b0)) ∧ (∀ (y4 y5 y6 y7 : Int) (a : Nat → Nat → Int), (((((8 - y6) * 53) + 0) + ((y7 + 0) * 1)) + 0).toNat ≤ n → iv a → jfr jW_X12_pay a0 a → 0 ≤ y4 → y4 ≤ 1399 → 0 ≤ y5 → y5 ≤ 1399 → 0 ≤ y6 → y6 ≤ 7 → 0 ≤ y7 → y7 ≤ 50 → 0 ≤ y5 → y5 ≤ 1399 → 0 ≤ y7 → y7 ≤ a 197 (y6.toNat) → (SV a) → 1 ≤ a0 146 9 → jt (jxX E d 287 134 [some (.inr (.inr (.inl 146))), none, none, none, some (.inl y4), some (.inl y5), some (.inl y6), some (.inl y7)] [] (jxSH, a, b0)) (jQ_X12_pay x1 x2 a0 b0)) ∧ (∀ (y4 y5 y6 : Int) (a : Nat → Nat → Int), (((8 - y6) * 53) + 52).toNat ≤ n → iv a → jfr jW_X12_pay a0 a → 0 ≤ y4 → y4 ≤ 1399 → 0 ≤ y5 → y5 ≤ 1399 → 0 ≤ y6 → y6 ≤ 8 → 0 ≤ y5 → y5 ≤ 1399 → (SV a) → 1 ≤ a0 146 9 → jt (jxX E d 287 118 [some (.inr (.inr (.inl 146))), none, none, none, some (.inl y4), some (.inl y5), some (.inl y6), none] [] (jxSH, a, b0)) (jQ_X12_pay x1 x2 a0 b0)) := by
  refine jx_ind fun n ih => ?_
  have ih201 : ∀ (y4 y5 y6 y7 : Int) (a : Nat → Nat → Int), (((((8 - y6) * 53) + 0) + ((y7 + 0) * 1)) + 0).toNat < n → iv a → jfr jW_X12_pay a0 a → 0 ≤ y4 → y4 ≤ 1399 → 0 ≤ y5 → y5 ≤ 1399 → 0 ≤ y6 → y6 ≤ 7 → 1 ≤ y7 → y7 ≤ 50 → 0 ≤ y5 → y5 ≤ 1399 → 0 ≤ y7 → y7 ≤ a 197 (y6.toNat) → 1 ≤ y7 → (SV a) → 1 ≤ a0 146 9 → jt (jxX E d 287 201 [some (.inr (.inr (.inl 146))), none, none, none, some (.inl y4), some (.inl y5), some (.inl y6), some (.inl y7)] [] (jxSH, a, b0)) (jQ_X12_pay x1 x2 a0 b0) := fun y4 y5 y6 y7 a hlt i0 i1 i2 i3 i4 i5 i6 i7 i8 i9 i10 i11 i12 i13 i14 i15 i16 => (ih _ hlt).1 y4 y5 y6 y7 a (Nat.le_refl _) i0 i1 i2 i3 i4 i5 i6 i7 i8 i9 i10 i11 i12 i13 i14 i15 i16
  have ih243 : ∀ (y4 y5 y6 : Int) (a : Nat → Nat → Int), (((8 - y6) * 53) + 0).toNat < n → iv a → jfr jW_X12_pay a0 a → 0 ≤ y4 → y4 ≤ 1399 → 0 ≤ y5 → y5 ≤ 1399 → 0 ≤ y6 → y6 ≤ 7 → 0 ≤ y5 → y5 ≤ 1399 → (SV a) → 1 ≤ a0 146 9 → jt (jxX E d 287 243 [some (.inr (.inr (.inl 146))), none, none, none, some (.inl y4), some (.inl y5), some (.inl y6), none] [] (jxSH, a, b0)) (jQ_X12_pay x1 x2 a0 b0) := fun y4 y5 y6 a hlt i0 i1 i2 i3 i4 i5 i6 i7 i8 i9 i10 i11 => (ih _ hlt).2.1 y4 y5 y6 a (Nat.le_refl _) i0 i1 i2 i3 i4 i5 i6 i7 i8 i9 i10 i11
  have ih207 : ∀ (y4 y5 y6 y7 : Int) (a : Nat → Nat → Int), (((8 - y6) * 53) + 0).toNat < n → iv a → jfr jW_X12_pay a0 a → 0 ≤ y4 → y4 ≤ 1399 → 0 ≤ y5 → y5 ≤ 1399 → 0 ≤ y6 → y6 ≤ 7 → 0 ≤ y7 → y7 ≤ 50 → 0 ≤ y5 → y5 ≤ 1399 → 0 ≤ y7 → y7 ≤ a 197 (y6.toNat) → y7 * (a 196 (y6.toNat)) ≤ y5 → (SV a) → 1 ≤ a0 146 9 → jt (jxX E d 287 207 [some (.inr (.inr (.inl 146))), none, none, none, some (.inl y4), some (.inl y5), some (.inl y6), some (.inl y7)] [] (jxSH, a, b0)) (jQ_X12_pay x1 x2 a0 b0) := fun y4 y5 y6 y7 a hlt i0 i1 i2 i3 i4 i5 i6 i7 i8 i9 i10 i11 i12 i13 i14 i15 i16 => (ih _ hlt).2.2.1 y4 y5 y6 y7 a (Nat.le_refl _) i0 i1 i2 i3 i4 i5 i6 i7 i8 i9 i10 i11 i12 i13 i14 i15 i16
  have ih134 : ∀ (y4 y5 y6 y7 : Int) (a : Nat → Nat → Int), (((((8 - y6) * 53) + 0) + ((y7 + 0) * 1)) + 0).toNat < n → iv a → jfr jW_X12_pay a0 a → 0 ≤ y4 → y4 ≤ 1399 → 0 ≤ y5 → y5 ≤ 1399 → 0 ≤ y6 → y6 ≤ 7 → 0 ≤ y7 → y7 ≤ 50 → 0 ≤ y5 → y5 ≤ 1399 → 0 ≤ y7 → y7 ≤ a 197 (y6.toNat) → (SV a) → 1 ≤ a0 146 9 → jt (jxX E d 287 134 [some (.inr (.inr (.inl 146))), none, none, none, some (.inl y4), some (.inl y5), some (.inl y6), some (.inl y7)] [] (jxSH, a, b0)) (jQ_X12_pay x1 x2 a0 b0) := fun y4 y5 y6 y7 a hlt i0 i1 i2 i3 i4 i5 i6 i7 i8 i9 i10 i11 i12 i13 i14 i15 => (ih _ hlt).2.2.2.1 y4 y5 y6 y7 a (Nat.le_refl _) i0 i1 i2 i3 i4 i5 i6 i7 i8 i9 i10 i11 i12 i13 i14 i15
  have ih118 : ∀ (y4 y5 y6 : Int) (a : Nat → Nat → Int), (((8 - y6) * 53) + 52).toNat < n → iv a → jfr jW_X12_pay a0 a → 0 ≤ y4 → y4 ≤ 1399 → 0 ≤ y5 → y5 ≤ 1399 → 0 ≤ y6 → y6 ≤ 8 → 0 ≤ y5 → y5 ≤ 1399 → (SV a) → 1 ≤ a0 146 9 → jt (jxX E d 287 118 [some (.inr (.inr (.inl 146))), none, none, none, some (.inl y4), some (.inl y5), some (.inl y6), none] [] (jxSH, a, b0)) (jQ_X12_pay x1 x2 a0 b0) := fun y4 y5 y6 a hlt i0 i1 i2 i3 i4 i5 i6 i7 i8 i9 i10 i11 => (ih _ hlt).2.2.2.2 y4 y5 y6 a (Nat.le_refl _) i0 i1 i2 i3 i4 i5 i6 i7 i8 i9 i10 i11
  have hc201 : ∀ (y4 y5 y6 y7 : Int) (a : Nat → Nat → Int), (((((8 - y6) * 53) + 0) + ((y7 + 0) * 1)) + 0).toNat ≤ n → iv a → jfr jW_X12_pay a0 a → 0 ≤ y4 → y4 ≤ 1399 → 0 ≤ y5 → y5 ≤ 1399 → 0 ≤ y6 → y6 ≤ 7 → 1 ≤ y7 → y7 ≤ 50 → 0 ≤ y5 → y5 ≤ 1399 → 0 ≤ y7 → y7 ≤ a 197 (y6.toNat) → 1 ≤ y7 → (SV a) → 1 ≤ a0 146 9 → jt (jxX E d 287 201 [some (.inr (.inr (.inl 146))), none, none, none, some (.inl y4), some (.inl y5), some (.inl y6), some (.inl y7)] [] (jxSH, a, b0)) (jQ_X12_pay x1 x2 a0 b0) := by
    intro y4 y5 y6 y7 a hm hv hf hi0 hi1 hi2 hi3 hi4 hi5 hi6 hi7 hi8 hi9 hi10 hi11 hi12 hi13 hi14
    refine jt_eq (bq_X12_pay_201 E d y4 y5 y6 y7 a b0) ?_
    have h666_ := iv_get hv (k := 197) (j := y6.toNat) (l := 0) (u := 50) rfl
    have h667_ := iv_get hv0 (k := 146) (j := 9) (l := 0) (u := 300) rfl
    have i196 := iv_get hv (k := 196) (j := y6.toNat) (l := (-1)) (u := 500) rfl
    have i197 := iv_get hv (k := 197) (j := y6.toNat) (l := 0) (u := 50) rfl
    have hmul : y7 ≤ a 197 (y6.toNat) → 0 ≤ y7 * (a 196 (y6.toNat)) ∧ y7 * (a 196 (y6.toNat)) ≤ 25500 := fun h => mul_bd (by omega) (by omega) (by omega) (by have := (by assumption : SV a) y6.toNat (by omega); omega)
    have hz : y7 = 0 → y7 * (a 196 (y6.toNat)) = 0 := fun h => by rw [h]; exact Int.zero_mul _
    have h668_ : jxw (y7 + (-1)) = y7 + (-1) := jxw_id (by omega) (by omega)
    exact ih134 y4 y5 y6 (jxw (y7 + (-1))) a (show (((((8 - y6) * 53) + 0) + (((jxw (y7 + (-1))) + 0) * 1)) + 0).toNat < n from by omega) hv hf (show 0 ≤ y4 from by omega) (show y4 ≤ 1399 from by omega) (show 0 ≤ y5 from by omega) (show y5 ≤ 1399 from by omega) (show 0 ≤ y6 from by omega) (show y6 ≤ 7 from by omega) (show 0 ≤ jxw (y7 + (-1)) from by omega) (show jxw (y7 + (-1)) ≤ 50 from by omega) (show 0 ≤ y5 from by omega) (show y5 ≤ 1399 from by omega) (show 0 ≤ jxw (y7 + (-1)) from by omega) (show jxw (y7 + (-1)) ≤ a 197 (y6.toNat) from by omega) hi13 (show 1 ≤ a0 146 9 from by omega)
  have hc243 : ∀ (y4 y5 y6 : Int) (a : Nat → Nat → Int), (((8 - y6) * 53) + 0).toNat ≤ n → iv a → jfr jW_X12_pay a0 a → 0 ≤ y4 → y4 ≤ 1399 → 0 ≤ y5 → y5 ≤ 1399 → 0 ≤ y6 → y6 ≤ 7 → 0 ≤ y5 → y5 ≤ 1399 → (SV a) → 1 ≤ a0 146 9 → jt (jxX E d 287 243 [some (.inr (.inr (.inl 146))), none, none, none, some (.inl y4), some (.inl y5), some (.inl y6), none] [] (jxSH, a, b0)) (jQ_X12_pay x1 x2 a0 b0) := by
    intro y4 y5 y6 a hm hv hf hi0 hi1 hi2 hi3 hi4 hi5 hi6 hi7 hi8 hi9
    refine jt_eq (bq_X12_pay_243 E d y4 y5 y6 a b0) ?_
    have h669_ := iv_get hv0 (k := 146) (j := 9) (l := 0) (u := 300) rfl
    have h670_ : jxw (y6 + 1) = y6 + 1 := jxw_id (by omega) (by omega)
    exact ih118 y4 y5 (jxw (y6 + 1)) a (show (((8 - (jxw (y6 + 1))) * 53) + 52).toNat < n from by omega) hv hf (show 0 ≤ y4 from by omega) (show y4 ≤ 1399 from by omega) (show 0 ≤ y5 from by omega) (show y5 ≤ 1399 from by omega) (show 0 ≤ jxw (y6 + 1) from by omega) (show jxw (y6 + 1) ≤ 8 from by omega) (show 0 ≤ y5 from by omega) (show y5 ≤ 1399 from by omega) hi8 (show 1 ≤ a0 146 9 from by omega)
  have hc207 : ∀ (y4 y5 y6 y7 : Int) (a : Nat → Nat → Int), (((8 - y6) * 53) + 0).toNat ≤ n → iv a → jfr jW_X12_pay a0 a → 0 ≤ y4 → y4 ≤ 1399 → 0 ≤ y5 → y5 ≤ 1399 → 0 ≤ y6 → y6 ≤ 7 → 0 ≤ y7 → y7 ≤ 50 → 0 ≤ y5 → y5 ≤ 1399 → 0 ≤ y7 → y7 ≤ a 197 (y6.toNat) → y7 * (a 196 (y6.toNat)) ≤ y5 → (SV a) → 1 ≤ a0 146 9 → jt (jxX E d 287 207 [some (.inr (.inr (.inl 146))), none, none, none, some (.inl y4), some (.inl y5), some (.inl y6), some (.inl y7)] [] (jxSH, a, b0)) (jQ_X12_pay x1 x2 a0 b0) := by
    intro y4 y5 y6 y7 a hm hv hf hi0 hi1 hi2 hi3 hi4 hi5 hi6 hi7 hi8 hi9 hi10 hi11 hi12 hi13 hi14
    refine jt_eq (bq_X12_pay_207 E d y4 y5 y6 y7 a b0) ?_
    have h671_ := iv_get hv (k := 197) (j := y6.toNat) (l := 0) (u := 50) rfl
    have h672_ := iv_get hv (k := 196) (j := y6.toNat) (l := (-1)) (u := 500) rfl
    have h673_ : a 196 (y6.toNat) = a0 196 (y6.toNat) := hf 196 (y6.toNat) rfl
    have h674_ := iv_get hv0 (k := 196) (j := y6.toNat) (l := (-1)) (u := 500) rfl
    have h675_ := iv_get hv0 (k := 146) (j := 9) (l := 0) (u := 300) rfl
    have i196 := iv_get hv (k := 196) (j := y6.toNat) (l := (-1)) (u := 500) rfl
    have i197 := iv_get hv (k := 197) (j := y6.toNat) (l := 0) (u := 50) rfl
    have hmul : y7 ≤ a 197 (y6.toNat) → 0 ≤ y7 * (a 196 (y6.toNat)) ∧ y7 * (a 196 (y6.toNat)) ≤ 25500 := fun h => mul_bd (by omega) (by omega) (by omega) (by have := (by assumption : SV a) y6.toNat (by omega); omega)
    have hz : y7 = 0 → y7 * (a 196 (y6.toNat)) = 0 := fun h => by rw [h]; exact Int.zero_mul _
    refine jt_grd (by omega) ?_
    refine jt_grd (by omega) ?_
    refine jt_grd (by omega) ?_
    refine jt_grd (by omega) ?_
    have hv676_ : iv (jxu a 198 (y6.toNat) y7) := iv_putf hv rfl
    have h678_ : jxw ((a 197 (y6.toNat)) - y7) = (a 197 (y6.toNat)) - y7 := jxw_id (by omega) (by omega)
    have hv677_ : iv (jxu (jxu a 198 (y6.toNat) y7) 197 (y6.toNat) (jxw ((a 197 (y6.toNat)) - y7))) := iv_put hv676_ (l := 0) (u := 50) rfl (by omega) (by omega)
    have hf679_ : jfr jW_X12_pay a0 (jxu a 198 (y6.toNat) y7) := jfr_put hf rfl
    have hf680_ : jfr jW_X12_pay a0 (jxu (jxu a 198 (y6.toNat) y7) 197 (y6.toNat) (jxw ((a 197 (y6.toNat)) - y7))) := jfr_put hf679_ rfl
    have h681_ : jxw (y7 * (a 196 (y6.toNat))) = y7 * (a 196 (y6.toNat)) := jxw_id (by omega) (by omega)
    have h682_ : jxw (y5 - (jxw (y7 * (a 196 (y6.toNat))))) = y5 - (jxw (y7 * (a 196 (y6.toNat)))) := jxw_id (by omega) (by omega)
    have hg683_ : SV (jxu a 198 (y6.toNat) y7) := (SV_fr hi13 (jfr_1 a 198 (y6.toNat) y7) (fun _ => rfl) (fun _ => rfl))
    have hg684_ : SV (jxu (jxu a 198 (y6.toNat) y7) 197 (y6.toNat) (jxw ((a 197 (y6.toNat)) - y7))) := (SV_put197 hg683_ (by first | (left; show jxw ((a 197 (y6.toNat)) - y7) ≤ a 197 (y6.toNat); omega) | (right; show 1 ≤ a 196 (y6.toNat); omega)))
    exact hc243 y4 (jxw (y5 - (jxw (y7 * (a 196 (y6.toNat)))))) y6 (jxu (jxu a 198 (y6.toNat) y7) 197 (y6.toNat) (jxw ((a 197 (y6.toNat)) - y7))) (show (((8 - y6) * 53) + 0).toNat ≤ n from by omega) hv677_ hf680_ (show 0 ≤ y4 from by omega) (show y4 ≤ 1399 from by omega) (show 0 ≤ jxw (y5 - (jxw (y7 * (a 196 (y6.toNat))))) from by omega) (show jxw (y5 - (jxw (y7 * (a 196 (y6.toNat))))) ≤ 1399 from by omega) (show 0 ≤ y6 from by omega) (show y6 ≤ 7 from by omega) (show 0 ≤ jxw (y5 - (jxw (y7 * (a 196 (y6.toNat))))) from by omega) (show jxw (y5 - (jxw (y7 * (a 196 (y6.toNat))))) ≤ 1399 from by omega) hg684_ (show 1 ≤ a0 146 9 from by omega)
  have hc134 : ∀ (y4 y5 y6 y7 : Int) (a : Nat → Nat → Int), (((((8 - y6) * 53) + 0) + ((y7 + 0) * 1)) + 0).toNat ≤ n → iv a → jfr jW_X12_pay a0 a → 0 ≤ y4 → y4 ≤ 1399 → 0 ≤ y5 → y5 ≤ 1399 → 0 ≤ y6 → y6 ≤ 7 → 0 ≤ y7 → y7 ≤ 50 → 0 ≤ y5 → y5 ≤ 1399 → 0 ≤ y7 → y7 ≤ a 197 (y6.toNat) → (SV a) → 1 ≤ a0 146 9 → jt (jxX E d 287 134 [some (.inr (.inr (.inl 146))), none, none, none, some (.inl y4), some (.inl y5), some (.inl y6), some (.inl y7)] [] (jxSH, a, b0)) (jQ_X12_pay x1 x2 a0 b0) := by
    intro y4 y5 y6 y7 a hm hv hf hi0 hi1 hi2 hi3 hi4 hi5 hi6 hi7 hi8 hi9 hi10 hi11 hi12 hi13
    refine jt_eq (bq_X12_pay_134 E d y4 y5 y6 y7 a b0) ?_
    have h685_ := iv_get hv (k := 197) (j := y6.toNat) (l := 0) (u := 50) rfl
    have h686_ := iv_get hv0 (k := 146) (j := 9) (l := 0) (u := 300) rfl
    have i196 := iv_get hv (k := 196) (j := y6.toNat) (l := (-1)) (u := 500) rfl
    have i197 := iv_get hv (k := 197) (j := y6.toNat) (l := 0) (u := 50) rfl
    have hmul : y7 ≤ a 197 (y6.toNat) → 0 ≤ y7 * (a 196 (y6.toNat)) ∧ y7 * (a 196 (y6.toNat)) ≤ 25500 := fun h => mul_bd (by omega) (by omega) (by omega) (by have := (by assumption : SV a) y6.toNat (by omega); omega)
    have hz : y7 = 0 → y7 * (a 196 (y6.toNat)) = 0 := fun h => by rw [h]; exact Int.zero_mul _
    refine jt_ite (fun c687_ => ?_) (fun c687_ => ?_)
    ·
      refine jt_grd (by omega) ?_
      have h688_ := iv_get hv (k := 196) (j := y6.toNat) (l := (-1)) (u := 500) rfl
      have h689_ : a 196 (y6.toNat) = a0 196 (y6.toNat) := hf 196 (y6.toNat) rfl
      have h690_ := iv_get hv0 (k := 196) (j := y6.toNat) (l := (-1)) (u := 500) rfl
      have h691_ : jxw (y7 * (a 196 (y6.toNat))) = y7 * (a 196 (y6.toNat)) := jxw_id (by omega) (by omega)
      refine jt_ite (fun c692_ => ?_) (fun c692_ => ?_)
      ·
        exact hc201 y4 y5 y6 y7 a (show (((((8 - y6) * 53) + 0) + ((y7 + 0) * 1)) + 0).toNat ≤ n from by omega) hv hf (show 0 ≤ y4 from by omega) (show y4 ≤ 1399 from by omega) (show 0 ≤ y5 from by omega) (show y5 ≤ 1399 from by omega) (show 0 ≤ y6 from by omega) (show y6 ≤ 7 from by omega) (show 1 ≤ y7 from by omega) (show y7 ≤ 50 from by omega) (show 0 ≤ y5 from by omega) (show y5 ≤ 1399 from by omega) (show 0 ≤ y7 from by omega) (show y7 ≤ a 197 (y6.toNat) from by omega) (show 1 ≤ y7 from by omega) hi12 (show 1 ≤ a0 146 9 from by omega)
      ·
        refine jt_grd (by omega) ?_
        have h693_ : jxw (y6 + 1) = y6 + 1 := jxw_id (by omega) (by omega)
        have h694_ : jxw (1400 * (jxw (y6 + 1))) = 1400 * (jxw (y6 + 1)) := jxw_id (by omega) (by omega)
        have h695_ : jxw ((jxw (1400 * (jxw (y6 + 1)))) + y5) = (jxw (1400 * (jxw (y6 + 1)))) + y5 := jxw_id (by omega) (by omega)
        have h696_ : jxw ((jxw ((jxw (1400 * (jxw (y6 + 1)))) + y5)) - (jxw (y7 * (a 196 (y6.toNat))))) = (jxw ((jxw (1400 * (jxw (y6 + 1)))) + y5)) - (jxw (y7 * (a 196 (y6.toNat)))) := jxw_id (by omega) (by omega)
        refine jt_grd (by omega) ?_
        have h697_ : jxw (1400 * y6) = 1400 * y6 := jxw_id (by omega) (by omega)
        have h698_ : jxw ((jxw (1400 * y6)) + y5) = (jxw (1400 * y6)) + y5 := jxw_id (by omega) (by omega)
        refine jt_grd (by omega) ?_
        have h699_ := jxw_im (y7 + (a 199 ((jxw ((jxw ((jxw (1400 * (jxw (y6 + 1)))) + y5)) - (jxw (y7 * (a 196 (y6.toNat)))))).toNat)))
        have h700_ := jxw_rg (y7 + (a 199 ((jxw ((jxw ((jxw (1400 * (jxw (y6 + 1)))) + y5)) - (jxw (y7 * (a 196 (y6.toNat)))))).toNat)))
        refine jt_ite (fun c701_ => ?_) (fun c701_ => ?_)
        ·
          exact hc207 y4 y5 y6 y7 a (show (((8 - y6) * 53) + 0).toNat ≤ n from by omega) hv hf (show 0 ≤ y4 from by omega) (show y4 ≤ 1399 from by omega) (show 0 ≤ y5 from by omega) (show y5 ≤ 1399 from by omega) (show 0 ≤ y6 from by omega) (show y6 ≤ 7 from by omega) (show 0 ≤ y7 from by omega) (show y7 ≤ 50 from by omega) (show 0 ≤ y5 from by omega) (show y5 ≤ 1399 from by omega) (show 0 ≤ y7 from by omega) (show y7 ≤ a 197 (y6.toNat) from by omega) (show y7 * (a 196 (y6.toNat)) ≤ y5 from by omega) hi12 (show 1 ≤ a0 146 9 from by omega)
        ·
          exact hc201 y4 y5 y6 y7 a (show (((((8 - y6) * 53) + 0) + ((y7 + 0) * 1)) + 0).toNat ≤ n from by omega) hv hf (show 0 ≤ y4 from by omega) (show y4 ≤ 1399 from by omega) (show 0 ≤ y5 from by omega) (show y5 ≤ 1399 from by omega) (show 0 ≤ y6 from by omega) (show y6 ≤ 7 from by omega) (show 1 ≤ y7 from by omega) (show y7 ≤ 50 from by omega) (show 0 ≤ y5 from by omega) (show y5 ≤ 1399 from by omega) (show 0 ≤ y7 from by omega) (show y7 ≤ a 197 (y6.toNat) from by omega) (show 1 ≤ y7 from by omega) hi12 (show 1 ≤ a0 146 9 from by omega)
    ·
      have h702_ := iv_get hv (k := 196) (j := y6.toNat) (l := (-1)) (u := 500) rfl
      have h703_ : a 196 (y6.toNat) = a0 196 (y6.toNat) := hf 196 (y6.toNat) rfl
      have h704_ := iv_get hv0 (k := 196) (j := y6.toNat) (l := (-1)) (u := 500) rfl
      exact hc207 y4 y5 y6 y7 a (show (((8 - y6) * 53) + 0).toNat ≤ n from by omega) hv hf (show 0 ≤ y4 from by omega) (show y4 ≤ 1399 from by omega) (show 0 ≤ y5 from by omega) (show y5 ≤ 1399 from by omega) (show 0 ≤ y6 from by omega) (show y6 ≤ 7 from by omega) (show 0 ≤ y7 from by omega) (show y7 ≤ 50 from by omega) (show 0 ≤ y5 from by omega) (show y5 ≤ 1399 from by omega) (show 0 ≤ y7 from by omega) (show y7 ≤ a 197 (y6.toNat) from by omega) (show y7 * (a 196 (y6.toNat)) ≤ y5 from by omega) hi12 (show 1 ≤ a0 146 9 from by omega)
  have hc118 : ∀ (y4 y5 y6 : Int) (a : Nat → Nat → Int), (((8 - y6) * 53) + 52).toNat ≤ n → iv a → jfr jW_X12_pay a0 a → 0 ≤ y4 → y4 ≤ 1399 → 0 ≤ y5 → y5 ≤ 1399 → 0 ≤ y6 → y6 ≤ 8 → 0 ≤ y5 → y5 ≤ 1399 → (SV a) → 1 ≤ a0 146 9 → jt (jxX E d 287 118 [some (.inr (.inr (.inl 146))), none, none, none, some (.inl y4), some (.inl y5), some (.inl y6), none] [] (jxSH, a, b0)) (jQ_X12_pay x1 x2 a0 b0) := by
    intro y4 y5 y6 a hm hv hf hi0 hi1 hi2 hi3 hi4 hi5 hi6 hi7 hi8 hi9
    refine jt_eq (bq_X12_pay_118 E d y4 y5 y6 a b0) ?_
    have h705_ := iv_get hv0 (k := 146) (j := 9) (l := 0) (u := 300) rfl
    refine jt_ite (fun c706_ => ?_) (fun c706_ => ?_)
    ·
      refine jt_grd (by omega) ?_
      have h707_ := iv_get hv (k := 197) (j := y6.toNat) (l := 0) (u := 50) rfl
      exact hc134 y4 y5 y6 (a 197 (y6.toNat)) a (show (((((8 - y6) * 53) + 0) + (((a 197 (y6.toNat)) + 0) * 1)) + 0).toNat ≤ n from by omega) hv hf (show 0 ≤ y4 from by omega) (show y4 ≤ 1399 from by omega) (show 0 ≤ y5 from by omega) (show y5 ≤ 1399 from by omega) (show 0 ≤ y6 from by omega) (show y6 ≤ 7 from by omega) (show 0 ≤ a 197 (y6.toNat) from by omega) (show a 197 (y6.toNat) ≤ 50 from by omega) (show 0 ≤ y5 from by omega) (show y5 ≤ 1399 from by omega) (show 0 ≤ a 197 (y6.toNat) from by omega) (show a 197 (y6.toNat) ≤ a 197 (y6.toNat) from by omega) hi8 (show 1 ≤ a0 146 9 from by omega)
    ·
      have hv708_ : iv (jxu a 146 75 1) := iv_putf hv rfl
      have hf709_ : jfr jW_X12_pay a0 (jxu a 146 75 1) := jfr_put hf rfl
      have hg710_ : SV (jxu a 146 75 1) := (SV_fr hi8 (jfr_1s a 146 75 1) (fun _ => rfl) (fun _ => rfl))
      exact jt_rI ⟨hv708_, hf709_, rfl, hg710_, (show (a0 146 9 = 0 → y4 = 0 - 1) from by omega)⟩
  exact ⟨hc201, hc243, hc207, hc134, hc118⟩
theorem cp_X12_pay_100 (E : jxE) (d : Nat) (hd : Nat.ble 2 (d + 1) = true) (x1 x2 : Int) (a0 b0 : Nat → Nat → Int) (hv0 : iv a0) (hp0 : SV a0) : ∀ (y4 : Int) (a : Nat → Nat → Int), iv a → jfr jW_X12_pay a0 a → 0 ≤ y4 → y4 ≤ 1400 → (SV a) → 1 ≤ a0 146 9 → jt (jxX E d 287 100 [some (.inr (.inr (.inl 146))), none, none, none, some (.inl y4), none, none, none] [] (jxSH, a, b0)) (jQ_X12_pay x1 x2 a0 b0) := by
  intro y4 a hv hf hi0 hi1 hi2 hi3
  refine jt_eq (bq_X12_pay_100 E d y4 a b0) ?_
  have h711_ := iv_get hv0 (k := 146) (j := 9) (l := 0) (u := 300) rfl
  refine jt_ite (fun c712_ => ?_) (fun c712_ => ?_)
  ·
    exact jt_rI ⟨hv, hf, rfl, hi2, (show (a0 146 9 = 0 → (-3) = 0 - 1) from by omega)⟩
  ·
    exact (cp_X12_pay_118 E d hd x1 x2 a0 b0 hv0 hp0 _).2.2.2.2 y4 y4 0 a (Nat.le_refl _) hv hf (show 0 ≤ y4 from by omega) (show y4 ≤ 1399 from by omega) (show 0 ≤ y4 from by omega) (show y4 ≤ 1399 from by omega) (show 0 ≤ 0 from by omega) (show 0 ≤ 8 from by omega) (show 0 ≤ y4 from by omega) (show y4 ≤ 1399 from by omega) hi2 (show 1 ≤ a0 146 9 from by omega)
theorem cp_X12_pay_73 (E : jxE) (d : Nat) (hd : Nat.ble 2 (d + 1) = true) (x1 x2 : Int) (a0 b0 : Nat → Nat → Int) (hv0 : iv a0) (hp0 : SV a0) : ∀ n : Nat, (∀ (y4 : Int) (a : Nat → Nat → Int), (((1400 - y4) * 1) + 0).toNat ≤ n → iv a → jfr jW_X12_pay a0 a → 0 ≤ y4 → y4 ≤ 1400 → (SV a) → 1 ≤ a0 146 9 → jt (jxX E d 287 73 [some (.inr (.inr (.inl 146))), none, none, none, some (.inl y4), none, none, none] [] (jxSH, a, b0)) (jQ_X12_pay x1 x2 a0 b0)) := by
  refine jx_ind fun n ih => ?_
  have ih73 : ∀ (y4 : Int) (a : Nat → Nat → Int), (((1400 - y4) * 1) + 0).toNat < n → iv a → jfr jW_X12_pay a0 a → 0 ≤ y4 → y4 ≤ 1400 → (SV a) → 1 ≤ a0 146 9 → jt (jxX E d 287 73 [some (.inr (.inr (.inl 146))), none, none, none, some (.inl y4), none, none, none] [] (jxSH, a, b0)) (jQ_X12_pay x1 x2 a0 b0) := fun y4 a hlt i0 i1 i2 i3 i4 i5 => (ih _ hlt) y4 a (Nat.le_refl _) i0 i1 i2 i3 i4 i5
  have hc73 : ∀ (y4 : Int) (a : Nat → Nat → Int), (((1400 - y4) * 1) + 0).toNat ≤ n → iv a → jfr jW_X12_pay a0 a → 0 ≤ y4 → y4 ≤ 1400 → (SV a) → 1 ≤ a0 146 9 → jt (jxX E d 287 73 [some (.inr (.inr (.inl 146))), none, none, none, some (.inl y4), none, none, none] [] (jxSH, a, b0)) (jQ_X12_pay x1 x2 a0 b0) := by
    intro y4 a hm hv hf hi0 hi1 hi2 hi3
    refine jt_eq (bq_X12_pay_73 E d y4 a b0) ?_
    have h713_ := iv_get hv0 (k := 146) (j := 9) (l := 0) (u := 300) rfl
    refine jt_ite (fun c714_ => ?_) (fun c714_ => ?_)
    ·
      refine jt_grd (by omega) ?_
      refine jt_ite (fun c715_ => ?_) (fun c715_ => ?_)
      ·
        exact cp_X12_pay_100 E d hd x1 x2 a0 b0 hv0 hp0 y4 a hv hf (show 0 ≤ y4 from by omega) (show y4 ≤ 1400 from by omega) hi2 (show 1 ≤ a0 146 9 from by omega)
      ·
        have h716_ : jxw (y4 + 1) = y4 + 1 := jxw_id (by omega) (by omega)
        exact ih73 (jxw (y4 + 1)) a (show (((1400 - (jxw (y4 + 1))) * 1) + 0).toNat < n from by omega) hv hf (show 0 ≤ jxw (y4 + 1) from by omega) (show jxw (y4 + 1) ≤ 1400 from by omega) hi2 (show 1 ≤ a0 146 9 from by omega)
    ·
      exact cp_X12_pay_100 E d hd x1 x2 a0 b0 hv0 hp0 y4 a hv hf (show 0 ≤ y4 from by omega) (show y4 ≤ 1400 from by omega) hi2 (show 1 ≤ a0 146 9 from by omega)
  exact hc73
theorem cp_X12_pay_59 (E : jxE) (d : Nat) (hd : Nat.ble 2 (d + 1) = true) (x1 x2 : Int) (a0 b0 : Nat → Nat → Int) (hv0 : iv a0) (hp0 : SV a0) : ∀ (y3 : Int) (a : Nat → Nat → Int), iv a → jfr jW_X12_pay a0 a → 0 - 2 ≤ y3 → y3 ≤ 900 → (SV a) → 1 ≤ a0 146 9 → jt (jxX E d 287 59 [some (.inr (.inr (.inl 146))), none, none, some (.inl y3), none, none, none, none] [] (jxSH, a, b0)) (jQ_X12_pay x1 x2 a0 b0) := by
  intro y3 a hv hf hi0 hi1 hi2 hi3
  refine jt_eq (bq_X12_pay_59 E d y3 a b0) ?_
  have h717_ := iv_get hv0 (k := 146) (j := 9) (l := 0) (u := 300) rfl
  refine jt_ite (fun c718_ => ?_) (fun c718_ => ?_)
  ·
    exact jt_rI ⟨hv, hf, rfl, hi2, (show (a0 146 9 = 0 → (-2) = 0 - 1) from by omega)⟩
  ·
    refine jt_bV (sp_X12_makes E d (jd_le hd rfl) a b0 hv hi2) (fun a719_ b719_ h719_ => ?_)
    obtain ⟨hv719_, hf719_, rfl⟩ := h719_
    have hf720_ : jfr jW_X12_pay a0 a719_ := jfr_tr hf hf719_ rfl
    exact (cp_X12_pay_73 E d hd x1 x2 a0 b0 hv0 hp0 _) y3 a719_ (Nat.le_refl _) hv719_ hf720_ (show 0 ≤ y3 from by omega) (show y3 ≤ 1400 from by omega) (SV_fr hi2 hf719_ (fun _ => rfl) (fun _ => rfl)) (show 1 ≤ a0 146 9 from by omega)
theorem sp_X12_pay (E : jxE) (d : Nat) (hd : Nat.ble 2 d = true) (x1 x2 : Int) (a0 b0 : Nat → Nat → Int) (hv0 : iv a0) (hp0 : SV a0) : jt (jxC E d 287 [.inr (.inr (.inl 146)), .inl x1, .inl x2] (jxSH, a0, b0)) (jQ_X12_pay x1 x2 a0 b0) := by
  obtain ⟨d, rfl⟩ := jd_succ hd
  refine jt_eq (bq_X12_pay E d x1 x2 a0 b0) ?_
  refine jt_eI (eq_X12_in E d (jd_le hd rfl) x1 0 (jxw ((a0 146 9) - 1)) a0 b0) ?_
  have h721_ := iv_get hv0 (k := 146) (j := 9) (l := 0) (u := 300) rfl
  have h722_ : jxw ((a0 146 9) - 1) = (a0 146 9) - 1 := jxw_id (by omega) (by omega)
  have h723_ := f_X12_in_eq a0 b0 x1 0 (jxw ((a0 146 9) - 1))
  refine jt_ite (fun c724_ => ?_) (fun c724_ => ?_)
  ·
    exact jt_rI ⟨hv0, (jfr_rf _ _), rfl, hp0, (show (a0 146 9 = 0 → (-1) = 0 - 1) from by omega)⟩
  ·
    refine jt_eI (eq_X12_in E d (jd_le hd rfl) x2 1 500 a0 b0) ?_
    have h725_ := f_X12_in_eq a0 b0 x2 1 500
    refine jt_ite (fun c726_ => ?_) (fun c726_ => ?_)
    ·
      exact jt_rI ⟨hv0, (jfr_rf _ _), rfl, hp0, (show (a0 146 9 = 0 → (-1) = 0 - 1) from by omega)⟩
    ·
      refine jt_grd (by omega) ?_
      have h727_ := iv_get hv0 (k := 154) (j := x1.toNat) (l := 0) (u := 39) rfl
      refine jt_grd (by omega) ?_
      refine jt_grd (by omega) ?_
      have h728_ := iv_get hv0 (k := 155) (j := x1.toNat) (l := 0) (u := 39) rfl
      refine jt_grd (by omega) ?_
      have h729_ := iv_get hv0 (k := 148) (j := (a0 154 (x1.toNat)).toNat) (l := 0) (u := 15) rfl
      have h730_ := iv_get hv0 (k := 148) (j := (a0 155 (x1.toNat)).toNat) (l := 0) (u := 15) rfl
      refine jt_bI (sp_X12_priceOf E d (jd_le hd rfl) (a0 148 ((a0 154 (x1.toNat)).toNat)) (a0 148 ((a0 155 (x1.toNat)).toNat)) x2 (a0 146 0) a0 b0 hv0 (show (0 ≤ a0 148 ((a0 154 (x1.toNat)).toNat) ∧ a0 148 ((a0 154 (x1.toNat)).toNat) ≤ 15) from by omega) (show (0 ≤ a0 148 ((a0 155 (x1.toNat)).toNat) ∧ a0 148 ((a0 155 (x1.toNat)).toNat) ≤ 15) from by omega)) (fun r731_ a731_ b731_ h731_ => ?_)
      obtain ⟨rfl, rfl, hq731_0, hq731_1, hq731_2, hq731_3⟩ := h731_
      have h732_ := iv_get hv0 (k := 146) (j := 68) (l := 0) (u := 10) rfl
      exact cp_X12_pay_59 E d hd x1 x2 a0 b0 hv0 hp0 r731_ a0 hv0 (jfr_rf _ _) (show 0 - 2 ≤ r731_ from by omega) (show r731_ ≤ 900 from by omega) hp0 (show 1 ≤ a0 146 9 from by omega)
def jW_X12_stamps : List (Nat × Nat) := [(196, 9999), (197, 9999)]
abbrev jQ_X12_stamps (x1 x2 x3 : Int) (a0 b0 : Nat → Nat → Int) : List jxV → (Nat → Nat → Int) → (Nat → Nat → Int) → Prop := rI (fun r a b => (iv a) ∧ (jfr jW_X12_stamps a0 a) ∧ (b0 = b) ∧ ((0 ≤ r ∧ r ≤ 1)) ∧ (SV a) ∧ ((((((((r = 1 ∧ 0 ≤ x1) ∧ x1 ≤ 7) ∧ 1 ≤ x2) ∧ x2 ≤ 500) ∧ 0 ≤ x3) ∧ x3 ≤ 50) ∨ (r = 0 ∧ (((((x1 < 0 ∨ 7 < x1) ∨ x2 < 1) ∨ 500 < x2) ∨ x3 < 0) ∨ 50 < x3)))))
theorem cp_X12_stamps_31 (E : jxE) (d : Nat) (hd : Nat.ble 2 (d + 1) = true) (x1 x2 x3 : Int) (a0 b0 : Nat → Nat → Int) (hv0 : iv a0) (hp0 : SV a0) : ∀ (a : Nat → Nat → Int), iv a → jfr jW_X12_stamps a0 a → (((((x1 < 0 ∨ 7 < x1) ∨ x2 < 1) ∨ 500 < x2) ∨ x3 < 0) ∨ 50 < x3) → (SV a) → jt (jxX E d 285 31 [none, none, none, none] [] (jxSH, a, b0)) (jQ_X12_stamps x1 x2 x3 a0 b0) := by
  intro a hv hf hi0 hi1
  refine jt_eq (bq_X12_stamps_31 E d a b0) ?_
  exact jt_rI ⟨hv, hf, rfl, (show (0 ≤ 0 ∧ 0 ≤ 1) from by omega), hi1, (show (((((((0 = 1 ∧ 0 ≤ x1) ∧ x1 ≤ 7) ∧ 1 ≤ x2) ∧ x2 ≤ 500) ∧ 0 ≤ x3) ∧ x3 ≤ 50) ∨ (0 = 0 ∧ (((((x1 < 0 ∨ 7 < x1) ∨ x2 < 1) ∨ 500 < x2) ∨ x3 < 0) ∨ 50 < x3))) from by omega)⟩
theorem cp_X12_stamps_33 (E : jxE) (d : Nat) (hd : Nat.ble 2 (d + 1) = true) (x1 x2 x3 : Int) (a0 b0 : Nat → Nat → Int) (hv0 : iv a0) (hp0 : SV a0) : ∀ (y1 y2 y3 : Int) (a : Nat → Nat → Int), iv a → jfr jW_X12_stamps a0 a → 0 ≤ y1 → y1 ≤ 7 → 1 ≤ y2 → y2 ≤ 500 → 0 ≤ y3 → y3 ≤ 50 → y1 = x1 → y2 = x2 → y3 = x3 → (((((0 ≤ x1 ∧ x1 ≤ 7) ∧ 1 ≤ x2) ∧ x2 ≤ 500) ∧ 0 ≤ x3) ∧ x3 ≤ 50) → (SV a) → jt (jxX E d 285 33 [some (.inr (.inr (.inl 146))), some (.inl y1), some (.inl y2), some (.inl y3)] [] (jxSH, a, b0)) (jQ_X12_stamps x1 x2 x3 a0 b0) := by
  intro y1 y2 y3 a hv hf hi0 hi1 hi2 hi3 hi4 hi5 hi6 hi7 hi8 hi9 hi10
  refine jt_eq (bq_X12_stamps_33 E d y1 y2 y3 a b0) ?_
  refine jt_grd (by omega) ?_
  refine jt_grd (by omega) ?_
  have hv733_ : iv (jxu a 196 (y1.toNat) y2) := iv_put hv (l := (-1)) (u := 500) rfl (by omega) (by omega)
  have hv734_ : iv (jxu (jxu a 196 (y1.toNat) y2) 197 (y1.toNat) y3) := iv_put hv733_ (l := 0) (u := 50) rfl (by omega) (by omega)
  have hf735_ : jfr jW_X12_stamps a0 (jxu a 196 (y1.toNat) y2) := jfr_put hf rfl
  have hf736_ : jfr jW_X12_stamps a0 (jxu (jxu a 196 (y1.toNat) y2) 197 (y1.toNat) y3) := jfr_put hf735_ rfl
  have hg737_ : SV (jxu a 196 (y1.toNat) y2) := (SV_put196 hi10 (by omega))
  have h738_ := iv_get hv (k := 197) (j := y1.toNat) (l := 0) (u := 50) rfl
  have h739_ := iv_get hv733_ (k := 196) (j := y1.toNat) (l := (-1)) (u := 500) rfl
  have h740_ := jxu_sp a 196 (y1.toNat) y2 (y1.toNat)
  have h741_ := iv_get hv (k := 196) (j := y1.toNat) (l := (-1)) (u := 500) rfl
  have hg742_ : SV (jxu (jxu a 196 (y1.toNat) y2) 197 (y1.toNat) y3) := (SV_put197 hg737_ (by first | (left; show y3 ≤ a 197 (y1.toNat); omega) | (right; show 1 ≤ (jxu a 196 (y1.toNat) y2) 196 (y1.toNat); omega)))
  exact jt_rI ⟨hv734_, hf736_, rfl, (show (0 ≤ 1 ∧ 1 ≤ 1) from by omega), hg742_, (show (((((((1 = 1 ∧ 0 ≤ x1) ∧ x1 ≤ 7) ∧ 1 ≤ x2) ∧ x2 ≤ 500) ∧ 0 ≤ x3) ∧ x3 ≤ 50) ∨ (1 = 0 ∧ (((((x1 < 0 ∨ 7 < x1) ∨ x2 < 1) ∨ 500 < x2) ∨ x3 < 0) ∨ 50 < x3))) from by omega)⟩
theorem sp_X12_stamps (E : jxE) (d : Nat) (hd : Nat.ble 2 d = true) (x1 x2 x3 : Int) (a0 b0 : Nat → Nat → Int) (hv0 : iv a0) (hp0 : SV a0) : jt (jxC E d 285 [.inr (.inr (.inl 146)), .inl x1, .inl x2, .inl x3] (jxSH, a0, b0)) (jQ_X12_stamps x1 x2 x3 a0 b0) := by
  obtain ⟨d, rfl⟩ := jd_succ hd
  refine jt_eq (bq_X12_stamps E d x1 x2 x3 a0 b0) ?_
  refine jt_eI (eq_X12_in E d (jd_le hd rfl) x1 0 7 a0 b0) ?_
  have h743_ := f_X12_in_eq a0 b0 x1 0 7
  refine jt_ite (fun c744_ => ?_) (fun c744_ => ?_)
  ·
    exact cp_X12_stamps_31 E d hd x1 x2 x3 a0 b0 hv0 hp0 a0 hv0 (jfr_rf _ _) (show (((((x1 < 0 ∨ 7 < x1) ∨ x2 < 1) ∨ 500 < x2) ∨ x3 < 0) ∨ 50 < x3) from by omega) hp0
  ·
    refine jt_eI (eq_X12_in E d (jd_le hd rfl) x2 1 500 a0 b0) ?_
    have h745_ := f_X12_in_eq a0 b0 x2 1 500
    refine jt_ite (fun c746_ => ?_) (fun c746_ => ?_)
    ·
      exact cp_X12_stamps_31 E d hd x1 x2 x3 a0 b0 hv0 hp0 a0 hv0 (jfr_rf _ _) (show (((((x1 < 0 ∨ 7 < x1) ∨ x2 < 1) ∨ 500 < x2) ∨ x3 < 0) ∨ 50 < x3) from by omega) hp0
    ·
      refine jt_eI (eq_X12_in E d (jd_le hd rfl) x3 0 50 a0 b0) ?_
      have h747_ := f_X12_in_eq a0 b0 x3 0 50
      refine jt_ite (fun c748_ => ?_) (fun c748_ => ?_)
      ·
        exact cp_X12_stamps_31 E d hd x1 x2 x3 a0 b0 hv0 hp0 a0 hv0 (jfr_rf _ _) (show (((((x1 < 0 ∨ 7 < x1) ∨ x2 < 1) ∨ 500 < x2) ∨ x3 < 0) ∨ 50 < x3) from by omega) hp0
      ·
        exact cp_X12_stamps_33 E d hd x1 x2 x3 a0 b0 hv0 hp0 x1 x2 x3 a0 hv0 (jfr_rf _ _) (show 0 ≤ x1 from by omega) (show x1 ≤ 7 from by omega) (show 1 ≤ x2 from by omega) (show x2 ≤ 500 from by omega) (show 0 ≤ x3 from by omega) (show x3 ≤ 50 from by omega) (show x1 = x1 from by omega) (show x2 = x2 from by omega) (show x3 = x3 from by omega) (show (((((0 ≤ x1 ∧ x1 ≤ 7) ∧ 1 ≤ x2) ∧ x2 ≤ 500) ∧ 0 ≤ x3) ∧ x3 ≤ 50) from by omega) hp0
